/-! PURE LAYER: the fixed cells, by their distance from the first one: kind, length, references -/
def KT : Nat → Nat
  | 0 => 11
  | 1 => 3
  | 2 => 17
  | 3 => 10
  | 4 => 13
  | 5 => 8
  | 6 => 14
  | 7 => 14
  | 8 => 2
  | 9 => 15
  | 10 => 13
  | 11 => 5
  | 12 => 13
  | 13 => 13
  | 14 => 16
  | 15 => 7
  | 16 => 13
  | 17 => 13
  | 18 => 13
  | 19 => 13
  | 20 => 13
  | 21 => 18
  | 22 => 13
  | 23 => 13
  | 24 => 13
  | 25 => 13
  | 26 => 13
  | 27 => 13
  | 28 => 18
  | 29 => 13
  | 30 => 13
  | 31 => 13
  | 32 => 13
  | 33 => 13
  | 34 => 13
  | 35 => 9
  | 36 => 13
  | 37 => 13
  | 38 => 14
  | 39 => 9
  | 40 => 13
  | 41 => 13
  | 42 => 14
  | 43 => 12
  | 44 => 13
  | 45 => 13
  | 46 => 13
  | 47 => 13
  | 48 => 13
  | 49 => 13
  | 50 => 13
  | 51 => 13
  | 52 => 13
  | 53 => 13
  | 54 => 13
  | 55 => 13
  | 56 => 13
  | 57 => 13
  | 58 => 13
  | 59 => 13
  | 60 => 13
  | 61 => 13
  | 62 => 13
  | 63 => 13
  | 64 => 13
  | 65 => 13
  | 66 => 13
  | 67 => 13
  | 68 => 13
  | 69 => 14
  | 70 => 13
  | 71 => 13
  | 72 => 14
  | 73 => 14
  | 74 => 14
  | 75 => 13
  | 76 => 13
  | 77 => 13
  | 78 => 13
  | 79 => 13
  | 80 => 13
  | 81 => 13
  | _ => 0
def LT : Nat → Nat
  | 2 => 40
  | 4 => 40
  | 6 => 40
  | 7 => 40
  | 9 => 12
  | 10 => 12
  | 12 => 6
  | 13 => 6
  | 14 => 6
  | 16 => 8
  | 17 => 8
  | 18 => 256
  | 19 => 256
  | 20 => 256
  | 21 => 6
  | 22 => 256
  | 23 => 256
  | 24 => 256
  | 25 => 256
  | 26 => 256
  | 27 => 256
  | 28 => 6
  | 29 => 256
  | 30 => 256
  | 31 => 256
  | 32 => 256
  | 33 => 256
  | 34 => 256
  | 36 => 60
  | 37 => 60
  | 38 => 40
  | 40 => 60
  | 41 => 60
  | 42 => 40
  | 44 => 40
  | 45 => 40
  | 46 => 40
  | 47 => 40
  | 48 => 40
  | 49 => 40
  | 50 => 40
  | 51 => 40
  | 52 => 40
  | 53 => 40
  | 54 => 240
  | 55 => 240
  | 56 => 240
  | 57 => 240
  | 58 => 12
  | 59 => 12
  | 60 => 12
  | 61 => 12
  | 62 => 12
  | 63 => 12
  | 64 => 60
  | 65 => 60
  | 66 => 8
  | 67 => 8
  | 68 => 40
  | 69 => 40
  | 70 => 60
  | 71 => 60
  | 72 => 40
  | 73 => 40
  | 74 => 40
  | 75 => 6
  | 76 => 6
  | 77 => 24
  | 78 => 1792
  | 79 => 256
  | 80 => 256
  | 81 => 8
  | _ => 0
def RT : Nat → Nat → Option Nat
  | 0, 0 => some 1
  | 0, 1 => some 3
  | 0, 2 => some 5
  | 0, 3 => some 8
  | 0, 4 => some 11
  | 0, 5 => some 15
  | 0, 6 => some 35
  | 0, 7 => some 39
  | 1, 0 => some 2
  | 3, 0 => some 4
  | 5, 0 => some 6
  | 5, 1 => some 7
  | 8, 0 => some 9
  | 8, 1 => some 10
  | 11, 0 => some 12
  | 11, 1 => some 13
  | 11, 2 => some 14
  | 15, 0 => some 16
  | 15, 1 => some 17
  | 15, 5 => some 18
  | 15, 6 => some 19
  | 15, 7 => some 20
  | 15, 8 => some 21
  | 15, 9 => some 28
  | 21, 0 => some 22
  | 21, 1 => some 23
  | 21, 2 => some 24
  | 21, 3 => some 25
  | 21, 4 => some 26
  | 21, 5 => some 27
  | 28, 0 => some 29
  | 28, 1 => some 30
  | 28, 2 => some 31
  | 28, 3 => some 32
  | 28, 4 => some 33
  | 28, 5 => some 34
  | 35, 6 => some 36
  | 35, 7 => some 37
  | 35, 8 => some 38
  | 39, 6 => some 40
  | 39, 7 => some 41
  | 39, 8 => some 42
  | 43, 1 => some 44
  | 43, 2 => some 45
  | 43, 3 => some 46
  | 43, 4 => some 47
  | 43, 5 => some 48
  | 43, 6 => some 49
  | 43, 7 => some 50
  | 43, 8 => some 51
  | 43, 9 => some 52
  | 43, 10 => some 53
  | 43, 11 => some 54
  | 43, 12 => some 55
  | 43, 13 => some 56
  | 43, 14 => some 57
  | 43, 16 => some 58
  | 43, 17 => some 59
  | 43, 18 => some 60
  | 43, 19 => some 61
  | 43, 20 => some 62
  | 43, 21 => some 63
  | 43, 27 => some 64
  | 43, 28 => some 65
  | 43, 29 => some 66
  | 43, 30 => some 67
  | 43, 36 => some 68
  | 43, 42 => some 69
  | 43, 43 => some 70
  | 43, 44 => some 71
  | 43, 45 => some 72
  | 43, 46 => some 73
  | 43, 47 => some 74
  | 43, 48 => some 75
  | 43, 49 => some 76
  | 43, 50 => some 77
  | 43, 51 => some 78
  | 43, 52 => some 79
  | 43, 55 => some 80
  | 43, 56 => some 81
  | _, _ => none
def fxd (z : Nat) (h : Hp) : Prop := (∀ c, c < 82 → h.1 (z + c) = KT c) ∧ (∀ c, c < 82 → h.2.1 (z + c) = LT c) ∧ (∀ c k o, RT c k = some o → h.2.2.2.1 (z + c) k = some (z + o)) ∧ z + 82 ≤ h.2.2.2.2
theorem fxd_k {z : Nat} {h : Hp} (hF : fxd z h) (c : Nat) {k : Nat} (hc : c < 82) (hk : KT c = k) : h.1 (z + c) = k := by rw [hF.1 c hc, hk]
theorem fxd_l {z : Nat} {h : Hp} (hF : fxd z h) (c : Nat) {k : Nat} (hc : c < 82) (hk : LT c = k) : h.2.1 (z + c) = k := by rw [hF.2.1 c hc, hk]
theorem fxd_r {z : Nat} {h : Hp} (hF : fxd z h) (c k : Nat) {o : Nat} (hk : RT c k = some o) : h.2.2.2.1 (z + c) k = some (z + o) := hF.2.2.1 c k o hk
theorem fxd_si {z : Nat} {h : Hp} {a k : Nat} {v : Int32} (hF : fxd z h) : fxd z (hp_si h a k v) := hF
theorem si_1 {h : Hp} {a k : Nat} {v : Int32} : (hp_si h a k v).1 = h.1 := rfl
theorem si_2 {h : Hp} {a k : Nat} {v : Int32} : (hp_si h a k v).2.1 = h.2.1 := rfl
theorem si_3 {h : Hp} {a k : Nat} {v : Int32} : (hp_si h a k v).2.2.1 = u2 h.2.2.1 a k v := rfl
theorem si_4 {h : Hp} {a k : Nat} {v : Int32} : (hp_si h a k v).2.2.2.1 = h.2.2.2.1 := rfl
theorem si_5 {h : Hp} {a k : Nat} {v : Int32} : (hp_si h a k v).2.2.2.2 = h.2.2.2.2 := rfl
theorem sr_1 {h : Hp} {a k : Nat} {v : Option Nat} : (hp_sr h a k v).1 = h.1 := rfl
theorem sr_2 {h : Hp} {a k : Nat} {v : Option Nat} : (hp_sr h a k v).2.1 = h.2.1 := rfl
theorem sr_3 {h : Hp} {a k : Nat} {v : Option Nat} : (hp_sr h a k v).2.2.1 = h.2.2.1 := rfl
theorem sr_4 {h : Hp} {a k : Nat} {v : Option Nat} : (hp_sr h a k v).2.2.2.1 = u2 h.2.2.2.1 a k v := rfl
theorem sr_5 {h : Hp} {a k : Nat} {v : Option Nat} : (hp_sr h a k v).2.2.2.2 = h.2.2.2.2 := rfl
theorem u2_at {α : Type} {f : Nat → Nat → α} {a k b j : Nat} {v : α} : u2 f a k v b j = if b = a ∧ j = k then v else f b j := by
  unfold u2 va_up
  by_cases h1 : b = a
  · subst h1
    by_cases h2 : j = k <;> simp [h2]
  · simp [h1]
theorem bd_s {α β : Type} {a : α} {k : α → Option β} : bd (some a) k = k a := rfl
theorem b2_s {α β : Type} {a : α} {g : Hp} {k : α → Hp → Option β} : b2 (some (a, g)) k = k a g := rfl
theorem gk_s {α : Type} {n : Nat} {x : Option α} : gk n n x = x := if_pos rfl
theorem gk_e {α : Type} {n k : Nat} {x : Option α} (h : n = k) : gk n k x = x := if_pos h
theorem gd_t {α : Type} {x : Option α} : gd true x = x := rfl
theorem gd_e {α : Type} {b : Bool} {x : Option α} (h : b = true) : gd b x = x := by rw [h]; rfl
theorem nm_d {α β : Type} {v : α} {k : α → β} : nm v k = k v := rfl
theorem fx_s {F : Type} {b : F → F} {z : F} {n : Nat} : fx b z (n + 1) = b (fx b z n) := rfl
def bi (p : Prop) [Decidable p] : Int32 := if p then 1 else 0
theorem bi_t {p : Prop} [Decidable p] (h : p) : bi p = 1 := if_pos h
theorem bi_f {p : Prop} [Decidable p] (h : ¬ p) : bi p = 0 := if_neg h
theorem bi_zb {p : Prop} [Decidable p] : zb (bi p) = true := by
  unfold bi
  split <;> rfl
theorem bi_0 {p : Prop} [Decidable p] : (bi p = 0) = ¬ p := by
  unfold bi
  split
  · simp_all
  · simp_all
theorem bi_1 {p : Prop} [Decidable p] : (bi p = 1) = p := by
  unfold bi
  split
  · simp_all
  · simp_all
theorem i_nlt {a b : Int32} : (¬ a < b) = (b ≤ a) := by
  apply propext
  rw [Int32.lt_iff_toInt_lt, Int32.le_iff_toInt_le]
  omega
theorem l_in (v lo hi : Int32) (h : Hp) : fX11_in v lo hi h = some (bi (lo ≤ v ∧ v ≤ hi), h) := by
  unfold fX11_in bi
  by_cases h1 : v < lo
  · rw [if_pos h1, if_neg (fun q => by have := q.1; rw [← i_nlt] at this; exact this h1)]
  · rw [if_neg h1]
    by_cases h2 : hi < v
    · rw [if_pos h2, if_neg (fun q => by have := q.2; rw [← i_nlt] at this; exact this h2)]
    · rw [if_neg h2, if_pos ⟨by rw [← i_nlt]; exact h1, by rw [← i_nlt]; exact h2⟩]
theorem l_within (v lo hi : Int32) (h : Hp) : fX10_within v lo hi h = some (bi (lo ≤ v ∧ v ≤ hi), h) := l_in v lo hi h
theorem l_isNext (v : Int32) (h : Hp) : fX11_isNext v h = some (bi (-1 ≤ v ∧ v ≤ 39), h) := by
  simp only [fX11_isNext, l_in, b2_s, gd_e bi_zb]
theorem l_isNextX (v : Int32) (h : Hp) : fX10_isNext v h = some (bi (-1 ≤ v ∧ v ≤ 39), h) := by
  simp only [fX10_isNext, l_within, b2_s, gd_e bi_zb]
theorem l_isHour (v : Int32) (h : Hp) : fX10_isHour v h = some (bi (0 ≤ v ∧ v ≤ 23), h) := by
  simp only [fX10_isHour, l_within, b2_s, gd_e bi_zb]
theorem l_areWishes (v : Int32) (h : Hp) : fX11_areWishes v h = some (bi (0 ≤ v ∧ v ≤ 65535), h) := by
  simp only [fX11_areWishes, l_in, b2_s, gd_e bi_zb]
/-- what a caller must be -/
def isC (w n p q k : Int32) : Prop := (0 ≤ w ∧ w ≤ 15) ∧ (0 ≤ n ∧ n ≤ 99999999) ∧ (1 ≤ p ∧ p ≤ 5000) ∧ (0 ≤ q ∧ q ≤ 23) ∧ (0 ≤ k ∧ k ≤ 1)
theorem l_isCaller (w n p q k : Int32) (h : Hp) : fX11_isCaller w n p q k h = some ((if (0 ≤ w ∧ w ≤ 15) ∧ (0 ≤ n ∧ n ≤ 99999999) ∧ (1 ≤ p ∧ p ≤ 5000) ∧ (0 ≤ q ∧ q ≤ 23) ∧ (0 ≤ k ∧ k ≤ 1) then 1 else 0), h) := by
  simp only [fX11_isCaller, l_in, b2_s, bi_0]
  by_cases h1 : 0 ≤ w ∧ w ≤ 15 <;> by_cases h2 : 0 ≤ n ∧ n ≤ 99999999 <;> by_cases h3 : 1 ≤ p ∧ p ≤ 5000 <;> by_cases h4 : 0 ≤ q ∧ q ≤ 23 <;> by_cases h5 : 0 ≤ k ∧ k ≤ 1 <;> simp only [h1, h2, h3, h4, h5, not_true, not_false_eq_true, if_true, if_false, true_and, false_and, and_true, and_false, and_self, ite_true, ite_false, reduceIte]
theorem l_isCallerX (w n p q k : Int32) (h : Hp) : fX10_isCaller w n p q k h = some ((if (0 ≤ w ∧ w ≤ 15) ∧ (0 ≤ n ∧ n ≤ 99999999) ∧ (1 ≤ p ∧ p ≤ 5000) ∧ (0 ≤ q ∧ q ≤ 23) ∧ (0 ≤ k ∧ k ≤ 1) then 1 else 0), h) := by
  simp only [fX10_isCaller, l_within, l_isHour, b2_s, bi_0]
  by_cases h1 : 0 ≤ w ∧ w ≤ 15 <;> by_cases h2 : 0 ≤ n ∧ n ≤ 99999999 <;> by_cases h3 : 1 ≤ p ∧ p ≤ 5000 <;> by_cases h4 : 0 ≤ q ∧ q ≤ 23 <;> by_cases h5 : 0 ≤ k ∧ k ≤ 1 <;> simp only [h1, h2, h3, h4, h5, not_true, not_false_eq_true, if_true, if_false, true_and, false_and, and_true, and_false, and_self, ite_true, ite_false, reduceIte]
/-- the model's places: a number below n -/
theorem isP_iff {n : Nat} (hn : n ≤ 40) (v : Int32) : (0 ≤ v ∧ v ≤ nI n - 1) ↔ ∃ p, p < n ∧ v = nI p := by
  have h1 : (nI n - 1).toInt = n - 1 := by
    have h0 : (nI n).toInt = n := nI_toInt (by omega)
    have h2 : (1 : Int32).toInt = 1 := rfl
    rw [fb_subI (by rw [h0, h2]; omega) (by rw [h0, h2]; omega), h0, h2]
  constructor
  · intro ⟨a, b⟩
    rw [Int32.le_iff_toInt_le] at a b
    rw [h1] at b
    have h3 : (0 : Int32).toInt = 0 := rfl
    rw [h3] at a
    obtain ⟨j, hj, rfl⟩ := nI_of (x := v) (by rw [Int32.lt_iff_toInt_lt, h3]; omega)
    rw [nI_toInt hj] at b
    exact ⟨j, by omega, rfl⟩
  · rintro ⟨p, hp, rfl⟩
    refine ⟨nI_pos' (by omega), ?_⟩
    rw [Int32.le_iff_toInt_le, h1, nI_toInt (by omega)]
    omega
theorem ix_nI {p N : Nat} (h : p < N) (hN : N < 2 ^ 31) : ix (nI p) N = true := by
  have h1 := nI_clamp (n := p) (by omega)
  have h2 := nI_pos (n := p) (by omega)
  simp only [ix, h1, decide_eq_true_eq]
  intro q
  rcases q with q | q
  · exact h2 q
  · omega
abbrev vv (z : Nat) (h : Hp) (c k : Nat) : Int32 := h.2.2.1 (z + c) k
