/-! traps: what is reached, what leads to a desk; the class -/
def anyN (f : Nat → Bool) : Nat → Bool
  | 0 => false
  | k + 1 => anyN f k || f k
theorem anyN_iff {f : Nat → Bool} : ∀ {n : Nat}, anyN f n = true ↔ ∃ i, i < n ∧ f i = true := by
  intro n
  induction n with
  | zero => exact ⟨fun h => absurd h (by simp [anyN]), fun ⟨i, h, _⟩ => absurd h (Nat.not_lt_zero i)⟩
  | succ n ih =>
    show (anyN f n || f n) = true ↔ _
    rw [Bool.or_eq_true, ih]
    constructor
    · rintro (⟨i, h1, h2⟩ | h)
      · exact ⟨i, by omega, h2⟩
      · exact ⟨n, by omega, h⟩
    · rintro ⟨i, h1, h2⟩
      rcases (show i < n ∨ i = n by omega) with q | rfl
      · exact Or.inl ⟨i, q, h2⟩
      · exact Or.inr h2
def LC (n : Nat) (bs : Nat → Bool) (e : Nat → Nat → Bool) : Nat → Nat → Bool
  | 0, _ => false
  | k + 1, q => bs q || anyN (fun p => e p q && LC n bs e k p) n
theorem fb_sm_lt {f g : Nat → Nat} {q : Nat} : ∀ {n : Nat}, (∀ k, k < n → f k ≤ g k) → q < n → f q < g q → fb_sm f n < fb_sm g n := by
  intro n
  induction n with
  | zero => intro _ h; exact absurd h (Nat.not_lt_zero q)
  | succ n ih =>
    intro h hq hlt
    rw [fb_sm_succ, fb_sm_succ]
    have h1 := h n (by omega)
    rcases (show q < n ∨ q = n by omega) with r | rfl
    · have := ih (fun k hk => h k (by omega)) r hlt
      omega
    · have := fb_sm_le (n := q) (fun k hk => h k (by omega))
      omega
section
variable {n : Nat} {bs : Nat → Bool} {e : Nat → Nat → Bool}
theorem LC_iff {k q : Nat} : LC n bs e (k + 1) q = true ↔ bs q = true ∨ ∃ p, p < n ∧ e p q = true ∧ LC n bs e k p = true := by
  show (bs q || anyN (fun p => e p q && LC n bs e k p) n) = true ↔ _
  rw [Bool.or_eq_true, anyN_iff]
  simp only [Bool.and_eq_true]
theorem LC_up : ∀ {k q : Nat}, LC n bs e k q = true → LC n bs e (k + 1) q = true := by
  intro k
  induction k with
  | zero => intro q h; exact absurd h (by simp [LC])
  | succ k ih =>
    intro q h
    rw [LC_iff] at h ⊢
    rcases h with r | ⟨p, h1, h2, h3⟩
    · exact Or.inl r
    · exact Or.inr ⟨p, h1, h2, ih h3⟩
theorem LC_le {j k q : Nat} (h : j ≤ k) (hj : LC n bs e j q = true) : LC n bs e k q = true := by
  obtain ⟨d, rfl⟩ : ∃ d, k = j + d := ⟨k - j, by omega⟩
  clear h
  induction d with
  | zero => exact hj
  | succ d ih => exact LC_up ih
theorem LC_st {k : Nat} (h : ∀ q, q < n → LC n bs e (k + 1) q = true → LC n bs e k q = true) : ∀ d q, q < n → LC n bs e (k + d) q = true → LC n bs e k q = true := by
  intro d
  induction d with
  | zero => intro q _ hq; exact hq
  | succ d ih =>
    intro q hqn hq
    have hq' : LC n bs e (k + d + 1) q = true := hq
    rw [LC_iff] at hq'
    refine h q hqn (LC_iff.mpr ?_)
    rcases hq' with r | ⟨p, h1, h2, h3⟩
    · exact Or.inl r
    · exact Or.inr ⟨p, h1, h2, ih p h1 h3⟩
theorem LC_n {q : Nat} (hq : q < n) (h : LC n bs e (n + 1) q = true) : LC n bs e n q = true := by
  have key : ∀ k, (∃ j, j ≤ k ∧ ∀ q, q < n → LC n bs e (j + 1) q = true → LC n bs e j q = true) ∨ k + 1 ≤ fb_sm (fun q => if LC n bs e (k + 1) q = true then 1 else 0) n := by
    have stp : ∀ k, (∀ q, q < n → LC n bs e (k + 1) q = true → LC n bs e k q = true) ∨ fb_sm (fun q => if LC n bs e k q = true then 1 else 0) n < fb_sm (fun q => if LC n bs e (k + 1) q = true then 1 else 0) n := by
      intro k
      rcases Classical.em (∀ q, q < n → LC n bs e (k + 1) q = true → LC n bs e k q = true) with r | r
      · exact Or.inl r
      · right
        obtain ⟨q, hq⟩ := Classical.not_forall.mp r
        have h1 : q < n := Classical.byContradiction fun x => hq fun y => absurd y x
        have h2 : LC n bs e (k + 1) q = true := Classical.byContradiction fun x => hq fun _ y => absurd y x
        have h3 : ¬ LC n bs e k q = true := fun x => hq fun _ _ => x
        refine fb_sm_lt (q := q) (fun i _ => ?_) h1 ?_
        · by_cases q1 : LC n bs e i.succ q = true
          all_goals
            by_cases q2 : LC n bs e k i = true
            · rw [if_pos q2, if_pos (LC_up q2)]; exact Nat.le_refl _
            · rw [if_neg q2]; exact Nat.zero_le _
        · rw [if_neg h3, if_pos h2]; decide
    intro k
    induction k with
    | zero =>
      rcases stp 0 with r | r
      · exact Or.inl ⟨0, Nat.le_refl _, r⟩
      · exact Or.inr (by omega)
    | succ k ih =>
      rcases ih with ⟨j, h1, h2⟩ | r
      · exact Or.inl ⟨j, by omega, h2⟩
      · rcases stp (k + 1) with r2 | r2
        · exact Or.inl ⟨k + 1, Nat.le_refl _, r2⟩
        · exact Or.inr (by omega)
  rcases key n with ⟨j, h1, h2⟩ | r
  · have := LC_st h2 (n + 1 - j) q hq (by rw [show j + (n + 1 - j) = n + 1 by omega]; exact h)
    exact LC_le h1 this
  · have := fb_sm_bound (f := fun q => if LC n bs e (n + 1) q = true then 1 else 0) (c := 1) (n := n) (fun k _ => by split <;> decide)
    omega
theorem LC_base {q : Nat} (hq : q < n) (h : bs q = true) : LC n bs e n q = true := LC_n hq (LC_iff.mpr (Or.inl h))
theorem LC_step {p q : Nat} (hp : p < n) (hq : q < n) (he : e p q = true) (h : LC n bs e n p = true) : LC n bs e n q = true := LC_n hq (LC_iff.mpr (Or.inr ⟨p, hp, he, h⟩))
theorem LC_least {X : Nat → Prop} (h1 : ∀ q, q < n → bs q = true → X q) (h2 : ∀ p q, p < n → q < n → e p q = true → X p → X q) : ∀ k q, q < n → LC n bs e k q = true → X q := by
  intro k
  induction k with
  | zero => intro q _ h; exact absurd h (by simp [LC])
  | succ k ih =>
    intro q hq h
    rcases LC_iff.mp h with r | ⟨p, a, b, c⟩
    · exact h1 q hq r
    · exact h2 p q a hq b (ih p a c)
end
def exN (D : Nat → Nat → Int32) (p : Nat) : Nat := if D 44 p = 0 then toN (D 53 p) + 1 else if D 44 p = 1 then 0 else if D 44 p = 4 then 2 else 1
def exA (D : Nat → Nat → Int32) (u : Int32) (p i : Nat) : Int32 := if D 44 p = 3 then nxH D p u else if D 44 p = 4 ∧ i = 1 then D 48 p else if i < toN (D 53 p) then D 57 (6 * p + i) else D 47 p
def eB (D : Nat → Nat → Int32) (u : Int32) (p q : Nat) : Bool := anyN (fun i => decide (tg (exA D u p i) = q)) (exN D p)
def RD (D : Nat → Nat → Int32) (n : Nat) (u : Int32) : Nat → Nat → Bool := LC n (fun q => decide (q = 0)) (eB D u)
def WD (D : Nat → Nat → Int32) (n : Nat) (u : Int32) : Nat → Nat → Bool := LC n (fun q => decide (D 44 q = 1)) (fun q p => eB D u p q)
section
variable {z : Nat} {h : Hp} {D : Nat → Nat → Int32} {n ng : Nat} {pa ba : Nat → Nat} {la : Nat → Nat → Nat} {ca : Nat → Nat} {p : Nat} {u : Int32}
theorem exA_nxt (hR : RelB z h D n ng pa ba la ca) (hp : p < n) (i : Nat) : nxt (exA D u p i) := by
  have hP := pv_of hR hp
  obtain ⟨hs, h6⟩ := sz_toN hR hp
  unfold exA
  split
  · exact nxH_nxt hP u
  split
  · exact hP.2.2.2.2.2.1
  split
  · rename_i q; exact ln_nxt hP hs h6 q
  · exact hP.2.2.2.2.1
theorem sz0 (hR : RelB z h D n ng pa ba la ca) (hp : p < n) (h0 : D 44 p ≠ 0) : toN (D 53 p) = 0 := by
  rw [(pv_of hR hp).2.2.2.2.2.2.2.2.2.1 h0]; rfl
theorem x_exits (hR : RelB z h D n ng pa ba la ca) (hp : p < n) : fX5_exits (pa p) h = some (nI (exN D p), h) := by
  obtain ⟨p1, p2, p3, p5, p6, p7, p8, p9, p10, p11, p12, p13⟩ := x_pl hR hp
  obtain ⟨hs, h6⟩ := sz_toN hR hp
  have e6 : h.2.2.1 (pa p) 6 + 1 = nI (toN (D 53 p) + 1) := by rw [p10]; rw [← nI_1, ← hs]
  unfold exN
  rcases kd_of (pv_of hR hp) with r | r | r | r | r <;> simp only [fX5_exits, p1, gk_s, nm_d, p5, r]
  · simp only [if_true, e6]
  all_goals rfl
theorem x_exitAt (hR : RelB z h D n ng pa ba la ca) (hp : p < n) {i : Nat} (hi : i < exN D p) (u : Int32) : fX5_exitAt (pa p) (nI i) u h = some (exA D u p i, h) := by
  obtain ⟨p1, p2, p3, p5, p6, p7, p8, p9, p10, p11, p12, p13⟩ := x_pl hR hp
  obtain ⟨hs, h6⟩ := sz_toN hR hp
  have hi7 : i < 8 := by
    unfold exN at hi
    split at hi
    · omega
    split at hi
    · omega
    split at hi <;> omega
  have t32 : fX5_exitAt_32 (pa p) (nI i) h = some (if i < toN (D 53 p) then D 57 (6 * p + i) else D 47 p, h) := by
    by_cases q : i < toN (D 53 p)
    · obtain ⟨i1, i2, i3, -, -, -, i4⟩ := x_ln hR hp hs h6 q
      simp only [fX5_exitAt_32, if_neg (nI_pos (n := i) (by omega)), p1, gk_s, p10, if_neg (show ¬ D 53 p ≤ nI i by rw [hs]; exact nI_ge q (by omega)), p2, bd_s, p3, i1, gd_e (ix_nI (p := i) (N := 6) (by omega) (by decide)), nI_clamp (n := i) (by omega), i2, i3, i4, if_pos q]
    · simp only [fX5_exitAt_32, if_neg (nI_pos (n := i) (by omega)), p1, gk_s, p10, if_pos (show D 53 p ≤ nI i by rw [hs]; exact nI_le (by omega) (by omega)), p8, if_neg q]
  unfold exA
  by_cases c3 : D 44 p = 3
  · simp only [fX5_exitAt, p1, gk_s, p5, if_pos c3, x_nextAtHour hR hp c3, b2_s]
  · rw [if_neg c3]
    by_cases c4 : D 44 p = 4
    · by_cases c1 : i = 1
      · rw [if_pos ⟨c4, c1⟩]
        simp only [fX5_exitAt, p1, gk_s, p5, if_neg c3, if_pos c4, if_pos (show nI i = 1 by rw [c1]; rfl), p9]
      · rw [if_neg (fun x => c1 x.2)]
        have : ¬ nI i = 1 := fun x => c1 ((nI_eq (b := 1) (by omega) (by decide)).mp x)
        simp only [fX5_exitAt, p1, gk_s, p5, if_neg c3, if_pos c4, if_neg this, t32]
    · rw [if_neg (fun x => c4 x.1)]
      simp only [fX5_exitAt, p1, gk_s, p5, if_neg c3, if_neg c4, t32]
/-- the class's marks: reached, leading to a desk -/
def S67 : Nat → Nat → Bool := fun c _ => c == 6 || c == 7
theorem S67_ess : ∀ c k, S67 c k = true → ess c k = false := by
  intro c k hc
  simp only [S67, Bool.or_eq_true, beq_iff_eq] at hc
  obtain rfl | rfl := hc <;> rfl
abbrev Mk (z c : Nat) (h : Hp) (q : Nat) : Prop := ¬ h.2.2.1 (z + c) q = 0
def Snd (z a b : Nat) (h : Hp) (D : Nat → Nat → Int32) (n : Nat) (u : Int32) : Prop := (∀ q, q < n → Mk z a h q → RD D n u n q = true) ∧ (∀ q, q < n → Mk z b h q → WD D n u n q = true) ∧ (∀ q, n ≤ q → q < 40 → ¬ Mk z b h q)
def Mn (z a b : Nat) (h h' : Hp) : Prop := ∀ q, (Mk z a h q → Mk z a h' q) ∧ (Mk z b h q → Mk z b h' q)
theorem Mn.tr {a b : Nat} {h1 h2 h3 : Hp} (x : Mn z a b h1 h2) (y : Mn z a b h2 h3) : Mn z a b h1 h3 := fun q => ⟨fun r => (y q).1 ((x q).1 r), fun r => (y q).2 ((x q).2 r)⟩
theorem Mn.si {a b c k : Nat} {h : Hp} : Mn z a b h (hp_si h (z + c) k 1) := fun q => by
  refine ⟨fun r => ?_, fun r => ?_⟩ <;> (unfold Mk; rw [si_3, u2_at]; split; exact (by decide); exact r)
theorem eB_of {i q : Nat} (hi : i < exN D p) (h : tg (exA D u p i) = q) : eB D u p q = true := anyN_iff.mpr ⟨i, hi, decide_eq_true h⟩
theorem x_spread_l (hp : p < n) : ∀ (d i f : Nat) (h : Hp) (v4 v5 : Int32), i + d = exN D p → d < f → RelB z h D n ng pa ba la ca → (v4 = 0 ∨ v4 = 1) → (v5 = 0 ∨ v5 = 1) → Snd z 6 7 h D n u → (v5 = 1 → WD D n u n p = true) →
    ∃ c h', fx bX7_spread_21 (fun _ _ _ _ _ _ _ _ => none) f (z + 5) (pa p) (nI p) u v4 v5 (nI i) h = some (c, h') ∧ Fr z S67 h h' ∧ Snd z 6 7 h' D n u ∧ Mn z 6 7 h h' ∧ (∀ j, i ≤ j → j < exN D p → tg (exA D u p j) < n → Mk z 6 h p → Mk z 6 h' (tg (exA D u p j))) ∧ ((v5 = 1 ∨ ∃ j, i ≤ j ∧ j < exN D p ∧ tg (exA D u p j) < n ∧ Mk z 7 h (tg (exA D u p j))) → Mk z 7 h' p) ∧ (c = 0 → v4 = 0 ∧ h' = h) ∧ (c = 0 ∨ c = 1) := by
  intro d
  induction d with
  | zero =>
    intro i f h v4 v5 hi hf hR h4 h5 hS hW
    obtain ⟨f, rfl⟩ : ∃ k, f = k + 1 := ⟨f - 1, by omega⟩
    obtain rfl : i = exN D p := by omega
    have hF := hR.1
    have n40 := (rb_n hR).2.2
    obtain ⟨p1, -⟩ := x_pl hR hp
    have hle : nI (exN D p) ≤ nI (exN D p) := Int32.le_refl _
    have z4 : zb v4 = true := by rcases h4 with r | r <;> rw [r] <;> rfl
    have q0 : ix (nI p) 40 = true := ix_nI (by omega) (by decide)
    have q1 : (nI p).toNatClampNeg = p := nI_clamp (by omega)
    rcases h5 with r5 | r5
    · refine ⟨v4, h, ?_, Fr.rf, hS, fun _ => ⟨id, id⟩, fun j h1 h2 => by omega, fun q => ?_, fun q => ⟨q, rfl⟩, h4⟩
      · rw [fx_s]
        simp only [bX7_spread_21, p1, gk_s, x_exits hR hp, b2_s, if_pos hle, if_pos r5, gd_e z4]
      · rcases q with q | ⟨j, h1, h2, -⟩
        · rw [r5] at q; exact absurd q (by decide)
        · omega
    · have n5 : ¬ v5 = 0 := by rw [r5]; decide
      by_cases q : h.2.2.1 (z + 7) p = 0
      · have f1 : Fr z S67 h (hp_si h (z + 7) p 1) := Fr.si (by decide) rfl
        refine ⟨1, hp_si h (z + 7) p 1, ?_, f1, ?_, Mn.si, fun j h1 h2 => by omega, fun _ => ?_, fun q => absurd q (by decide), Or.inr rfl⟩
        · rw [fx_s]
          simp only [bX7_spread_21, p1, gk_s, x_exits hR hp, b2_s, if_pos hle, if_neg n5, fk_5 hF, fr_5_1 hF, bd_s, fk_7 hF, fl_7 hF, gd_e q0, q1, if_pos q, nm_d]
        · refine ⟨fun x hx hm => hS.1 x hx ?_, fun x hx hm => ?_, fun x hx h40 hm => ?_⟩
          · unfold Mk at hm ⊢; rw [si_3, u2_at, if_neg (by omega)] at hm; exact hm
          · by_cases e : x = p
            · rw [e]; exact hW r5
            · unfold Mk at hm; rw [si_3, u2_at, if_neg (fun r => e r.2)] at hm; exact hS.2.1 x hx hm
          · unfold Mk at hm; rw [si_3, u2_at, if_neg (by omega)] at hm; exact hS.2.2 x hx h40 hm
        · unfold Mk; rw [si_3, u2_at, if_pos ⟨rfl, rfl⟩]; decide
      · refine ⟨v4, h, ?_, Fr.rf, hS, fun _ => ⟨id, id⟩, fun j h1 h2 => by omega, fun _ => q, fun q => ⟨q, rfl⟩, h4⟩
        rw [fx_s]
        simp only [bX7_spread_21, p1, gk_s, x_exits hR hp, b2_s, if_pos hle, if_neg n5, fk_5 hF, fr_5_1 hF, bd_s, fk_7 hF, fl_7 hF, gd_e q0, q1, if_neg q, gd_e z4]
  | succ d ih =>
    intro i f h v4 v5 hi hf hR h4 h5 hS hW
    obtain ⟨f, rfl⟩ : ∃ k, f = k + 1 := ⟨f - 1, by omega⟩
    have hF := hR.1
    have n40 := (rb_n hR).2.2
    obtain ⟨p1, -⟩ := x_pl hR hp
    have h8 : exN D p ≤ 7 := by
      have := (sz_toN hR hp).2
      unfold exN
      split
      · omega
      split
      · omega
      split <;> omega
    have hlt : ¬ nI (exN D p) ≤ nI i := nI_ge (by omega) (by omega)
    obtain ⟨t1, t2, t3⟩ := tg_in (exA_nxt (u := u) hR hp i)
    have q0 : ix (nI p) 40 = true := ix_nI (by omega) (by decide)
    have q1 : (nI p).toNatClampNeg = p := nI_clamp (by omega)
    by_cases c40 : tg (exA D u p i) = 40
    · have ex := t3 c40
      obtain ⟨c, h', e1, f1, s1, m1, g1, g2, g3, g4⟩ := ih (i + 1) f h v4 v5 (by omega) (by omega) hR h4 h5 hS hW
      refine ⟨c, h', ?_, f1, s1, m1, fun j h1 h2 h3 h4 => ?_, fun q => g2 ?_, g3, g4⟩
      · rw [fx_s]
        simp only [bX7_spread_21, p1, gk_s, x_exits hR hp, b2_s, if_neg hlt, x_exitAt hR hp (show i < exN D p by omega), ex, if_pos (show (-1 : Int32) < 0 by decide), nm_d, nI_1]
        exact e1
      · by_cases r : j = i
        · rw [r, c40] at h3; omega
        · exact g1 j (by omega) h2 h3 h4
      · rcases q with q | ⟨j, h1, h2, h3, h4⟩
        · exact Or.inl q
        · by_cases r : j = i
          · rw [r, c40] at h3; omega
          · exact Or.inr ⟨j, by omega, h2, h3, h4⟩
    · obtain ⟨q, eq⟩ : ∃ q, q = tg (exA D u p i) := ⟨_, rfl⟩
      have q40 : q < 40 := by omega
      have ex := t2 (by omega)
      rw [← eq] at ex
      have y0 : ix (nI q) 40 = true := ix_nI (by omega) (by decide)
      have y1 : (nI q).toNatClampNeg = q := nI_clamp (by omega)
      have hedge : eB D u p q = true := eB_of (i := i) (by omega) eq.symm
      -- the new flag
      obtain ⟨s0, es0⟩ : ∃ s0 : Int32, s0 = if v5 = 1 ∨ Mk z 7 h q then 1 else 0 := ⟨_, rfl⟩
      have s01 : s0 = 0 ∨ s0 = 1 := by
        rw [es0]; by_cases r : v5 = 1 ∨ Mk z 7 h q
        · rw [if_pos r]; exact Or.inr rfl
        · rw [if_neg r]; exact Or.inl rfl
      have s0W : s0 = 1 → WD D n u n p = true := fun r => by
        by_cases r2 : v5 = 1 ∨ Mk z 7 h q
        · rcases r2 with r2 | r2
          · exact hW r2
          · have hqn : q < n := Classical.byContradiction fun x => hS.2.2 q (by omega) q40 r2
            exact LC_step (e := fun q p => eB D u p q) hqn hp hedge (hS.2.1 q hqn r2)
        · rw [es0, if_neg r2] at r; exact absurd r (by decide)
      have hstep : fx bX7_spread_21 (fun _ _ _ _ _ _ _ _ => none) (f + 1) (z + 5) (pa p) (nI p) u v4 v5 (nI i) h = fX7_spread_74 (fx bX7_spread_21 (fun _ _ _ _ _ _ _ _ => none) f) (z + 5) (pa p) (nI p) u v4 (nI i) (nI q) s0 h := by
        rw [fx_s]
        simp only [bX7_spread_21, p1, gk_s, x_exits hR hp, b2_s, if_neg hlt, x_exitAt hR hp (show i < exN D p by omega), ex, if_neg (nI_pos (n := q) (by omega)), if_pos (show nI q < 40 from nI_lt (b := 40) q40 (by decide)), fk_5 hF, fr_5_1 hF, bd_s, fk_7 hF, fl_7 hF, gd_e y0, y1]
        rcases h5 with r5 | r5
        · rw [if_pos r5]
          by_cases r6 : h.2.2.1 (z + 7) q = 0
          · rw [if_pos r6, es0, if_neg (fun x => Or.elim x (fun y => absurd (r5.symm.trans y) (by decide)) (fun y => y r6))]
          · rw [if_neg r6, es0, if_pos (Or.inr r6)]
        · rw [if_neg (by rw [r5]; decide), es0, if_pos (Or.inl r5)]
      have carry : ∀ {h1 : Hp}, Mn z 6 7 h h1 → (v5 = 1 ∨ ∃ j, i ≤ j ∧ j < exN D p ∧ tg (exA D u p j) < n ∧ Mk z 7 h (tg (exA D u p j))) → s0 = 1 ∨ ∃ j, i + 1 ≤ j ∧ j < exN D p ∧ tg (exA D u p j) < n ∧ Mk z 7 h1 (tg (exA D u p j)) := by
        intro h1 hm hq
        rcases hq with r | ⟨j, a1, a2, a3, a4⟩
        · exact Or.inl (by rw [es0, if_pos (Or.inl r)])
        · by_cases r : j = i
          · rw [r, ← eq] at a4
            exact Or.inl (by rw [es0, if_pos (Or.inr a4)])
          · exact Or.inr ⟨j, by omega, a2, a3, (hm _).2 a4⟩
      by_cases rp : h.2.2.1 (z + 6) p = 0
      · obtain ⟨c, h', e1, f1, s1, m1, g1, g2, g3, g4⟩ := ih (i + 1) f h v4 s0 (by omega) (by omega) hR h4 s01 hS s0W
        refine ⟨c, h', ?_, f1, s1, m1, fun j h1 h2 h3 h4 => absurd rp h4, fun x => g2 (carry (fun _ => ⟨id, id⟩) x), g3, g4⟩
        rw [hstep]
        simp only [fX7_spread_74, fk_5 hF, gk_s, fr_5_0 hF, bd_s, fk_6 hF, fl_6 hF, gd_e q0, q1, if_pos rp, nm_d, nI_1]
        exact e1
      · by_cases rq : h.2.2.1 (z + 6) q = 0
        · have f0 : Fr z S67 h (hp_si h (z + 6) q 1) := Fr.si (by decide) rfl
          have hS1 : Snd z 6 7 (hp_si h (z + 6) q 1) D n u := by
            refine ⟨fun x hx hm => ?_, fun x hx hm => ?_, fun x hx h40 hm => ?_⟩
            · by_cases e : x = q
              · rw [e] at hx ⊢
                exact LC_step hp hx hedge (hS.1 p hp rp)
              · unfold Mk at hm; rw [si_3, u2_at, if_neg (fun r => e r.2)] at hm; exact hS.1 x hx hm
            · unfold Mk at hm; rw [si_3, u2_at, if_neg (by omega)] at hm; exact hS.2.1 x hx hm
            · unfold Mk at hm; rw [si_3, u2_at, if_neg (by omega)] at hm; exact hS.2.2 x hx h40 hm
          obtain ⟨c, h', e1, f1, s1, m1, g1, g2, g3, g4⟩ := ih (i + 1) f (hp_si h (z + 6) q 1) 1 s0 (by omega) (by omega) (f0.relB S67_ess hR) (Or.inr rfl) s01 hS1 s0W
          have mm : Mn z 6 7 h (hp_si h (z + 6) q 1) := Mn.si
          refine ⟨c, h', ?_, f0.tr f1, s1, mm.tr m1, fun j h1 h2 h3 h4 => ?_, fun x => g2 (carry mm x), fun r => absurd (g3 r).1 (by decide), g4⟩
          · rw [hstep]
            simp only [fX7_spread_74, fk_5 hF, gk_s, fr_5_0 hF, bd_s, fk_6 hF, fl_6 hF, gd_e q0, q1, if_neg rp, gd_e y0, y1, if_pos rq, nm_d, nI_1]
            exact e1
          · by_cases r : j = i
            · rw [r, ← eq]
              refine (m1 q).1 ?_
              unfold Mk; rw [si_3, u2_at, if_pos ⟨rfl, rfl⟩]; decide
            · exact g1 j (by omega) h2 h3 ((mm p).1 h4)
        · obtain ⟨c, h', e1, f1, s1, m1, g1, g2, g3, g4⟩ := ih (i + 1) f h v4 s0 (by omega) (by omega) hR h4 s01 hS s0W
          refine ⟨c, h', ?_, f1, s1, m1, fun j h1 h2 h3 h4 => ?_, fun x => g2 (carry (fun _ => ⟨id, id⟩) x), g3, g4⟩
          · rw [hstep]
            simp only [fX7_spread_74, fk_5 hF, gk_s, fr_5_0 hF, bd_s, fk_6 hF, fl_6 hF, gd_e q0, q1, if_neg rp, gd_e y0, y1, if_neg rq, nm_d, nI_1]
            exact e1
          · by_cases r : j = i
            · rw [r, ← eq]; exact (m1 q).1 rq
            · exact g1 j (by omega) h2 h3 h4
end
