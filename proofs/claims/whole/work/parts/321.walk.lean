/-! a call, as mathematics -/
def jD (D : Nat → Nat → Int32) (w : Int32) (kn : Bool) (T : Nat → Nat) (p : Nat) : Nat := fa_first (fun i => if kn = true then decide (1 + T (tg (D 57 (6 * p + i))) = T p) else decide (bitD (D 56 (6 * p + i)) w)) (toN (D 53 p))
def dtD (D : Nat → Nat → Int32) (w v : Int32) (kn : Bool) (T : Nat → Nat) (p : Nat) : Nat :=
  if D 44 p = 0 then (if jD D w kn T p < toN (D 53 p) then (if kn = true then 0 else toN (tlD D p (jD D w kn T p + 1))) else toN (hrD D p (toN (D 53 p)))) else if D 44 p = 3 then 0 else if D 44 p = 4 then toN (trD D p v (if kn = true then 1 else 0)) else toN (D 45 p)
def hkD (D : Nat → Nat → Int32) (w : Int32) (kn : Bool) (T : Nat → Nat) (p : Nat) : Bool := decide (D 44 p = 0 ∧ jD D w kn T p < toN (D 53 p))
def nxD (D : Nat → Nat → Int32) (w v u : Int32) (kn : Bool) (T : Nat → Nat) (p : Nat) : Int32 :=
  if D 44 p = 0 then (if jD D w kn T p < toN (D 53 p) then D 57 (6 * p + jD D w kn T p) else D 47 p) else if D 44 p = 3 then nxH D p u else if D 44 p = 4 then nxN D p v else D 47 p
def svD (D : Nat → Nat → Int32) (w : Int32) (p : Nat) : Bool := decide ((D 44 p = 1 ∨ D 44 p = 2) ∧ bitD (D 49 p) w)
def clD (D : Nat → Nat → Int32) (p cl : Nat) : Nat := if D 44 p = 3 then cl + 1 else 0
/-- ticks, keys, pressed keys after a place -/
def t2D (D : Nat → Nat → Int32) (w v : Int32) (kn : Bool) (T : Nat → Nat) (P p t : Nat) : Nat := if hkD D w kn T p = true ∧ t + dtD D w v kn T p ≤ P then t + dtD D w v kn T p + 1 else t + dtD D w v kn T p
def k2D (D : Nat → Nat → Int32) (w v : Int32) (kn : Bool) (T : Nat → Nat) (P p t k : Nat) : Nat := if hkD D w kn T p = true ∧ t + dtD D w v kn T p ≤ P then k + 1 else k
def ksD (D : Nat → Nat → Int32) (w v : Int32) (kn : Bool) (T : Nat → Nat) (P p t k : Nat) (ks : Nat → Int32) : Nat → Int32 := if hkD D w kn T p = true ∧ t + dtD D w v kn T p ≤ P then va_up ks k (D 55 (6 * p + jD D w kn T p)) else ks
abbrev WR : Type := Int32 × Nat × Nat × Nat × Nat × (Nat → Int32) × (Nat → Int32) × (Nat → Int32)
def wk (D : Nat → Nat → Int32) (n : Nat) (w v u : Int32) (kn : Bool) (T : Nat → Nat) (P : Nat) : Nat → Nat → Nat → Nat → Nat → Nat → (Nat → Int32) → (Nat → Int32) → (Nat → Int32) → Option WR
  | 0, _, _, _, _, _, _, _, _ => none
  | f + 1, p, t, c, k, cl, se, cm, ks =>
    if 40 < clD D p cl then some (3, t, p, c + 1, k, va_up se p 1, va_up cm c (nI p), ks)
    else if P < t2D D w v kn T P p t then some (2, P, p, c + 1, k2D D w v kn T P p t k, va_up se p 1, va_up cm c (nI p), ksD D w v kn T P p t k ks)
    else if svD D w p = true then some (0, t2D D w v kn T P p t, p, c + 1, k2D D w v kn T P p t k, va_up se p 1, va_up cm c (nI p), ksD D w v kn T P p t k ks)
    else if tg (nxD D w v u kn T p) < n then wk D n w v u kn T P f (tg (nxD D w v u kn T p)) (t2D D w v kn T P p t) (c + 1) (k2D D w v kn T P p t k) (clD D p cl) (va_up se p 1) (va_up cm c (nI p)) (ksD D w v kn T P p t k ks)
    else some (1, t2D D w v kn T P p t, p, c + 1, k2D D w v kn T P p t k, va_up se p 1, va_up cm c (nI p), ksD D w v kn T P p t k ks)
section
variable {z : Nat} {h : Hp} {D : Nat → Nat → Int32} {n ng : Nat} {pa ba : Nat → Nat} {la : Nat → Nat → Nat} {ca : Nat → Nat} {p s : Nat} {w v u : Int32} {kn : Bool} {T : Nat → Nat} {P : Nat}
theorem nxD_nxt (hR : RelB z h D n ng pa ba la ca) (hp : p < n) : nxt (nxD D w v u kn T p) := by
  have hP := pv_of hR hp
  obtain ⟨hs, h6⟩ := sz_toN hR hp
  unfold nxD
  split
  · split
    · rename_i q
      exact ln_nxt hP hs h6 q
    · exact hP.2.2.2.2.1
  split
  · exact nxH_nxt hP u
  split
  · exact nxN_nxt hP v
  · exact hP.2.2.2.2.1
theorem dt_le (hR : RelB z h D n ng pa ba la ca) (hp : p < n) : dtD D w v kn T p ≤ 4200 := by
  have hP := pv_of hR hp
  obtain ⟨hs, h6⟩ := sz_toN hR hp
  obtain ⟨e45, a1, a2⟩ := nI_toN hP.2.1 (by decide)
  unfold dtD
  split
  · rename_i h0
    split
    · split
      · omega
      · rename_i q _
        obtain ⟨k, k1, k2, k3⟩ := tl_rg hP hs h6 (jD D w kn T p + 1) (by omega)
        rw [k3, toN_nI (by omega)]
        omega
    · obtain ⟨t, k, b, -, -, -, -, -, -, -, -, e, g1, g2⟩ := hr_rg hP h0 hs h6
      rw [e, toN_nI (by omega)]
      omega
  split
  · omega
  split
  · rename_i h4
    obtain ⟨j, j1, j2, j3⟩ := tr_rg hP h4 v (if kn = true then 1 else 0)
    rw [j3, toN_nI (by omega)]
    omega
  · omega
/-- a place that isn't a clock, and from which the call goes on, takes a tick -/
theorem dt_pos (hR : RelB z h D n ng pa ba la ca) (hp : p < n) (h3 : D 44 p ≠ 3) (hx : tg (nxD D w v u kn T p) < n) {t : Nat} (ht : t2D D w v kn T P p t ≤ P) : t < t2D D w v kn T P p t := by
  have hP := pv_of hR hp
  obtain ⟨hs, h6⟩ := sz_toN hR hp
  have n40 := (rb_n hR).2.2
  unfold t2D at ht ⊢
  by_cases c : hkD D w kn T p = true ∧ t + dtD D w v kn T p ≤ P
  · rw [if_pos c]; omega
  · rw [if_neg c] at ht ⊢
    have hk : ¬ hkD D w kn T p = true := fun q => c ⟨q, ht⟩
    have : 1 ≤ dtD D w v kn T p := by
      unfold dtD
      rcases kd_of hP with r | r | r | r | r
      · rw [if_pos r]
        have hj : ¬ jD D w kn T p < toN (D 53 p) := fun q => hk (by unfold hkD; simp [r, q])
        rw [if_neg hj]
        obtain ⟨t, k, b, -, -, -, -, -, -, -, -, e, g1, g2⟩ := hr_rg hP r hs h6
        rw [e, toN_nI (by omega)]
        omega
      · exfalso
        unfold nxD at hx
        rw [r, if_neg (by decide), if_neg (by decide), if_neg (by decide), hP.2.2.2.2.2.2.2.2.2.2.1 r] at hx
        have : tg (-1) = 40 := rfl
        omega
      · rw [r, if_neg (by decide), if_neg (by decide), if_neg (by decide)]
        obtain ⟨b, b1, b2, b3⟩ := hP.2.2.1 (by rw [r]; decide) (by rw [r]; decide)
        rw [b3, toN_nI (by omega)]
        omega
      · exact absurd r h3
      · rw [r, if_neg (by decide), if_neg (by decide), if_pos rfl]
        obtain ⟨j, j1, j2, j3⟩ := tr_rg hP r v (if kn = true then 1 else 0)
        rw [j3, toN_nI (by omega)]
        omega
    omega
theorem t2_cl {t : Nat} (h3 : D 44 p = 3) : t2D D w v kn T P p t = t := by
  have hk : hkD D w kn T p = false := by unfold hkD; rw [h3]; rfl
  have hd : dtD D w v kn T p = 0 := by unfold dtD; rw [h3, if_neg (by decide), if_pos rfl]
  unfold t2D
  rw [hk, hd]
  simp
/-- every call ends -/
theorem wk_end (hR : RelB z h D n ng pa ba la ca) (hP5 : P ≤ 5000) : ∀ (f p t c k cl : Nat) (se cm ks : Nat → Int32), p < n → t ≤ P → cl ≤ 40 → (P + 1 - t) * 42 < f + cl → ∃ r, wk D n w v u kn T P f p t c k cl se cm ks = some r := by
  intro f
  induction f with
  | zero =>
    intro p t c k cl se cm ks hp ht hcl hm
    exfalso
    have : 1 * 42 ≤ (P + 1 - t) * 42 := Nat.mul_le_mul_right 42 (by omega)
    omega
  | succ f ih =>
    intro p t c k cl se cm ks hp ht hcl hm
    unfold wk
    split
    · exact ⟨_, rfl⟩
    split
    · exact ⟨_, rfl⟩
    split
    · exact ⟨_, rfl⟩
    split
    · rename_i c1 c2 c3 c4
      refine ih _ _ _ _ _ _ _ _ c4 (by omega) (by omega) ?_
      by_cases h3 : D 44 p = 3
      · rw [t2_cl h3]
        have : clD D p cl = cl + 1 := by unfold clD; rw [if_pos h3]
        omega
      · have h1 := dt_pos hR hp h3 c4 (by omega : t2D D w v kn T P p t ≤ P)
        have h2 : (P + 1 - t2D D w v kn T P p t + 1) * 42 ≤ (P + 1 - t) * 42 := Nat.mul_le_mul_right 42 (by omega)
        omega
    · exact ⟨_, rfl⟩
end
/-- a call as the class holds it -/
def CS (z b : Nat) (h : Hp) (e : Int32) (t : Nat) (l : Int32) (c k cl : Nat) (se cm ks : Nat → Int32) : Prop :=
  h.2.2.1 (z + b) 0 = 1 ∧ h.2.2.1 (z + b) 1 = e ∧ h.2.2.1 (z + b) 2 = nI t ∧ h.2.2.1 (z + b) 3 = l ∧ h.2.2.1 (z + b) 4 = nI c ∧ h.2.2.1 (z + b) 5 = nI k ∧ h.2.2.1 (z + b) 9 = nI cl
  ∧ (∀ q, q < 40 → h.2.2.1 (z + (b + 3)) q = se q) ∧ (∀ q, q < 60 → q < c → h.2.2.1 (z + (b + 1)) q = cm q) ∧ (∀ q, q < 60 → q < k → h.2.2.1 (z + (b + 2)) q = ks q)
def Sw (b : Nat) : Nat → Nat → Bool := fun c _ => c == b || c == b + 1 || c == b + 2 || c == b + 3
section
variable {z b : Nat} {h : Hp} {D : Nat → Nat → Int32} {n ng : Nat} {pa ba : Nat → Nat} {la : Nat → Nat → Nat} {ca : Nat → Nat} {p s : Nat} {w v u : Int32} {kn : Bool} {T : Nat → Nat} {P : Nat}
theorem Sw_ess (hb : b = 35 ∨ b = 39) : ∀ c k, Sw b c k = true → ess c k = false := by
  intro c k hc
  simp only [Sw, Bool.or_eq_true, beq_iff_eq] at hc
  rcases hb with rfl | rfl <;> obtain ((rfl | rfl) | rfl) | rfl := hc <;> rfl
theorem wb_f (hF : fxd z h) (hb : b = 35 ∨ b = 39) : h.1 (z + b) = 9 ∧ h.2.2.2.1 (z + b) 6 = some (z + (b + 1)) ∧ h.2.2.2.1 (z + b) 7 = some (z + (b + 2)) ∧ h.2.2.2.1 (z + b) 8 = some (z + (b + 3)) ∧ h.1 (z + (b + 1)) = 13 ∧ h.1 (z + (b + 2)) = 13 ∧ h.1 (z + (b + 3)) = 14 ∧ h.2.1 (z + (b + 1)) = 60 ∧ h.2.1 (z + (b + 2)) = 60 ∧ h.2.1 (z + (b + 3)) = 40 := by
  rcases hb with rfl | rfl
  · exact ⟨fk_35 hF, fr_35_6 hF, fr_35_7 hF, fr_35_8 hF, fk_36 hF, fk_37 hF, fk_38 hF, fl_36 hF, fl_37 hF, fl_38 hF⟩
  · exact ⟨fk_39 hF, fr_39_6 hF, fr_39_7 hF, fr_39_8 hF, fk_40 hF, fk_41 hF, fk_42 hF, fl_40 hF, fl_41 hF, fl_42 hF⟩
theorem Fr.sw {k : Nat} {x : Int32} {d : Nat} (hb : b = 35 ∨ b = 39) (hd : d ≤ 3) : Fr z (Sw b) h (hp_si h (z + (b + d)) k x) := by
  refine Fr.si (by omega) ?_
  simp only [Sw, Bool.or_eq_true, beq_iff_eq]
  omega
theorem x_come {e l : Int32} {t c k cl : Nat} {se cm ks : Nat → Int32} (hF : fxd z h) (hb : b = 35 ∨ b = 39) (hp : p < 40) (hc : c < 1000000) (hcl : cl ≤ 40) (kd : Int32) (hS : CS z b h (-1) t l c k cl se cm ks) :
    ∃ h', fX8_come (z + b) (nI p) kd h = some ((), h') ∧ Fr z (Sw b) h h' ∧ CS z b h' (if 40 < (if kd = 3 then cl + 1 else 0) then 3 else -1) t (nI p) (c + 1) k (if kd = 3 then cl + 1 else 0) (va_up se p 1) (va_up cm c (nI p)) ks := by
  obtain ⟨s0, s1, s2, s3, s4, s5, s9, sse, scm, sks⟩ := hS
  obtain ⟨w1, w2, w3, w4, w5, w6, w7, w8, w9, w10⟩ := wb_f hF hb
  have n40 : ¬ (40 : Int32) ≤ nI p := nI_ge (b := 40) hp (by decide)
  obtain ⟨h2, eh2⟩ : ∃ h2, h2 = (if c < 60 then hp_si (hp_si (hp_si h (z + b) 3 (nI p)) (z + (b + 3)) p 1) (z + (b + 1)) c (nI p) else hp_si (hp_si h (z + b) 3 (nI p)) (z + (b + 3)) p 1) := ⟨_, rfl⟩
  have f2 : Fr z (Sw b) h h2 := by
    have a1 : Fr z (Sw b) h (hp_si h (z + b) 3 (nI p)) := Fr.sw (d := 0) hb (by decide)
    have a2 : Fr z (Sw b) _ (hp_si (hp_si h (z + b) 3 (nI p)) (z + (b + 3)) p 1) := Fr.sw (d := 3) hb (by decide)
    rw [eh2]
    split
    · exact (a1.tr a2).tr (Fr.sw (d := 1) hb (by decide))
    · exact a1.tr a2
  have v4' : h2.2.2.1 (z + b) 4 = nI c := by
    rw [eh2]
    split <;> (simp only [si_3, u2_at]; repeat rw [if_neg (by omega)]) <;> exact s4
  have v9' : h2.2.2.1 (z + b) 9 = nI cl := by
    rw [eh2]
    split <;> (simp only [si_3, u2_at]; repeat rw [if_neg (by omega)]) <;> exact s9
  have e1 : fX8_come (z + b) (nI p) kd h = fX8_come_41 (z + b) kd h2 := by
    rw [eh2]
    simp only [fX8_come, w1, gk_s, nm_d, if_neg (nI_pos (n := p) (by omega)), if_neg n40, si_4, si_1, si_2, w4, bd_s, w7, w10, gd_e (ix_nI (p := p) (N := 40) hp (by decide)), nI_clamp (n := p) (by omega)]
    have r4 : (hp_si (hp_si h (z + b) 3 (nI p)) (z + (b + 3)) p 1).2.2.1 (z + b) 4 = nI c := by
      simp only [si_3, u2_at]; repeat rw [if_neg (by omega)]
      exact s4
    rw [r4]
    by_cases q : c < 60
    · have q6 : ¬ (60 : Int32) ≤ nI c := nI_ge (b := 60) q (by decide)
      rw [if_neg q6, if_pos q]
      simp only [w2, bd_s, w5, gk_s, w8, gd_e (ix_nI (p := c) (N := 60) q (by decide)), nI_clamp (n := c) (by omega)]
    · have q6 : (60 : Int32) ≤ nI c := nI_le (a := 60) (by omega) (by omega)
      rw [if_pos q6, if_neg q]
  have w1' : h2.1 (z + b) = 9 := by rw [f2.1]; exact w1
  obtain ⟨N, eN⟩ : ∃ N, N = (if kd = 3 then cl + 1 else 0) := ⟨_, rfl⟩
  rw [← eN]
  have hN : N ≤ 41 := by rw [eN]; split <;> omega
  obtain ⟨h3, eh3⟩ : ∃ h3, h3 = hp_si (hp_si h2 (z + b) 4 (nI (c + 1))) (z + b) 9 (nI N) := ⟨_, rfl⟩
  obtain ⟨h4, eh4⟩ : ∃ h4, h4 = (if 40 < N then hp_si h3 (z + b) 1 3 else h3) := ⟨_, rfl⟩
  have f3 : Fr z (Sw b) h2 h3 := by
    rw [eh3]
    exact (Fr.sw (d := 0) hb (by decide)).tr (Fr.sw (d := 0) hb (by decide))
  have f4 : Fr z (Sw b) h3 h4 := by
    rw [eh4]
    split
    · exact Fr.sw (d := 0) hb (by decide)
    · exact Fr.rf
  have v9'' : h3.2.2.1 (z + b) 9 = nI N := by rw [eh3, si_3, u2_at, if_pos ⟨rfl, rfl⟩]
  have e2 : fX8_come_41 (z + b) kd h2 = some ((), h4) := by
    have v9n : (hp_si h2 (z + b) 4 (nI (c + 1))).2.2.1 (z + b) 9 = nI cl := by rw [si_3, u2_at, if_neg (by omega)]; exact v9'
    simp only [fX8_come_41, w1', gk_s, nm_d, v4', nI_1, v9n]
    by_cases k3 : kd = 3
    · rw [if_pos k3]
      rw [if_pos k3] at eN
      rw [← eN, ← eh3, v9'', eh4]
      by_cases q : 40 < N
      · have : ¬ nI N < 41 := nI_nlt (b := 41) (by omega) (by omega)
        rw [if_neg this, if_pos q]
      · have : nI N < 41 := nI_lt (b := 41) (by omega) (by decide)
        rw [if_pos this, if_neg q]
    · rw [if_neg k3]
      rw [if_neg k3] at eN
      have e0 : (0 : Int32) = nI N := by rw [eN]; rfl
      rw [e0, ← eh3, v9'', eh4]
      have : nI N < 41 := nI_lt (b := 41) (by omega) (by decide)
      rw [if_pos this, if_neg (by omega)]
  refine ⟨h4, e1.trans e2, (f2.tr f3).tr f4, ?_⟩
  have rd3 : ∀ a j, h3.2.2.1 a j = if a = z + b ∧ j = 9 then nI N else if a = z + b ∧ j = 4 then nI (c + 1) else h2.2.2.1 a j := fun a j => by rw [eh3, si_3, u2_at, si_3, u2_at]
  have rd4 : ∀ a j, h4.2.2.1 a j = if a = z + b ∧ j = 1 ∧ 40 < N then 3 else h3.2.2.1 a j := fun a j => by
    rw [eh4]
    by_cases q : 40 < N
    · rw [if_pos q, si_3, u2_at]
      by_cases r : a = z + b ∧ j = 1
      · rw [if_pos r, if_pos ⟨r.1, r.2, q⟩]
      · rw [if_neg r, if_neg (fun r2 => r ⟨r2.1, r2.2.1⟩)]
    · rw [if_neg q, if_neg (fun r2 => q r2.2.2)]
  have rd2 : ∀ a j, h2.2.2.1 a j = if a = z + (b + 1) ∧ j = c ∧ c < 60 then nI p else if a = z + (b + 3) ∧ j = p then 1 else if a = z + b ∧ j = 3 then nI p else h.2.2.1 a j := fun a j => by
    rw [eh2]
    by_cases q : c < 60
    · rw [if_pos q, si_3, u2_at, si_3, u2_at, si_3, u2_at]
      by_cases r : a = z + (b + 1) ∧ j = c
      · rw [if_pos r, if_pos ⟨r.1, r.2, q⟩]
      · rw [if_neg r, if_neg (show ¬ (a = z + (b + 1) ∧ j = c ∧ c < 60) from fun r2 => r ⟨r2.1, r2.2.1⟩)]
    · rw [if_neg q, if_neg (fun r2 => q r2.2.2), si_3, u2_at, si_3, u2_at]
  have rd : ∀ a j, h4.2.2.1 a j = if a = z + b ∧ j = 1 ∧ 40 < N then 3 else if a = z + b ∧ j = 9 then nI N else if a = z + b ∧ j = 4 then nI (c + 1) else if a = z + (b + 1) ∧ j = c ∧ c < 60 then nI p else if a = z + (b + 3) ∧ j = p then 1 else if a = z + b ∧ j = 3 then nI p else h.2.2.1 a j := fun a j => by rw [rd4, rd3, rd2]
  refine ⟨?_, ?_, ?_, ?_, ?_, ?_, ?_, fun q hq => ?_, fun q hq hq2 => ?_, fun q hq hq2 => ?_⟩
  · rw [rd]; repeat rw [if_neg (by omega)]
    exact s0
  · rw [rd]
    by_cases q : 40 < N
    · rw [if_pos ⟨rfl, rfl, q⟩, if_pos q]
    · rw [if_neg (fun r => q r.2.2)]; repeat rw [if_neg (by omega)]
      exact s1
  · rw [rd]; repeat rw [if_neg (by omega)]
    exact s2
  · rw [rd, if_neg (by omega), if_neg (by omega), if_neg (by omega), if_neg (by omega), if_neg (by omega), if_pos ⟨rfl, rfl⟩]
  · rw [rd, if_neg (by omega), if_neg (by omega), if_pos ⟨rfl, rfl⟩]
  · rw [rd]; repeat rw [if_neg (by omega)]
    exact s5
  · rw [rd, if_neg (by omega), if_pos ⟨rfl, rfl⟩]
  · rw [rd, if_neg (by omega), if_neg (by omega), if_neg (by omega), if_neg (by omega)]
    by_cases r : q = p
    · rw [if_pos ⟨rfl, r⟩, r, va_up_self]
    · rw [if_neg (fun r2 => r r2.2), if_neg (by omega), va_up_ne _ _ r]
      exact sse q hq
  · rw [rd, if_neg (by omega), if_neg (by omega), if_neg (by omega)]
    by_cases r : q = c
    · rw [if_pos ⟨rfl, r, by omega⟩, r, va_up_self]
    · rw [if_neg (fun r2 => r r2.2.1), if_neg (by omega), if_neg (by omega), va_up_ne _ _ r]
      exact scm q hq (by omega)
  · rw [rd]; repeat rw [if_neg (by omega)]
    exact sks q hq hq2
end
