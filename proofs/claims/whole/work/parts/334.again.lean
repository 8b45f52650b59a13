/-! the model's lemmas over RelM: the relation without the class's places (made by wip/whole/gen/p334.py) -/
def RelM (z : Nat) (h : Hp) (D : Nat → Nat → Int32) (n ng : Nat) (_pa _ba : Nat → Nat) (_la : Nat → Nat → Nat) (_ca : Nat → Nat) : Prop :=
  fxd z h ∧ (∀ c k, c < 82 → ess c k = true → h.2.2.1 (z + c) k = D c k) ∧ VD D n ng ∧ True
theorem Fr.relM {z : Nat} {S : Nat → Nat → Bool} {h h' : Hp} {D : Nat → Nat → Int32} {n ng : Nat} {pa ba : Nat → Nat} {la : Nat → Nat → Nat} {ca : Nat → Nat} (a : Fr z S h h') (hS : ∀ c k, S c k = true → ess c k = false) (hR : RelM z h D n ng pa ba la ca) : RelM z h' D n ng pa ba la ca :=
  ⟨fxd_scr hR.1 (a.scr hS), fun c k hc he => ((a.scr hS).2.2.2.2 c k hc he).trans (hR.2.1 c k hc he), hR.2.2.1, trivial⟩
section
variable {z : Nat} {h : Hp} {D : Nat → Nat → Int32} {n ng : Nat} {pa ba : Nat → Nat} {la : Nat → Nat → Nat} {ca : Nat → Nat}
theorem rb_n_M (hR : RelM z h D n ng pa ba la ca) : h.2.2.1 (z + 1) 1 = nI n ∧ h.2.2.1 (z + 43) 0 = nI n ∧ n ≤ 40 :=
  ⟨(hR.2.1 1 1 (by decide) rfl).trans hR.2.2.1.2.2.1, (hR.2.1 43 0 (by decide) rfl).trans hR.2.2.1.2.1, hR.2.2.1.1⟩
end
section
variable {z : Nat} {h : Hp} {D : Nat → Nat → Int32} {n ng : Nat} {pa ba : Nat → Nat} {la : Nat → Nat → Nat} {ca : Nat → Nat}
theorem rb_ng_M (hR : RelM z h D n ng pa ba la ca) : h.2.2.1 (z + 8) 2 = nI ng ∧ h.2.2.1 (z + 43) 15 = nI ng ∧ ng ≤ 12 :=
  ⟨(hR.2.1 8 2 (by decide) rfl).trans hR.2.2.1.2.2.2.2.2.2.1, (hR.2.1 43 15 (by decide) rfl).trans hR.2.2.1.2.2.2.2.2.1, hR.2.2.1.2.2.2.2.1⟩
end
section
variable {z : Nat} {h : Hp} {D : Nat → Nat → Int32} {n ng : Nat} {pa ba : Nat → Nat} {la : Nat → Nat → Nat} {ca : Nat → Nat}
theorem sz_of_M (hR : RelM z h D n ng pa ba la ca) {p : Nat} (hp : p < n) : ∃ s, s ≤ 6 ∧ D 53 p = nI s := by
  obtain ⟨s, -, h2, h3⟩ := (hR.2.2.1.2.2.2.1 p hp).2.2.2.2.2.2.2.2.1
  exact ⟨s, h2, h3⟩
end
section
variable {z : Nat}
theorem rb_ess_M {h : Hp} {D : Nat → Nat → Int32} {n ng : Nat} {pa ba : Nat → Nat} {la : Nat → Nat → Nat} {ca : Nat → Nat} (hR : RelM z h D n ng pa ba la ca) (c k : Nat) (hc : c < 82) (he : ess c k = true) : h.2.2.1 (z + c) k = D c k := hR.2.1 c k hc he
end
section
variable {z : Nat} {h : Hp} {D : Nat → Nat → Int32} {n ng : Nat} {pa ba : Nat → Nat} {la : Nat → Nat → Nat} {ca : Nat → Nat} {p s : Nat}
theorem m_heard_l_M (hR : RelM z h D n ng pa ba la ca) (hp : p < n) (hs : D 53 p = nI s) (h6 : s ≤ 6) : ∀ (d i f : Nat), i + d = s → d < f → fx bX11_heard_9 (fun _ _ _ _ _ => none) f (z + 43) (nI p) (tlD D p i + D 45 p) (nI i) h = some (hrD D p s, h) := by
  have hF := hR.1
  have n40 := (rb_n_M hR).2.2
  intro d
  induction d with
  | zero =>
    intro i f hi hf
    obtain ⟨f, rfl⟩ : ∃ k, f = k + 1 := ⟨f - 1, by omega⟩
    rw [fx_s]
    simp only [bX11_heard_9, fk_43 hF, gk_s, fr_43_10 hF, bd_s, fk_53 hF, fl_53 hF, gd_e (ix_nI (p := p) (N := 40) (by omega) (by decide)), nI_clamp (n := p) (by omega), rb_ess_M hR 53 p (by decide) rfl, hs]
    rw [show i = s by omega, if_pos (nI_le (Nat.le_refl _) (by omega))]
    simp only [fr_43_3 hF, bd_s, fk_46 hF, gk_s, fl_46 hF, gd_e (ix_nI (p := p) (N := 40) (by omega) (by decide)), rb_ess_M hR 46 p (by decide) rfl]
    unfold hrD
    rw [Int32.mul_comm]
  | succ d ih =>
    intro i f hi hf
    obtain ⟨f, rfl⟩ : ∃ k, f = k + 1 := ⟨f - 1, by omega⟩
    rw [fx_s]
    simp only [bX11_heard_9, fk_43 hF, gk_s, fr_43_10 hF, bd_s, fk_53 hF, fl_53 hF, gd_e (ix_nI (p := p) (N := 40) (by omega) (by decide)), nI_clamp (n := p) (by omega), rb_ess_M hR 53 p (by decide) rfl, hs, if_neg (nI_ge (show i < s by omega) (by omega)), fr_43_11 hF, fk_54 hF, fl_54 hF, i6, gd_e (ix_nI (p := 6 * p + i) (N := 240) (by omega) (by decide)), nI_clamp (n := 6 * p + i) (by omega), nm_d, rb_ess_M hR 54 (6 * p + i) (by decide) rfl, nI_1]
    rw [show tlD D p i + D 45 p + D 54 (6 * p + i) = tlD D p (i + 1) + D 45 p by show _ = (tlD D p i + D 54 (6 * p + i)) + D 45 p; rw [Int32.add_assoc, Int32.add_assoc, Int32.add_comm (D 45 p)]]
    exact ih (i + 1) f (by omega) (by omega)
end
section
variable {z : Nat} {h : Hp} {D : Nat → Nat → Int32} {n ng : Nat} {pa ba : Nat → Nat} {la : Nat → Nat → Nat} {ca : Nat → Nat} {p s : Nat}
theorem m_heard_M (hR : RelM z h D n ng pa ba la ca) (hp : p < n) (hs : D 53 p = nI s) (h6 : s ≤ 6) : fX11_heard (z + 43) (nI p) h = some (hrD D p s, h) := by
  have hF := hR.1
  have n40 := (rb_n_M hR).2.2
  simp only [fX11_heard, fk_43 hF, gk_s, fr_43_2 hF, bd_s, fk_45 hF, fl_45 hF, gd_e (ix_nI (p := p) (N := 40) (by omega) (by decide)), nI_clamp (n := p) (by omega), rb_ess_M hR 45 p (by decide) rfl, nm_d]
  have := m_heard_l_M hR hp hs h6 s 0 NF (by omega) (by have := NF_big; omega)
  rw [show tlD D p 0 + D 45 p = D 45 p by show (0 : Int32) + _ = _; rw [Int32.zero_add]] at this
  exact this
end
section
variable {z : Nat} {h : Hp} {D : Nat → Nat → Int32} {n ng : Nat} {pa ba : Nat → Nat} {la : Nat → Nat → Nat} {ca : Nat → Nat} {p s : Nat}
theorem m_isServed_M (hR : RelM z h D n ng pa ba la ca) (hp : p < n) : fX11_isServed (z + 43) (nI p) h = some (bi (bitD (D 49 p) (h.2.2.1 (z + 43) 32)), h) := by
  have hF := hR.1
  have n40 := (rb_n_M hR).2.2
  simp only [fX11_isServed, fk_43 hF, gk_s, fr_43_6 hF, bd_s, fk_49 hF, fl_49 hF, gd_e (ix_nI (p := p) (N := 40) (by omega) (by decide)), nI_clamp (n := p) (by omega), rb_ess_M hR 49 p (by decide) rfl, bit1]
  by_cases q : bitD (D 49 p) (h.2.2.1 (z + 43) 32)
  · rw [if_pos q, bi_t q]
  · rw [if_neg q, bi_f q]
end
section
variable {z : Nat} {h : Hp} {D : Nat → Nat → Int32} {n ng : Nat} {pa ba : Nat → Nat} {la : Nat → Nat → Nat} {ca : Nat → Nat} {p s : Nat}
theorem m_isOpen_M (hR : RelM z h D n ng pa ba la ca) (hp : p < n) : fX11_isOpen (z + 43) (nI p) h = some (bi (opD D p (h.2.2.1 (z + 43) 35)), h) := by
  have hF := hR.1
  have n40 := (rb_n_M hR).2.2
  simp only [fX11_isOpen, fk_43 hF, gk_s, fr_43_7 hF, fr_43_8 hF, bd_s, fk_50 hF, fl_50 hF, fk_51 hF, fl_51 hF, gd_e (ix_nI (p := p) (N := 40) (by omega) (by decide)), nI_clamp (n := p) (by omega), rb_ess_M hR 50 p (by decide) rfl, rb_ess_M hR 51 p (by decide) rfl, opD]
  generalize h.2.2.1 (z + 43) 35 = v
  by_cases c1 : D 51 p ≤ D 50 p <;> by_cases c2 : D 50 p = D 51 p <;> by_cases c3 : D 50 p ≤ v <;> by_cases c4 : D 51 p ≤ v <;> by_cases c5 : v < D 50 p <;> simp only [c1, c2, c3, c4, c5, show D 51 p ≤ D 51 p from Int32.le_refl _, if_true, if_false, true_or, or_true, false_or, or_false, not_true, not_false_eq_true, true_and, and_true, false_and, and_false, bi, reduceIte, ite_self]
end
section
variable {z : Nat} {h : Hp} {D : Nat → Nat → Int32} {n ng : Nat} {pa ba : Nat → Nat} {la : Nat → Nat → Nat} {ca : Nat → Nat} {p s : Nat}
theorem fig_of_M (hR : RelM z h D n ng pa ba la ca) (hp : p < n) (h4 : D 44 p = 4) : ∃ f, 1 ≤ f ∧ f ≤ 8 ∧ D 52 p = nI f := by
  obtain ⟨k, h1, h2, h3⟩ := (hR.2.2.1.2.2.2.1 p hp).2.2.2.2.2.2.2.1 h4
  exact ⟨k, h1, h2, h3⟩
end
section
variable {z : Nat} {h : Hp} {D : Nat → Nat → Int32} {n ng : Nat} {pa ba : Nat → Nat} {la : Nat → Nat → Nat} {ca : Nat → Nat} {p s : Nat}
theorem m_isRight_M (hR : RelM z h D n ng pa ba la ca) (hp : p < n) (h4 : D 44 p = 4) : fX11_isRight (z + 43) (nI p) h = some (bi (rgtD D p (h.2.2.1 (z + 43) 33)), h) := by
  have hF := hR.1
  have n40 := (rb_n_M hR).2.2
  simp only [fX11_isRight, fk_43 hF, gk_s, nm_d]
  generalize h.2.2.1 (z + 43) 33 = v
  obtain ⟨k, k1, k2, k3⟩ := fig_of_M hR hp h4
  have key : ∀ (d i f : Nat), i + d = k → d < f → fx bX11_isRight_10 (fun _ _ _ _ _ _ => none) f (z + 43) (nI p) (rtD v i).1 (rtD v i).2 (nI i) h = some (bi (rgtD D p v), h) := by
    intro d
    induction d with
    | zero =>
      intro i f hi hf
      obtain ⟨f, rfl⟩ : ∃ k, f = k + 1 := ⟨f - 1, by omega⟩
      obtain rfl : i = k := by omega
      rw [fx_s]
      simp only [bX11_isRight_10, fk_43 hF, gk_s, fr_43_9 hF, bd_s, fk_52 hF, fl_52 hF, gd_e (ix_nI (p := p) (N := 40) (by omega) (by decide)), nI_clamp (n := p) (by omega), rb_ess_M hR 52 p (by decide) rfl, k3, if_pos (nI_le (Nat.le_refl i) (by omega)), rgtD, nI_clamp (n := i) (by omega), bi]
      by_cases c1 : (rtD v i).1 = 0
      · by_cases c2 : (rtD v i).2 - (rtD v i).2 / 10 * 10 = 0 <;> simp only [c1, c2, if_true, if_false, and_self, and_false, true_and]
      · simp only [c1, if_false, false_and]
    | succ d ih =>
      intro i f hi hf
      obtain ⟨f, rfl⟩ : ∃ k, f = k + 1 := ⟨f - 1, by omega⟩
      rw [fx_s]
      have e2 : nI i - nI i / 2 * 2 = nI (i % 2) := pk_rem (d := 2) (by omega) (by decide) (by decide)
      simp only [bX11_isRight_10, fk_43 hF, gk_s, fr_43_9 hF, bd_s, fk_52 hF, fl_52 hF, gd_e (ix_nI (p := p) (N := 40) (by omega) (by decide)), nI_clamp (n := p) (by omega), rb_ess_M hR 52 p (by decide) rfl, k3, if_neg (nI_ge (show i < k by omega) (by omega)), nm_d, nI_1, e2]
      have hi2 := ih (i + 1) f (by omega) (by omega)
      rcases (show i % 2 = 0 ∨ i % 2 = 1 by omega) with c | c
      · rw [c, if_pos (show nI 0 = 0 from rfl)]
        simp only [rtD, c, if_true] at hi2
        exact hi2
      · rw [c, if_neg (show ¬ nI 1 = 0 by decide)]
        simp only [rtD, c, show ¬ (1 = 0) by decide, if_false] at hi2
        exact hi2
  exact key k 0 NF (by omega) (by have := NF_big; omega)
end
section
variable {z : Nat} {h : Hp} {D : Nat → Nat → Int32} {n ng : Nat} {pa ba : Nat → Nat} {la : Nat → Nat → Nat} {ca : Nat → Nat} {p s W : Nat} {T : Nat → Nat}
theorem pv_of_M (hR : RelM z h D n ng pa ba la ca) (hp : p < n) : PV D p := hR.2.2.1.2.2.2.1 p hp
end
section
variable {z : Nat} {h : Hp} {D : Nat → Nat → Int32} {n ng : Nat} {pa ba : Nat → Nat} {la : Nat → Nat → Nat} {ca : Nat → Nat} {p s W : Nat} {T : Nat → Nat}
theorem sz_toN_M (hR : RelM z h D n ng pa ba la ca) (hp : p < n) : D 53 p = nI (toN (D 53 p)) ∧ toN (D 53 p) ≤ 6 := by
  obtain ⟨s, h6, hs⟩ := sz_of_M hR hp
  rw [hs, toN_nI (by omega)]
  exact ⟨rfl, h6⟩
end
section
variable {z : Nat} {h : Hp} {D : Nat → Nat → Int32} {n ng : Nat} {pa ba : Nat → Nat} {la : Nat → Nat → Nat} {ca : Nat → Nat} {p s W : Nat} {T : Nat → Nat}
theorem cG_le_M (hR : RelM z h D n ng pa ba la ca) (w v : Int32) : ∀ p i, p < n → i ≤ mG D p → cG D w v p i ≤ 4200 := by
  intro p i hp hi
  have hP := pv_of_M hR hp
  unfold cG
  obtain ⟨e45, a1, a2⟩ := nI_toN hP.2.1 (by decide)
  split
  · split <;> omega
  split
  · omega
  split
  · omega
  split
  · rename_i h4
    obtain ⟨j, j1, j2, j3⟩ := tr_rg hP h4 v 1
    rw [j3, toN_nI (by omega)]
    omega
  split
  · obtain ⟨s1, s2⟩ := sz_toN_M hR hp
    have h0 : D 44 p = 0 := by rcases kd_of hP with r | r | r | r | r <;> first | exact r | contradiction
    obtain ⟨t, k, b, -, -, -, -, -, -, -, -, e, g1, g2⟩ := hr_rg hP h0 s1 s2
    rw [e, toN_nI (by omega)]
    omega
  · omega
end
section
variable {z : Nat} {h : Hp} {D : Nat → Nat → Int32} {n ng : Nat} {pa ba : Nat → Nat} {la : Nat → Nat → Nat} {ca : Nat → Nat} {p s W : Nat} {T : Nat → Nat}
theorem m_leastOf_M (hR : RelM z h D n ng pa ba la ca) (hT : TW z 68 h n T W) (hW : W = 100000000) {x : Int32} (hx : nxt x) : fX11_leastOf (z + 43) x h = some (nI (T (tg x)), h) := by
  have hF := hR.1
  obtain ⟨n1, n2, n3⟩ := rb_n_M hR
  obtain ⟨t1, t2, t3, t4, t5, t6⟩ := hT
  obtain ⟨a1, a2, a3⟩ := tg_in hx
  by_cases e : tg x < n
  · have ex := a2 (by omega)
    have hp := m_isPlace_t hF n2 n3 e
    rw [← ex] at hp
    have hix : ix x 40 = true := by rw [ex]; exact ix_nI (p := tg x) (N := 40) (by omega) (by decide)
    have hcl : x.toNatClampNeg = tg x := by
      have := nI_clamp (n := tg x) (by omega)
      rw [← ex] at this
      exact this
    simp only [fX11_leastOf, fk_43 hF, gk_s, hp, b2_s, if_neg (show ¬ (1 : Int32) = 0 by decide), fr_43_36 hF, bd_s, fk_68 hF, fl_68 hF, gd_e hix, hcl, t1 (tg x) (by omega)]
  · have hp : fX11_isPlace (z + 43) x h = some (0, h) := m_isPlace_f hF n2 n3 (fun q hq ex => by
      apply e
      have : tg x = q := by
        rw [ex]
        unfold tg
        rw [if_neg, toN_nI (by omega)]
        intro e2
        have h1 := nI_pos (n := q) (by omega)
        rw [e2] at h1
        exact h1 (by decide)
      omega)
    simp only [fX11_leastOf, fk_43 hF, gk_s, hp, b2_s, if_pos]
    rw [t3 (tg x) (by omega) (by omega), hW]
    rfl
end
section
variable {z : Nat} {h : Hp} {D : Nat → Nat → Int32} {n ng : Nat} {pa ba : Nat → Nat} {la : Nat → Nat → Nat} {ca : Nat → Nat} {p s W : Nat} {T : Nat → Nat}
theorem m_through_M (hR : RelM z h D n ng pa ba la ca) (hT : TW z 68 h n T W) (hW : W = 100000000) {x : Int32} (hx : nxt x) (c : Nat) : fX11_through (z + 43) (nI c) x h = some (nI (thr W c (T (tg x))), h) := by
  have hF := hR.1
  simp only [fX11_through, fk_43 hF, gk_s, m_leastOf_M hR hT hW hx, b2_s]
  have b := hT.2.2.2.1 (tg x)
  have e1 : (100000000 : Int32) = nI W := by rw [hW]; rfl
  rw [e1]
  unfold thr
  by_cases e : T (tg x) = W
  · rw [if_pos (by rw [e]), if_pos e]
  · rw [if_neg (fun q => e ((nI_eq (by omega) (by omega)).mp q)), if_neg e, nI_add]
end
section
variable {z : Nat} {h : Hp} {D : Nat → Nat → Int32} {n ng : Nat} {pa ba : Nat → Nat} {la : Nat → Nat → Nat} {ca : Nat → Nat} {p s W : Nat} {T : Nat → Nat}
theorem m_leastMenu_M (hR : RelM z h D n ng pa ba la ca) (hp : p < n) (h0 : D 44 p = 0) (hT : TW z 68 h n T W) (hW : W = 100000000) (w v u : Int32) : ∀ (d i f : Nat), i + d = toN (D 53 p) → d < f → fx bX11_leastAt_192 (fun _ _ _ _ _ => none) f (z + 43) (nI p) (nI (mnA (fun i => thr W (cG D w v p i) (T (tG D w v u p i))) i)) (nI i) h = some (nI (LM W (mG D) (cG D w v) (tG D w v u) T p), h) := by
  have hF := hR.1
  have n40 := (rb_n_M hR).2.2
  have hP := pv_of_M hR hp
  obtain ⟨hs, h6⟩ := sz_toN_M hR hp
  have c1 : ∀ i, cG D w v p (i + 1) = 1 := fun i => by
    unfold cG
    rw [h0, if_neg (by decide), if_neg (by decide), if_neg (by decide), if_neg (by decide), if_neg (by omega)]
  have t1 : ∀ i, tG D w v u p (i + 1) = tg (D 57 (6 * p + i)) := fun i => by
    unfold tG
    rw [h0, if_neg (by decide), if_neg (by decide), if_neg (by decide), if_neg (by decide), if_neg (by omega)]
    rfl
  have hTW : ∀ q, T q ≤ W := hT.2.2.2.1
  intro d
  induction d with
  | zero =>
    intro i f hi hf
    obtain ⟨f, rfl⟩ : ∃ k, f = k + 1 := ⟨f - 1, by omega⟩
    rw [fx_s]
    simp only [bX11_leastAt_192, fk_43 hF, gk_s, fr_43_10 hF, bd_s, fk_53 hF, fl_53 hF, gd_e (ix_nI (p := p) (N := 40) (by omega) (by decide)), nI_clamp (n := p) (by omega), rb_ess_M hR 53 p (by decide) rfl]
    rw [hs, if_pos (nI_le (show toN (D 53 p) ≤ i by omega) (by omega))]
    unfold LM mG
    rw [if_pos h0, show i = toN (D 53 p) by omega]
  | succ d ih =>
    intro i f hi hf
    obtain ⟨f, rfl⟩ : ∃ k, f = k + 1 := ⟨f - 1, by omega⟩
    have e53 : h.2.2.1 (z + 53) p = nI (toN (D 53 p)) := by rw [rb_ess_M hR 53 p (by decide) rfl]; exact hs
    have hth := m_through_M hR hT hW (ln_nxt hP hs h6 (i := i) (by omega)) 1
    have b1 := hTW (tg (D 57 (6 * p + i)))
    obtain ⟨j, hj, ej⟩ := mnA_ex (fun i => thr W (cG D w v p i) (T (tG D w v u p i))) i
    have b2 := hTW (tG D w v u p j)
    have b3 : cG D w v p j ≤ 4200 := cG_le_M hR w v p j hp (by unfold mG; rw [if_pos h0]; omega)
    have em : mnA (fun i => thr W (cG D w v p i) (T (tG D w v u p i))) i < 2 ^ 31 := by rw [ej]; show thr W (cG D w v p j) (T (tG D w v u p j)) < 2 ^ 31; unfold thr; split <;> omega
    have et : thr W 1 (T (tg (D 57 (6 * p + i)))) < 2 ^ 31 := by unfold thr; split <;> omega
    have hi2 := ih (i + 1) f (by omega) (by omega)
    rw [fx_s]
    simp only [bX11_leastAt_192, fk_43 hF, gk_s, fr_43_10 hF, bd_s, fk_53 hF, fl_53 hF, gd_e (ix_nI (p := p) (N := 40) (by omega) (by decide)), nI_clamp (n := p) (by omega), e53, if_neg (nI_ge (show i < toN (D 53 p) by omega) (by omega)), fr_43_14 hF, fk_57 hF, fl_57 hF, i6, gd_e (ix_nI (p := 6 * p + i) (N := 240) (by omega) (by decide)), nI_clamp (n := 6 * p + i) (by omega), rb_ess_M hR 57 (6 * p + i) (by decide) rfl, one_nI, hth, b2_s, nm_d, nI_add]
    have em2 : mnA (fun i => thr W (cG D w v p i) (T (tG D w v u p i))) (i + 1) = if thr W 1 (T (tg (D 57 (6 * p + i)))) < mnA (fun i => thr W (cG D w v p i) (T (tG D w v u p i))) i then thr W 1 (T (tg (D 57 (6 * p + i)))) else mnA (fun i => thr W (cG D w v p i) (T (tG D w v u p i))) i := by
      show (if thr W (cG D w v p (i + 1)) (T (tG D w v u p (i + 1))) < _ then thr W (cG D w v p (i + 1)) (T (tG D w v u p (i + 1))) else _) = _
      rw [c1, t1]
    by_cases cc : mnA (fun i => thr W (cG D w v p i) (T (tG D w v u p i))) i ≤ thr W 1 (T (tg (D 57 (6 * p + i))))
    · rw [if_pos (nI_le cc et)]
      rw [em2, if_neg (by omega)] at hi2
      exact hi2
    · rw [if_neg (nI_ge (by omega) em)]
      rw [em2, if_pos (by omega)] at hi2
      exact hi2
end
section
variable {z : Nat} {h : Hp} {D : Nat → Nat → Int32} {n ng : Nat} {pa ba : Nat → Nat} {la : Nat → Nat → Nat} {ca : Nat → Nat} {p s W : Nat} {T : Nat → Nat}
theorem m_leastAt_M (hR : RelM z h D n ng pa ba la ca) (hp : p < n) (hT : TW z 68 h n T W) (hW : W = 100000000) {w v u : Int32} (hw : h.2.2.1 (z + 43) 32 = w) (hv : h.2.2.1 (z + 43) 33 = v) (hu : h.2.2.1 (z + 43) 35 = u) : fX11_leastAt (z + 43) (nI p) h = some (nI (LM W (mG D) (cG D w v) (tG D w v u) T p), h) := by
  have hF := hR.1
  have n40 := (rb_n_M hR).2.2
  have hP := pv_of_M hR hp
  obtain ⟨e45, a1, a2⟩ := nI_toN hP.2.1 (by decide)
  have q0 : ix (nI p) 40 = true := ix_nI (by omega) (by decide)
  have q1 : (nI p).toNatClampNeg = p := nI_clamp (by omega)
  have hm : D 44 p ≠ 0 → LM W (mG D) (cG D w v) (tG D w v u) T p = thr W (cG D w v p 0) (T (tG D w v u p 0)) := fun q => by
    unfold LM mG
    rw [if_neg q]
    rfl
  have et : T 41 ≠ W := by rw [hT.2.1, hW]; decide
  have e40 : T 40 = W := hT.2.2.1 40 n40 (by decide)
  rcases kd_of hP with r | r | r | r | r
  · obtain ⟨hs, h6⟩ := sz_toN_M hR hp
    obtain ⟨t, k, b, -, -, -, -, -, -, -, -, ehr, g1, g2⟩ := hr_rg hP r hs h6
    have key := m_leastMenu_M hR hp r hT hW w v u (toN (D 53 p)) 0 NF (by omega) (by have := NF_big; omega)
    have e0 : mnA (fun i => thr W (cG D w v p i) (T (tG D w v u p i))) 0 = thr W (t * (k + b)) (T (tg (D 47 p))) := by
      show thr W (cG D w v p 0) (T (tG D w v u p 0)) = _
      unfold cG tG
      rw [r, if_neg (by decide), if_neg (by decide), if_neg (by decide), if_neg (by decide), if_pos rfl, if_neg (by decide), if_neg (by decide), if_neg (by decide), if_neg (by decide), if_pos rfl, ehr, toN_nI (by omega)]
    rw [e0] at key
    simp only [fX11_leastAt, fk_43 hF, gk_s, fr_43_1 hF, bd_s, fk_44 hF, fl_44 hF, gd_e q0, q1, rb_ess_M hR 44 p (by decide) rfl, r, if_neg (show ¬ (0 : Int32) = 1 by decide), if_neg (show ¬ (0 : Int32) = 2 by decide), if_neg (show ¬ (0 : Int32) = 3 by decide), if_neg (show ¬ (0 : Int32) = 4 by decide), m_heard_M hR hp hs h6, b2_s, fr_43_4 hF, fk_47 hF, fl_47 hF, rb_ess_M hR 47 p (by decide) rfl]
    rw [ehr, m_through_M hR hT hW hP.2.2.2.2.1]
    simp only [b2_s]
    exact key
  · rw [hm (by rw [r]; decide)]
    simp only [fX11_leastAt, fk_43 hF, gk_s, fr_43_1 hF, bd_s, fk_44 hF, fl_44 hF, gd_e q0, q1, rb_ess_M hR 44 p (by decide) rfl, r, if_pos, m_isServed_M hR hp, b2_s, bi_0, hw, fr_43_2 hF, fk_45 hF, fl_45 hF, rb_ess_M hR 45 p (by decide) rfl, cG, tG]
    by_cases q : bitD (D 49 p) w
    · rw [if_neg (not_not_intro q), if_pos q, if_pos q, thr, if_neg et, hT.2.1, Nat.add_zero, e45]
    · rw [if_pos q, if_neg q, if_neg q, thr, if_pos e40, hW]
      rfl
  · rw [hm (by rw [r]; decide)]
    simp only [fX11_leastAt, fk_43 hF, gk_s, fr_43_1 hF, bd_s, fk_44 hF, fl_44 hF, gd_e q0, q1, rb_ess_M hR 44 p (by decide) rfl, r, if_neg (show ¬ (2 : Int32) = 1 by decide), if_pos, m_isServed_M hR hp, b2_s, bi_0, hw, fr_43_2 hF, fk_45 hF, fl_45 hF, rb_ess_M hR 45 p (by decide) rfl, fr_43_4 hF, fk_47 hF, fl_47 hF, rb_ess_M hR 47 p (by decide) rfl, cG, tG]
    by_cases q : bitD (D 49 p) w
    · rw [if_neg (not_not_intro q), if_pos q, thr, if_neg et, hT.2.1, Nat.add_zero, e45]
    · rw [if_pos q, if_neg q]
      have := m_through_M hR hT hW hP.2.2.2.2.1 (toN (D 45 p))
      rw [e45] at this
      rw [this, b2_s]
  · rw [hm (by rw [r]; decide)]
    simp only [fX11_leastAt, fk_43 hF, gk_s, fr_43_1 hF, bd_s, fk_44 hF, fl_44 hF, gd_e q0, q1, rb_ess_M hR 44 p (by decide) rfl, r, if_neg (show ¬ (3 : Int32) = 1 by decide), if_neg (show ¬ (3 : Int32) = 2 by decide), if_pos, m_isOpen_M hR hp, b2_s, bi_0, hu, fr_43_4 hF, fk_47 hF, fl_47 hF, rb_ess_M hR 47 p (by decide) rfl, fr_43_5 hF, fk_48 hF, fl_48 hF, rb_ess_M hR 48 p (by decide) rfl, cG, tG]
    by_cases q : opD D p u
    · rw [if_neg (not_not_intro q)]
      have := m_through_M hR hT hW hP.2.2.2.2.1 0
      rw [nI_0] at this
      rw [this, b2_s, nxH, if_pos q]
    · rw [if_pos q]
      have := m_through_M hR hT hW hP.2.2.2.2.2.1 0
      rw [nI_0] at this
      rw [this, b2_s, nxH, if_neg q]
  · rw [hm (by rw [r]; decide)]
    obtain ⟨j, j1, j2, j3⟩ := tr_rg hP r v 1
    simp only [fX11_leastAt, fk_43 hF, gk_s, fr_43_1 hF, bd_s, fk_44 hF, fl_44 hF, gd_e q0, q1, rb_ess_M hR 44 p (by decide) rfl, r, if_neg (show ¬ (4 : Int32) = 1 by decide), if_neg (show ¬ (4 : Int32) = 2 by decide), if_neg (show ¬ (4 : Int32) = 3 by decide), if_pos, m_isRight_M hR hp r, b2_s, bi_0, hv, fr_43_4 hF, fk_47 hF, fl_47 hF, rb_ess_M hR 47 p (by decide) rfl, fr_43_5 hF, fk_48 hF, fl_48 hF, rb_ess_M hR 48 p (by decide) rfl, fr_43_9 hF, fk_52 hF, fl_52 hF, rb_ess_M hR 52 p (by decide) rfl, fr_43_3 hF, fk_46 hF, fl_46 hF, rb_ess_M hR 46 p (by decide) rfl, cG, tG, if_neg (show ¬ (4 : Int32) = 0 by decide)]
    rw [j3, toN_nI (by omega)]
    by_cases q : rgtD D p v
    · rw [if_neg (not_not_intro q)]
      have e : D 52 p = nI j := by
        rw [← j3, trD, if_pos q, if_neg (by decide)]
      rw [e, m_through_M hR hT hW hP.2.2.2.2.1, b2_s, nxN, if_pos q]
    · rw [if_pos q]
      have e : D 52 p * D 46 p = nI j := by
        rw [← j3, trD, if_neg q, if_neg (by decide), Int32.mul_comm]
      rw [e, m_through_M hR hT hW hP.2.2.2.2.2.1, b2_s, nxN, if_neg q]
end
section
variable {z : Nat} {h : Hp} {D : Nat → Nat → Int32} {n ng : Nat} {pa ba : Nat → Nat} {la : Nat → Nat → Nat} {ca : Nat → Nat} {p s W : Nat} {T : Nat → Nat}
theorem m_sweep_M {rc : Nat → Int32 → Hp → Option (Unit × Hp)} {w v u : Int32} (hW : W = 100000000) : ∀ (d i f : Nat) (h : Hp) (T : Nat → Nat) (v1 : Int32), i + d = n → d < f → RelM z h D n ng pa ba la ca → TW z 68 h n T W → MoV z h w v u →
    ∃ T' h' v1', fx (bX11_layLeast_32 rc) (fun _ _ _ _ => none) f (z + 43) v1 (nI i) h = rc (z + 43) v1' h' ∧ Fr z S68 h h' ∧ TW z 68 h' n T' W ∧ (∀ q, T' q ≤ T q)
      ∧ ((∀ q, OW n (mG D) (cG D w v) (tG D w v u) W n q ≤ T q) → ∀ q, OW n (mG D) (cG D w v) (tG D w v u) W n q ≤ T' q)
      ∧ (∀ k, (∀ q, T q ≤ OW n (mG D) (cG D w v) (tG D w v u) W k q) → ∀ p, i ≤ p → p < n → T' p ≤ OW n (mG D) (cG D w v) (tG D w v u) W (k + 1) p)
      ∧ ((v1' = 1 ∧ (v1 = 1 ∨ ∃ q, T' q < T q)) ∨ (v1' = v1 ∧ T' = T ∧ ∀ p, i ≤ p → p < n → T p ≤ LA (mG D) (cG D w v) (tG D w v u) T p)) := by
  intro d
  induction d with
  | zero =>
    intro i f h T v1 hi hf hR hT hC
    obtain ⟨f, rfl⟩ : ∃ k, f = k + 1 := ⟨f - 1, by omega⟩
    have hF := hR.1
    have hn : n ≤ 40 := hT.2.2.2.2.2
    refine ⟨T, h, v1, ?_, Fr.rf, hT, fun _ => Nat.le_refl _, fun q => q, fun k hk p hp hp2 => by omega, Or.inr ⟨rfl, rfl, fun p hp hp2 => by omega⟩⟩
    rw [fx_s]
    simp only [bX11_layLeast_32, fk_43 hF, gk_s, (rb_n_M hR).2.1, if_pos (nI_le (show n ≤ i by omega) (by omega))]
  | succ d ih =>
    intro i f h T v1 hi hf hR hT hC
    obtain ⟨f, rfl⟩ : ∃ k, f = k + 1 := ⟨f - 1, by omega⟩
    have hF := hR.1
    have hn : n ≤ 40 := hT.2.2.2.2.2
    have hla := m_leastAt_M hR (p := i) (by omega) hT hW hC.1 hC.2.1 hC.2.2
    obtain ⟨x, hx⟩ : ∃ x, x = LM W (mG D) (cG D w v) (tG D w v u) T i := ⟨_, rfl⟩
    have hxb : x < 2 ^ 31 := by
      obtain ⟨j, hj, ej⟩ := mnA_ex (fun k => thr W (cG D w v i k) (T (tG D w v u i k))) (mG D i)
      have b1 := cG_le_M hR w v i j (by omega) hj
      have b2 := hT.2.2.2.1 (tG D w v u i j)
      have : x = thr W (cG D w v i j) (T (tG D w v u i j)) := by rw [hx]; exact ej
      rw [this]
      unfold thr
      split <;> omega
    rw [← hx] at hla
    have td := hT.2.2.2.1 i
    have hcmp := LM_le (m := mG D) (cs := cG D w v) (tt := tG D w v u) hT.2.2.2.1 i td
    rw [← hx] at hcmp
    have e4 : h.2.2.1 (z + 68) i = nI (T i) := hT.1 i (by omega)
    rw [fx_s]
    simp only [bX11_layLeast_32, fk_43 hF, gk_s, (rb_n_M hR).2.1, if_neg (nI_ge (show i < n by omega) (by omega)), hla, b2_s, fr_43_36 hF, bd_s, fk_68 hF, fl_68 hF, gd_e (ix_nI (p := i) (N := 40) (by omega) (by decide)), nI_clamp (n := i) (by omega), e4, nm_d, nI_1]
    by_cases cc : T i ≤ x
    · obtain ⟨T', h', v1', i1, i2, i3, i4, i5, i6, i7⟩ := ih (i + 1) f h T v1 (by omega) (by omega) hR hT hC
      rw [if_pos (nI_le cc (by omega))]
      refine ⟨T', h', v1', i1, i2, i3, i4, i5, fun k hk p hp hp2 => ?_, ?_⟩
      · by_cases e : p = i
        · subst e
          have := up1_k (n := n) (W := W) (m := mG D) (cs := cG D w v) (tt := tG D w v u) (T := T) (U := T) (p := p) (k := k) (by omega) (fun _ => Nat.le_refl _) (hT.2.2.2.1 p) hk
          unfold up1 at this
          rw [if_pos rfl, if_neg (by omega)] at this
          exact Nat.le_trans (i4 p) this
        · exact i6 k hk p (by omega) hp2
      · rcases i7 with r | ⟨r1, r2, r3⟩
        · exact Or.inl r
        · refine Or.inr ⟨r1, r2, fun p hp hp2 => ?_⟩
          by_cases e : p = i
          · rw [e]; omega
          · exact r3 p (by omega) hp2
    · have hT1 := TW.si (T := T) hT (show i < n by omega) (show x ≤ T i by omega)
      obtain ⟨T1, eT1⟩ : ∃ T1, T1 = (fun q => if q = i then x else T q) := ⟨_, rfl⟩
      rw [← eT1] at hT1
      have f1 : Fr z S68 h (hp_si h (z + 68) i (nI x)) := Fr.si (by decide) rfl
      obtain ⟨T', h', v1', i1, i2, i3, i4, i5, i6, i7⟩ := ih (i + 1) f (hp_si h (z + 68) i (nI x)) T1 1 (by omega) (by omega) (f1.relM S68_ess hR) hT1 (hC.fr f1 (fun _ => rfl))
      have hup : T1 = up1 (mG D) (cG D w v) (tG D w v u) T i := by
        rw [eT1]
        funext q
        unfold up1
        by_cases e : q = i
        · rw [if_pos e, if_pos e, if_pos (by omega)]; omega
        · rw [if_neg e, if_neg e]
      have hle : ∀ q, T1 q ≤ T q := fun q => by rw [hup]; exact up1_le T i q
      rw [if_neg (nI_ge (show x < T i by omega) (by omega))]
      refine ⟨T', h', v1', i1, f1.tr i2, i3, fun q => Nat.le_trans (i4 q) (hle q), fun hq => i5 (by rw [hup]; exact up1_ge hn (by omega) hq), fun k hk p hp hp2 => ?_, ?_⟩
      · by_cases e : p = i
        · subst e
          have := up1_k (n := n) (W := W) (m := mG D) (cs := cG D w v) (tt := tG D w v u) (T := T) (U := T) (p := p) (k := k) (by omega) (fun _ => Nat.le_refl _) (hT.2.2.2.1 p) hk
          rw [← hup] at this
          exact Nat.le_trans (i4 p) this
        · exact i6 k (fun q => Nat.le_trans (hle q) (hk q)) p (by omega) hp2
      · have hlt : T' i < T i := by
          have h1 := i4 i
          have h2 : T1 i = x := by rw [eT1]; exact if_pos rfl
          omega
        rcases i7 with ⟨r, -⟩ | ⟨r1, -, -⟩
        · exact Or.inl ⟨r, Or.inr ⟨i, hlt⟩⟩
        · exact Or.inl ⟨r1, Or.inr ⟨i, hlt⟩⟩
end
section
variable {z : Nat} {h : Hp} {D : Nat → Nat → Int32} {n ng : Nat} {pa ba : Nat → Nat} {la : Nat → Nat → Nat} {ca : Nat → Nat} {p s W : Nat} {T : Nat → Nat}
theorem m_rounds_M {w v u : Int32} (hW : W = 100000000) : ∀ (e f r : Nat) (h : Hp) (T : Nat → Nat), r + e = n → e + 1 < f → RelM z h D n ng pa ba la ca → TW z 68 h n T W → MoV z h w v u →
    (∀ q, OW n (mG D) (cG D w v) (tG D w v u) W n q ≤ T q) → (∀ q, T q ≤ OW n (mG D) (cG D w v) (tG D w v u) W r q) →
    ∃ h', fx bX11_layLeast_24 (fun _ _ _ => none) f (z + 43) 1 h = some ((), h') ∧ Fr z S68 h h' ∧ TW z 68 h' n (OW n (mG D) (cG D w v) (tG D w v u) W n) W := by
  intro e
  induction e with
  | zero =>
    intro f r h T hr hf hR hT hC h1 h2
    obtain ⟨f, rfl⟩ : ∃ k, f = k + 1 + 1 := ⟨f - 2, by omega⟩
    have hn : n ≤ 40 := hT.2.2.2.2.2
    obtain rfl : r = n := by omega
    obtain ⟨T', h', v1', i1, i2, i3, i4, i5, i6, i7⟩ := m_sweep_M (rc := fx bX11_layLeast_24 (fun _ _ _ => none) (f + 1)) hW r 0 NF h T 0 (by omega) (by have := NF_big; omega) hR hT hC
    have hge := i5 h1
    rcases i7 with ⟨-, q | ⟨q, hq⟩⟩ | ⟨q1, q2, q3⟩
    · exact absurd q (by decide)
    · have a1 := hge q
      have a2 := h2 q
      omega
    · refine ⟨h', ?_, i2, TW_eq i3 (by rw [q2]; exact h2) hge⟩
      rw [fx_s]
      simp only [bX11_layLeast_24, if_neg (show ¬ (1 : Int32) = 0 by decide)]
      refine Eq.trans i1 ?_
      rw [q1, fx_s]
      simp only [bX11_layLeast_24, if_pos]
  | succ e ih =>
    intro f r h T hr hf hR hT hC h1 h2
    obtain ⟨f, rfl⟩ : ∃ k, f = k + 1 + 1 := ⟨f - 2, by omega⟩
    have hn : n ≤ 40 := hT.2.2.2.2.2
    obtain ⟨T', h', v1', i1, i2, i3, i4, i5, i6, i7⟩ := m_sweep_M (rc := fx bX11_layLeast_24 (fun _ _ _ => none) (f + 1)) hW n 0 NF h T 0 (by omega) (by have := NF_big; omega) hR hT hC
    have hge := i5 h1
    rcases i7 with ⟨q1, -⟩ | ⟨q1, q2, q3⟩
    · have h0 : ∀ q, T' q ≤ OW n (mG D) (cG D w v) (tG D w v u) W (r + 1) q := fun q => by
        by_cases hq : q < n
        · exact i6 r h2 q (Nat.zero_le _) hq
        · have := Nat.le_trans (i4 q) (h2 q)
          rw [OW_out (by omega)] at this
          rw [OW_out (by omega)]
          exact this
      obtain ⟨h'', j1, j2, j3⟩ := ih (f + 1) (r + 1) h' T' (by omega) (by omega) (i2.relM S68_ess hR) i3 (hC.fr i2 (fun _ => rfl)) hge h0
      refine ⟨h'', ?_, i2.tr j2, j3⟩
      rw [fx_s]
      simp only [bX11_layLeast_24, if_neg (show ¬ (1 : Int32) = 0 by decide)]
      refine Eq.trans i1 ?_
      rw [q1]
      exact j1
    · refine ⟨h', ?_, i2, TW_eq i3 ?_ hge⟩
      · rw [fx_s]
        simp only [bX11_layLeast_24, if_neg (show ¬ (1 : Int32) = 0 by decide)]
        refine Eq.trans i1 ?_
        rw [q1, fx_s]
        simp only [bX11_layLeast_24, if_pos]
      · rw [q2]
        exact still_le hn (fun q => Nat.le_trans (h2 q) (OW_le hn (Nat.zero_le r) q)) (fun p hp => q3 p (Nat.zero_le _) hp) n
end
section
variable {z : Nat} {h : Hp} {D : Nat → Nat → Int32} {n ng : Nat} {pa ba : Nat → Nat} {la : Nat → Nat → Nat} {ca : Nat → Nat} {p s W : Nat} {T : Nat → Nat}
theorem m_layLeast_M (hR : RelM z h D n ng pa ba la ca) {w v u : Int32} (hC : MoV z h w v u) : ∃ h', fX11_layLeast (z + 43) h = some ((), h') ∧ Fr z S68 h h' ∧ TW z 68 h' n (OW n (mG D) (cG D w v) (tG D w v u) 100000000 n) 100000000 := by
  have hn : n ≤ 40 := (rb_n_M hR).2.2
  have key : ∀ (d i f : Nat) (h : Hp), i + d = 40 → d < f → RelM z h D n ng pa ba la ca → MoV z h w v u → (∀ q, q < i → h.2.2.1 (z + 68) q = 100000000) → ∃ h', fx bX11_layLeast_2 (fun _ _ _ => none) f (z + 43) (nI i) h = some ((), h') ∧ Fr z S68 h h' ∧ TW z 68 h' n (OW n (mG D) (cG D w v) (tG D w v u) 100000000 n) 100000000 := by
    intro d
    induction d with
    | zero =>
      intro i f h hi hf hR hC hl
      obtain ⟨f, rfl⟩ : ∃ k, f = k + 1 := ⟨f - 1, by omega⟩
      have hT0 : TW z 68 h n (OW n (mG D) (cG D w v) (tG D w v u) 100000000 0) 100000000 := by
        refine ⟨fun q hq => ?_, rfl, fun q h1 h2 => ?_, fun q => OW_W hn 0 q, by decide, hn⟩
        · rw [hl q (by omega)]
          show (100000000 : Int32) = nI (if q = 41 then 0 else 100000000)
          rw [if_neg (by omega)]
          rfl
        · show (if q = 41 then 0 else 100000000) = 100000000
          rw [if_neg h2]
      obtain ⟨h', j1, j2, j3⟩ := m_rounds_M (w := w) (v := v) (u := u) rfl n NF 0 h _ (by omega) (by have := NF_big; omega) hR hT0 hC (fun q => OW_le hn (Nat.zero_le n) q) (fun q => Nat.le_refl _)
      refine ⟨h', ?_, j2, j3⟩
      rw [fx_s]
      have e40 : (40 : Int32) ≤ nI i := nI_le (a := 40) (by omega) (by omega)
      simp only [bX11_layLeast_2, if_pos e40]
      exact j1
    | succ d ih =>
      intro i f h hi hf hR hC hl
      obtain ⟨f, rfl⟩ : ∃ k, f = k + 1 := ⟨f - 1, by omega⟩
      have hF := hR.1
      have f1 : Fr z S68 h (hp_si h (z + 68) i 100000000) := Fr.si (by decide) rfl
      obtain ⟨h', j1, j2, j3⟩ := ih (i + 1) f (hp_si h (z + 68) i 100000000) (by omega) (by omega) (f1.relM S68_ess hR) (hC.fr f1 (fun _ => rfl)) (fun q hq => by
        show u2 _ _ _ _ _ _ = _
        rw [u2_at]
        by_cases e : q = i
        · rw [if_pos ⟨rfl, e⟩]
        · rw [if_neg (fun r => e r.2)]; exact hl q (by omega))
      refine ⟨h', ?_, f1.tr j2, j3⟩
      have e40 : ¬ (40 : Int32) ≤ nI i := nI_ge (b := 40) (by omega) (by decide)
      rw [fx_s]
      simp only [bX11_layLeast_2, if_neg e40, fk_43 hF, gk_s, fr_43_36 hF, bd_s, fk_68 hF, fl_68 hF, gd_e (ix_nI (p := i) (N := 40) (by omega) (by decide)), nI_clamp (n := i) (by omega), nm_d, nI_1]
      exact j1
  exact key 40 0 NF h (by omega) (by have := NF_big; omega) hR hC (fun q hq => absurd hq (Nat.not_lt_zero q))
end
section
variable {z : Nat} {h : Hp} {D : Nat → Nat → Int32} {n ng : Nat} {pa ba : Nat → Nat} {la : Nat → Nat → Nat} {ca : Nat → Nat}
theorem ow_two_M (hR : RelM z h D n ng pa ba la ca) (w v u : Int32) (q : Nat) : (OW n (mG D) (cG D w v) (tG D w v u) 1000000 n q = 1000000 ∧ OW n (mG D) (cG D w v) (tG D w v u) 100000000 n q = 100000000 ∧ q ≠ 41) ∨ (OW n (mG D) (cG D w v) (tG D w v u) 1000000 n q = OW n (mG D) (cG D w v) (tG D w v u) 100000000 n q ∧ OW n (mG D) (cG D w v) (tG D w v u) 1000000 n q ≤ 4200 * n) :=
  OW_two (rb_n_M hR).2.2 (cG_le_M hR w v) n q (by have := (rb_n_M hR).2.2; omega) (by have := (rb_n_M hR).2.2; omega)
end
section
variable {z : Nat} {h : Hp} {D : Nat → Nat → Int32} {n ng : Nat} {pa ba : Nat → Nat} {la : Nat → Nat → Nat} {ca : Nat → Nat} {p s : Nat} {w v u : Int32} {kn : Bool} {T : Nat → Nat} {P : Nat}
theorem nxD_nxt_M (hR : RelM z h D n ng pa ba la ca) (hp : p < n) : nxt (nxD D w v u kn T p) := by
  have hP := pv_of_M hR hp
  obtain ⟨hs, h6⟩ := sz_toN_M hR hp
  unfold nxD
  split
  · split
    · rename_i q
      exact ln_nxt hP hs h6 q
    · exact hP.2.2.2.2.1
  split
  · exact nxH_nxt hP u
  split
  · exact nxN_nxt hP v
  · exact hP.2.2.2.2.1
end
section
variable {z : Nat} {h : Hp} {D : Nat → Nat → Int32} {n ng : Nat} {pa ba : Nat → Nat} {la : Nat → Nat → Nat} {ca : Nat → Nat} {p s : Nat} {w v u : Int32} {kn : Bool} {T : Nat → Nat} {P : Nat}
theorem dt_le_M (hR : RelM z h D n ng pa ba la ca) (hp : p < n) : dtD D w v kn T p ≤ 4200 := by
  have hP := pv_of_M hR hp
  obtain ⟨hs, h6⟩ := sz_toN_M hR hp
  obtain ⟨e45, a1, a2⟩ := nI_toN hP.2.1 (by decide)
  unfold dtD
  split
  · rename_i h0
    split
    · split
      · omega
      · rename_i q _
        obtain ⟨k, k1, k2, k3⟩ := tl_rg hP hs h6 (jD D w kn T p + 1) (by omega)
        rw [k3, toN_nI (by omega)]
        omega
    · obtain ⟨t, k, b, -, -, -, -, -, -, -, -, e, g1, g2⟩ := hr_rg hP h0 hs h6
      rw [e, toN_nI (by omega)]
      omega
  split
  · omega
  split
  · rename_i h4
    obtain ⟨j, j1, j2, j3⟩ := tr_rg hP h4 v (if kn = true then 1 else 0)
    rw [j3, toN_nI (by omega)]
    omega
  · omega
end
section
variable {z : Nat} {h : Hp} {D : Nat → Nat → Int32} {n ng : Nat} {pa ba : Nat → Nat} {la : Nat → Nat → Nat} {ca : Nat → Nat} {p s : Nat} {w v u : Int32} {kn : Bool} {T : Nat → Nat} {P : Nat}
theorem dt_pos_M (hR : RelM z h D n ng pa ba la ca) (hp : p < n) (h3 : D 44 p ≠ 3) (hx : tg (nxD D w v u kn T p) < n) {t : Nat} (ht : t2D D w v kn T P p t ≤ P) : t < t2D D w v kn T P p t := by
  have hP := pv_of_M hR hp
  obtain ⟨hs, h6⟩ := sz_toN_M hR hp
  have n40 := (rb_n_M hR).2.2
  unfold t2D at ht ⊢
  by_cases c : hkD D w kn T p = true ∧ t + dtD D w v kn T p ≤ P
  · rw [if_pos c]; omega
  · rw [if_neg c] at ht ⊢
    have hk : ¬ hkD D w kn T p = true := fun q => c ⟨q, ht⟩
    have : 1 ≤ dtD D w v kn T p := by
      unfold dtD
      rcases kd_of hP with r | r | r | r | r
      · rw [if_pos r]
        have hj : ¬ jD D w kn T p < toN (D 53 p) := fun q => hk (by unfold hkD; simp [r, q])
        rw [if_neg hj]
        obtain ⟨t, k, b, -, -, -, -, -, -, -, -, e, g1, g2⟩ := hr_rg hP r hs h6
        rw [e, toN_nI (by omega)]
        omega
      · exfalso
        unfold nxD at hx
        rw [r, if_neg (by decide), if_neg (by decide), if_neg (by decide), hP.2.2.2.2.2.2.2.2.2.2.1 r] at hx
        have : tg (-1) = 40 := rfl
        omega
      · rw [r, if_neg (by decide), if_neg (by decide), if_neg (by decide)]
        obtain ⟨b, b1, b2, b3⟩ := hP.2.2.1 (by rw [r]; decide) (by rw [r]; decide)
        rw [b3, toN_nI (by omega)]
        omega
      · exact absurd r h3
      · rw [r, if_neg (by decide), if_neg (by decide), if_pos rfl]
        obtain ⟨j, j1, j2, j3⟩ := tr_rg hP r v (if kn = true then 1 else 0)
        rw [j3, toN_nI (by omega)]
        omega
    omega
end
section
variable {z : Nat} {h : Hp} {D : Nat → Nat → Int32} {n ng : Nat} {pa ba : Nat → Nat} {la : Nat → Nat → Nat} {ca : Nat → Nat} {p s : Nat} {w v u : Int32} {kn : Bool} {T : Nat → Nat} {P : Nat}
theorem wk_end_M (hR : RelM z h D n ng pa ba la ca) (hP5 : P ≤ 5000) : ∀ (f p t c k cl : Nat) (se cm ks : Nat → Int32), p < n → t ≤ P → cl ≤ 40 → (P + 1 - t) * 42 < f + cl → ∃ r, wk D n w v u kn T P f p t c k cl se cm ks = some r := by
  intro f
  induction f with
  | zero =>
    intro p t c k cl se cm ks hp ht hcl hm
    exfalso
    have : 1 * 42 ≤ (P + 1 - t) * 42 := Nat.mul_le_mul_right 42 (by omega)
    omega
  | succ f ih =>
    intro p t c k cl se cm ks hp ht hcl hm
    unfold wk
    split
    · exact ⟨_, rfl⟩
    split
    · exact ⟨_, rfl⟩
    split
    · exact ⟨_, rfl⟩
    split
    · rename_i c1 c2 c3 c4
      refine ih _ _ _ _ _ _ _ _ c4 (by omega) (by omega) ?_
      by_cases h3 : D 44 p = 3
      · rw [t2_cl h3]
        have : clD D p cl = cl + 1 := by unfold clD; rw [if_pos h3]
        omega
      · have h1 := dt_pos_M hR hp h3 c4 (by omega : t2D D w v kn T P p t ≤ P)
        have h2 : (P + 1 - t2D D w v kn T P p t + 1) * 42 ≤ (P + 1 - t) * 42 := Nat.mul_le_mul_right 42 (by omega)
        omega
    · exact ⟨_, rfl⟩
end
section
variable {z : Nat} {h : Hp} {D : Nat → Nat → Int32} {n ng : Nat} {pa ba : Nat → Nat} {la : Nat → Nat → Nat} {ca : Nat → Nat} {p s : Nat} {w v u : Int32} {kn : Bool} {T U : Nat → Nat} {P : Nat} {l : Int32} {t c k cl m : Nat} {se cm ks : Nat → Int32}
def MoX_M (z : Nat) (h : Hp) (D : Nat → Nat → Int32) (n ng : Nat) (pa ba : Nat → Nat) (la : Nat → Nat → Nat) (ca : Nat → Nat) (kn : Bool) (T U : Nat → Nat) (w v u : Int32) (P : Nat) : Prop :=
  RelM z h D n ng pa ba la ca ∧ MoV z h w v u ∧ h.2.2.1 (z + 43) 34 = nI P ∧ P ≤ 5000 ∧ (kn = true → TW z 68 h n U 100000000 ∧ (∀ q, (T q = 1000000 ∧ U q = 100000000) ∨ (T q = U q ∧ T q ≤ 4200 * n)))
end
section
variable {z : Nat} {h : Hp} {D : Nat → Nat → Int32} {n ng : Nat} {pa ba : Nat → Nat} {la : Nat → Nat → Nat} {ca : Nat → Nat} {p s : Nat} {w v u : Int32} {kn : Bool} {T U : Nat → Nat} {P : Nat} {l : Int32} {t c k cl m : Nat} {se cm ks : Nat → Int32}
theorem MoX_M.fr {h h' : Hp} (hX : MoX_M z h D n ng pa ba la ca kn T U w v u P) (hS : Fr z Sm h h') : MoX_M z h' D n ng pa ba la ca kn T U w v u P := by
  obtain ⟨x1, ⟨x2, x3, x4⟩, x5, x6, x7⟩ := hX
  have rd := hS.2.2.2.2.1
  exact ⟨hS.relM Sm_ess x1, ⟨by rw [rd 43 32 (by decide) rfl]; exact x2, by rw [rd 43 33 (by decide) rfl]; exact x3, by rw [rd 43 35 (by decide) rfl]; exact x4⟩, by rw [rd 43 34 (by decide) rfl]; exact x5, x6, fun q => ⟨(x7 q).1.fr hS (by decide) (fun _ => rfl), (x7 q).2⟩⟩
end
section
variable {z : Nat} {h : Hp} {D : Nat → Nat → Int32} {n ng : Nat} {pa ba : Nat → Nat} {la : Nat → Nat → Nat} {ca : Nat → Nat} {p s : Nat} {w v u : Int32} {kn : Bool} {T U : Nat → Nat} {P : Nat} {l : Int32} {t c k cl m : Nat} {se cm ks : Nat → Int32}
theorem m_goOn_k_M (hX : MoX_M z h D n ng pa ba la ca kn T U w v u P) (hk1 : kn = true) (hp : p < n) (h0 : D 44 p = 0) (hTp : T p < 1000000) (ht : t ≤ P) (hk : k < 1000000) (hS : MS z h t l c k cl se cm ks) :
    ∃ h', fX11_goOn (z + 43) (nI p) 1 h = some (nxD D w v u kn T p, h') ∧ Fr z Sm h h' ∧ MS z h' (t2D D w v kn T P p t) l c (k2D D w v kn T P p t k) cl se cm (ksD D w v kn T P p t k ks) := by
  have hR := hX.1
  have hF := hR.1
  have hP := pv_of_M hR hp
  have n40 := (rb_n_M hR).2.2
  obtain ⟨hs, h6⟩ := sz_toN_M hR hp
  obtain ⟨hU, hTU⟩ := hX.2.2.2.2 hk1
  have P5 := hX.2.2.2.1
  have h34 := hX.2.2.1
  obtain ⟨j, ej⟩ : ∃ j, j = jD D w kn T p := ⟨_, rfl⟩
  have j1 : j ≤ toN (D 53 p) := by rw [ej]; exact fa_first_le _ _
  have j2 : ∀ i, i < j → ¬ 1 + T (tg (D 57 (6 * p + i))) = T p := fun i hi => by
    have := fa_first_no _ (toN (D 53 p)) i (by rw [ej] at hi; exact hi)
    simp only [hk1, if_true] at this
    exact of_decide_eq_false this
  have j3 : j < toN (D 53 p) → 1 + T (tg (D 57 (6 * p + j))) = T p := fun hj => by
    have := fa_first_yes _ (toN (D 53 p)) (by rw [ej] at hj; exact hj)
    simp only [hk1, if_true] at this
    rw [ej]
    simp only [jD, hk1, if_true]
    exact of_decide_eq_true this
  obtain ⟨t', k', b', -, -, -, -, -, -, -, -, ehr, g1, g2⟩ := hr_rg hP h0 hs h6
  have e53 : h.2.2.1 (z + 53) p = nI (toN (D 53 p)) := by rw [rb_ess_M hR 53 p (by decide) rfl]; exact hs
  have q0 : ix (nI p) 40 = true := ix_nI (by omega) (by decide)
  have q1 : (nI p).toNatClampNeg = p := nI_clamp (by omega)
  have u68 : h.2.2.1 (z + 68) p = nI (U p) := hU.1 p (by omega)
  have hUW := hU.2.2.2.1
  have key : ∀ (d i f : Nat), i + d = j → d < f → ∃ h', fx bX11_goOn_13 (fun _ _ _ _ _ => none) f (z + 43) (nI p) (hrD D p (toN (D 53 p))) (nI i) h = some (nxD D w v u kn T p, h') ∧ Fr z Sm h h' ∧ MS z h' (t2D D w v kn T P p t) l c (k2D D w v kn T P p t k) cl se cm (ksD D w v kn T P p t k ks) := by
    intro d
    induction d with
    | zero =>
      intro i f hi hf
      obtain ⟨f, rfl⟩ : ∃ k, f = k + 1 := ⟨f - 1, by omega⟩
      obtain rfl : i = j := by omega
      by_cases q : i < toN (D 53 p)
      · have hhk : hkD D w kn T p = true := by unfold hkD; rw [← ej]; simp [h0, q]
        have hnx : nxD D w v u kn T p = D 57 (6 * p + i) := by unfold nxD; rw [if_pos h0, ← ej, if_pos q]
        have hd : dtD D w v kn T p = 0 := by unfold dtD; rw [if_pos h0, ← ej, if_pos q, if_pos hk1]
        obtain ⟨h', e1, f1, c1⟩ := m_press hF h34 P5 (by omega) hk (D 55 (6 * p + i)) hS
        have hR' := f1.relM Sm_ess hR
        have hF' := hR'.1
        have x1 : t2D D w v kn T P p t = t + 1 := by unfold t2D; rw [hd, if_pos ⟨hhk, by omega⟩]
        have x2 : k2D D w v kn T P p t k = k + 1 := by unfold k2D; rw [hd, if_pos ⟨hhk, by omega⟩]
        have x3 : ksD D w v kn T P p t k ks = va_up ks k (D 55 (6 * p + i)) := by unfold ksD; rw [hd, if_pos ⟨hhk, by omega⟩, ← ej]
        simp only [if_pos ht] at c1
        refine ⟨h', ?_, f1, by rw [x1, x2, x3]; exact c1⟩
        have hth := m_through_M hR hU rfl (ln_nxt hP hs h6 q) 1
        have heq : nI (thr 100000000 1 (U (tg (D 57 (6 * p + i))))) = nI (U p) := by rw [(same_line n40 hTU hTp).mpr (j3 q)]
        rw [heq] at hth
        rw [fx_s]
        simp only [bX11_goOn_13, fk_43 hF, gk_s, fr_43_10 hF, bd_s, fk_53 hF, fl_53 hF, gd_e q0, q1, e53, if_neg (nI_ge q (by omega)), fr_43_14 hF, fk_57 hF, fl_57 hF, i6, gd_e (ix_nI (p := 6 * p + i) (N := 240) (by omega) (by decide)), nI_clamp (n := 6 * p + i) (by omega), rb_ess_M hR 57 (6 * p + i) (by decide) rfl, one_nI, hth, b2_s, fr_43_36 hF, fk_68 hF, fl_68 hF, u68, if_pos, fr_43_12 hF, fk_55 hF, fl_55 hF, rb_ess_M hR 55 (6 * p + i) (by decide) rfl, e1, fk_43 hF', fr_43_14 hF', fk_57 hF', fl_57 hF', rb_ess_M hR' 57 (6 * p + i) (by decide) rfl, hnx]
      · have hhk : hkD D w kn T p = false := by unfold hkD; rw [← ej]; simp [q]
        have hnx : nxD D w v u kn T p = D 47 p := by unfold nxD; rw [if_pos h0, ← ej, if_neg q]
        have hd : dtD D w v kn T p = t' * (k' + b') := by unfold dtD; rw [if_pos h0, ← ej, if_neg q, ehr, toN_nI (by omega)]
        have x1 : t2D D w v kn T P p t = t + t' * (k' + b') := by unfold t2D; rw [hd, hhk, if_neg (by simp)]
        have x2 : k2D D w v kn T P p t k = k := by unfold k2D; rw [hhk, if_neg (by simp)]
        have x3 : ksD D w v kn T P p t k ks = ks := by unfold ksD; rw [hhk, if_neg (by simp)]
        have r47 : (hp_si h (z + 43) 37 (nI (t + t' * (k' + b')))).2.2.1 (z + 47) p = D 47 p := by rw [si_3, u2_at, if_neg (by omega)]; exact rb_ess_M hR 47 p (by decide) rfl
        refine ⟨hp_si h (z + 43) 37 (nI (t + t' * (k' + b'))), ?_, Fr.si (by decide) rfl, by rw [x1, x2, x3]; exact hS.tk⟩
        rw [fx_s]
        simp only [bX11_goOn_13, fk_43 hF, gk_s, fr_43_10 hF, bd_s, fk_53 hF, fl_53 hF, gd_e q0, q1, e53, if_pos (nI_le (show toN (D 53 p) ≤ i by omega) (by omega)), hS.1, ehr, nI_add, nm_d, si_4, si_1, si_2, fr_43_4 hF, fk_47 hF, fl_47 hF, r47, hnx]
    | succ d ih =>
      intro i f hi hf
      obtain ⟨f, rfl⟩ : ∃ k, f = k + 1 := ⟨f - 1, by omega⟩
      have q : i < toN (D 53 p) := by omega
      have hth := m_through_M hR hU rfl (ln_nxt hP hs h6 q) 1
      have tu := hUW (tg (D 57 (6 * p + i)))
      have tp := hUW p
      have hne : ¬ nI (thr 100000000 1 (U (tg (D 57 (6 * p + i))))) = nI (U p) := fun r => by
        have := (nI_eq (by unfold thr; split <;> omega) (by omega)).mp r
        exact j2 i (by omega) ((same_line n40 hTU hTp).mp this)
      obtain ⟨h', e1, f1, c1⟩ := ih (i + 1) f (by omega) (by omega)
      refine ⟨h', ?_, f1, c1⟩
      rw [fx_s]
      simp only [bX11_goOn_13, fk_43 hF, gk_s, fr_43_10 hF, bd_s, fk_53 hF, fl_53 hF, gd_e q0, q1, e53, if_neg (nI_ge q (by omega)), fr_43_14 hF, fk_57 hF, fl_57 hF, i6, gd_e (ix_nI (p := 6 * p + i) (N := 240) (by omega) (by decide)), nI_clamp (n := 6 * p + i) (by omega), rb_ess_M hR 57 (6 * p + i) (by decide) rfl, one_nI, hth, b2_s, fr_43_36 hF, fk_68 hF, fl_68 hF, u68, if_neg hne, nm_d, nI_add]
      exact e1
  obtain ⟨h', e1, f1, c1⟩ := key j 0 NF (by omega) (by have := NF_big; omega)
  refine ⟨h', ?_, f1, c1⟩
  simp only [fX11_goOn, if_neg (show ¬ (1 : Int32) = 0 by decide), fk_43 hF, gk_s, m_heard_M hR hp hs h6, b2_s]
  exact e1
end
section
variable {z : Nat} {h : Hp} {D : Nat → Nat → Int32} {n ng : Nat} {pa ba : Nat → Nat} {la : Nat → Nat → Nat} {ca : Nat → Nat} {p s : Nat} {w v u : Int32} {kn : Bool} {T U : Nat → Nat} {P : Nat} {l : Int32} {t c k cl m : Nat} {se cm ks : Nat → Int32}
theorem m_goOn_l_M (hk1 : kn = false) (hp : p < n) (h0 : D 44 p = 0) (ht : t ≤ P) (hk : k < 1000000) (P5 : P ≤ 5000) {j : Nat} (ej : j = jD D w kn T p) : ∀ (d i f : Nat) (h : Hp), MoX_M z h D n ng pa ba la ca kn T U w v u P → i + d = j → d < f → (∃ x, x ≤ 200 * i ∧ tlD D p i = nI x ∧ MS z h (t + x) l c k cl se cm ks) →
    ∃ h', fx bX11_goOn_104 (fun _ _ _ _ => none) f (z + 43) (nI p) (nI i) h = some (nxD D w v u kn T p, h') ∧ Fr z Sm h h' ∧ MS z h' (t2D D w v kn T P p t) l c (k2D D w v kn T P p t k) cl se cm (ksD D w v kn T P p t k ks) := by
  have j2 : ∀ i, i < j → ¬ bitD (D 56 (6 * p + i)) w := fun i hi => by
    have := fa_first_no _ (toN (D 53 p)) i (by rw [ej] at hi; exact hi)
    simp only [hk1, Bool.false_eq_true, if_false] at this
    exact of_decide_eq_false this
  have j3 : j < toN (D 53 p) → bitD (D 56 (6 * p + j)) w := fun hj => by
    have := fa_first_yes _ (toN (D 53 p)) (by rw [ej] at hj; exact hj)
    simp only [hk1, Bool.false_eq_true, if_false] at this
    rw [ej]
    simp only [jD, hk1, Bool.false_eq_true, if_false]
    exact of_decide_eq_true this
  have j1 : j ≤ toN (D 53 p) := by rw [ej]; exact fa_first_le _ _
  intro d
  induction d with
  | zero =>
    intro i f h hX hi hf hx
    obtain ⟨f, rfl⟩ : ∃ k, f = k + 1 := ⟨f - 1, by omega⟩
    obtain rfl : i = j := by omega
    obtain ⟨x, xb, ex, hS⟩ := hx
    have hR := hX.1
    have hF := hR.1
    have hP := pv_of_M hR hp
    have n40 := (rb_n_M hR).2.2
    obtain ⟨hs, h6⟩ := sz_toN_M hR hp
    have e53 : h.2.2.1 (z + 53) p = nI (toN (D 53 p)) := by rw [rb_ess_M hR 53 p (by decide) rfl]; exact hs
    have q0 : ix (nI p) 40 = true := ix_nI (by omega) (by decide)
    have q1 : (nI p).toNatClampNeg = p := nI_clamp (by omega)
    have h34 := hX.2.2.1
    by_cases q : i < toN (D 53 p)
    · have hhk : hkD D w kn T p = true := by unfold hkD; rw [← ej]; simp [h0, q]
      have hnx : nxD D w v u kn T p = D 57 (6 * p + i) := by unfold nxD; rw [if_pos h0, ← ej, if_pos q]
      obtain ⟨y, y1, y2, y3⟩ := tl_rg hP hs h6 (i + 1) (by omega)
      obtain ⟨⟨m, m1, m2, m3⟩, -⟩ := hP.2.2.2.2.2.2.2.2.2.2.2 i (by omega) (by rw [hs]; exact nI_lt (by omega) (by omega))
      have hy : y = x + m := by
        have e : tlD D p (i + 1) = tlD D p i + D 54 (6 * p + i) := rfl
        rw [ex, m3, nI_add, y3] at e
        exact (nI_eq (by omega) (by omega)).mp e
      have hd : dtD D w v kn T p = y := by unfold dtD; rw [if_pos h0, ← ej, if_pos q, if_neg (by rw [hk1]; decide), y3, toN_nI (by omega)]
      obtain ⟨g, eg⟩ : ∃ g, g = hp_si h (z + 43) 37 (nI (t + y)) := ⟨_, rfl⟩
      have fg : Fr z Sm h g := by rw [eg]; exact Fr.si (by decide) rfl
      have hXg := hX.fr fg
      have hFg := hXg.1.1
      have hSg : MS z g (t + y) l c k cl se cm ks := by rw [eg]; exact hS.tk
      obtain ⟨h', e1, f1, c1⟩ := m_press hFg hXg.2.2.1 P5 (by omega) hk (D 55 (6 * p + i)) hSg
      have hR' := f1.relM Sm_ess hXg.1
      have hF' := hR'.1
      refine ⟨h', ?_, fg.tr f1, ?_⟩
      · have e37 : nI (t + x) + D 54 (6 * p + i) = nI (t + y) := by rw [m3, nI_add, hy, Nat.add_assoc]
        have g32 : g.2.2.1 (z + 43) 32 = w := hXg.2.1.1
        rw [fx_s]
        simp only [bX11_goOn_104, fk_43 hF, gk_s, fr_43_10 hF, bd_s, fk_53 hF, fl_53 hF, gd_e q0, q1, e53, if_neg (nI_ge q (by omega)), fr_43_11 hF, fk_54 hF, fl_54 hF, i6, gd_e (ix_nI (p := 6 * p + i) (N := 240) (by omega) (by decide)), nI_clamp (n := 6 * p + i) (by omega), rb_ess_M hR 54 (6 * p + i) (by decide) rfl, nm_d, hS.1, e37, ← eg, fr_43_13 hFg, fk_56 hFg, fl_56 hFg, rb_ess_M hXg.1 56 (6 * p + i) (by decide) rfl, g32, bit1, if_pos (j3 q), fr_43_12 hFg, fk_55 hFg, fl_55 hFg, rb_ess_M hXg.1 55 (6 * p + i) (by decide) rfl, e1, b2_s, fk_43 hF', fr_43_14 hF', fk_57 hF', fl_57 hF', rb_ess_M hR' 57 (6 * p + i) (by decide) rfl, hnx]
      · by_cases qq : t + y ≤ P
        · simp only [if_pos qq] at c1
          have x1 : t2D D w v kn T P p t = t + y + 1 := by unfold t2D; rw [hd, if_pos ⟨hhk, qq⟩]
          have x2 : k2D D w v kn T P p t k = k + 1 := by unfold k2D; rw [hd, if_pos ⟨hhk, qq⟩]
          have x3 : ksD D w v kn T P p t k ks = va_up ks k (D 55 (6 * p + i)) := by unfold ksD; rw [hd, if_pos ⟨hhk, qq⟩, ← ej]
          rw [x1, x2, x3]
          exact c1
        · simp only [if_neg qq] at c1
          have x1 : t2D D w v kn T P p t = t + y := by unfold t2D; rw [hd, if_neg (fun r => qq r.2)]
          have x2 : k2D D w v kn T P p t k = k := by unfold k2D; rw [hd, if_neg (fun r => qq r.2)]
          have x3 : ksD D w v kn T P p t k ks = ks := by unfold ksD; rw [hd, if_neg (fun r => qq r.2)]
          rw [x1, x2, x3]
          exact c1
    · have hhk : hkD D w kn T p = false := by unfold hkD; rw [← ej]; simp [q]
      have hnx : nxD D w v u kn T p = D 47 p := by unfold nxD; rw [if_pos h0, ← ej, if_neg q]
      obtain ⟨t', k', b', t1, t2, e46, ek, k1, b1, b2, e45, ehr, g1, g2⟩ := hr_rg hP h0 hs h6
      have hd : dtD D w v kn T p = t' * (k' + b') := by unfold dtD; rw [if_pos h0, ← ej, if_neg q, ehr, toN_nI (by omega)]
      have x1 : t2D D w v kn T P p t = t + t' * (k' + b') := by unfold t2D; rw [hd, hhk, if_neg (by simp)]
      have x2 : k2D D w v kn T P p t k = k := by unfold k2D; rw [hhk, if_neg (by simp)]
      have x3 : ksD D w v kn T P p t k ks = ks := by unfold ksD; rw [hhk, if_neg (by simp)]
      have hxk : x = k' := by
        rw [show i = toN (D 53 p) by omega, ek] at ex
        exact ((nI_eq (by omega) (by omega)).mp ex).symm
      have hdiv : nI (t' * (k' + b')) / nI t' = nI (k' + b') := by
        rw [pk_div (by omega) (by omega) (by omega), Nat.mul_div_cancel_left _ (by omega)]
      have hg : nI (t + x) - nI (t' * (k' + b')) / nI t' + nI b' + nI (t' * (k' + b')) = nI (t + t' * (k' + b')) := by
        rw [hdiv, hxk, ← nI_add t k', ← nI_add k' b', i_alg, nI_add]
      have hz46 : decide (¬ nI t' = 0) = true := decide_eq_true (nI_ne0 (by omega) (by omega))
      have r47 : (hp_si h (z + 43) 37 (nI (t + t' * (k' + b')))).2.2.1 (z + 47) p = D 47 p := by rw [si_3, u2_at, if_neg (by omega)]; exact rb_ess_M hR 47 p (by decide) rfl
      refine ⟨hp_si h (z + 43) 37 (nI (t + t' * (k' + b'))), ?_, Fr.si (by decide) rfl, by rw [x1, x2, x3]; exact hS.tk⟩
      rw [fx_s]
      simp only [bX11_goOn_104, fk_43 hF, gk_s, fr_43_10 hF, bd_s, fk_53 hF, fl_53 hF, gd_e q0, q1, e53, if_pos (nI_le (show toN (D 53 p) ≤ i by omega) (by omega)), m_heard_M hR hp hs h6, b2_s, fr_43_3 hF, fk_46 hF, fl_46 hF, rb_ess_M hR 46 p (by decide) rfl, e46, gd_e hz46, fr_43_2 hF, fk_45 hF, fl_45 hF, rb_ess_M hR 45 p (by decide) rfl, e45, hS.1, ehr, hg, nm_d, si_4, si_1, si_2, fr_43_4 hF, fk_47 hF, fl_47 hF, r47, hnx]
  | succ d ih =>
    intro i f h hX hi hf hx
    obtain ⟨f, rfl⟩ : ∃ k, f = k + 1 := ⟨f - 1, by omega⟩
    obtain ⟨x, xb, ex, hS⟩ := hx
    have hR := hX.1
    have hF := hR.1
    have hP := pv_of_M hR hp
    have n40 := (rb_n_M hR).2.2
    obtain ⟨hs, h6⟩ := sz_toN_M hR hp
    have q : i < toN (D 53 p) := by omega
    have e53 : h.2.2.1 (z + 53) p = nI (toN (D 53 p)) := by rw [rb_ess_M hR 53 p (by decide) rfl]; exact hs
    have q0 : ix (nI p) 40 = true := ix_nI (by omega) (by decide)
    have q1 : (nI p).toNatClampNeg = p := nI_clamp (by omega)
    obtain ⟨⟨m, m1, m2, m3⟩, -⟩ := hP.2.2.2.2.2.2.2.2.2.2.2 i (by omega) (by rw [hs]; exact nI_lt (by omega) (by omega))
    have e37 : nI (t + x) + D 54 (6 * p + i) = nI (t + (x + m)) := by rw [m3, nI_add, Nat.add_assoc]
    obtain ⟨g, eg⟩ : ∃ g, g = hp_si h (z + 43) 37 (nI (t + (x + m))) := ⟨_, rfl⟩
    have fg : Fr z Sm h g := by rw [eg]; exact Fr.si (by decide) rfl
    have hXg := hX.fr fg
    have hFg := hXg.1.1
    have hSg : MS z g (t + (x + m)) l c k cl se cm ks := by rw [eg]; exact hS.tk
    have g32 : g.2.2.1 (z + 43) 32 = w := hXg.2.1.1
    obtain ⟨h', e1, f1, c1⟩ := ih (i + 1) f g hXg (by omega) (by omega) ⟨x + m, by omega, by show tlD D p i + D 54 (6 * p + i) = _; rw [ex, m3, nI_add], hSg⟩
    refine ⟨h', ?_, fg.tr f1, c1⟩
    rw [fx_s]
    simp only [bX11_goOn_104, fk_43 hF, gk_s, fr_43_10 hF, bd_s, fk_53 hF, fl_53 hF, gd_e q0, q1, e53, if_neg (nI_ge q (by omega)), fr_43_11 hF, fk_54 hF, fl_54 hF, i6, gd_e (ix_nI (p := 6 * p + i) (N := 240) (by omega) (by decide)), nI_clamp (n := 6 * p + i) (by omega), rb_ess_M hR 54 (6 * p + i) (by decide) rfl, nm_d, hS.1, e37, ← eg, fr_43_13 hFg, fk_56 hFg, fl_56 hFg, rb_ess_M hXg.1 56 (6 * p + i) (by decide) rfl, g32, bit1, if_neg (j2 i (by omega)), nI_1]
    exact e1
end
section
variable {z : Nat} {h : Hp} {D : Nat → Nat → Int32} {n ng : Nat} {pa ba : Nat → Nat} {la : Nat → Nat → Nat} {ca : Nat → Nat} {p s : Nat} {w v u : Int32} {kn : Bool} {T U : Nat → Nat} {P : Nat} {l : Int32} {t c k cl m : Nat} {se cm ks : Nat → Int32}
theorem m_goOn_M (hX : MoX_M z h D n ng pa ba la ca kn T U w v u P) (hp : p < n) (h0 : D 44 p = 0) (hTp : kn = true → T p < 1000000) (ht : t ≤ P) (hk : k < 1000000) (hS : MS z h t l c k cl se cm ks) :
    ∃ h', fX11_goOn (z + 43) (nI p) (if kn = true then 1 else 0) h = some (nxD D w v u kn T p, h') ∧ Fr z Sm h h' ∧ MS z h' (t2D D w v kn T P p t) l c (k2D D w v kn T P p t k) cl se cm (ksD D w v kn T P p t k ks) := by
  cases hkn : kn
  · obtain ⟨h', e1, f1, c1⟩ := m_goOn_l_M (v := v) (u := u) (U := U) hkn hp h0 ht hk hX.2.2.2.1 rfl (jD D w kn T p) 0 NF h hX (by omega) (by
      have h1 := (sz_toN_M hX.1 hp).2
      have h2 : jD D w kn T p ≤ toN (D 53 p) := fa_first_le _ _
      have := NF_big
      omega) ⟨0, by omega, rfl, hS⟩
    rw [hkn] at e1 c1
    refine ⟨h', ?_, f1, c1⟩
    simp only [fX11_goOn, Bool.false_eq_true, if_false, if_true]
    exact e1
  · obtain ⟨h', e1, f1, c1⟩ := m_goOn_k_M hX hkn hp h0 (hTp hkn) ht hk hS
    rw [hkn] at e1 c1
    exact ⟨h', by simp only [if_true]; exact e1, f1, c1⟩
end
section
variable {z : Nat} {h : Hp} {D : Nat → Nat → Int32} {n ng : Nat} {pa ba : Nat → Nat} {la : Nat → Nat → Nat} {ca : Nat → Nat} {p s : Nat} {w v u : Int32} {kn : Bool} {T U : Nat → Nat} {P : Nat} {l : Int32} {t c k cl m : Nat} {se cm ks : Nat → Int32}
theorem m_221_M (hX : MoX_M z h D n ng pa ba la ca kn T U w v u P) {x sv : Int32} (hx : nxt x) (ht : t ≤ 100000) (hc : c < 1000000) (hS : MS z h t (nI p) c k cl se cm ks) :
    ∃ o h', fX11_step_221 (z + 43) x sv h = some (o, h') ∧ Fr z Sm h h' ∧
      (if P < t then o = 2 ∧ MS z h' P (nI p) c k cl se cm ks else if sv ≠ 0 then o = 0 ∧ MS z h' t (nI p) c k cl se cm ks
        else if tg x < n then o = -4 ∧ MS z h' t (nI (tg x)) (c + 1) k cl (va_up se (tg x) 1) (va_up cm c (nI (tg x))) ks else o = 1 ∧ MS z h' t (nI p) c k cl se cm ks) := by
  have hR := hX.1
  have hF := hR.1
  obtain ⟨n1, n2, n40⟩ := rb_n_M hR
  have P5 := hX.2.2.2.1
  have h34 := hX.2.2.1
  by_cases q1 : P < t
  · refine ⟨2, hp_si h (z + 43) 37 (nI P), ?_, Fr.si (by decide) rfl, ?_⟩
    · simp only [fX11_step_221, fk_43 hF, gk_s, hS.1, h34, if_neg (nI_ge q1 (by omega)), nm_d]
    · rw [if_pos q1]; exact ⟨rfl, hS.tk⟩
  have q1' : nI t ≤ nI P := nI_le (by omega) (by omega)
  by_cases q2 : sv = 0
  · by_cases q3 : tg x < n
    · have ex := (tg_in hx).2.1 (by omega)
      obtain ⟨h', e1, f1, c1⟩ := m_comes (p := tg x) hF (by omega) hc hS
      refine ⟨-4, h', ?_, f1, ?_⟩
      · rw [← ex] at e1
        have e2 := m_isPlace_t hF n2 n40 q3
        rw [← ex] at e2
        simp only [fX11_step_221, fk_43 hF, gk_s, hS.1, h34, if_pos q1', if_pos q2, e2, b2_s, if_neg (show ¬ (1 : Int32) = 0 by decide), e1]
      · rw [if_neg q1, if_neg (not_not_intro q2), if_pos q3]; exact ⟨rfl, c1⟩
    · refine ⟨1, h, ?_, Fr.rf, ?_⟩
      · simp only [fX11_step_221, fk_43 hF, gk_s, hS.1, h34, if_pos q1', if_pos q2, m_isPlace_f hF n2 n40 (not_place (x := x) (by omega) n40), b2_s, if_true]
      · rw [if_neg q1, if_neg (not_not_intro q2), if_neg q3]; exact ⟨rfl, hS⟩
  · refine ⟨0, h, ?_, Fr.rf, ?_⟩
    · simp only [fX11_step_221, fk_43 hF, gk_s, hS.1, h34, if_pos q1', if_neg q2]
    · rw [if_neg q1, if_pos q2]; exact ⟨rfl, hS⟩
end
section
variable {z : Nat} {h : Hp} {D : Nat → Nat → Int32} {n ng : Nat} {pa ba : Nat → Nat} {la : Nat → Nat → Nat} {ca : Nat → Nat} {p s : Nat} {w v u : Int32} {kn : Bool} {T U : Nat → Nat} {P : Nat} {l : Int32} {t c k cl m : Nat} {se cm ks : Nat → Int32}
theorem m_step_M (hX : MoX_M z h D n ng pa ba la ca kn T U w v u P) (hp : p < n) (hTp : kn = true → T p < 1000000) (ht : t ≤ P) (hc : c < 1000000) (hk : k < 1000000) (hcl : cl ≤ 40) (hS : MS z h t (nI p) c k cl se cm ks) :
    ∃ o h', fX11_step (z + 43) (if kn = true then 1 else 0) h = some (o, h') ∧ Fr z Sm h h' ∧ MO z h' o D n w v u kn T P p t c k cl se cm ks := by
  have hR := hX.1
  have hF := hR.1
  have hP := pv_of_M hR hp
  obtain ⟨n1, n2, n40⟩ := rb_n_M hR
  have P5 := hX.2.2.2.1
  have q0 : ix (nI p) 40 = true := ix_nI (by omega) (by decide)
  have q1 : (nI p).toNatClampNeg = p := nI_clamp (by omega)
  have l38 := hS.2.1
  have l41 := hS.2.2.2.2.1
  have e44 := rb_ess_M hR 44 p (by decide) rfl
  obtain ⟨g, eg⟩ : ∃ g, g = hp_si h (z + 43) 41 (nI (clD D p cl)) := ⟨_, rfl⟩
  have fg : Fr z Sm h g := by rw [eg]; exact Fr.si (by decide) rfl
  have hXg := hX.fr fg
  have hRg := hXg.1
  have hFg := hRg.1
  have hSg : MS z g t (nI p) c k (clD D p cl) se cm ks := by rw [eg]; exact hS.ck
  have g44 := rb_ess_M hRg 44 p (by decide) rfl
  have g41 : g.2.2.1 (z + 43) 41 = nI (clD D p cl) := hSg.2.2.2.2.1
  have clb : clD D p cl ≤ 41 := by unfold clD; split <;> omega
  have st : fX11_step (z + 43) (if kn = true then 1 else 0) h = fX11_step_31 (z + 43) (if kn = true then 1 else 0) (nI p) 0 (nI (clD D p cl)) (z + 43) h := by
    by_cases r : D 44 p = 3
    · simp only [fX11_step, fk_43 hF, gk_s, nm_d, fr_43_1 hF, bd_s, fk_44 hF, fl_44 hF, l38, gd_e q0, q1, e44, if_pos r, l41, nI_1]
      rw [show clD D p cl = cl + 1 by unfold clD; rw [if_pos r]]
    · simp only [fX11_step, fk_43 hF, gk_s, nm_d, fr_43_1 hF, bd_s, fk_44 hF, fl_44 hF, l38, gd_e q0, q1, e44, if_neg r]
      rw [show clD D p cl = 0 by unfold clD; rw [if_neg r]]
      rfl
  rw [st]
  unfold MO
  by_cases c1 : 40 < clD D p cl
  · refine ⟨3, g, ?_, fg, by rw [if_pos c1]; exact ⟨rfl, hSg⟩⟩
    simp only [fX11_step_31, fk_43 hF, gk_s, nm_d, ← eg, fk_43 hFg, g41, if_neg (show ¬ nI (clD D p cl) ≤ 40 from nI_ge (a := 40) c1 (by omega))]
  have c1' : nI (clD D p cl) ≤ 40 := nI_le (b := 40) (by omega) (by decide)
  have hdt := dt_le_M (w := w) (v := v) (kn := kn) (T := T) hR hp
  have ht2 : t2D D w v kn T P p t ≤ 10000 := by unfold t2D; split <;> omega
  have hnx := nxD_nxt_M (w := w) (v := v) (u := u) (kn := kn) (T := T) hR hp
  simp only [if_neg c1]
  -- what is left, once the ticks are known
  have fin : ∀ (g2 : Hp) (x sv : Int32), Fr z Sm g g2 → MS z g2 (t2D D w v kn T P p t) (nI p) c (k2D D w v kn T P p t k) (clD D p cl) se cm (ksD D w v kn T P p t k ks) → x = nxD D w v u kn T p → (sv ≠ 0 ↔ svD D w p = true) →
      fX11_step_31 (z + 43) (if kn = true then 1 else 0) (nI p) 0 (nI (clD D p cl)) (z + 43) h = fX11_step_221 (z + 43) x sv g2 →
      ∃ o h', fX11_step_31 (z + 43) (if kn = true then 1 else 0) (nI p) 0 (nI (clD D p cl)) (z + 43) h = some (o, h') ∧ Fr z Sm h h' ∧ (if P < t2D D w v kn T P p t then o = 2 ∧ MS z h' P (nI p) c (k2D D w v kn T P p t k) (clD D p cl) se cm (ksD D w v kn T P p t k ks)
  else if svD D w p = true then o = 0 ∧ MS z h' (t2D D w v kn T P p t) (nI p) c (k2D D w v kn T P p t k) (clD D p cl) se cm (ksD D w v kn T P p t k ks)
  else if tg (nxD D w v u kn T p) < n then o = -4 ∧ MS z h' (t2D D w v kn T P p t) (nI (tg (nxD D w v u kn T p))) (c + 1) (k2D D w v kn T P p t k) (clD D p cl) (va_up se (tg (nxD D w v u kn T p)) 1) (va_up cm c (nI (tg (nxD D w v u kn T p)))) (ksD D w v kn T P p t k ks)
  else o = 1 ∧ MS z h' (t2D D w v kn T P p t) (nI p) c (k2D D w v kn T P p t k) (clD D p cl) se cm (ksD D w v kn T P p t k ks)) := by
    intro g2 x sv f2 s2 hx hsv he
    obtain ⟨o, h', e1, f1, r1⟩ := m_221_M (x := x) (sv := sv) (hXg.fr f2) (by rw [hx]; exact hnx) (by omega) hc s2
    refine ⟨o, h', he.trans e1, (fg.tr f2).tr f1, ?_⟩
    rw [hx] at r1
    simp only [hsv] at r1
    exact r1
  rcases kd_of hP with r | r | r | r | r
  · obtain ⟨g2, e2, f2, s2⟩ := m_goOn_M hXg hp r hTp ht hk hSg
    refine fin g2 _ 0 f2 s2 rfl ?_ ?_
    · unfold svD; rw [r]; simp
    · simp only [fX11_step_31, fk_43 hF, gk_s, nm_d, ← eg, fk_43 hFg, g41, if_pos c1', fr_43_1 hFg, bd_s, fk_44 hFg, fl_44 hFg, gd_e q0, q1, g44, r, if_true, e2, b2_s]
  · obtain ⟨e45, a1, a2⟩ := nI_toN hP.2.1 (by decide)
    have hhk : hkD D w kn T p = false := by unfold hkD; rw [r]; simp
    have hd : dtD D w v kn T p = toN (D 45 p) := by unfold dtD; rw [r, if_neg (by decide), if_neg (by decide), if_neg (by decide)]
    have x1 : t2D D w v kn T P p t = t + toN (D 45 p) := by unfold t2D; rw [hd, hhk, if_neg (by simp)]
    have x2 : k2D D w v kn T P p t k = k := by unfold k2D; rw [hhk, if_neg (by simp)]
    have x3 : ksD D w v kn T P p t k ks = ks := by unfold ksD; rw [hhk, if_neg (by simp)]
    obtain ⟨g2, eg2⟩ : ∃ g2, g2 = hp_si g (z + 43) 37 (nI (t + toN (D 45 p))) := ⟨_, rfl⟩
    have f2 : Fr z Sm g g2 := by rw [eg2]; exact Fr.si (by decide) rfl
    have hX2 := hXg.fr f2
    have hF2 := hX2.1.1
    have hsv := m_isServed_M hX2.1 hp
    rw [hX2.2.1.1] at hsv
    refine fin g2 (D 47 p) (bi (bitD (D 49 p) w)) f2 ?_ ?_ ?_ ?_
    · rw [x1, x2, x3, eg2]; exact hSg.tk
    · unfold nxD; rw [r, if_neg (by decide), if_neg (by decide), if_neg (by decide)]
    · unfold svD bi
      by_cases q : bitD (D 49 p) w
      · rw [if_pos q]; exact ⟨fun _ => decide_eq_true ⟨Or.inl r, q⟩, fun _ => by decide⟩
      · rw [if_neg q]; exact ⟨fun x => absurd rfl x, fun x => absurd (of_decide_eq_true x).2 q⟩
    · have e37 : nI t + D 45 p = nI (t + toN (D 45 p)) := by rw [← e45, nI_add, toN_nI (by omega)]
      simp only [fX11_step_31, fk_43 hF, gk_s, nm_d, ← eg, fk_43 hFg, g41, if_pos c1', fr_43_1 hFg, bd_s, fk_44 hFg, fl_44 hFg, gd_e q0, q1, g44, r, if_neg (show ¬ (1 : Int32) = 0 by decide), if_neg (show ¬ (1 : Int32) = 3 by decide), if_neg (show ¬ (1 : Int32) = 4 by decide), fr_43_2 hFg, fk_45 hFg, fl_45 hFg, rb_ess_M hRg 45 p (by decide) rfl, hSg.1, e37, ← eg2, hsv, b2_s, fk_43 hF2, fr_43_4 hF2, fk_47 hF2, fl_47 hF2, rb_ess_M hX2.1 47 p (by decide) rfl]
  · obtain ⟨e45, a1, a2⟩ := nI_toN hP.2.1 (by decide)
    have hhk : hkD D w kn T p = false := by unfold hkD; rw [r]; simp
    have hd : dtD D w v kn T p = toN (D 45 p) := by unfold dtD; rw [r, if_neg (by decide), if_neg (by decide), if_neg (by decide)]
    have x1 : t2D D w v kn T P p t = t + toN (D 45 p) := by unfold t2D; rw [hd, hhk, if_neg (by simp)]
    have x2 : k2D D w v kn T P p t k = k := by unfold k2D; rw [hhk, if_neg (by simp)]
    have x3 : ksD D w v kn T P p t k ks = ks := by unfold ksD; rw [hhk, if_neg (by simp)]
    obtain ⟨g2, eg2⟩ : ∃ g2, g2 = hp_si g (z + 43) 37 (nI (t + toN (D 45 p))) := ⟨_, rfl⟩
    have f2 : Fr z Sm g g2 := by rw [eg2]; exact Fr.si (by decide) rfl
    have hX2 := hXg.fr f2
    have hF2 := hX2.1.1
    have hsv := m_isServed_M hX2.1 hp
    rw [hX2.2.1.1] at hsv
    refine fin g2 (D 47 p) (bi (bitD (D 49 p) w)) f2 ?_ ?_ ?_ ?_
    · rw [x1, x2, x3, eg2]; exact hSg.tk
    · unfold nxD; rw [r, if_neg (by decide), if_neg (by decide), if_neg (by decide)]
    · unfold svD bi
      by_cases q : bitD (D 49 p) w
      · rw [if_pos q]; exact ⟨fun _ => decide_eq_true ⟨Or.inr r, q⟩, fun _ => by decide⟩
      · rw [if_neg q]; exact ⟨fun x => absurd rfl x, fun x => absurd (of_decide_eq_true x).2 q⟩
    · have e37 : nI t + D 45 p = nI (t + toN (D 45 p)) := by rw [← e45, nI_add, toN_nI (by omega)]
      simp only [fX11_step_31, fk_43 hF, gk_s, nm_d, ← eg, fk_43 hFg, g41, if_pos c1', fr_43_1 hFg, bd_s, fk_44 hFg, fl_44 hFg, gd_e q0, q1, g44, r, if_neg (show ¬ (2 : Int32) = 0 by decide), if_neg (show ¬ (2 : Int32) = 3 by decide), if_neg (show ¬ (2 : Int32) = 4 by decide), fr_43_2 hFg, fk_45 hFg, fl_45 hFg, rb_ess_M hRg 45 p (by decide) rfl, hSg.1, e37, ← eg2, hsv, b2_s, fk_43 hF2, fr_43_4 hF2, fk_47 hF2, fl_47 hF2, rb_ess_M hX2.1 47 p (by decide) rfl]
  · have hhk : hkD D w kn T p = false := by unfold hkD; rw [r]; simp
    have x1 : t2D D w v kn T P p t = t := t2_cl r
    have x2 : k2D D w v kn T P p t k = k := by unfold k2D; rw [hhk, if_neg (by simp)]
    have x3 : ksD D w v kn T P p t k ks = ks := by unfold ksD; rw [hhk, if_neg (by simp)]
    have hop := m_isOpen_M hRg hp
    rw [hXg.2.1.2.2] at hop
    refine fin g (nxH D p u) 0 Fr.rf ?_ ?_ ?_ ?_
    · rw [x1, x2, x3]; exact hSg
    · unfold nxD; rw [r, if_neg (by decide), if_pos rfl]
    · unfold svD; rw [r]; simp
    · simp only [fX11_step_31, fk_43 hF, gk_s, nm_d, ← eg, fk_43 hFg, g41, if_pos c1', fr_43_1 hFg, bd_s, fk_44 hFg, fl_44 hFg, gd_e q0, q1, g44, r, if_neg (show ¬ (3 : Int32) = 0 by decide), if_true, hop, b2_s, bi_0, fr_43_5 hFg, fk_48 hFg, fl_48 hFg, rb_ess_M hRg 48 p (by decide) rfl, fr_43_4 hFg, fk_47 hFg, fl_47 hFg, rb_ess_M hRg 47 p (by decide) rfl, nxH]
      by_cases q : opD D p u
      · simp only [if_neg (not_not_intro q), if_pos q]
      · simp only [if_pos q, if_neg q]
  · have hhk : hkD D w kn T p = false := by unfold hkD; rw [r]; simp
    obtain ⟨j, j1, j2, j3⟩ := tr_rg hP r v (if kn = true then 1 else 0)
    have hd : dtD D w v kn T p = j := by unfold dtD; rw [r, if_neg (by decide), if_neg (by decide), if_pos rfl, j3, toN_nI (by omega)]
    have x1 : t2D D w v kn T P p t = t + j := by unfold t2D; rw [hd, hhk, if_neg (by simp)]
    have x2 : k2D D w v kn T P p t k = k := by unfold k2D; rw [hhk, if_neg (by simp)]
    have x3 : ksD D w v kn T P p t k ks = ks := by unfold ksD; rw [hhk, if_neg (by simp)]
    obtain ⟨g2, eg2⟩ : ∃ g2, g2 = hp_si g (z + 43) 37 (nI (t + j)) := ⟨_, rfl⟩
    have f2 : Fr z Sm g g2 := by rw [eg2]; exact Fr.si (by decide) rfl
    have hX2 := hXg.fr f2
    have hF2 := hX2.1.1
    have hr1 := m_isRight_M hRg hp r
    rw [hXg.2.1.2.1] at hr1
    have hr2 := m_isRight_M hX2.1 hp r
    rw [hX2.2.1.2.1] at hr2
    have e37 : nI t + trD D p v (if kn = true then 1 else 0) = nI (t + j) := by rw [j3, nI_add]
    refine fin g2 (nxN D p v) 0 f2 ?_ ?_ ?_ ?_
    · rw [x1, x2, x3, eg2]; exact hSg.tk
    · unfold nxD; rw [r, if_neg (by decide), if_neg (by decide), if_pos rfl]
    · unfold svD; rw [r]; simp
    · have e10 : ¬ (1 : Int32) = 0 := by decide
      have tail : fX11_step_161 (z + 43) (nI p) 0 (trD D p v (if kn = true then 1 else 0)) (nI t) (z + 43) g = fX11_step_221 (z + 43) (nxN D p v) 0 g2 := by
        simp only [fX11_step_161, fk_43 hFg, gk_s, nm_d, e37, ← eg2, fk_43 hF2, hr2, b2_s, bi_0, fr_43_5 hF2, bd_s, fk_48 hF2, fl_48 hF2, gd_e q0, q1, rb_ess_M hX2.1 48 p (by decide) rfl, fr_43_4 hF2, fk_47 hF2, fl_47 hF2, rb_ess_M hX2.1 47 p (by decide) rfl, nxN]
        by_cases q : rgtD D p v
        · simp only [if_neg (not_not_intro q), if_pos q]
        · simp only [if_pos q, if_neg q]
      have g45 := rb_ess_M hRg 45 p (by decide) rfl
      have g46 := rb_ess_M hRg 46 p (by decide) rfl
      have g52 := rb_ess_M hRg 52 p (by decide) rfl
      rw [← tail]
      cases kn
      · simp only [Bool.false_eq_true, if_false, fX11_step_31, fk_43 hF, gk_s, nm_d, ← eg, fk_43 hFg, g41, if_pos c1', fr_43_1 hFg, bd_s, fk_44 hFg, fl_44 hFg, gd_e q0, q1, g44, r, if_neg (show ¬ (4 : Int32) = 0 by decide), if_neg (show ¬ (4 : Int32) = 3 by decide), if_true, fr_43_9 hFg, fk_52 hFg, fl_52 hFg, fr_43_2 hFg, fk_45 hFg, fl_45 hFg, g45, g52, fX11_step_131, hr1, b2_s, bi_0, fr_43_3 hFg, fk_46 hFg, fl_46 hFg, g46, hSg.1, trD]
        by_cases q : rgtD D p v
        · simp only [if_neg (not_not_intro q), if_pos q, Int32.add_comm (D 52 p)]
        · simp only [if_pos q, if_neg q, Int32.add_comm (D 52 p), Int32.mul_comm (D 46 p)]
      · simp only [if_true, fX11_step_31, fk_43 hF, gk_s, nm_d, ← eg, fk_43 hFg, g41, if_pos c1', fr_43_1 hFg, bd_s, fk_44 hFg, fl_44 hFg, gd_e q0, q1, g44, r, if_neg (show ¬ (4 : Int32) = 0 by decide), if_neg (show ¬ (4 : Int32) = 3 by decide), if_neg e10, fr_43_9 hFg, fk_52 hFg, fl_52 hFg, g52, fX11_step_131, hr1, b2_s, bi_0, fr_43_3 hFg, fk_46 hFg, fl_46 hFg, g46, hSg.1, trD, Int32.add_zero]
        by_cases q : rgtD D p v
        · simp only [if_neg (not_not_intro q), if_pos q]
        · simp only [if_pos q, if_neg q, Int32.mul_comm (D 46 p)]
end
section
variable {z : Nat} {h : Hp} {D : Nat → Nat → Int32} {n ng : Nat} {pa ba : Nat → Nat} {la : Nat → Nat → Nat} {ca : Nat → Nat} {p s : Nat} {w v u : Int32} {kn : Bool} {T U : Nat → Nat} {P : Nat} {l : Int32} {t c k cl m : Nat} {se cm ks : Nat → Int32}
theorem m_loop_M (hB : Bst D n w v u kn T) : ∀ (f F p t c k cl : Nat) (se cm ks : Nat → Int32) (h : Hp) (r : WR), wk D n w v u kn T P f p t c k cl se cm ks = some r → f + 1 < F → c + f < 1000000 → k + f < 1000000 → t ≤ P → cl ≤ 40 → p < n → (kn = true → T p < 1000000) → MoX_M z h D n ng pa ba la ca kn T U w v u P → MS z h t (nI p) (c + 1) k cl (va_up se p 1) (va_up cm c (nI p)) ks →
    ∃ h', fx bX11_goThrough_104 (fun _ _ _ _ => none) F (z + 43) (if kn = true then 1 else 0) (-4) h = some (r.1, h') ∧ Fr z Sm h h' ∧ ME z h' r := by
  intro f
  induction f with
  | zero => intro F p t c k cl se cm ks h r hw; exact absurd hw (by simp [wk])
  | succ f ih =>
    intro F p t c k cl se cm ks h r hw hFu hc hk ht hcl hp hTp hX hS
    obtain ⟨F, rfl⟩ : ∃ k, F = k + 1 + 1 := ⟨F - 2, by omega⟩
    have hF := hX.1.1
    obtain ⟨o, h1, e1, f1, c1⟩ := m_step_M hX hp hTp ht (by omega) (by omega) hcl hS
    have hgo : fx bX11_goThrough_104 (fun _ _ _ _ => none) (F + 1 + 1) (z + 43) (if kn = true then 1 else 0) (-4) h = fx bX11_goThrough_104 (fun _ _ _ _ => none) (F + 1) (z + 43) (if kn = true then 1 else 0) o h1 := by
      rw [fx_s]
      simp only [bX11_goThrough_104, if_true, fk_43 hF, gk_s, e1, b2_s]
    have stop : o ≠ -4 → fx bX11_goThrough_104 (fun _ _ _ _ => none) (F + 1) (z + 43) (if kn = true then 1 else 0) o h1 = some (o, h1) := fun ho => by
      rw [fx_s]
      simp only [bX11_goThrough_104, if_neg ho]
    rw [hgo]
    unfold wk at hw
    unfold MO at c1
    by_cases q1 : 40 < clD D p cl
    · rw [if_pos q1] at hw c1
      obtain ⟨rfl, c1⟩ := c1
      cases hw
      exact ⟨h1, stop (by decide), f1, _, c1⟩
    rw [if_neg q1] at hw c1
    by_cases q2 : P < t2D D w v kn T P p t
    · rw [if_pos q2] at hw c1
      obtain ⟨rfl, c1⟩ := c1
      cases hw
      exact ⟨h1, stop (by decide), f1, _, c1⟩
    rw [if_neg q2] at hw c1
    by_cases q3 : svD D w p = true
    · rw [if_pos q3] at hw c1
      obtain ⟨rfl, c1⟩ := c1
      cases hw
      exact ⟨h1, stop (by decide), f1, _, c1⟩
    rw [if_neg q3] at hw c1
    by_cases q4 : tg (nxD D w v u kn T p) < n
    · rw [if_pos q4] at hw c1
      obtain ⟨rfl, c1⟩ := c1
      have hk2 : k2D D w v kn T P p t k ≤ k + 1 := by unfold k2D; split <;> omega
      obtain ⟨h2, e2, f2, c2⟩ := ih (F + 1) _ _ _ _ _ _ _ _ h1 r hw (by omega) (by omega) (by omega) (by omega) (by omega) q4 (fun q => (hB q).2 p hp (hTp q) (by simpa using q3) q4) (hX.fr f1) c1
      exact ⟨h2, e2, f1.tr f2, c2⟩
    · rw [if_neg q4] at hw c1
      obtain ⟨rfl, c1⟩ := c1
      cases hw
      exact ⟨h1, stop (by decide), f1, _, c1⟩
end
section
variable {z b : Nat} {h : Hp} {D : Nat → Nat → Int32} {n ng : Nat} {pa ba : Nat → Nat} {la : Nat → Nat → Nat} {ca : Nat → Nat} {w v u : Int32} {P : Nat}
theorem bst_ow_M (hR : RelM z h D n ng pa ba la ca) (k : Bool) : Bst D n w v u (knO D n w v u k) (TO D n w v u 1000000) := by
  intro hk
  have hk0 : TO D n w v u 1000000 0 < 1000000 := by
    unfold knO at hk
    rw [Bool.and_eq_true] at hk
    exact of_decide_eq_true hk.2
  refine ⟨hk0, fun p hp hTp hsv _ => ?_⟩
  have n40 := (rb_n_M hR).2.2
  have hP := pv_of_M hR hp
  have hE : LA (mG D) (cG D w v) (tG D w v u) (TO D n w v u 1000000) p = TO D n w v u 1000000 p := by
    have he : TO D n w v u 1000000 p = _ := OW_eq (m := mG D) (cs := cG D w v) (tt := tG D w v u) (W := 1000000) n40 hp
    by_cases q : LA (mG D) (cG D w v) (tG D w v u) (TO D n w v u 1000000) p < 1000000
    · rw [if_pos q] at he; exact he.symm
    · rw [if_neg q] at he; omega
  rw [hk]
  obtain ⟨T, eT⟩ : ∃ T, T = TO D n w v u 1000000 := ⟨_, rfl⟩
  have h40 : T 40 = 1000000 := by rw [eT]; unfold TO; rw [OW_out (by omega), if_neg (by decide)]
  rw [← eT] at hE hTp ⊢
  obtain ⟨i, hi, he⟩ := mnA_ex (fun i => cG D w v p i + T (tG D w v u p i)) (mG D p)
  have he2 : T p = cG D w v p i + T (tG D w v u p i) := by rw [← hE]; exact he
  rcases kd_of hP with r | r | r | r | r
  · have em : mG D p = toN (D 53 p) := by unfold mG; rw [if_pos r]
    by_cases q : jD D w true T p < toN (D 53 p)
    · have := fa_first_yes (fun i => if true = true then decide (1 + T (tg (D 57 (6 * p + i))) = T p) else decide (bitD (D 56 (6 * p + i)) w)) (toN (D 53 p)) q
      simp only [if_true] at this
      have h2 := of_decide_eq_true this
      have : nxD D w v u true T p = D 57 (6 * p + jD D w true T p) := by unfold nxD; rw [if_pos r, if_pos q]
      rw [this]
      simp only [jD, if_true]
      omega
    · have hnx : nxD D w v u true T p = D 47 p := by unfold nxD; rw [if_pos r, if_neg q]
      rw [hnx]
      have hc : ∀ i, cG D w v p i = if i = 0 then toN (hrD D p (toN (D 53 p))) else 1 := fun i => by unfold cG; rw [r, if_neg (by decide), if_neg (by decide), if_neg (by decide), if_neg (by decide)]
      have ht : ∀ i, tG D w v u p i = if i = 0 then tg (D 47 p) else tg (D 57 (6 * p + (i - 1))) := fun i => by unfold tG; rw [r, if_neg (by decide), if_neg (by decide), if_neg (by decide), if_neg (by decide)]
      rw [hc, ht] at he2
      by_cases q0 : i = 0
      · rw [if_pos q0, if_pos q0] at he2
        omega
      · rw [if_neg q0, if_neg q0] at he2
        exfalso
        have hle : jD D w true T p ≤ toN (D 53 p) := fa_first_le _ _
        have := fa_first_no (fun i => if true = true then decide (1 + T (tg (D 57 (6 * p + i))) = T p) else decide (bitD (D 56 (6 * p + i)) w)) (toN (D 53 p)) (i - 1) (by
          have e : fa_first (fun i => if true = true then decide (1 + T (tg (D 57 (6 * p + i))) = T p) else decide (bitD (D 56 (6 * p + i)) w)) (toN (D 53 p)) = jD D w true T p := rfl
          rw [e]
          omega)
        simp only [if_true] at this
        exact of_decide_eq_false this he2.symm
  · exfalso
    have hb : ¬ bitD (D 49 p) w := fun q => by
      have e : svD D w p = true := decide_eq_true ⟨Or.inl r, q⟩
      rw [hsv] at e
      exact absurd e (by decide)
    have ht : tG D w v u p i = 40 := by unfold tG; rw [if_pos r, if_neg hb]
    rw [ht, h40] at he2
    omega
  · have hb : ¬ bitD (D 49 p) w := fun q => by
      have e : svD D w p = true := decide_eq_true ⟨Or.inr r, q⟩
      rw [hsv] at e
      exact absurd e (by decide)
    have ht : tG D w v u p i = tg (D 47 p) := by unfold tG; rw [r, if_neg (by decide), if_pos rfl, if_neg hb]
    have hx : nxD D w v u true T p = D 47 p := by unfold nxD; rw [r, if_neg (by decide), if_neg (by decide), if_neg (by decide)]
    rw [hx]
    rw [ht] at he2
    omega
  · have ht : tG D w v u p i = tg (nxH D p u) := by unfold tG; rw [r, if_neg (by decide), if_neg (by decide), if_pos rfl]
    have hx : nxD D w v u true T p = nxH D p u := by unfold nxD; rw [r, if_neg (by decide), if_pos rfl]
    rw [hx]
    rw [ht] at he2
    omega
  · have ht : tG D w v u p i = tg (nxN D p v) := by unfold tG; rw [r, if_neg (by decide), if_neg (by decide), if_neg (by decide), if_pos rfl]
    have hx : nxD D w v u true T p = nxN D p v := by unfold nxD; rw [r, if_neg (by decide), if_neg (by decide), if_pos rfl]
    rw [hx]
    rw [ht] at he2
    omega
end
section
variable {z b : Nat} {h : Hp} {D : Nat → Nat → Int32} {n ng : Nat} {pa ba : Nat → Nat} {la : Nat → Nat → Nat} {ca : Nat → Nat} {w v u : Int32} {P : Nat}
theorem m_goThrough_M (hR : RelM z h D n ng pa ba la ca) (hn : 0 < n) (hP : P ≤ 5000) (k : Bool) :
    ∃ r h', wkO D n w v u k P = some r ∧ fX11_goThrough (z + 43) w v (nI P) u (if k = true then 1 else 0) h = some (r.1, h') ∧ Fr z SM h h' ∧ ME z h' r := by
  have hF := hR.1
  have n40 := (rb_n_M hR).2.2
  have m1 : ∀ c k, SM c k = false → Sm c k = false := fun c k q => by unfold SM at q; rw [Bool.or_eq_false_iff, Bool.or_eq_false_iff] at q; exact q.1.1
  have m2 : ∀ c k, SM c k = false → S68 c k = false := fun c k q => by unfold SM at q; rw [Bool.or_eq_false_iff, Bool.or_eq_false_iff] at q; exact q.1.2
  obtain ⟨g, eg⟩ : ∃ g, g = hp_si (hp_si (hp_si (hp_si (hp_si (hp_si (hp_si (hp_si h (z + 43) 32 w) (z + 43) 33 v) (z + 43) 34 (nI P)) (z + 43) 35 u) (z + 43) 37 0) (z + 43) 39 0) (z + 43) 40 0) (z + 43) 41 0 := ⟨_, rfl⟩
  have fg : Fr z SM h g := by
    rw [eg]
    exact (((((((Fr.si (by decide) rfl).tr (Fr.si (by decide) rfl)).tr (Fr.si (by decide) rfl)).tr (Fr.si (by decide) rfl)).tr (Fr.si (by decide) rfl)).tr (Fr.si (by decide) rfl)).tr (Fr.si (by decide) rfl)).tr (Fr.si (by decide) rfl)
  have rd : ∀ j, g.2.2.1 (z + 43) j = if j = 41 then 0 else if j = 40 then 0 else if j = 39 then 0 else if j = 37 then 0 else if j = 35 then u else if j = 34 then nI P else if j = 33 then v else if j = 32 then w else h.2.2.1 (z + 43) j := fun j => by
    rw [eg]; simp only [si_3, u2_at, true_and]
  have hRg := fg.relM SM_ess hR
  -- clearing the marks
  have clr : ∀ (d i f : Nat) (h : Hp), fxd z h → i + d = 40 → d < f → ∃ h', fx bX11_goThrough_44 (fun _ _ _ _ => none) f (z + 43) (if k = true then 1 else 0) (nI i) h = fx bX11_goThrough_44 (fun _ _ _ _ => none) (f - d) (z + 43) (if k = true then 1 else 0) (nI 40) h' ∧ Fr z SM h h' ∧ (∀ c j, c < 82 → c ≠ 69 → h'.2.2.1 (z + c) j = h.2.2.1 (z + c) j) ∧ (∀ j, j < 40 → h'.2.2.1 (z + 69) j = if i ≤ j then 0 else h.2.2.1 (z + 69) j) := by
    intro d
    induction d with
    | zero =>
      intro i f h hF hi hf
      obtain rfl : i = 40 := by omega
      exact ⟨h, rfl, Fr.rf, fun _ _ _ _ => rfl, fun j hj => by rw [if_neg (by omega)]⟩
    | succ d ih =>
      intro i f h hF hi hf
      obtain ⟨f, rfl⟩ : ∃ k, f = k + 1 := ⟨f - 1, by omega⟩
      have f1 : Fr z SM h (hp_si h (z + 69) i 0) := Fr.si (by decide) rfl
      obtain ⟨h', e1, f2, s1, s2⟩ := ih (i + 1) f (hp_si h (z + 69) i 0) hF (by omega) (by omega)
      refine ⟨h', ?_, f1.tr f2, fun c j hc h69 => ?_, fun j hj => ?_⟩
      · rw [fx_s]
        simp only [bX11_goThrough_44, if_neg (show ¬ (40 : Int32) ≤ nI i from nI_ge (b := 40) (by omega) (by decide)), fk_43 hF, gk_s, fr_43_42 hF, bd_s, fk_69 hF, fl_69 hF, gd_e (ix_nI (p := i) (N := 40) (by omega) (by decide)), nI_clamp (n := i) (by omega), nm_d, nI_1]
        rw [e1, show f + 1 - (d + 1) = f - d by omega]
      · rw [s1 c j hc h69, si_3, u2_at, if_neg (by omega)]
      · rw [s2 j hj, si_3, u2_at]
        by_cases q : j = i
        · subst q
          rw [if_neg (by omega), if_pos ⟨rfl, rfl⟩, if_pos (Nat.le_refl j)]
        · by_cases q2 : i + 1 ≤ j
          · rw [if_pos q2, if_pos (show i ≤ j by omega)]
          · rw [if_neg q2, if_neg (fun r => q r.2), if_neg (show ¬ i ≤ j by omega)]
  have nfb := NF_big
  obtain ⟨g2, e2, f2, s2, s3⟩ := clr 40 0 NF g hRg.1 (by omega) (by omega)
  have hR2 := f2.relM SM_ess hRg
  have hF2 := hR2.1
  have rd2 : ∀ j, g2.2.2.1 (z + 43) j = g.2.2.1 (z + 43) j := fun j => s2 43 j (by decide) (by decide)
  have hM2 : MoV z g2 w v u := ⟨by rw [rd2, rd]; rfl, by rw [rd2, rd]; rfl, by rw [rd2, rd]; rfl⟩
  have h34 : g2.2.2.1 (z + 43) 34 = nI P := by rw [rd2, rd]; rfl
  have hS2 : MS z g2 0 (g2.2.2.1 (z + 43) 38) 0 0 0 (fun _ => 0) (fun _ => 0) (fun _ => 0) := by
    refine ⟨by rw [rd2, rd]; rfl, rfl, by rw [rd2, rd]; rfl, by rw [rd2, rd]; rfl, by rw [rd2, rd]; rfl, fun q hq => ?_, fun q hq hq2 => absurd hq2 (Nat.not_lt_zero q), fun q hq hq2 => absurd hq2 (Nat.not_lt_zero q)⟩
    rw [s3 q hq, if_pos (Nat.zero_le q)]
  obtain ⟨r, hr⟩ := wk_end_M (w := w) (v := v) (u := u) (kn := knO D n w v u k) (T := TO D n w v u 1000000) (P := P) hR hP 300000 0 0 0 0 0 (fun _ => 0) (fun _ => 0) (fun _ => 0) hn (Nat.zero_le _) (by decide) (by omega)
  have hB := bst_ow_M (w := w) (v := v) (u := u) hR k
  have st : fX11_goThrough (z + 43) w v (nI P) u (if k = true then 1 else 0) h = fx bX11_goThrough_44 (fun _ _ _ _ => none) (NF - 40) (z + 43) (if k = true then 1 else 0) (nI 40) g2 := by
    rw [← e2]
    simp only [fX11_goThrough, fk_43 hF, gk_s, nm_d, ← eg]
    rfl
  obtain ⟨F, eF⟩ : ∃ F, NF - 40 = F + 1 := ⟨NF - 41, by omega⟩
  rw [st, eF, fx_s]
  have e40 : (40 : Int32) ≤ nI 40 := by decide
  -- once the first place is come to
  have fin : ∀ (g3 : Hp) (kn : Bool), knO D n w v u k = kn → Fr z SM g2 g3 → MoX_M z g3 D n ng pa ba la ca kn (TO D n w v u 1000000) (TO D n w v u 100000000) w v u P → MS z g3 0 (g3.2.2.1 (z + 43) 38) 0 0 0 (fun _ => 0) (fun _ => 0) (fun _ => 0) →
      ∃ h4 h', fX11_comes (z + 43) 0 g3 = some ((), h4) ∧ fX11_goThrough_104 (z + 43) (if kn = true then 1 else 0) (-4) h4 = some (r.1, h') ∧ Fr z SM h h' ∧ ME z h' r := by
    intro g3 kn hkn f3 hX3 hS3
    obtain ⟨h4, e4, f4, c4⟩ := m_comes (p := 0) hX3.1.1 (by decide) (by decide) hS3
    rw [hkn] at hr hB
    obtain ⟨h', e5, f5, c5⟩ := m_loop_M hB 300000 NF 0 0 0 0 0 _ _ _ h4 r hr (by omega) (by omega) (by omega) (Nat.zero_le _) (by decide) hn (fun q => (hB q).1) (hX3.fr f4) c4
    exact ⟨h4, h', e4, e5, (((fg.tr f2).tr f3).tr (f4.mono m1)).tr (f5.mono m1), c5⟩
  cases k
  · obtain ⟨h4, h', e4, e5, f5, c5⟩ := fin g2 false rfl Fr.rf ⟨hR2, hM2, h34, hP, fun q => absurd q (by decide)⟩ hS2
    simp only [Bool.false_eq_true, if_false] at e5
    refine ⟨r, h', hr, ?_, f5, c5⟩
    simp only [bX11_goThrough_44, if_pos e40, Bool.false_eq_true, if_false, if_true, fk_43 hF2, gk_s, e4, b2_s, e5]
  · obtain ⟨g3, e3, f3, hT3⟩ := m_layLeast_M hR2 hM2
    have hR3 := f3.relM S68_ess hR2
    have hF3 := hR3.1
    have rd3 : ∀ c j, c < 82 → c ≠ 68 → g3.2.2.1 (z + c) j = g2.2.2.1 (z + c) j := fun c j hc h68 => f3.2.2.2.2.1 c j hc (by simp [S68, h68])
    have htwo := ow_two_M hR w v u
    have e68 : g3.2.2.1 (z + 68) 0 = nI (TO D n w v u 100000000 0) := hT3.1 0 (by decide)
    have hw0 := hT3.2.2.2.1 0
    have hS3 : MS z g3 0 (g3.2.2.1 (z + 43) 38) 0 0 0 (fun _ => 0) (fun _ => 0) (fun _ => 0) := by
      obtain ⟨t1, t2, t3, t4, t5, t6, t7, t8⟩ := hS2
      refine ⟨by rw [rd3 43 37 (by decide) (by decide)]; exact t1, rfl, by rw [rd3 43 39 (by decide) (by decide)]; exact t3, by rw [rd3 43 40 (by decide) (by decide)]; exact t4, by rw [rd3 43 41 (by decide) (by decide)]; exact t5, fun q hq => by rw [rd3 69 q (by decide) (by decide)]; exact t6 q hq, fun q hq hq2 => absurd hq2 (Nat.not_lt_zero q), fun q hq hq2 => absurd hq2 (Nat.not_lt_zero q)⟩
    have hM3 : MoV z g3 w v u := hM2.fr f3 (fun _ => rfl)
    have h343 : g3.2.2.1 (z + 43) 34 = nI P := by rw [rd3 43 34 (by decide) (by decide)]; exact h34
    have hTU : ∀ q, (TO D n w v u 1000000 q = 1000000 ∧ TO D n w v u 100000000 q = 100000000) ∨ (TO D n w v u 1000000 q = TO D n w v u 100000000 q ∧ TO D n w v u 1000000 q ≤ 4200 * n) := fun q => by
      rcases htwo q with ⟨r1, r2, -⟩ | ⟨r1, r2⟩
      · exact Or.inl ⟨r1, r2⟩
      · exact Or.inr ⟨r1, r2⟩
    have h0 := hTU 0
    by_cases q : TO D n w v u 1000000 0 < 1000000
    · have hkn : knO D n w v u true = true := by unfold knO; simp [q]
      obtain ⟨h4, h', e4, e5, f5, c5⟩ := fin g3 true hkn (f3.mono m2) ⟨hR3, hM3, h343, hP, fun _ => ⟨hT3, hTU⟩⟩ hS3
      simp only [if_true] at e5
      refine ⟨r, h', hr, ?_, f5, c5⟩
      have q2 : ¬ (100000000 : Int32) ≤ nI (TO D n w v u 100000000 0) := nI_ge (b := 100000000) (by omega) (by decide)
      have i0 : ix (0 : Int32) 40 = true := rfl
      have c0 : (0 : Int32).toNatClampNeg = 0 := rfl
      simp only [bX11_goThrough_44, if_pos e40, if_true, if_neg (show ¬ (1 : Int32) = 0 by decide), fk_43 hF2, gk_s, e3, b2_s, fk_43 hF3, fr_43_36 hF3, bd_s, fk_68 hF3, fl_68 hF3, gd_e i0, c0, e68, if_neg q2, e4, e5]
    · have hkn : knO D n w v u true = false := by unfold knO; simp [q]
      obtain ⟨h4, h', e4, e5, f5, c5⟩ := fin g3 false hkn (f3.mono m2) ⟨hR3, hM3, h343, hP, fun q => absurd q (by decide)⟩ hS3
      simp only [Bool.false_eq_true, if_false] at e5
      refine ⟨r, h', hr, ?_, f5, c5⟩
      have q2 : (100000000 : Int32) ≤ nI (TO D n w v u 100000000 0) := nI_le (a := 100000000) (by omega) (by unfold TO; omega)
      have i0 : ix (0 : Int32) 40 = true := rfl
      have c0 : (0 : Int32).toNatClampNeg = 0 := rfl
      simp only [bX11_goThrough_44, if_pos e40, if_true, if_neg (show ¬ (1 : Int32) = 0 by decide), fk_43 hF2, gk_s, e3, b2_s, fk_43 hF3, fr_43_36 hF3, bd_s, fk_68 hF3, fl_68 hF3, gd_e i0, c0, e68, if_pos q2, e4, e5]
end
section
variable {z b : Nat} {h : Hp} {D : Nat → Nat → Int32} {n ng : Nat} {pa ba : Nat → Nat} {la : Nat → Nat → Nat} {ca : Nat → Nat} {g : Nat}
theorem gv_of_M (hR : RelM z h D n ng pa ba la ca) (hg : g < ng) : GV D g := hR.2.2.1.2.2.2.2.2.2.2.1 g hg
end
section
variable {z b : Nat} {h : Hp} {D : Nat → Nat → Int32} {n ng : Nat} {pa ba : Nat → Nat} {la : Nat → Nat → Nat} {ca : Nat → Nat} {g : Nat}
theorem pat_of_M (hR : RelM z h D n ng pa ba la ca) (hg : g < ng) : D 61 g = nI (toN (D 61 g)) ∧ toN (D 61 g) ≤ 5000 := by
  obtain ⟨a, b, c⟩ := nI_toN (gv_of_M hR hg).2.2.2.2.1 (by decide)
  exact ⟨a.symm, c⟩
end
section
variable {z b : Nat} {h : Hp} {D : Nat → Nat → Int32} {n ng : Nat} {pa ba : Nat → Nat} {la : Nat → Nat → Nat} {ca : Nat → Nat} {g : Nat}
theorem kn_of_M (hR : RelM z h D n ng pa ba la ca) (hg : g < ng) : (D 63 g = 0 ∧ decide (D 63 g = 1) = false) ∨ (D 63 g = 1 ∧ decide (D 63 g = 1) = true) := by
  obtain ⟨k, a, b, c⟩ := (gv_of_M hR hg).2.2.2.2.2.2
  rcases (show k = 0 ∨ k = 1 by omega) with r | r
  · left; rw [c, r]; exact ⟨rfl, rfl⟩
  · right; rw [c, r]; exact ⟨rfl, rfl⟩
end
section
variable {z b : Nat} {h : Hp} {D : Nat → Nat → Int32} {n ng : Nat} {pa ba : Nat → Nat} {la : Nat → Nat → Nat} {ca : Nat → Nat} {g : Nat}
theorem m_callOf_M (hR : RelM z h D n ng pa ba la ca) (hn : 0 < n) (hg : g < ng) : ∃ r h', wkG D n g = some r ∧ fX11_callOf (z + 43) (nI g) h = some (r.1, h') ∧ Fr z SM h h' ∧ ME z h' r := by
  have hF := hR.1
  have n12 := (rb_ng_M hR).2.2
  obtain ⟨p1, p2⟩ := pat_of_M hR hg
  obtain ⟨r, h', hw, e1, f1, c1⟩ := m_goThrough_M (w := D 59 g) (v := D 60 g) (u := D 62 g) hR hn p2 (decide (D 63 g = 1))
  refine ⟨r, h', hw, ?_, f1, c1⟩
  rw [← p1] at e1
  have q0 : ix (nI g) 12 = true := ix_nI (by omega) (by decide)
  have q1 : (nI g).toNatClampNeg = g := nI_clamp (by omega)
  simp only [fX11_callOf, fk_43 hF, gk_s, fr_43_17 hF, fr_43_18 hF, fr_43_19 hF, fr_43_20 hF, fr_43_21 hF, bd_s, fk_59 hF, fl_59 hF, fk_60 hF, fl_60 hF, fk_61 hF, fl_61 hF, fk_62 hF, fl_62 hF, fk_63 hF, fl_63 hF, gd_e q0, q1, rb_ess_M hR 59 g (by decide) rfl, rb_ess_M hR 60 g (by decide) rfl, rb_ess_M hR 61 g (by decide) rfl, rb_ess_M hR 62 g (by decide) rfl, rb_ess_M hR 63 g (by decide) rfl]
  rcases kn_of_M hR hg with ⟨q, q2⟩ | ⟨q, q2⟩
  · rw [q2] at e1
    simp only [Bool.false_eq_true, if_false] at e1
    rw [if_neg (by rw [q]; decide)]
    simp only [e1, b2_s]
  · rw [q2] at e1
    simp only [if_true] at e1
    rw [if_pos q]
    simp only [e1, b2_s]
end
section
variable {z b : Nat} {h : Hp} {D : Nat → Nat → Int32} {n ng : Nat} {pa ba : Nat → Nat} {la : Nat → Nat → Nat} {ca : Nat → Nat} {g p s : Nat} {C : Nat → Int32}
theorem m_65_M {rc : Nat → Int32 → Int32 → Hp → Option (Unit × Hp)} (hR : RelM z h D n ng pa ba la ca) (hp : p < n) (hs : D 53 p = nI s) (h6 : s ≤ 6) (hg : g < ng) {j : Nat} (ej : j = flD D (D 59 g) p) : ∀ (d i f : Nat), i + d = j → d < f → fx (bX11_layOrder_65 rc) (fun _ _ _ _ _ _ => none) (f + 1) (z + 43) (nI p) (nI g) 1 (nI i) h = rc (z + 43) (nI p) (nI (g + 1)) (if j < s then hp_si h (z + 75) j (h.2.2.1 (z + 75) j + D 58 g) else h) := by
  have hF := hR.1
  have n40 := (rb_n_M hR).2.2
  have g12 := (rb_ng_M hR).2.2
  have es : toN (D 53 p) = s := by rw [hs, toN_nI (by omega)]
  have j1 : j ≤ s := by rw [ej, ← es]; exact fa_first_le _ _
  have j2 : ∀ i, i < j → ¬ bitD (D 56 (6 * p + i)) (D 59 g) := fun i hi => by
    have := fa_first_no _ (toN (D 53 p)) i (by rw [ej] at hi; exact hi)
    simp only [Bool.false_eq_true, if_false] at this
    exact of_decide_eq_false this
  have j3 : j < s → bitD (D 56 (6 * p + j)) (D 59 g) := fun hj => by
    have := fa_first_yes _ (toN (D 53 p)) (by rw [ej, ← es] at hj; exact hj)
    simp only [Bool.false_eq_true, if_false] at this
    rw [ej]
    simp only [flD, jD, Bool.false_eq_true, if_false]
    exact of_decide_eq_true this
  have e53 : h.2.2.1 (z + 53) p = nI s := by rw [rb_ess_M hR 53 p (by decide) rfl]; exact hs
  have q0 : ix (nI p) 40 = true := ix_nI (by omega) (by decide)
  have q1 : (nI p).toNatClampNeg = p := nI_clamp (by omega)
  have e10 : ¬ (1 : Int32) = 0 := by decide
  intro d
  induction d with
  | zero =>
    intro i f hi hf
    obtain ⟨f, rfl⟩ : ∃ k, f = k + 1 := ⟨f - 1, by omega⟩
    obtain rfl : i = j := by omega
    by_cases q : i < s
    · rw [if_pos q, fx_s]
      obtain ⟨g2, eg2⟩ : ∃ g2, g2 = hp_si h (z + 75) i (h.2.2.1 (z + 75) i + D 58 g) := ⟨_, rfl⟩
      have hF2 : fxd z g2 := by rw [eg2]; exact hF
      have e532 : g2.2.2.1 (z + 53) p = nI s := by rw [eg2, si_3, u2_at, if_neg (by omega)]; exact e53
      simp only [bX11_layOrder_65, fk_43 hF, gk_s, fr_43_10 hF, bd_s, fk_53 hF, fl_53 hF, gd_e q0, q1, e53, if_neg (nI_ge q (by omega)), if_neg e10, fr_43_13 hF, fk_56 hF, fl_56 hF, i6, gd_e (ix_nI (p := 6 * p + i) (N := 240) (by omega) (by decide)), nI_clamp (n := 6 * p + i) (by omega), rb_ess_M hR 56 (6 * p + i) (by decide) rfl, fr_43_17 hF, fk_59 hF, fl_59 hF, gd_e (ix_nI (p := g) (N := 12) (by omega) (by decide)), nI_clamp (n := g) (by omega), rb_ess_M hR 59 g (by decide) rfl, bit1, if_pos (j3 q), fr_43_48 hF, fk_75 hF, fl_75 hF, gd_e (ix_nI (p := i) (N := 6) (by omega) (by decide)), nI_clamp (n := i) (by omega), fr_43_16 hF, fk_58 hF, fl_58 hF, rb_ess_M hR 58 g (by decide) rfl, nm_d, ← eg2, nI_1]
      rw [fx_s]
      simp only [bX11_layOrder_65, fk_43 hF2, gk_s, fr_43_10 hF2, bd_s, fk_53 hF2, fl_53 hF2, gd_e q0, q1, e532, if_true, nm_d, nI_1, ite_self]
    · rw [if_neg q, fx_s]
      simp only [bX11_layOrder_65, fk_43 hF, gk_s, fr_43_10 hF, bd_s, fk_53 hF, fl_53 hF, gd_e q0, q1, e53, if_pos (nI_le (show s ≤ i by omega) (by omega)), nm_d, nI_1]
  | succ d ih =>
    intro i f hi hf
    obtain ⟨f, rfl⟩ : ∃ k, f = k + 1 := ⟨f - 1, by omega⟩
    have q : i < s := by omega
    rw [fx_s]
    simp only [bX11_layOrder_65, fk_43 hF, gk_s, fr_43_10 hF, bd_s, fk_53 hF, fl_53 hF, gd_e q0, q1, e53, if_neg (nI_ge q (by omega)), if_neg e10, fr_43_13 hF, fk_56 hF, fl_56 hF, i6, gd_e (ix_nI (p := 6 * p + i) (N := 240) (by omega) (by decide)), nI_clamp (n := 6 * p + i) (by omega), rb_ess_M hR 56 (6 * p + i) (by decide) rfl, fr_43_17 hF, fk_59 hF, fl_59 hF, gd_e (ix_nI (p := g) (N := 12) (by omega) (by decide)), nI_clamp (n := g) (by omega), rb_ess_M hR 59 g (by decide) rfl, bit1, if_neg (j2 i (by omega)), nm_d, nI_1]
    exact ih (i + 1) f (by omega) (by omega)
end
section
variable {z b : Nat} {h : Hp} {D : Nat → Nat → Int32} {n ng : Nat} {pa ba : Nat → Nat} {la : Nat → Nat → Nat} {ca : Nat → Nat} {g p s : Nat} {C : Nat → Int32}
theorem m_65_0_M {rc : Nat → Int32 → Int32 → Hp → Option (Unit × Hp)} (hR : RelM z h D n ng pa ba la ca) (hp : p < n) (f : Nat) (x : Int32) : fx (bX11_layOrder_65 rc) (fun _ _ _ _ _ _ => none) (f + 1) (z + 43) (nI p) (nI g) 0 x h = rc (z + 43) (nI p) (nI (g + 1)) h := by
  have hF := hR.1
  have n40 := (rb_n_M hR).2.2
  rw [fx_s]
  simp only [bX11_layOrder_65, fk_43 hF, gk_s, fr_43_10 hF, bd_s, fk_53 hF, fl_53 hF, gd_e (ix_nI (p := p) (N := 40) (by omega) (by decide)), if_true, nm_d, nI_1, ite_self]
end
section
variable {z b : Nat} {h : Hp} {D : Nat → Nat → Int32} {n ng : Nat} {pa ba : Nat → Nat} {la : Nat → Nat → Nat} {ca : Nat → Nat} {g p s : Nat} {C : Nat → Int32}
theorem m_23_l_M (hp : p < n) : ∀ (d i f : Nat) (h : Hp), RelM z h D n ng pa ba la ca → i + d = ng → d < f → (∀ j, j < 6 → h.2.2.1 (z + 75) j = CL D n p i j) → ∃ h', fx bX11_layOrder_23 (fun _ _ _ _ => none) f (z + 43) (nI p) (nI i) h = fX11_layOrder_139 (z + 43) (nI p) 0 h' ∧ Fr z SO h h' ∧ ∀ j, j < 6 → h'.2.2.1 (z + 75) j = CL D n p ng j := by
  intro d
  induction d with
  | zero =>
    intro i f h hR hi hf hrow
    obtain ⟨f, rfl⟩ : ∃ k, f = k + 1 := ⟨f - 1, by omega⟩
    obtain rfl : i = ng := by omega
    have hF := hR.1
    obtain ⟨g1, g2, g3⟩ := rb_ng_M hR
    refine ⟨h, ?_, Fr.rf, hrow⟩
    rw [fx_s]
    simp only [bX11_layOrder_23, fk_43 hF, gk_s, g2, if_pos (nI_le (Nat.le_refl i) (by omega))]
  | succ d ih =>
    intro i f h hR hi hf hrow
    obtain ⟨f, rfl⟩ : ∃ k, f = k + 1 := ⟨f - 1, by omega⟩
    have hF := hR.1
    obtain ⟨g1, g2, g3⟩ := rb_ng_M hR
    have n40 := (rb_n_M hR).2.2
    obtain ⟨hs, h6⟩ := sz_toN_M hR hp
    have nfb := NF_big
    obtain ⟨r, h1, hw, e1, f1, c1⟩ := m_callOf_M hR (by omega) (g := i) (by omega)
    have hR1 := f1.relM SM_ess hR
    have hF1 := hR1.1
    obtain ⟨cl, -, -, -, -, -, bse, -⟩ := c1
    have bsp : h1.2.2.1 (z + 69) p = r.2.2.2.2.2.1 p := bse p (by omega)
    have m1 : ∀ c k, SO c k = false → SM c k = false := fun c k q => by
      unfold SO at q
      rw [Bool.or_eq_false_iff, Bool.or_eq_false_iff] at q
      exact q.1.1
    have row1 : ∀ j, j < 6 → h1.2.2.1 (z + 75) j = CL D n p i j := fun j hj => by rw [f1.2.2.2.2.1 75 j (by decide) rfl]; exact hrow j hj
    obtain ⟨F, eF⟩ : ∃ F, NF = F + 1 := ⟨NF - 1, by omega⟩
    have hgo : fx bX11_layOrder_23 (fun _ _ _ _ => none) (f + 1) (z + 43) (nI p) (nI i) h = fx (bX11_layOrder_65 (fx bX11_layOrder_23 (fun _ _ _ _ => none) f)) (fun _ _ _ _ _ _ => none) (F + 1) (z + 43) (nI p) (nI i) (if D 63 i = 0 ∧ ¬ r.2.2.2.2.2.1 p = 0 then 1 else 0) (nI 0) h1 := by
      rw [fx_s]
      simp only [bX11_layOrder_23, fk_43 hF, gk_s, g2, if_neg (nI_ge (show i < ng by omega) (by omega)), e1, b2_s, fk_43 hF1, fr_43_42 hF1, bd_s, fk_69 hF1, fl_69 hF1, gd_e (ix_nI (p := p) (N := 40) (by omega) (by decide)), nI_clamp (n := p) (by omega), bsp, fr_43_21 hF1, fk_63 hF1, fl_63 hF1, gd_e (ix_nI (p := i) (N := 12) (by omega) (by decide)), nI_clamp (n := i) (by omega), rb_ess_M hR1 63 i (by decide) rfl, fX11_layOrder_65, eF]
      by_cases q1 : r.2.2.2.2.2.1 p = 0
      · rw [if_pos q1, if_neg (fun x => x.2 q1)]; rfl
      · rw [if_neg q1]
        by_cases q2 : D 63 i = 0
        · rw [if_pos q2, if_pos ⟨q2, q1⟩]; rfl
        · rw [if_neg q2, if_neg (fun x => q2 x.1)]; rfl
    by_cases q : D 63 i = 0 ∧ ¬ r.2.2.2.2.2.1 p = 0
    · rw [if_pos q, m_65_M hR1 hp hs h6 (by omega) rfl (flD D (D 59 i) p) 0 F (by omega) (by
        have : flD D (D 59 i) p ≤ toN (D 53 p) := fa_first_le _ _
        omega)] at hgo
      by_cases qj : flD D (D 59 i) p < toN (D 53 p)
      · have hcl : CL D n p (i + 1) = va_up (CL D n p i) (flD D (D 59 i) p) (CL D n p i (flD D (D 59 i) p) + D 58 i) := by
          show (match wkG D n i with | none => _ | some r => _) = _
          rw [hw]
          simp only [q.1, q.2, qj, not_false_eq_true, and_self, if_true]
        rw [if_pos qj] at hgo
        obtain ⟨j, ej⟩ : ∃ j, j = flD D (D 59 i) p := ⟨_, rfl⟩
        rw [← ej] at hcl hgo qj
        have f5 : Fr z SO h1 (hp_si h1 (z + 75) j (h1.2.2.1 (z + 75) j + D 58 i)) := Fr.si (by decide) rfl
        obtain ⟨h', e2, f2, c2⟩ := ih (i + 1) f _ (f5.relM SO_ess hR1) (by omega) (by omega) (fun j2 hj2 => by
          rw [hcl, si_3, u2_at]
          by_cases r : j2 = j
          · rw [if_pos ⟨rfl, r⟩, r, va_up_self, row1 j (by omega)]
          · rw [if_neg (fun x => r x.2), va_up_ne _ _ r]; exact row1 j2 hj2)
        exact ⟨h', hgo.trans e2, ((f1.mono m1).tr f5).tr f2, c2⟩
      · have hcl : CL D n p (i + 1) = CL D n p i := by
          show (match wkG D n i with | none => _ | some r => _) = _
          rw [hw]
          simp only [qj, and_false, if_false]
        rw [if_neg qj] at hgo
        obtain ⟨h', e2, f2, c2⟩ := ih (i + 1) f h1 hR1 (by omega) (by omega) (fun j hj => by rw [hcl]; exact row1 j hj)
        exact ⟨h', hgo.trans e2, (f1.mono m1).tr f2, c2⟩
    · have hcl : CL D n p (i + 1) = CL D n p i := by
        show (match wkG D n i with | none => _ | some r => _) = _
        rw [hw]
        exact if_neg (fun x => q ⟨x.1, x.2.1⟩)
      rw [if_neg q, m_65_0_M hR1 hp] at hgo
      obtain ⟨h', e2, f2, c2⟩ := ih (i + 1) f h1 hR1 (by omega) (by omega) (fun j hj => by rw [hcl]; exact row1 j hj)
      exact ⟨h', hgo.trans e2, (f1.mono m1).tr f2, c2⟩
end
section
variable {z b : Nat} {h : Hp} {D : Nat → Nat → Int32} {n ng : Nat} {pa ba : Nat → Nat} {la : Nat → Nat → Nat} {ca : Nat → Nat} {g p s : Nat} {C : Nat → Int32}
theorem m_ins_M {rc : Nat → Int32 → Int32 → Hp → Option (Unit × Hp)} (hp : p < n) (hs : D 53 p = nI s) (h6 : s ≤ 6) {i : Nat} (hi : i < s) : ∀ (k : Nat) (o : Nat → Nat) (f : Nat) (h : Hp), RelM z h D n ng pa ba la ca → (∀ j, j < 6 → h.2.2.1 (z + 75) j = C j) → k ≤ i → k < f → (∀ a, a ≤ i → a ≠ k → h.2.2.1 (z + 76) a = nI (o a) ∧ o a < i) →
    ∃ h', fx (bX11_layOrder_151 rc) (fun _ _ _ _ _ => none) f (z + 43) (nI p) (nI i) (nI k) h = rc (z + 43) (nI p) (nI (i + 1)) h' ∧ Fr z S76 h h' ∧ ∀ a, a ≤ i → h'.2.2.1 (z + 76) a = nI (ins (ahD D p C) i k o a) := by
  have put : ∀ (k : Nat) (o : Nat → Nat) (h : Hp), k ≤ i → (∀ a, a ≤ i → a ≠ k → h.2.2.1 (z + 76) a = nI (o a) ∧ o a < i) → ∀ a, a ≤ i → (hp_si h (z + 76) k (nI i)).2.2.1 (z + 76) a = nI (upn o k i a) := by
    intro k o h hk hro a ha
    rw [si_3, u2_at]
    unfold upn
    by_cases q : a = k
    · rw [if_pos ⟨rfl, q⟩, if_pos q]
    · rw [if_neg (fun r => q r.2), if_neg q]; exact (hro a ha q).1
  intro k
  induction k with
  | zero =>
    intro o f h hR hC hk hf hro
    obtain ⟨f, rfl⟩ : ∃ k, f = k + 1 := ⟨f - 1, by omega⟩
    have hF := hR.1
    refine ⟨hp_si h (z + 76) 0 (nI i), ?_, Fr.si (by decide) rfl, put 0 o h hk hro⟩
    rw [fx_s]
    simp only [bX11_layOrder_151, if_pos (show nI 0 ≤ 0 by decide), fk_43 hF, gk_s, fr_43_49 hF, bd_s, fk_76 hF, fl_76 hF, gd_e (ix_nI (p := 0) (N := 6) (by omega) (by decide)), nI_clamp (n := 0) (by omega), nm_d, nI_1]
  | succ k ih =>
    intro o f h hR hC hk hf hro
    obtain ⟨f, rfl⟩ : ∃ k, f = k + 1 := ⟨f - 1, by omega⟩
    have hF := hR.1
    have n40 := (rb_n_M hR).2.2
    obtain ⟨rk, ok⟩ := hro k (by omega) (by omega)
    have nle : ¬ nI (k + 1) ≤ 0 := nI_nle (by omega) (by omega)
    have hm : nI (k + 1) + (-1) = nI k := by rw [← Int32.sub_eq_add_neg, nI_pred]
    by_cases q : ahD D p C i (o k) = true
    · have q' : ¬ D 54 (6 * p + o k) * C i ≤ D 54 (6 * p + i) * C (o k) := of_decide_eq_true q
      have e1 : Fr z S76 h (hp_si h (z + 76) (k + 1) (nI (o k))) := Fr.si (by decide) rfl
      obtain ⟨h', e2, f2, c2⟩ := ih (upn o (k + 1) (o k)) f _ (e1.relM S76_ess hR) (fun j hj => by rw [si_3, u2_at, if_neg (by omega)]; exact hC j hj) (by omega) (by omega) (fun a ha hak => by
        rw [si_3, u2_at]
        unfold upn
        by_cases q2 : a = k + 1
        · rw [if_pos ⟨rfl, q2⟩, if_pos q2]; exact ⟨rfl, ok⟩
        · rw [if_neg (fun r => q2 r.2), if_neg q2]; exact hro a ha q2)
      refine ⟨h', ?_, e1.tr f2, ?_⟩
      · rw [fx_s]
        simp only [bX11_layOrder_151, if_neg nle, fk_43 hF, gk_s, fr_43_11 hF, bd_s, fk_54 hF, fl_54 hF, i6, gd_e (ix_nI (p := 6 * p + i) (N := 240) (by omega) (by decide)), nI_clamp (n := 6 * p + i) (by omega), rb_ess_M hR 54 (6 * p + i) (by decide) rfl, fr_43_48 hF, fr_43_49 hF, fk_76 hF, fl_76 hF, nI_pred, gd_e (ix_nI (p := k) (N := 6) (by omega) (by decide)), nI_clamp (n := k) (by omega), rk, fk_75 hF, fl_75 hF, gd_e (ix_nI (p := o k) (N := 6) (by omega) (by decide)), nI_clamp (n := o k) (by omega), gd_e (ix_nI (p := 6 * p + o k) (N := 240) (by omega) (by decide)), nI_clamp (n := 6 * p + o k) (by omega), rb_ess_M hR 54 (6 * p + o k) (by decide) rfl, gd_e (ix_nI (p := i) (N := 6) (by omega) (by decide)), nI_clamp (n := i) (by omega), hC i (by omega), hC (o k) (by omega), if_neg q', gd_e (ix_nI (p := k + 1) (N := 6) (by omega) (by decide)), nI_clamp (n := k + 1) (by omega), nm_d, hm]
        exact e2
      · intro a ha
        rw [c2 a ha]
        show _ = nI ((if _ then _ else _ : Nat → Nat) a)
        rw [if_pos q]
    · have q' : D 54 (6 * p + o k) * C i ≤ D 54 (6 * p + i) * C (o k) := Classical.byContradiction fun x => q (decide_eq_true x)
      refine ⟨hp_si h (z + 76) (k + 1) (nI i), ?_, Fr.si (by decide) rfl, ?_⟩
      · rw [fx_s]
        simp only [bX11_layOrder_151, if_neg nle, fk_43 hF, gk_s, fr_43_11 hF, bd_s, fk_54 hF, fl_54 hF, i6, gd_e (ix_nI (p := 6 * p + i) (N := 240) (by omega) (by decide)), nI_clamp (n := 6 * p + i) (by omega), rb_ess_M hR 54 (6 * p + i) (by decide) rfl, fr_43_48 hF, fr_43_49 hF, fk_76 hF, fl_76 hF, nI_pred, gd_e (ix_nI (p := k) (N := 6) (by omega) (by decide)), nI_clamp (n := k) (by omega), rk, fk_75 hF, fl_75 hF, gd_e (ix_nI (p := o k) (N := 6) (by omega) (by decide)), nI_clamp (n := o k) (by omega), gd_e (ix_nI (p := 6 * p + o k) (N := 240) (by omega) (by decide)), nI_clamp (n := 6 * p + o k) (by omega), rb_ess_M hR 54 (6 * p + o k) (by decide) rfl, gd_e (ix_nI (p := i) (N := 6) (by omega) (by decide)), nI_clamp (n := i) (by omega), hC i (by omega), hC (o k) (by omega), if_pos q', gd_e (ix_nI (p := k + 1) (N := 6) (by omega) (by decide)), nI_clamp (n := k + 1) (by omega), nm_d, nI_1]
      · intro a ha
        rw [put (k + 1) o h hk hro a ha]
        show _ = nI ((if _ then _ else _ : Nat → Nat) a)
        rw [if_neg q]
end
section
variable {z b : Nat} {h : Hp} {D : Nat → Nat → Int32} {n ng : Nat} {pa ba : Nat → Nat} {la : Nat → Nat → Nat} {ca : Nat → Nat} {g p s : Nat} {C : Nat → Int32}
theorem m_sort_l_M (hp : p < n) (hs : D 53 p = nI s) (h6 : s ≤ 6) : ∀ (d i f : Nat) (h : Hp), RelM z h D n ng pa ba la ca → (∀ j, j < 6 → h.2.2.1 (z + 75) j = C j) → i + d = s → d < f → (∀ a, a < i → h.2.2.1 (z + 76) a = nI (srt (ahD D p C) i a)) →
    ∃ h', fx bX11_layOrder_139 (fun _ _ _ _ => none) f (z + 43) (nI p) (nI i) h = some ((), h') ∧ Fr z S76 h h' ∧ ∀ a, a < s → h'.2.2.1 (z + 76) a = nI (srt (ahD D p C) s a) := by
  intro d
  induction d with
  | zero =>
    intro i f h hR hC hi hf hro
    obtain ⟨f, rfl⟩ : ∃ k, f = k + 1 := ⟨f - 1, by omega⟩
    obtain rfl : i = s := by omega
    have hF := hR.1
    have n40 := (rb_n_M hR).2.2
    refine ⟨h, ?_, Fr.rf, hro⟩
    rw [fx_s]
    simp only [bX11_layOrder_139, fk_43 hF, gk_s, fr_43_10 hF, bd_s, fk_53 hF, fl_53 hF, gd_e (ix_nI (p := p) (N := 40) (by omega) (by decide)), nI_clamp (n := p) (by omega), rb_ess_M hR 53 p (by decide) rfl, hs, if_pos (nI_le (Nat.le_refl i) (by omega))]
  | succ d ih =>
    intro i f h hR hC hi hf hro
    obtain ⟨f, rfl⟩ : ∃ k, f = k + 1 := ⟨f - 1, by omega⟩
    have hF := hR.1
    have n40 := (rb_n_M hR).2.2
    have nfb := NF_big
    obtain ⟨h1, e1, f1, c1⟩ := m_ins_M (rc := fx bX11_layOrder_139 (fun _ _ _ _ => none) f) hp hs h6 (i := i) (by omega) i (srt (ahD D p C) i) NF h hR hC (Nat.le_refl i) (by omega) (fun a ha hak => ⟨hro a (by omega), (srt_ok i).1 a (by omega)⟩)
    obtain ⟨h', e2, f2, c2⟩ := ih (i + 1) f h1 (f1.relM S76_ess hR) (fun j hj => by rw [f1.2.2.2.2.1 75 j (by decide) rfl]; exact hC j hj) (by omega) (by omega) (fun a ha => c1 a (by omega))
    refine ⟨h', ?_, f1.tr f2, c2⟩
    rw [fx_s]
    simp only [bX11_layOrder_139, fk_43 hF, gk_s, fr_43_10 hF, bd_s, fk_53 hF, fl_53 hF, gd_e (ix_nI (p := p) (N := 40) (by omega) (by decide)), nI_clamp (n := p) (by omega), rb_ess_M hR 53 p (by decide) rfl, hs, if_neg (nI_ge (show i < s by omega) (by omega)), fX11_layOrder_151]
    rw [e1]
    exact e2
end
section
variable {z b : Nat} {h : Hp} {D : Nat → Nat → Int32} {n ng : Nat} {pa ba : Nat → Nat} {la : Nat → Nat → Nat} {ca : Nat → Nat} {g p s : Nat} {C : Nat → Int32}
theorem m_layOrder_M (hR : RelM z h D n ng pa ba la ca) (hp : p < n) (hs : D 53 p = nI s) (h6 : s ≤ 6) : ∃ h', fX11_layOrder (z + 43) (nI p) h = some ((), h') ∧ Fr z SO h h' ∧ (∀ j, j < 6 → h'.2.2.1 (z + 75) j = CL D n p ng j) ∧ ∀ a, a < s → h'.2.2.1 (z + 76) a = nI (srt (ahD D p (CL D n p ng)) s a) := by
  have nfb := NF_big
  have g3 := (rb_ng_M hR).2.2
  obtain ⟨h1, e1, f1, c1⟩ := m_2_l (nI p) 6 0 NF h hR.1 (by omega) (by omega) (fun j hj => absurd hj (Nat.not_lt_zero j))
  have hR1 := f1.relM SO_ess hR
  obtain ⟨h2, e2, f2, c2⟩ := m_23_l_M hp ng 0 NF h1 hR1 (by omega) (by omega) (fun j hj => c1 j hj)
  have hR2 := f2.relM SO_ess hR1
  obtain ⟨h3, e3, f3, c3⟩ := m_sort_l_M hp hs h6 s 0 NF h2 hR2 c2 (by omega) (by omega) (fun a ha => absurd ha (Nat.not_lt_zero a))
  refine ⟨h3, ?_, (f1.tr f2).tr (f3.mono S76_SO), fun j hj => by rw [f3.2.2.2.2.1 75 j (by decide) rfl]; exact c2 j hj, c3⟩
  exact (e1.trans e2).trans e3
end
