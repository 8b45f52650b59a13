/-! line, group -/
section
variable {z : Nat} {h : Hp} {D : Nat → Nat → Int32} {n ng p : Nat} {pa ba : Nat → Nat} {la : Nat → Nat → Nat} {ca : Nat → Nat}
theorem x_hasKey_f (hR : RelB z h D n ng pa ba la ca) (hp : p < n) (h0 : D 44 p = 0) {s : Nat} (hs : D 53 p = nI s) (h6 : s ≤ 6) {v : Int32} (hv : ∀ j, j < s → D 55 (6 * p + j) ≠ v) : ∀ (d i m : Nat), i + d = s → d < m → fx bX5_hasKey_2 (fun _ _ _ _ => none) m (pa p) v (nI i) h = some (0, h) := by
  obtain ⟨p1, p2, p3, p4, p5, p6, p7, p8, p9, p10, p11, p12, p13, p14⟩ := (pl_facts hR hp).1
  rw [if_pos h0] at p4
  intro d
  induction d with
  | zero =>
    intro i m hi hm
    obtain ⟨m, rfl⟩ : ∃ k, m = k + 1 := ⟨m - 1, by omega⟩
    rw [fx_s]
    simp only [bX5_hasKey_2, p1, gk_s, p10, hs]
    rw [show i = s by omega, if_pos (nI_le (Nat.le_refl _) (by omega))]
  | succ d ih =>
    intro i m hi hm
    obtain ⟨m, rfl⟩ : ∃ k, m = k + 1 := ⟨m - 1, by omega⟩
    have hlt : nI i < D 53 p := by rw [hs]; exact nI_lt (by omega) (by omega)
    obtain ⟨l0, l1, l2, l3, l4, l5⟩ := p14 i (by omega) hlt
    rw [fx_s]
    simp only [bX5_hasKey_2, p1, gk_s, p10, hs, if_neg (nI_ge (a := i) (b := s) (by omega) (by omega)), p2, bd_s, p3, p4, gd_e (ix_nI (p := i) (N := 6) (by omega) (by decide)), nI_clamp (n := i) (by omega), l0, l1, l3, if_neg (hv i (by omega)), nm_d, nI_1]
    exact ih (i + 1) m (by omega) (by omega)
theorem x_hasKey_t (hR : RelB z h D n ng pa ba la ca) (hp : p < n) (h0 : D 44 p = 0) {s : Nat} (hs : D 53 p = nI s) (h6 : s ≤ 6) {v : Int32} : ∀ (d i m : Nat), i + d = s → d < m → (∃ j, i ≤ j ∧ j < s ∧ D 55 (6 * p + j) = v) → fx bX5_hasKey_2 (fun _ _ _ _ => none) m (pa p) v (nI i) h = some (1, h) := by
  obtain ⟨p1, p2, p3, p4, p5, p6, p7, p8, p9, p10, p11, p12, p13, p14⟩ := (pl_facts hR hp).1
  rw [if_pos h0] at p4
  intro d
  induction d with
  | zero =>
    intro i m hi hm ⟨j, h1, h2, _⟩
    omega
  | succ d ih =>
    intro i m hi hm ⟨j, h1, h2, h3⟩
    obtain ⟨m, rfl⟩ : ∃ k, m = k + 1 := ⟨m - 1, by omega⟩
    have hlt : nI i < D 53 p := by rw [hs]; exact nI_lt (by omega) (by omega)
    obtain ⟨l0, l1, l2, l3, l4, l5⟩ := p14 i (by omega) hlt
    rw [fx_s]
    simp only [bX5_hasKey_2, p1, gk_s, p10, hs, if_neg (nI_ge (a := i) (b := s) (by omega) (by omega)), p2, bd_s, p3, p4, gd_e (ix_nI (p := i) (N := 6) (by omega) (by decide)), nI_clamp (n := i) (by omega), l0, l1, l3, nm_d, nI_1]
    by_cases e : D 55 (6 * p + i) = v
    · rw [if_pos e]
    · rw [if_neg e]
      refine ih (i + 1) m (by omega) (by omega) ⟨j, ?_, h2, h3⟩
      rcases Nat.lt_or_ge i j with q | q
      · exact q
      · exact absurd (by rw [show i = j by omega]; exact h3) e
/-- the model's look for the key -/
theorem m_key_t {g : Hp} (hF : fxd z g) {s : Nat} (h40 : p < 40) (hs : g.2.2.1 (z + 53) p = nI s) (h6 : s ≤ 6) {v1 v2 v4 v5 v : Int32} (hv1 : v1 = nI p) : ∀ (d i m : Nat), i + d = s → d < m → (∃ j, i ≤ j ∧ j < s ∧ g.2.2.1 (z + 55) (6 * p + j) = v) → fx bX11_line_50 (fun _ _ _ _ _ _ _ _ => none) m (z + 43) v1 v2 v v4 v5 (nI i) g = some (-1, g) := by
  subst hv1
  have q0 : ix (nI p) 40 = true := ix_nI h40 (by decide)
  have q1 : (nI p).toNatClampNeg = p := nI_clamp (by omega)
  intro d
  induction d with
  | zero =>
    intro i m hi hm ⟨j, h1, h2, _⟩
    omega
  | succ d ih =>
    intro i m hi hm ⟨j, h1, h2, h3⟩
    obtain ⟨m, rfl⟩ : ∃ k, m = k + 1 := ⟨m - 1, by omega⟩
    rw [fx_s]
    simp only [bX11_line_50, fk_43 hF, gk_s, fr_43_10 hF, bd_s, fk_53 hF, fl_53 hF, gd_e q0, q1, hs, if_neg (nI_ge (a := i) (b := s) (by omega) (by omega)), fr_43_12 hF, fk_55 hF, fl_55 hF, i6, gd_e (ix_nI (p := 6 * p + i) (N := 240) (by omega) (by decide)), nI_clamp (n := 6 * p + i) (by omega), nm_d, nI_1]
    by_cases e : g.2.2.1 (z + 55) (6 * p + i) = v
    · rw [if_pos e]
    · rw [if_neg e]
      refine ih (i + 1) m (by omega) (by omega) ⟨j, ?_, h2, h3⟩
      rcases Nat.lt_or_ge i j with q | q
      · exact q
      · exact absurd (by rw [show i = j by omega]; exact h3) e
theorem m_key_f {g : Hp} (hF : fxd z g) {s : Nat} (h40 : p < 40) (hs : g.2.2.1 (z + 53) p = nI s) (h6 : s ≤ 6) {v1 v2 v4 v5 v : Int32} (hv1 : v1 = nI p) (hv : ∀ j, j < s → g.2.2.1 (z + 55) (6 * p + j) ≠ v) : ∀ (d i m : Nat), i + d = s → d < m → fx bX11_line_50 (fun _ _ _ _ _ _ _ _ => none) m (z + 43) v1 v2 v v4 v5 (nI i) g = some (if s = 6 then (-3, g) else (nI (s + 1), hp_si (hp_si (hp_si (hp_si (hp_si g (z + 54) (6 * p + s) v2) (z + 55) (6 * p + s) v) (z + 56) (6 * p + s) v4) (z + 57) (6 * p + s) v5) (z + 53) p (nI (s + 1)))) := by
  subst hv1
  have q0 : ix (nI p) 40 = true := ix_nI h40 (by decide)
  have q1 : (nI p).toNatClampNeg = p := nI_clamp (by omega)
  intro d
  induction d with
  | zero =>
    intro i m hi hm
    obtain ⟨m, rfl⟩ : ∃ k, m = k + 1 := ⟨m - 1, by omega⟩
    rw [fx_s]
    simp only [bX11_line_50, fk_43 hF, gk_s, fr_43_10 hF, bd_s, fk_53 hF, fl_53 hF, gd_e q0, q1, hs]
    rw [show i = s by omega, if_pos (nI_le (Nat.le_refl _) (by omega))]
    by_cases e : s = 6
    · subst e
      rw [if_pos (show nI 6 = 6 from rfl), if_pos rfl]
    · rw [if_neg (show ¬ nI s = 6 from fun q => e ((nI_eq (a := s) (b := 6) (by omega) (by decide)).mp q)), if_neg e]
      simp only [i6, nm_d, fr_43_11 hF, fr_43_12 hF, fr_43_13 hF, fr_43_14 hF, bd_s, fk_54 hF, fk_55 hF, fk_56 hF, fk_57 hF, fl_54 hF, fl_55 hF, fl_56 hF, fl_57 hF, gk_s, gd_e (ix_nI (p := 6 * p + s) (N := 240) (by omega) (by decide)), nI_clamp (n := 6 * p + s) (by omega), si_1, si_2, si_4, fk_43 hF, fl_53 hF, gd_e q0, si_3, u2_at, Nat.add_left_cancel_iff, Nat.reduceEqDiff, false_and, if_false, hs, nI_1, and_self, if_true]
  | succ d ih =>
    intro i m hi hm
    obtain ⟨m, rfl⟩ : ∃ k, m = k + 1 := ⟨m - 1, by omega⟩
    rw [fx_s]
    simp only [bX11_line_50, fk_43 hF, gk_s, fr_43_10 hF, bd_s, fk_53 hF, fl_53 hF, gd_e q0, q1, hs, if_neg (nI_ge (a := i) (b := s) (by omega) (by omega)), fr_43_12 hF, fk_55 hF, fl_55 hF, i6, gd_e (ix_nI (p := 6 * p + i) (N := 240) (by omega) (by decide)), nI_clamp (n := 6 * p + i) (by omega), nm_d, nI_1, if_neg (hv i (by omega))]
    exact ih (i + 1) m (by omega) (by omega)
set_option maxHeartbeats 4000000 in
theorem sim_line (v1 v2 v3 v4 v5 : Int32) : Sim z (fX10_line z v1 v2 v3 v4 v5) (fX11_line (z + 43) v1 v2 v3 v4 v5) := by
  intro h hRel
  obtain ⟨⟨D, n, ng, pa, ba, la, ca, hR⟩, hT⟩ := id hRel
  obtain ⟨n1, n2, n3⟩ := rb_n hR
  have hF := hR.1
  have hz0 := hF.2.2.2
  by_cases hno : ¬ ∃ p, p < n ∧ D 44 p = 0 ∧ v1 = nI p
  · refine ⟨-1, h, h, ?_, fk_43 hF, ?_, hRel⟩
    · rcases ex_p (n := n) v1 with ⟨p, hp, rfl⟩ | hv
      · simp only [fX10_line, fk_0 hF, gk_s, fr_0_0 hF, bd_s, fk_1 hF, x_menuAt_t hR hp, if_neg (show ¬ D 44 p = 0 from fun q => hno ⟨p, hp, q, rfl⟩), b2_s, rn]
      · simp only [fX10_line, fk_0 hF, gk_s, fr_0_0 hF, bd_s, fk_1 hF, x_menuAt_f hR hv, b2_s, rn]
    · rcases ex_p (n := n) v1 with ⟨p, hp, rfl⟩ | hv
      · simp only [fX11_line, fk_43 hF, gk_s, m_isMenu_t hF n2 n3 hp, b2_s, bi_0, rb_ess hR 44 p (by decide) rfl, if_pos (show ¬ D 44 p = 0 from fun q => hno ⟨p, hp, q, rfl⟩)]
      · simp only [fX11_line, fk_43 hF, gk_s, m_isMenu_f hF n2 n3 hv, b2_s, if_pos]
  obtain ⟨p, hp, h0, rfl⟩ := Classical.not_not.mp hno
  have xm := x_menuAt_t hR hp
  rw [if_pos h0] at xm
  have mm := m_isMenu_t hF n2 n3 hp
  rw [rb_ess hR 44 p (by decide) rfl, bi_t h0] at mm
  obtain ⟨s, h6, hs⟩ := sz_of hR hp
  obtain ⟨hP, hpa, hba, hla⟩ := pl_facts hR hp
  obtain ⟨d1, d2, d3, d4, d5⟩ := hR.2.2.2
  obtain ⟨p1, p2, p3, p4, p5, p6, p7, p8, p9, p10, p11, p12, p13, p14⟩ := id hP
  rw [if_pos h0] at p4
  have e10 : ¬ (1 : Int32) = 0 := by decide
  by_cases c0 : ¬ (1 ≤ v2 ∧ v2 ≤ 200)
  · exact ⟨-1, h, h, by simp only [fX10_line, fk_0 hF, gk_s, fr_0_0 hF, bd_s, fk_1 hF, xm, b2_s, rn, l_within, bi_0, if_pos c0], fk_43 hF, by simp only [fX11_line, fk_43 hF, gk_s, mm, b2_s, if_neg e10, l_in, bi_0, if_pos c0], hRel⟩
  replace c0 := Classical.not_not.mp c0
  by_cases c1 : ¬ (0 ≤ v3 ∧ v3 ≤ 11)
  · exact ⟨-1, h, h, by simp only [fX10_line, fk_0 hF, gk_s, fr_0_0 hF, bd_s, fk_1 hF, xm, b2_s, rn, l_within, bi_0, if_neg (not_not_intro c0), if_pos c1], fk_43 hF, by simp only [fX11_line, fk_43 hF, gk_s, mm, b2_s, if_neg e10, l_in, bi_0, if_neg (not_not_intro c0), if_pos c1], hRel⟩
  replace c1 := Classical.not_not.mp c1
  by_cases c2 : ¬ (0 ≤ v4 ∧ v4 ≤ 65535)
  · exact ⟨-1, h, h, by simp only [fX10_line, fk_0 hF, gk_s, fr_0_0 hF, bd_s, fk_1 hF, xm, b2_s, rn, l_within, bi_0, if_neg (not_not_intro c0), if_neg (not_not_intro c1), if_pos c2], fk_43 hF, by simp only [fX11_line, fk_43 hF, gk_s, mm, b2_s, if_neg e10, l_in, l_areWishes, bi_0, if_neg (not_not_intro c0), if_neg (not_not_intro c1), if_pos c2], hRel⟩
  replace c2 := Classical.not_not.mp c2
  by_cases c3 : ¬ (-1 ≤ v5 ∧ v5 ≤ 39)
  · exact ⟨-1, h, h, by simp only [fX10_line, fk_0 hF, gk_s, fr_0_0 hF, bd_s, fk_1 hF, xm, b2_s, rn, l_within, l_isNextX, bi_0, if_neg (not_not_intro c0), if_neg (not_not_intro c1), if_neg (not_not_intro c2), if_pos c3], fk_43 hF, by simp only [fX11_line, fk_43 hF, gk_s, mm, b2_s, if_neg e10, l_in, l_areWishes, l_isNext, bi_0, if_neg (not_not_intro c0), if_neg (not_not_intro c1), if_neg (not_not_intro c2), if_pos c3], hRel⟩
  replace c3 := Classical.not_not.mp c3
  have hb := NF_big
  have m53 : h.2.2.1 (z + 53) p = nI s := by rw [rb_ess hR 53 p (by decide) rfl]; exact hs
  by_cases hk : ∃ j, j < s ∧ D 55 (6 * p + j) = v3
  · obtain ⟨j, hj, ej⟩ := hk
    have xk : fX5_hasKey (pa p) v3 h = some (1, h) := x_hasKey_t hR hp h0 hs h6 s 0 NF (by omega) (by omega) ⟨j, Nat.zero_le _, hj, ej⟩
    have mk : fX11_line_50 (z + 43) (nI p) v2 v3 v4 v5 0 h = some (-1, h) := m_key_t hF (by omega) m53 h6 rfl s 0 NF (by omega) (by omega) ⟨j, Nat.zero_le _, hj, by rw [rb_ess hR 55 _ (by decide) rfl]; exact ej⟩
    exact ⟨-1, h, h, by simp only [fX10_line, fk_0 hF, gk_s, fr_0_0 hF, bd_s, fk_1 hF, xm, b2_s, rn, l_within, l_isNextX, bi_0, if_neg (not_not_intro c0), if_neg (not_not_intro c1), if_neg (not_not_intro c2), if_neg (not_not_intro c3), p1, xk, if_neg e10], fk_43 hF, by simp only [fX11_line, fk_43 hF, gk_s, mm, b2_s, if_neg e10, l_in, l_areWishes, l_isNext, bi_0, if_neg (not_not_intro c0), if_neg (not_not_intro c1), if_neg (not_not_intro c2), if_neg (not_not_intro c3), mk], hRel⟩
  have hk' : ∀ j, j < s → D 55 (6 * p + j) ≠ v3 := fun j hj e => hk ⟨j, hj, e⟩
  have xk : fX5_hasKey (pa p) v3 h = some (0, h) := x_hasKey_f hR hp h0 hs h6 hk' s 0 NF (by omega) (by omega)
  by_cases hfull : s = 6
  · have mk : fX11_line_50 (z + 43) (nI p) v2 v3 v4 v5 0 h = some (if s = 6 then (-3, h) else _) := m_key_f hF (by omega) m53 h6 rfl (fun j hj => by rw [rb_ess hR 55 _ (by decide) rfl]; exact hk' j hj) s 0 NF (by omega) (by omega)
    rw [if_pos hfull] at mk
    refine ⟨-3, h, h, ?_, fk_43 hF, ?_, hRel⟩
    · simp only [fX10_line, fk_0 hF, gk_s, fr_0_0 hF, bd_s, fk_1 hF, xm, b2_s, rn, l_within, l_isNextX, bi_0, if_neg (not_not_intro c0), if_neg (not_not_intro c1), if_neg (not_not_intro c2), if_neg (not_not_intro c3), p1, xk, if_true, p10, hs, if_neg (show ¬ nI s < 6 by rw [hfull]; decide)]
    · simp only [fX11_line, fk_43 hF, gk_s, mm, b2_s, if_neg e10, l_in, l_areWishes, l_isNext, bi_0, if_neg (not_not_intro c0), if_neg (not_not_intro c1), if_neg (not_not_intro c2), if_neg (not_not_intro c3), mk]
  have hs6 : s < 6 := by omega
  -- the class's heap
  obtain ⟨g0, eg0⟩ : ∃ g, g = hp_si (hp_si (hp_si (hp_si (hp_nw h 4 0) h.2.2.2.2 0 v2) h.2.2.2.2 1 v3) h.2.2.2.2 2 v4) h.2.2.2.2 3 v5 := ⟨_, rfl⟩
  obtain ⟨h1, e1⟩ : ∃ g, g = hp_si (hp_sr g0 (ba p) s (some h.2.2.2.2)) (pa p) 6 (nI (s + 1)) := ⟨_, rfl⟩
  have kz : (hp_nw h 4 0).1 h.2.2.2.2 = 4 := va_up_self _ _ _
  have g0k : ∀ a, a < h.2.2.2.2 → g0.1 a = h.1 a := fun a ha => by rw [eg0]; show va_up _ _ _ _ = _; rw [va_up_ne _ _ (by omega)]
  have g0l : ∀ a, a < h.2.2.2.2 → g0.2.1 a = h.2.1 a := fun a ha => by rw [eg0]; show va_up _ _ _ _ = _; rw [va_up_ne _ _ (by omega)]
  have g0r : ∀ a, a < h.2.2.2.2 → g0.2.2.2.1 a = h.2.2.2.1 a := fun a ha => by rw [eg0]; show va_up _ _ _ _ = _; rw [va_up_ne _ _ (by omega)]
  have g0i : ∀ a, a < h.2.2.2.2 → g0.2.2.1 a = h.2.2.1 a := fun a ha => by
    rw [eg0, si_3, u2_ne (by omega), si_3, u2_ne (by omega), si_3, u2_ne (by omega), si_3, u2_ne (by omega)]
    exact va_up_ne _ _ (by omega)
  have g0z : g0.1 h.2.2.2.2 = 4 := by rw [eg0]; exact kz
  have g0n : g0.2.2.2.2 = h.2.2.2.2 + 1 := by rw [eg0]; rfl
  have nb : pa p ≠ ba p := fun e => by have := p1; rw [e, p3] at this; exact absurd this (by decide)
  have hF0 : fxd z g0 := by
    obtain ⟨f1, f2, f3, f4⟩ := hF
    refine ⟨fun c hc => (g0k _ (by omega)).trans (f1 c hc), fun c hc => (g0l _ (by omega)).trans (f2 c hc), fun c k o ho => ?_, by omega⟩
    have := (RT_lt c k o ho).1
    rw [g0r _ (by omega)]
    exact f3 c k o ho
  have hF1 : fxd z h1 := by
    obtain ⟨f1, f2, f3, f4⟩ := hF0
    rw [e1]
    refine ⟨f1, f2, fun c k o ho => ?_, f4⟩
    have := (RT_lt c k o ho).1
    rw [si_4, sr_4, u2_ne (by omega)]
    exact f3 c k o ho
  have h1i : ∀ c k, c < 82 → h1.2.2.1 (z + c) k = h.2.2.1 (z + c) k := fun c k hc => by rw [e1, si_3, u2_ne (by omega), sr_3, g0i _ (by omega)]
  obtain ⟨h2, e2⟩ : ∃ g, g = hp_si (hp_si (hp_si (hp_si (hp_si h1 (z + 54) (6 * p + s) v2) (z + 55) (6 * p + s) v3) (z + 56) (6 * p + s) v4) (z + 57) (6 * p + s) v5) (z + 53) p (nI (s + 1)) := ⟨_, rfl⟩
  have mk : fX11_line_50 (z + 43) (nI p) v2 v3 v4 v5 0 h1 = some (if s = 6 then (-3, h1) else _) := m_key_f hF1 (by omega) (by rw [h1i 53 p (by decide)]; exact m53) h6 rfl (fun j hj => by rw [h1i 55 _ (by decide), rb_ess hR 55 _ (by decide) rfl]; exact hk' j hj) s 0 NF (by omega) (by omega)
  rw [if_neg hfull, ← e2] at mk
  have mm1 := m_isMenu_t (h := h1) hF1 (n := n) (by rw [h1i 43 0 (by decide)]; exact n2) n3 hp
  rw [h1i 44 p (by decide), rb_ess hR 44 p (by decide) rfl, bi_t h0] at mm1
  obtain ⟨D2, eD⟩ : ∃ D2, D2 = u2 (u2 (u2 (u2 (u2 D 54 (6 * p + s) v2) 55 (6 * p + s) v3) 56 (6 * p + s) v4) 57 (6 * p + s) v5) 53 p (nI (s + 1)) := ⟨_, rfl⟩
  have qc : ∀ c k, (c < 53 ∨ 57 < c) → D2 c k = D c k := fun c k hc => by rw [eD, u2_at, if_neg (by omega), u2_at, if_neg (by omega), u2_at, if_neg (by omega), u2_at, if_neg (by omega), u2_at, if_neg (by omega)]
  have q53 : D2 53 p = nI (s + 1) := by rw [eD]; simp [u2_at]
  have q54 : ∀ k, D2 54 k = if k = 6 * p + s then v2 else D 54 k := fun k => by rw [eD]; simp [u2_at]
  have q55 : ∀ k, D2 55 k = if k = 6 * p + s then v3 else D 55 k := fun k => by rw [eD]; simp [u2_at]
  have q56 : ∀ k, D2 56 k = if k = 6 * p + s then v4 else D 56 k := fun k => by rw [eD]; simp [u2_at]
  have q57 : ∀ k, D2 57 k = if k = 6 * p + s then v5 else D 57 k := fun k => by rw [eD]; simp [u2_at]
  have hsl : sameButL D D2 p := ⟨fun c k hc => qc c k hc, fun k hk => by rw [eD, u2_at, if_neg (by omega), u2_at, if_neg (by omega), u2_at, if_neg (by omega), u2_at, if_neg (by omega), u2_at, if_neg (by omega)], fun c k a1 a2 a3 => by rw [eD, u2_at, if_neg (by omega), u2_at, if_neg (by omega), u2_at, if_neg (by omega), u2_at, if_neg (by omega), u2_at, if_neg (by omega)]⟩
  obtain ⟨l', el'⟩ : ∃ l' : Nat → Nat, l' = fun k => if k = s then h.2.2.2.2 else la p k := ⟨_, rfl⟩
  have lt_of : ∀ k, k < 6 → nI k < D2 53 p → k ≠ s → nI k < D 53 p := fun k k6 k3 ks => by
    rw [q53, nI_lt' (by omega) (by omega)] at k3
    rw [hs, nI_lt' (by omega) (by omega)]
    omega
  have h2i : ∀ a, z + 82 ≤ a → h2.2.2.1 a = h1.2.2.1 a := fun a ha => by rw [e2, si_3, u2_ne (by omega), si_3, u2_ne (by omega), si_3, u2_ne (by omega), si_3, u2_ne (by omega), si_3, u2_ne (by omega)]
  have h2r : h2.2.2.2.1 = u2 g0.2.2.2.1 (ba p) s (some h.2.2.2.2) := by rw [e2, e1]; rfl
  have h2k : h2.1 = g0.1 := by rw [e2, e1]; rfl
  have h2l : h2.2.1 = g0.2.1 := by rw [e2, e1]; rfl
  have h2z : h2.2.2.2.2 = h.2.2.2.2 + 1 := by rw [e2, e1]; exact g0n
  refine ⟨nI (s + 1), h1, h2, ?_, fk_43 hF1, ?_, ⟨D2, n, ng, pa, ba, _, ca, RelB_lines (l' := l') hR hp (by rw [e2]; exact hF1) ?_ hsl ?_ ?_ ?_ ?_ ?_ ?_ ?_ ?_ ?_ ?_⟩, ?_⟩
  · have x3 : fX3_init h.2.2.2.2 v2 v3 v4 v5 (hp_nw h 4 0) = some ((), g0) := by
      rw [eg0]
      simp only [fX3_init, kz, gk_s, nm_d]
    have g6 : g0.2.2.1 (pa p) 6 = nI s := by rw [g0i _ hpa.2, p10]; exact hs
    have xa : fX5_addLine (pa p) (some h.2.2.2.2) g0 = some ((), h1) := by
      rw [e1]
      simp only [fX5_addLine, g0k _ hpa.2, p1, gk_s, g0r _ hpa.2, p2, bd_s, g0k _ hba.2, p3, g0l _ hba.2, p4, g6, if_neg (show ¬ Int32.ofNat 6 ≤ nI s from nI_ge (a := s) (b := 6) hs6 (by decide)), g0z, gd_e (ix_nI (p := s) (N := 6) hs6 (by decide)), nI_clamp (n := s) (by omega), nm_d, sr_3, nI_1]
    have h16 : h1.2.2.1 (pa p) 6 = nI (s + 1) := by rw [e1, si_3, u2_at, if_pos ⟨rfl, rfl⟩]
    have h1k : h1.1 (pa p) = 6 := by rw [e1]; show g0.1 _ = _; rw [g0k _ hpa.2]; exact p1
    simp only [fX10_line, fk_0 hF, gk_s, fr_0_0 hF, bd_s, fk_1 hF, xm, b2_s, rn, l_within, l_isNextX, bi_0, if_neg (not_not_intro c0), if_neg (not_not_intro c1), if_neg (not_not_intro c2), if_neg (not_not_intro c3), p1, xk, if_true, p10, hs, if_pos (show nI s < 6 from nI_lt (b := 6) hs6 (by decide)), nm_d, x3, g0k _ hpa.2, xa, h1k, h16]
  · simp only [fX11_line, fk_43 hF1, gk_s, mm1, b2_s, if_neg e10, l_in, l_areWishes, l_isNext, bi_0, if_neg (not_not_intro c0), if_neg (not_not_intro c1), if_neg (not_not_intro c2), if_neg (not_not_intro c3), mk]
  · rw [e2, eD]
    refine ess_si (ess_si (ess_si (ess_si (ess_si (fun c k hc he => ?_)))))
    rw [h1i c k hc]
    exact hR.2.1 c k hc he
  · have := hR.2.2.1.2.2.2.1 p hp
    unfold PV at this ⊢
    simp only [qc 44 p (by decide), qc 45 p (by decide), qc 46 p (by decide), qc 47 p (by decide), qc 48 p (by decide), qc 49 p (by decide), qc 52 p (by decide)]
    obtain ⟨a1, a2, a3, a4, a5, a6, a7, a8, a9, a10, a11, a12⟩ := this
    refine ⟨a1, a2, a3, a4, a5, a6, a7, a8, by rw [q53]; exact ⟨s + 1, by omega, by omega, rfl⟩, fun q => absurd h0 q, a11, fun k hk h3 => ?_⟩
    rw [q54, q55, q56, q57]
    by_cases e : k = s
    · subst e
      simp only [if_pos]
      exact ⟨rg_of (lo := 1) (hi := 200) rfl rfl (by decide) (by decide) c0, rg_of (lo := 0) (hi := 11) rfl rfl (by decide) (by decide) c1, rg_of (lo := 0) (hi := 65535) rfl rfl (by decide) (by decide) c2, nxt_of c3⟩
    · simp only [if_neg (show ¬ 6 * p + k = 6 * p + s by omega)]
      exact a12 k hk (lt_of k hk h3 e)
  · omega
  · intro a ha; rw [h2k, h2l]; exact ⟨g0k a ha, g0l a ha⟩
  · intro a ha1 ha2 hne _
    rw [h2i a ha1, e1, si_3, u2_ne hne, sr_3, g0i a ha2]
  · intro a _ ha2 hne; rw [h2r, u2_ne hne, g0r a ha2]
  · rw [h2r, u2_ne (by omega), g0r _ (by omega)]
  · rw [h2r, u2_ne (by omega), g0r _ (by omega)]
  · unfold PlO
    have i1 : ∀ k, k ≠ 6 → h2.2.2.1 (pa p) k = h.2.2.1 (pa p) k := fun k hk => by rw [h2i _ hpa.1, e1, si_3, u2_at, if_neg (fun q => hk q.2), sr_3, g0i _ hpa.2]
    have i6' : h2.2.2.1 (pa p) 6 = nI (s + 1) := by rw [h2i _ hpa.1, e1, si_3, u2_at, if_pos ⟨rfl, rfl⟩]
    simp only [qc 44 p (by decide), qc 45 p (by decide), qc 46 p (by decide), qc 47 p (by decide), qc 48 p (by decide), qc 49 p (by decide), qc 50 p (by decide), qc 51 p (by decide), qc 52 p (by decide)]
    rw [h2k, h2l, g0k _ hpa.2, g0k _ hba.2, g0l _ hba.2, i1 0 (by decide), i1 1 (by decide), i1 2 (by decide), i1 3 (by decide), i1 4 (by decide), i1 7 (by decide), i1 8 (by decide), i1 9 (by decide), i1 10 (by decide), i6', q53]
    refine ⟨p1, by rw [h2r, u2_ne nb, g0r _ hpa.2]; exact p2, p3, by rw [if_pos h0]; exact p4, p5, p6, p7, p8, p9, rfl, p11, p12, p13, fun k hk h3 => ?_⟩
    rw [← q53] at h3
    rw [q54, q55, q56, q57, h2r, u2_at, el']
    by_cases e : k = s
    · subst e
      simp only [if_pos, and_self]
      refine ⟨trivial, ?_⟩
      unfold LnO
      rw [h2k, h2i _ (by omega), e1]
      refine ⟨g0z, ?_, ?_, ?_, ?_⟩ <;> (rw [si_3, u2_ne (by omega), sr_3, eg0]; simp [si_3, u2_at])
    · simp only [if_neg e, if_neg (show ¬ 6 * p + k = 6 * p + s by omega), if_neg (show ¬ (ba p = ba p ∧ k = s) from fun q => e q.2)]
      have h3' := lt_of k hk h3 e
      refine ⟨by simp only [true_and, if_neg e, g0r _ hba.2]; exact (p14 k hk h3').1, ?_⟩
      have := (p14 k hk h3').2
      have hl2 := hla k hk h3'
      unfold LnO at this ⊢
      rw [h2k, g0k _ hl2.2, h2i _ hl2.1, e1, si_3, u2_ne (fun e => by have := this.1; rw [e, p1] at this; exact absurd this (by decide)), sr_3, g0i _ hl2.2]
      exact this
  · intro k hk h3
    rw [el']
    by_cases e : k = s
    · simp only [if_pos e]
      exact Or.inr ⟨Nat.le_refl _, by omega⟩
    · simp only [if_neg e]
      exact Or.inl ⟨k, hk, lt_of k hk h3 e, rfl⟩
  · intro k k' hk h3 hk' h3' e
    rw [el'] at e
    by_cases e1 : k = s <;> by_cases e2 : k' = s
    · omega
    · simp only [if_pos e1, if_neg e2] at e
      have := (hla k' hk' (lt_of k' hk' h3' e2)).2
      omega
    · simp only [if_neg e1, if_pos e2] at e
      have := (hla k hk (lt_of k hk h3 e1)).2
      omega
    · simp only [if_neg e1, if_neg e2] at e
      exact (d4 p p k k' hp hp hk (lt_of k hk h3 e1) hk' (lt_of k' hk' h3' e2) e).2
  · refine Told_scr hT ?_
    rw [e2]
    refine ScT.tr (ScT.tr (ScT.tr (ScT.tr (ScT.tr ?_ (ScT.si (by decide) (by omega))) (ScT.si (by decide) (by omega))) (ScT.si (by decide) (by omega))) (ScT.si (by decide) (by omega))) (ScT.si (by decide) (by omega))
    exact ⟨fun k => h1i _ _ (by decide), fun k => h1i _ _ (by decide), fun k => h1i _ _ (by decide), fun k _ _ => h1i _ _ (by decide), fun k => h1i _ _ (by decide), fun k => h1i _ _ (by decide)⟩
end
