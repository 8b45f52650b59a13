/-! ring -/
section
variable {z b : Nat} {h : Hp} {D : Nat → Nat → Int32} {n ng : Nat} {pa ba : Nat → Nat} {la : Nat → Nat → Nat} {ca : Nat → Nat} {w v u : Int32} {kn : Bool} {T : Nat → Nat} {P : Nat}
theorem wk_bd : ∀ (f p t c k cl : Nat) (se cm ks : Nat → Int32) (r : WR), wk D n w v u kn T P f p t c k cl se cm ks = some r → r.2.2.2.1 ≤ c + f ∧ r.2.2.2.2.1 ≤ k + f := by
  intro f
  induction f with
  | zero => intro p t c k cl se cm ks r hw; exact absurd hw (by simp [wk])
  | succ f ih =>
    intro p t c k cl se cm ks r hw
    have hk2 : ∀ p t, k2D D w v kn T P p t k ≤ k + 1 := fun p t => by unfold k2D; split <;> omega
    have hk3 := hk2 p t
    unfold wk at hw
    split at hw
    · cases hw
      exact ⟨by show c + 1 ≤ _; omega, by show k ≤ _; omega⟩
    split at hw
    · cases hw
      exact ⟨by show c + 1 ≤ _; omega, by show k2D D w v kn T P p t k ≤ _; omega⟩
    split at hw
    · cases hw
      exact ⟨by show c + 1 ≤ _; omega, by show k2D D w v kn T P p t k ≤ _; omega⟩
    split at hw
    · obtain ⟨h1, h2⟩ := ih _ _ _ _ _ _ _ _ r hw
      exact ⟨by omega, by omega⟩
    · cases hw
      exact ⟨by show c + 1 ≤ _; omega, by show k2D D w v kn T P p t k ≤ _; omega⟩
def S65 : Nat → Nat → Bool := fun c k => c == 64 || c == 65 || (c == 43 && (k == 22 || k == 23 || k == 24 || k == 25 || k == 26))
theorem S65_ess : ∀ c k, S65 c k = true → ess c k = false := by
  intro c k hc
  simp only [S65, Bool.or_eq_true, Bool.and_eq_true, beq_iff_eq] at hc
  obtain (rfl | rfl) | ⟨rfl, (((rfl | rfl) | rfl) | rfl) | rfl⟩ := hc <;> rfl
theorem m_copy (x : Int32) : ∀ (d i f : Nat) (h : Hp), fxd z h → i + d = 60 → d < f → ∃ h', fx bX11_ring_87 (fun _ _ _ _ => none) f (z + 43) x (nI i) h = some (x, h') ∧ Fr z S65 h h' ∧ (∀ c j, c < 82 → c ≠ 64 → c ≠ 65 → h'.2.2.1 (z + c) j = h.2.2.1 (z + c) j) ∧ (∀ j, j < 60 → i ≤ j → h'.2.2.1 (z + 64) j = h.2.2.1 (z + 70) j ∧ h'.2.2.1 (z + 65) j = h.2.2.1 (z + 71) j) ∧ (∀ j, j < i → h'.2.2.1 (z + 64) j = h.2.2.1 (z + 64) j ∧ h'.2.2.1 (z + 65) j = h.2.2.1 (z + 65) j) := by
  intro d
  induction d with
  | zero =>
    intro i f h hF hi hf
    obtain ⟨f, rfl⟩ : ∃ k, f = k + 1 := ⟨f - 1, by omega⟩
    obtain rfl : i = 60 := by omega
    refine ⟨h, ?_, Fr.rf, fun _ _ _ _ _ => rfl, fun j h1 h2 => by omega, fun _ _ => ⟨rfl, rfl⟩⟩
    rw [fx_s]
    simp only [bX11_ring_87, if_pos (show (60 : Int32) ≤ nI 60 by decide)]
  | succ d ih =>
    intro i f h hF hi hf
    obtain ⟨f, rfl⟩ : ∃ k, f = k + 1 := ⟨f - 1, by omega⟩
    obtain ⟨g, eg⟩ : ∃ g, g = hp_si (hp_si h (z + 64) i (h.2.2.1 (z + 70) i)) (z + 65) i (h.2.2.1 (z + 71) i) := ⟨_, rfl⟩
    have fg : Fr z S65 h g := by rw [eg]; exact (Fr.si (by decide) rfl).tr (Fr.si (by decide) rfl)
    have hFg : fxd z g := by rw [eg]; exact hF
    obtain ⟨h', e1, f1, s1, s2, s3⟩ := ih (i + 1) f g hFg (by omega) (by omega)
    have rg : ∀ c j, g.2.2.1 (z + c) j = if c = 65 ∧ j = i then h.2.2.1 (z + 71) i else if c = 64 ∧ j = i then h.2.2.1 (z + 70) i else h.2.2.1 (z + c) j := fun c j => by
      rw [eg, si_3, u2_at, si_3, u2_at]
      by_cases q1 : c = 65 ∧ j = i
      · rw [if_pos ⟨by omega, q1.2⟩, if_pos q1]
      · rw [if_neg (fun r => q1 ⟨by omega, r.2⟩), if_neg q1]
        by_cases q2 : c = 64 ∧ j = i
        · rw [if_pos ⟨by omega, q2.2⟩, if_pos q2]
        · rw [if_neg (fun r => q2 ⟨by omega, r.2⟩), if_neg q2]
    refine ⟨h', ?_, fg.tr f1, fun c j hc h1 h2 => ?_, fun j h1 h2 => ?_, fun j h1 => ?_⟩
    · have r71 : (hp_si h (z + 64) i (h.2.2.1 (z + 70) i)).2.2.1 (z + 71) i = h.2.2.1 (z + 71) i := by rw [si_3, u2_at, if_neg (by omega)]
      rw [fx_s]
      simp only [bX11_ring_87, if_neg (show ¬ (60 : Int32) ≤ nI i from nI_ge (b := 60) (by omega) (by decide)), fk_43 hF, gk_s, fr_43_27 hF, fr_43_43 hF, bd_s, fk_70 hF, fl_70 hF, gd_e (ix_nI (p := i) (N := 60) (by omega) (by decide)), fk_64 hF, fl_64 hF, nI_clamp (n := i) (by omega), nm_d, si_4, si_1, si_2, fr_43_28 hF, fr_43_44 hF, fk_71 hF, fl_71 hF, fk_65 hF, fl_65 hF, r71, ← eg, nI_1]
      exact e1
    · rw [s1 c j hc h1 h2, rg, if_neg (by omega), if_neg (by omega)]
    · by_cases q : j = i
      · subst q
        obtain ⟨a1, a2⟩ := s3 j (by omega)
        exact ⟨by rw [a1, rg, if_neg (by omega), if_pos ⟨rfl, rfl⟩], by rw [a2, rg, if_pos ⟨rfl, rfl⟩]⟩
      · obtain ⟨a1, a2⟩ := s2 j h1 (by omega)
        exact ⟨by rw [a1, rg, if_neg (by omega), if_neg (by omega)], by rw [a2, rg, if_neg (by omega), if_neg (by omega)]⟩
    · obtain ⟨a1, a2⟩ := s3 j (by omega)
      exact ⟨by rw [a1, rg, if_neg (by omega), if_neg (by omega)], by rw [a2, rg, if_neg (by omega), if_neg (by omega)]⟩
theorem sim_ring (v1 v2 v3 v4 v5 : Int32) : Sim z (fX10_ring z v1 v2 v3 v4 v5) (fX11_ring (z + 43) v1 v2 v3 v4 v5) := by
  intro h hRel
  obtain ⟨⟨D, n, ng, pa, ba, la, ca, hR⟩, hT⟩ := id hRel
  obtain ⟨n1, n2, n3⟩ := rb_n hR
  have hF := hR.1
  have e10 : ¬ (1 : Int32) = 0 := by decide
  rcases (Classical.em ((0 ≤ v1 ∧ v1 ≤ 15) ∧ (0 ≤ v2 ∧ v2 ≤ 99999999) ∧ (1 ≤ v3 ∧ v3 ≤ 5000) ∧ (0 ≤ v4 ∧ v4 ≤ 23) ∧ (0 ≤ v5 ∧ v5 ≤ 1))).symm with c1 | c1
  · exact ⟨-1, h, h, by simp only [fX10_ring, l_isCallerX, b2_s, if_neg c1, if_true], fk_43 hF, by simp only [fX11_ring, l_isCaller, b2_s, if_neg c1, if_true], hRel⟩
  by_cases hn0 : n = 0
  · subst hn0
    exact ⟨-2, h, h, by simp only [fX10_ring, l_isCallerX, b2_s, if_pos c1, if_neg e10, fk_0 hF, gk_s, fr_0_0 hF, bd_s, fk_1 hF, n1, if_pos (show nI 0 = 0 from rfl)], fk_43 hF, by simp only [fX11_ring, l_isCaller, b2_s, if_pos c1, if_neg e10, fk_43 hF, gk_s, n2, if_pos (show nI 0 = 0 from rfl)], hRel⟩
  have hn : 0 < n := by omega
  have hne : ¬ nI n = 0 := nI_ne0 hn (by omega)
  obtain ⟨P, hP1, hP2, rfl⟩ : ∃ P, 1 ≤ P ∧ P ≤ 5000 ∧ v3 = nI P := rg_of (lo := 1) (hi := 5000) rfl rfl (by decide) (by decide) c1.2.2.1
  obtain ⟨k, ek⟩ : ∃ k : Bool, k = decide (v5 = 1) := ⟨_, rfl⟩
  obtain ⟨g, e1, s1, s2, hC, hp1, hk1⟩ := x_caller hF v1 v2 (nI P) v4 (if k = true then 1 else 0) (by cases k <;> simp)
  have hRg := RelB_scr hR s1
  have hFg := hRg.1
  obtain ⟨r, h1, hw, e2, f2, cE⟩ := x_follow (b := 35) (Or.inl rfl) hRg hn hC ⟨hC.1, hC.2.1, hp1, hP2⟩ k hk1
  have hR1 := f2.relB (Sx_ess (Or.inl rfl)) hRg
  have hF1 := hR1.1
  obtain ⟨cl, b0, b1, b2, b3, b4, b5, b9, bse, bcm, bks⟩ := cE
  obtain ⟨r', g2, hw', e3, f3, cM⟩ := m_goThrough (w := v1) (v := v2) (u := v4) hR1 hn hP2 k
  rw [hw] at hw'
  cases hw'
  have hR2 := f3.relB SM_ess hR1
  have hF2 := hR2.1
  obtain ⟨cl', m1, m2, m3, m4, m5, mse, mcm, mks⟩ := cM
  obtain ⟨g3, eg3⟩ : ∃ g3, g3 = hp_si (hp_si (hp_si (hp_si (hp_si g2 (z + 43) 22 1) (z + 43) 23 (nI r.2.1)) (z + 43) 24 (nI r.2.2.1)) (z + 43) 25 (nI r.2.2.2.1)) (z + 43) 26 (nI r.2.2.2.2.1) := ⟨_, rfl⟩
  have fg3 : Fr z S65 g2 g3 := by
    rw [eg3]
    exact ((((Fr.si (by decide) rfl).tr (Fr.si (by decide) rfl)).tr (Fr.si (by decide) rfl)).tr (Fr.si (by decide) rfl)).tr (Fr.si (by decide) rfl)
  have r43 : ∀ j, g3.2.2.1 (z + 43) j = if j = 26 then nI r.2.2.2.2.1 else if j = 25 then nI r.2.2.2.1 else if j = 24 then nI r.2.2.1 else if j = 23 then nI r.2.1 else if j = 22 then 1 else g2.2.2.1 (z + 43) j := fun j => by
    rw [eg3]; simp only [si_3, u2_at, true_and]
  have rne : ∀ c j, c ≠ 43 → g3.2.2.1 (z + c) j = g2.2.2.1 (z + c) j := fun c j hc => by
    rw [eg3]
    simp only [si_3, u2_at]
    repeat rw [if_neg (by omega)]
  have hF3 : fxd z g3 := (fg3.relB S65_ess hR2).1
  have nfb := NF_big
  obtain ⟨h2, e4, f4, t1, t2, t3⟩ := m_copy r.1 60 0 NF g3 hF3 (by omega) (by omega)
  have hR3 := (fg3.tr f4).relB S65_ess hR2
  have hbd := wk_bd _ _ _ _ _ _ _ _ _ r hw
  have hcls : ∀ c j, 35 ≤ c → c ≤ 38 → h2.2.2.1 (z + c) j = h1.2.2.1 (z + c) j := fun c j hc1 hc2 => by
    rw [t1 c j (by omega) (by omega) (by omega), rne c j (by omega), f3.2.2.2.2.1 c j (by omega)]
    simp [SM, Sm]
    omega
  refine ⟨r.1, h1, h2, ?_, fk_43 hF1, ?_, ⟨D, n, ng, pa, ba, la, ca, hR3⟩, ?_⟩
  · have a6 := fr_0_6 hF
    by_cases q : v5 = 1
    · have ek' : k = true := by rw [ek]; simp [q]
      rw [ek'] at e1
      simp only [if_true] at e1
      simp only [fX10_ring, l_isCallerX, b2_s, if_pos c1, if_neg e10, fk_0 hF, gk_s, fr_0_0 hF, bd_s, fk_1 hF, n1, if_neg hne, fr_0_6 hF, fr_0_1 hF, nm_d, if_pos q, e1, fk_35 hFg, e2, fk_0 hF1, fr_0_6 hF1, fk_35 hF1, b1]
    · have ek' : k = false := by rw [ek]; simp [q]
      rw [ek'] at e1
      simp only [Bool.false_eq_true, if_false] at e1
      simp only [fX10_ring, l_isCallerX, b2_s, if_pos c1, if_neg e10, fk_0 hF, gk_s, fr_0_0 hF, bd_s, fk_1 hF, n1, if_neg hne, fr_0_6 hF, fr_0_1 hF, nm_d, if_neg q, e1, fk_35 hFg, e2, fk_0 hF1, fr_0_6 hF1, fk_35 hF1, b1]
  · have tail : fX11_ring_42 (z + 43) (if k = true then 1 else 0) v4 (nI P) v2 v1 (z + 43) h1 = some (r.1, h2) := by
      have x1 : (hp_si g2 (z + 43) 22 1).2.2.1 (z + 43) 37 = nI r.2.1 := by rw [si_3, u2_at, if_neg (by omega)]; exact m1
      have x2 : (hp_si (hp_si g2 (z + 43) 22 1) (z + 43) 23 (nI r.2.1)).2.2.1 (z + 43) 38 = nI r.2.2.1 := by rw [si_3, u2_at, if_neg (by omega), si_3, u2_at, if_neg (by omega)]; exact m2
      have x3 : (hp_si (hp_si (hp_si g2 (z + 43) 22 1) (z + 43) 23 (nI r.2.1)) (z + 43) 24 (nI r.2.2.1)).2.2.1 (z + 43) 39 = nI r.2.2.2.1 := by rw [si_3, u2_at, if_neg (by omega), si_3, u2_at, if_neg (by omega), si_3, u2_at, if_neg (by omega)]; exact m3
      have x4 : (hp_si (hp_si (hp_si (hp_si g2 (z + 43) 22 1) (z + 43) 23 (nI r.2.1)) (z + 43) 24 (nI r.2.2.1)) (z + 43) 25 (nI r.2.2.2.1)).2.2.1 (z + 43) 40 = nI r.2.2.2.2.1 := by rw [si_3, u2_at, if_neg (by omega), si_3, u2_at, if_neg (by omega), si_3, u2_at, if_neg (by omega), si_3, u2_at, if_neg (by omega)]; exact m4
      simp only [fX11_ring_42, fk_43 hF1, gk_s, e3, b2_s, fk_43 hF2, nm_d, x1, x2, x3, x4, ← eg3]
      exact e4
    have n2' := (rb_n hR1).2.1
    by_cases q : v5 = 1
    · have ek' : k = true := by rw [ek]; simp [q]
      rw [ek'] at tail
      simp only [if_true] at tail
      simp only [fX11_ring, l_isCaller, b2_s, if_pos c1, if_neg e10, fk_43 hF1, gk_s, n2', if_neg hne, if_pos q, tail]
    · have ek' : k = false := by rw [ek]; simp [q]
      rw [ek'] at tail
      simp only [Bool.false_eq_true, if_false] at tail
      simp only [fX11_ring, l_isCaller, b2_s, if_pos c1, if_neg e10, fk_43 hF1, gk_s, n2', if_neg hne, if_neg q, tail]
  · have c22 : ∀ j, h2.2.2.1 (z + 43) j = g3.2.2.1 (z + 43) j := fun j => t1 43 j (by decide) (by decide) (by decide)
    unfold Told vv
    rw [hcls 35 0 (by decide) (by decide), hcls 35 2 (by decide) (by decide), hcls 35 3 (by decide) (by decide), hcls 35 4 (by decide) (by decide), hcls 35 5 (by decide) (by decide), b0, b2, b3, b4, b5, c22, c22, c22, c22, c22, r43, r43, r43, r43, r43]
    refine ⟨rfl, Or.inr ⟨rfl, rfl, rfl, rfl, rfl, fun k hk hlt => ?_, fun k hk hlt => ?_⟩⟩
    · have : k < r.2.2.2.1 := (nI_ltI (by omega) (by omega)).mp hlt
      rw [hcls 36 k (by decide) (by decide), bcm k hk this, (t2 k hk (Nat.zero_le k)).1, rne 70 k (by decide), mcm k hk this]
    · have : k < r.2.2.2.2.1 := (nI_ltI (by omega) (by omega)).mp hlt
      rw [hcls 37 k (by decide) (by decide), bks k hk this, (t2 k hk (Nat.zero_le k)).2, rne 71 k (by decide), mks k hk this]
end
