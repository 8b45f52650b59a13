/-! the five ways in which a place comes -/
section
variable {z : Nat}
theorem rg_wide {v : Int32} {a b c d : Nat} (h1 : c ≤ a) (h2 : b ≤ d) (h : rgN v a b) : rgN v c d := by
  obtain ⟨k, x, y, e⟩ := h
  exact ⟨k, by omega, by omega, e⟩
theorem ess_new {h g : Hp} {D : Nat → Nat → Int32} {n ng : Nat} {pa ba : Nat → Nat} {la : Nat → Nat → Nat} {ca : Nat → Nat} {F : Nat → Int32} {L a k0 : Nat} {v : Option Nat} (hR : RelB z h D n ng pa ba la ca) (hN : NewP h g F L) : ∀ c k, c < 82 → ess c k = true → (hp_sr g a k0 v).2.2.1 (z + c) k = D c k := fun c k hc he => by
  have hz := hR.1.2.2.2
  rw [sr_3, (hN.2.1 _ (by omega)).2.2.1]
  exact hR.2.1 c k hc he
theorem ScT_new {h g : Hp} {F : Nat → Int32} {L a k0 : Nat} {v : Option Nat} (hF : fxd z h) (hN : NewP h g F L) : ScT z h (hp_sr g a k0 v) := by
  have hz := hF.2.2.2
  have e : ∀ c, c < 82 → g.2.2.1 (z + c) = h.2.2.1 (z + c) := fun c hc => (hN.2.1 _ (by omega)).2.2.1
  refine ⟨fun k => ?_, fun k => ?_, fun k => ?_, fun k _ _ => ?_, fun k => ?_, fun k => ?_⟩
  · show g.2.2.1 (z + 35) k = _; rw [e 35 (by decide)]
  · show g.2.2.1 (z + 36) k = _; rw [e 36 (by decide)]
  · show g.2.2.1 (z + 37) k = _; rw [e 37 (by decide)]
  · show g.2.2.1 (z + 43) k = _; rw [e 43 (by decide)]
  · show g.2.2.1 (z + 64) k = _; rw [e 64 (by decide)]
  · show g.2.2.1 (z + 65) k = _; rw [e 65 (by decide)]
theorem sim_menu (v1 v2 v3 : Int32) : Sim z (fX10_menu z v1 v2 v3) (fX11_menu (z + 43) v1 v2 v3) := by
  intro h hRel
  obtain ⟨⟨D, n, ng, pa, ba, la, ca, hR⟩, hT⟩ := id hRel
  obtain ⟨n1, n2, n3⟩ := rb_n hR
  have hF := hR.1
  by_cases c0 : ¬ (1 ≤ v1 ∧ v1 ≤ 100)
  · exact ⟨-1, h, h, by simp only [fX10_menu, l_within, l_isNextX, l_isHour, b2_s, bi_0, if_pos c0], fk_43 hF, by simp only [fX11_menu, l_in, l_isNext, l_areWishes, b2_s, bi_0, if_pos c0], hRel⟩
  replace c0 := Classical.not_not.mp c0
  by_cases c1 : ¬ (1 ≤ v2 ∧ v2 ≤ 3)
  · exact ⟨-1, h, h, by simp only [fX10_menu, l_within, l_isNextX, l_isHour, b2_s, bi_0, if_neg (not_not_intro c0), if_pos c1], fk_43 hF, by simp only [fX11_menu, l_in, l_isNext, l_areWishes, b2_s, bi_0, if_neg (not_not_intro c0), if_pos c1], hRel⟩
  replace c1 := Classical.not_not.mp c1
  by_cases c2 : ¬ (-1 ≤ v3 ∧ v3 ≤ 39)
  · exact ⟨-1, h, h, by simp only [fX10_menu, l_within, l_isNextX, l_isHour, b2_s, bi_0, if_neg (not_not_intro c0), if_neg (not_not_intro c1), if_pos c2], fk_43 hF, by simp only [fX11_menu, l_in, l_isNext, l_areWishes, b2_s, bi_0, if_neg (not_not_intro c0), if_neg (not_not_intro c1), if_pos c2], hRel⟩
  replace c2 := Classical.not_not.mp c2
  by_cases hfull : n = 40
  · refine ⟨-3, h, h, ?_, fk_43 hF, ?_, hRel⟩
    · simp only [fX10_menu, l_within, l_isNextX, l_isHour, b2_s, bi_0, if_neg (not_not_intro c0), if_neg (not_not_intro c1), if_neg (not_not_intro c2), fk_0 hF, gk_s, fr_0_0 hF, bd_s, fk_1 hF, x_isFull hR, if_neg (not_not_intro hfull)]
    · simp only [fX11_menu, l_in, l_isNext, l_areWishes, b2_s, bi_0, if_neg (not_not_intro c0), if_neg (not_not_intro c1), if_neg (not_not_intro c2), fk_43 hF, gk_s, n2, m_full n3, if_pos hfull]
  have hn : n < 40 := by omega
  have q0 : ix (nI n) 40 = true := ix_nI hn (by decide)
  have q1 : (nI n).toNatClampNeg = n := nI_clamp (by omega)
  obtain ⟨g, eg, hN0⟩ := x_init5 h 0 v1 0 v3 (-1)
  have hN1 : NewP h (hp_si g h.2.2.2.2 7 v2) (placeF 0 v1 0 v3 (-1) v2 0 0 0) _ := NewP.si hN0 (fun j hj => by rcases (show j = 0 ∨ j = 1 ∨ j = 2 ∨ j = 3 ∨ j = 4 ∨ j = 5 ∨ j = 6 ∨ j = 7 ∨ j = 8 ∨ j = 9 ∨ j = 10 by omega) with rfl | rfl | rfl | rfl | rfl | rfl | rfl | rfl | rfl | rfl | rfl <;> rfl)
  obtain ⟨g2, eg2⟩ : ∃ g2, g2 = (hp_si g h.2.2.2.2 7 v2) := ⟨_, rfl⟩
  have hN : NewP h g2 (placeF 0 v1 0 v3 (-1) v2 0 0 0) (if (0 : Int32) = 0 then 6 else 0) := by rw [eg2]; exact hN1
  have hFg := fxd_new hF hN0
  have hFg2 := fxd_new hF hN
  have hadd := x_add hR hn hN
  obtain ⟨h1, e1⟩ : ∃ h1, h1 = hp_si (hp_sr g2 (z + 2) n (some h.2.2.2.2)) (z + 1) 1 (nI (n + 1)) := ⟨_, rfl⟩
  have hF1 : fxd z h1 := by rw [e1]; exact fxd_sr (c0 := 2) (Or.inl rfl) hFg2
  obtain ⟨h2, e2⟩ : ∃ h2, h2 = (hp_si (hp_si (hp_si (hp_si (hp_si (hp_si (hp_si (hp_si h1 (z + 46) n v2) (z + 44) n 0) (z + 45) n v1) (z + 47) n v3) (z + 48) n (-1)) (z + 49) n 0) (z + 53) n 0) (z + 43) 0 (nI (n + 1))) := ⟨_, rfl⟩
  obtain ⟨D2, eD⟩ : ∃ D2, D2 = (u2 (u2 (u2 (u2 (u2 (u2 (u2 (u2 (u2 D 1 1 (nI (n + 1))) 46 n v2) 44 n 0) 45 n v1) 47 n v3) 48 n (-1)) 49 n 0) 53 n 0) 43 0 (nI (n + 1))) := ⟨_, rfl⟩
  have m43 : h1.2.2.1 (z + 43) 0 = nI n := by rw [e1, si_3, u2_at, if_neg (by omega), sr_3, (hN.2.1 _ (by have := hF.2.2.2; omega)).2.2.1]; exact n2
  have a44 : D2 44 n = 0 := by rw [eD]; simp [u2_at]
  have a45 : D2 45 n = v1 := by rw [eD]; simp [u2_at]
  have a47 : D2 47 n = v3 := by rw [eD]; simp [u2_at]
  have a48 : D2 48 n = (-1) := by rw [eD]; simp [u2_at]
  have a49 : D2 49 n = 0 := by rw [eD]; simp [u2_at]
  have a53 : D2 53 n = 0 := by rw [eD]; simp [u2_at]
  have a46 : D2 46 n = v2 := by rw [eD]; simp [u2_at]
  refine ⟨nI n, h1, h2, ?_, fk_43 hF1, ?_, ?_⟩
  · simp only [fX10_menu, l_within, l_isNextX, l_isHour, b2_s, bi_0, if_neg (not_not_intro c0), if_neg (not_not_intro c1), if_neg (not_not_intro c2), fk_0 hF, gk_s, fr_0_0 hF, bd_s, fk_1 hF, x_isFull hR, if_pos hfull, nm_d, eg, hN0.2.2.1, si_1, si_2, si_4, fk_0 hFg, fr_0_0 hFg, fk_1 hFg, ← eg2, fk_1 hFg2, hadd, ← e1]
  · have mp := m_newPlace (z := z) (g := (hp_si h1 (z + 46) n v2)) (n := n) (show fxd z (hp_si h1 (z + 46) n v2) from hF1) (by simp only [si_3, u2_at, Nat.add_left_cancel_iff, Nat.reduceEqDiff, false_and, if_false]; exact m43) hn 0 v1 v3 (-1)
    simp only [fX11_menu, l_in, l_isNext, l_areWishes, b2_s, bi_0, if_neg (not_not_intro c0), if_neg (not_not_intro c1), if_neg (not_not_intro c2), fk_43 hF1, gk_s, m43, m_full n3, if_neg hfull, bd_s, gd_e q0, q1, nm_d, si_1, si_2, si_3, si_4, u2_at, Nat.add_left_cancel_iff, Nat.reduceEqDiff, false_and, if_false, fr_43_3 hF1, fk_46 hF1, fl_46 hF1, mp, e2]
  · refine join_add (D2 := D2) hR hT hn hN ?_ ?_ ?_ ?_ ?_ ?_ ?_ ⟨?_, ?_, ?_, ?_⟩ ?_ ?_ ?_ a53 ?_ ⟨?_, ?_, ?_, ?_, ?_, rfl, ?_, ?_, ?_⟩ ?_
    · rw [← e1, e2]; exact (Dyn.tr (Dyn.tr (Dyn.tr (Dyn.tr (Dyn.tr (Dyn.tr (Dyn.tr (Dyn.si (by decide)) (Dyn.si (by decide))) (Dyn.si (by decide))) (Dyn.si (by decide))) (Dyn.si (by decide))) (Dyn.si (by decide))) (Dyn.si (by decide))) (Dyn.si (by decide)))
    · rw [e2, e1]; exact hN.1
    · rw [e2, e1]; rfl
    · intro a ha; rw [e2]; simp only [si_3]; rw [u2_ne (by omega), u2_ne (by omega), u2_ne (by omega), u2_ne (by omega), u2_ne (by omega), u2_ne (by omega), u2_ne (by omega), u2_ne (by omega), e1, si_3, u2_ne (by omega), sr_3]
    · rw [e2, e1]; rfl
    · rw [e2, e1]; rfl
    · rw [e2, e1, eD]; exact (ess_si (ess_si (ess_si (ess_si (ess_si (ess_si (ess_si (ess_si (ess_si (ess_new hR hN))))))))))
    · intro c k h1 h2 h3; rw [eD, u2_at, if_neg (by omega), u2_at, if_neg (by omega), u2_at, if_neg (by omega), u2_at, if_neg (by omega), u2_at, if_neg (by omega), u2_at, if_neg (by omega), u2_at, if_neg (by omega), u2_at, if_neg (by omega), u2_at, if_neg (by omega)]
    · intro c k h1 h2; rw [eD, u2_at, if_neg (by omega), u2_at, if_neg (by omega), u2_at, if_neg (by omega), u2_at, if_neg (by omega), u2_at, if_neg (by omega), u2_at, if_neg (by omega), u2_at, if_neg (by omega), u2_at, if_neg (by omega), u2_at, if_neg (by omega)]
    · intro c k h1 h2 h3; rw [eD, u2_at, if_neg (by omega), u2_at, if_neg (by omega), u2_at, if_neg (by omega), u2_at, if_neg (by omega), u2_at, if_neg (by omega), u2_at, if_neg (by omega), u2_at, if_neg (by omega), u2_at, if_neg (by omega), u2_at, if_neg (by omega)]
    · intro k h1; rw [eD, u2_at, if_neg (by omega), u2_at, if_neg (by omega), u2_at, if_neg (by omega), u2_at, if_neg (by omega), u2_at, if_neg (by omega), u2_at, if_neg (by omega), u2_at, if_neg (by omega), u2_at, if_neg (by omega), u2_at, if_neg (by omega)]
    · rw [eD]; simp [u2_at]
    · rw [eD]; simp [u2_at]
    · unfold PV; simp only [a44, a45, a47, a48, a49, a53, a46]; exact ⟨rgN_lit 0 0 4 (by decide) (by decide), rg_wide (by decide) (by decide) (rg_of (lo := 1) (hi := 100) rfl rfl (by decide) (by decide) c0), fun _ _ => rg_wide (by decide) (by decide) (rg_of (lo := 1) (hi := 100) rfl rfl (by decide) (by decide) c0), fun _ => rg_of (lo := 1) (hi := 3) rfl rfl (by decide) (by decide) c1, nxt_of c2, nxt_m1, rgN_lit 0 0 65535 (by decide) (by decide), fun q => absurd q (by decide), rgN_lit 0 0 6 (by decide) (by decide), fun _ => trivial, fun q => absurd q (by decide), fun i hi h3 => absurd h3 (nI_pos (by omega))⟩
    · rw [e2, e1]; exact (ScT.tr (ScT.tr (ScT.tr (ScT.tr (ScT.tr (ScT.tr (ScT.tr (ScT.tr (ScT.tr (ScT_new hF hN) (ScT.si (by decide) (by omega))) (ScT.si (by decide) (by omega))) (ScT.si (by decide) (by omega))) (ScT.si (by decide) (by omega))) (ScT.si (by decide) (by omega))) (ScT.si (by decide) (by omega))) (ScT.si (by decide) (by omega))) (ScT.si (by decide) (by omega))) (ScT.si (by decide) (by omega)))
    · rw [a44]; rfl
    · rw [a45]; rfl
    · rw [a49]; rfl
    · rw [a47]; rfl
    · rw [a48]; rfl
    · rw [a44]; exact fun _ => a46.symm
    · rw [a44]; exact fun q => absurd q (by decide)
    · rw [a44]; exact fun q => absurd q (by decide)
    · rw [a44]
theorem sim_desk (v1 v2 : Int32) : Sim z (fX10_desk z v1 v2) (fX11_desk (z + 43) v1 v2) := by
  intro h hRel
  obtain ⟨⟨D, n, ng, pa, ba, la, ca, hR⟩, hT⟩ := id hRel
  obtain ⟨n1, n2, n3⟩ := rb_n hR
  have hF := hR.1
  by_cases c0 : ¬ (0 ≤ v1 ∧ v1 ≤ 500)
  · exact ⟨-1, h, h, by simp only [fX10_desk, l_within, l_isNextX, l_isHour, b2_s, bi_0, if_pos c0], fk_43 hF, by simp only [fX11_desk, l_in, l_isNext, l_areWishes, b2_s, bi_0, if_pos c0], hRel⟩
  replace c0 := Classical.not_not.mp c0
  by_cases c1 : ¬ (0 ≤ v2 ∧ v2 ≤ 65535)
  · exact ⟨-1, h, h, by simp only [fX10_desk, l_within, l_isNextX, l_isHour, b2_s, bi_0, if_neg (not_not_intro c0), if_pos c1], fk_43 hF, by simp only [fX11_desk, l_in, l_isNext, l_areWishes, b2_s, bi_0, if_neg (not_not_intro c0), if_pos c1], hRel⟩
  replace c1 := Classical.not_not.mp c1
  by_cases hfull : n = 40
  · refine ⟨-3, h, h, ?_, fk_43 hF, ?_, hRel⟩
    · simp only [fX10_desk, l_within, l_isNextX, l_isHour, b2_s, bi_0, if_neg (not_not_intro c0), if_neg (not_not_intro c1), fk_0 hF, gk_s, fr_0_0 hF, bd_s, fk_1 hF, x_isFull hR, if_neg (not_not_intro hfull)]
    · simp only [fX11_desk, l_in, l_isNext, l_areWishes, b2_s, bi_0, if_neg (not_not_intro c0), if_neg (not_not_intro c1), fk_43 hF, gk_s, n2, m_full n3, if_pos hfull]
  have hn : n < 40 := by omega
  have q0 : ix (nI n) 40 = true := ix_nI hn (by decide)
  have q1 : (nI n).toNatClampNeg = n := nI_clamp (by omega)
  obtain ⟨g, eg, hN0⟩ := x_init5 h 1 v1 v2 (-1) (-1)
  obtain ⟨g2, eg2⟩ : ∃ g2, g2 = g := ⟨_, rfl⟩
  have hN : NewP h g2 (placeF 1 v1 v2 (-1) (-1) 0 0 0 0) (if (1 : Int32) = 0 then 6 else 0) := by rw [eg2]; exact hN0
  have hFg := fxd_new hF hN0
  have hFg2 := fxd_new hF hN
  have hadd := x_add hR hn hN
  obtain ⟨h1, e1⟩ : ∃ h1, h1 = hp_si (hp_sr g2 (z + 2) n (some h.2.2.2.2)) (z + 1) 1 (nI (n + 1)) := ⟨_, rfl⟩
  have hF1 : fxd z h1 := by rw [e1]; exact fxd_sr (c0 := 2) (Or.inl rfl) hFg2
  obtain ⟨h2, e2⟩ : ∃ h2, h2 = (hp_si (hp_si (hp_si (hp_si (hp_si (hp_si (hp_si (hp_si h1 (z + 44) n 1) (z + 45) n v1) (z + 47) n (-1)) (z + 48) n (-1)) (z + 49) n 0) (z + 53) n 0) (z + 43) 0 (nI (n + 1))) (z + 49) n v2) := ⟨_, rfl⟩
  obtain ⟨D2, eD⟩ : ∃ D2, D2 = (u2 (u2 (u2 (u2 (u2 (u2 (u2 (u2 (u2 D 1 1 (nI (n + 1))) 44 n 1) 45 n v1) 47 n (-1)) 48 n (-1)) 49 n 0) 53 n 0) 43 0 (nI (n + 1))) 49 n v2) := ⟨_, rfl⟩
  have m43 : h1.2.2.1 (z + 43) 0 = nI n := by rw [e1, si_3, u2_at, if_neg (by omega), sr_3, (hN.2.1 _ (by have := hF.2.2.2; omega)).2.2.1]; exact n2
  have a44 : D2 44 n = 1 := by rw [eD]; simp [u2_at]
  have a45 : D2 45 n = v1 := by rw [eD]; simp [u2_at]
  have a47 : D2 47 n = (-1) := by rw [eD]; simp [u2_at]
  have a48 : D2 48 n = (-1) := by rw [eD]; simp [u2_at]
  have a49 : D2 49 n = v2 := by rw [eD]; simp [u2_at]
  have a53 : D2 53 n = 0 := by rw [eD]; simp [u2_at]
  refine ⟨nI n, h1, h2, ?_, fk_43 hF1, ?_, ?_⟩
  · simp only [fX10_desk, l_within, l_isNextX, l_isHour, b2_s, bi_0, if_neg (not_not_intro c0), if_neg (not_not_intro c1), fk_0 hF, gk_s, fr_0_0 hF, bd_s, fk_1 hF, x_isFull hR, if_pos hfull, nm_d, eg, hN0.2.2.1, si_1, si_2, si_4, fk_0 hFg, fr_0_0 hFg, fk_1 hFg, ← eg2, fk_1 hFg2, hadd, ← e1]
  · have mp := m_newPlace (z := z) (g := h1) (n := n) (show fxd z h1 from hF1) (by exact m43) hn 1 v1 (-1) (-1)
    simp only [fX11_desk, l_in, l_isNext, l_areWishes, b2_s, bi_0, if_neg (not_not_intro c0), if_neg (not_not_intro c1), fk_43 hF1, gk_s, m43, m_full n3, if_neg hfull, bd_s, gd_e q0, q1, nm_d, si_1, si_2, si_3, si_4, u2_at, Nat.add_left_cancel_iff, Nat.reduceEqDiff, false_and, if_false, fr_43_6 hF1, fk_49 hF1, fl_49 hF1, mp, e2]
  · refine join_add (D2 := D2) hR hT hn hN ?_ ?_ ?_ ?_ ?_ ?_ ?_ ⟨?_, ?_, ?_, ?_⟩ ?_ ?_ ?_ a53 ?_ ⟨?_, ?_, ?_, ?_, ?_, rfl, ?_, ?_, ?_⟩ ?_
    · rw [← e1, e2]; exact (Dyn.tr (Dyn.tr (Dyn.tr (Dyn.tr (Dyn.tr (Dyn.tr (Dyn.tr (Dyn.si (by decide)) (Dyn.si (by decide))) (Dyn.si (by decide))) (Dyn.si (by decide))) (Dyn.si (by decide))) (Dyn.si (by decide))) (Dyn.si (by decide))) (Dyn.si (by decide)))
    · rw [e2, e1]; exact hN.1
    · rw [e2, e1]; rfl
    · intro a ha; rw [e2]; simp only [si_3]; rw [u2_ne (by omega), u2_ne (by omega), u2_ne (by omega), u2_ne (by omega), u2_ne (by omega), u2_ne (by omega), u2_ne (by omega), u2_ne (by omega), e1, si_3, u2_ne (by omega), sr_3]
    · rw [e2, e1]; rfl
    · rw [e2, e1]; rfl
    · rw [e2, e1, eD]; exact (ess_si (ess_si (ess_si (ess_si (ess_si (ess_si (ess_si (ess_si (ess_si (ess_new hR hN))))))))))
    · intro c k h1 h2 h3; rw [eD, u2_at, if_neg (by omega), u2_at, if_neg (by omega), u2_at, if_neg (by omega), u2_at, if_neg (by omega), u2_at, if_neg (by omega), u2_at, if_neg (by omega), u2_at, if_neg (by omega), u2_at, if_neg (by omega), u2_at, if_neg (by omega)]
    · intro c k h1 h2; rw [eD, u2_at, if_neg (by omega), u2_at, if_neg (by omega), u2_at, if_neg (by omega), u2_at, if_neg (by omega), u2_at, if_neg (by omega), u2_at, if_neg (by omega), u2_at, if_neg (by omega), u2_at, if_neg (by omega), u2_at, if_neg (by omega)]
    · intro c k h1 h2 h3; rw [eD, u2_at, if_neg (by omega), u2_at, if_neg (by omega), u2_at, if_neg (by omega), u2_at, if_neg (by omega), u2_at, if_neg (by omega), u2_at, if_neg (by omega), u2_at, if_neg (by omega), u2_at, if_neg (by omega), u2_at, if_neg (by omega)]
    · intro k h1; rw [eD, u2_at, if_neg (by omega), u2_at, if_neg (by omega), u2_at, if_neg (by omega), u2_at, if_neg (by omega), u2_at, if_neg (by omega), u2_at, if_neg (by omega), u2_at, if_neg (by omega), u2_at, if_neg (by omega), u2_at, if_neg (by omega)]
    · rw [eD]; simp [u2_at]
    · rw [eD]; simp [u2_at]
    · unfold PV; simp only [a44, a45, a47, a48, a49, a53]; exact ⟨rgN_lit 1 0 4 (by decide) (by decide), rg_of (lo := 0) (hi := 500) rfl rfl (by decide) (by decide) c0, fun q => absurd rfl q, fun q => absurd q (by decide), nxt_m1, nxt_m1, rg_of (lo := 0) (hi := 65535) rfl rfl (by decide) (by decide) c1, fun q => absurd q (by decide), rgN_lit 0 0 6 (by decide) (by decide), fun _ => trivial, fun _ => trivial, fun i hi h3 => absurd h3 (nI_pos (by omega))⟩
    · rw [e2, e1]; exact (ScT.tr (ScT.tr (ScT.tr (ScT.tr (ScT.tr (ScT.tr (ScT.tr (ScT.tr (ScT.tr (ScT_new hF hN) (ScT.si (by decide) (by omega))) (ScT.si (by decide) (by omega))) (ScT.si (by decide) (by omega))) (ScT.si (by decide) (by omega))) (ScT.si (by decide) (by omega))) (ScT.si (by decide) (by omega))) (ScT.si (by decide) (by omega))) (ScT.si (by decide) (by omega))) (ScT.si (by decide) (by omega)))
    · rw [a44]; rfl
    · rw [a45]; rfl
    · rw [a49]; rfl
    · rw [a47]; rfl
    · rw [a48]; rfl
    · rw [a44]; exact fun q => absurd q (by decide)
    · rw [a44]; exact fun q => absurd q (by decide)
    · rw [a44]; exact fun q => absurd q (by decide)
    · rw [a44]
theorem sim_leaf (v1 v2 v3 : Int32) : Sim z (fX10_leaf z v1 v2 v3) (fX11_leaf (z + 43) v1 v2 v3) := by
  intro h hRel
  obtain ⟨⟨D, n, ng, pa, ba, la, ca, hR⟩, hT⟩ := id hRel
  obtain ⟨n1, n2, n3⟩ := rb_n hR
  have hF := hR.1
  by_cases c0 : ¬ (1 ≤ v1 ∧ v1 ≤ 200)
  · exact ⟨-1, h, h, by simp only [fX10_leaf, l_within, l_isNextX, l_isHour, b2_s, bi_0, if_pos c0], fk_43 hF, by simp only [fX11_leaf, l_in, l_isNext, l_areWishes, b2_s, bi_0, if_pos c0], hRel⟩
  replace c0 := Classical.not_not.mp c0
  by_cases c1 : ¬ (0 ≤ v2 ∧ v2 ≤ 65535)
  · exact ⟨-1, h, h, by simp only [fX10_leaf, l_within, l_isNextX, l_isHour, b2_s, bi_0, if_neg (not_not_intro c0), if_pos c1], fk_43 hF, by simp only [fX11_leaf, l_in, l_isNext, l_areWishes, b2_s, bi_0, if_neg (not_not_intro c0), if_pos c1], hRel⟩
  replace c1 := Classical.not_not.mp c1
  by_cases c2 : ¬ (-1 ≤ v3 ∧ v3 ≤ 39)
  · exact ⟨-1, h, h, by simp only [fX10_leaf, l_within, l_isNextX, l_isHour, b2_s, bi_0, if_neg (not_not_intro c0), if_neg (not_not_intro c1), if_pos c2], fk_43 hF, by simp only [fX11_leaf, l_in, l_isNext, l_areWishes, b2_s, bi_0, if_neg (not_not_intro c0), if_neg (not_not_intro c1), if_pos c2], hRel⟩
  replace c2 := Classical.not_not.mp c2
  by_cases hfull : n = 40
  · refine ⟨-3, h, h, ?_, fk_43 hF, ?_, hRel⟩
    · simp only [fX10_leaf, l_within, l_isNextX, l_isHour, b2_s, bi_0, if_neg (not_not_intro c0), if_neg (not_not_intro c1), if_neg (not_not_intro c2), fk_0 hF, gk_s, fr_0_0 hF, bd_s, fk_1 hF, x_isFull hR, if_neg (not_not_intro hfull)]
    · simp only [fX11_leaf, l_in, l_isNext, l_areWishes, b2_s, bi_0, if_neg (not_not_intro c0), if_neg (not_not_intro c1), if_neg (not_not_intro c2), fk_43 hF, gk_s, n2, m_full n3, if_pos hfull]
  have hn : n < 40 := by omega
  have q0 : ix (nI n) 40 = true := ix_nI hn (by decide)
  have q1 : (nI n).toNatClampNeg = n := nI_clamp (by omega)
  obtain ⟨g, eg, hN0⟩ := x_init5 h 2 v1 v2 v3 (-1)
  obtain ⟨g2, eg2⟩ : ∃ g2, g2 = g := ⟨_, rfl⟩
  have hN : NewP h g2 (placeF 2 v1 v2 v3 (-1) 0 0 0 0) (if (2 : Int32) = 0 then 6 else 0) := by rw [eg2]; exact hN0
  have hFg := fxd_new hF hN0
  have hFg2 := fxd_new hF hN
  have hadd := x_add hR hn hN
  obtain ⟨h1, e1⟩ : ∃ h1, h1 = hp_si (hp_sr g2 (z + 2) n (some h.2.2.2.2)) (z + 1) 1 (nI (n + 1)) := ⟨_, rfl⟩
  have hF1 : fxd z h1 := by rw [e1]; exact fxd_sr (c0 := 2) (Or.inl rfl) hFg2
  obtain ⟨h2, e2⟩ : ∃ h2, h2 = (hp_si (hp_si (hp_si (hp_si (hp_si (hp_si (hp_si (hp_si h1 (z + 44) n 2) (z + 45) n v1) (z + 47) n v3) (z + 48) n (-1)) (z + 49) n 0) (z + 53) n 0) (z + 43) 0 (nI (n + 1))) (z + 49) n v2) := ⟨_, rfl⟩
  obtain ⟨D2, eD⟩ : ∃ D2, D2 = (u2 (u2 (u2 (u2 (u2 (u2 (u2 (u2 (u2 D 1 1 (nI (n + 1))) 44 n 2) 45 n v1) 47 n v3) 48 n (-1)) 49 n 0) 53 n 0) 43 0 (nI (n + 1))) 49 n v2) := ⟨_, rfl⟩
  have m43 : h1.2.2.1 (z + 43) 0 = nI n := by rw [e1, si_3, u2_at, if_neg (by omega), sr_3, (hN.2.1 _ (by have := hF.2.2.2; omega)).2.2.1]; exact n2
  have a44 : D2 44 n = 2 := by rw [eD]; simp [u2_at]
  have a45 : D2 45 n = v1 := by rw [eD]; simp [u2_at]
  have a47 : D2 47 n = v3 := by rw [eD]; simp [u2_at]
  have a48 : D2 48 n = (-1) := by rw [eD]; simp [u2_at]
  have a49 : D2 49 n = v2 := by rw [eD]; simp [u2_at]
  have a53 : D2 53 n = 0 := by rw [eD]; simp [u2_at]
  refine ⟨nI n, h1, h2, ?_, fk_43 hF1, ?_, ?_⟩
  · simp only [fX10_leaf, l_within, l_isNextX, l_isHour, b2_s, bi_0, if_neg (not_not_intro c0), if_neg (not_not_intro c1), if_neg (not_not_intro c2), fk_0 hF, gk_s, fr_0_0 hF, bd_s, fk_1 hF, x_isFull hR, if_pos hfull, nm_d, eg, hN0.2.2.1, si_1, si_2, si_4, fk_0 hFg, fr_0_0 hFg, fk_1 hFg, ← eg2, fk_1 hFg2, hadd, ← e1]
  · have mp := m_newPlace (z := z) (g := h1) (n := n) (show fxd z h1 from hF1) (by exact m43) hn 2 v1 v3 (-1)
    simp only [fX11_leaf, l_in, l_isNext, l_areWishes, b2_s, bi_0, if_neg (not_not_intro c0), if_neg (not_not_intro c1), if_neg (not_not_intro c2), fk_43 hF1, gk_s, m43, m_full n3, if_neg hfull, bd_s, gd_e q0, q1, nm_d, si_1, si_2, si_3, si_4, u2_at, Nat.add_left_cancel_iff, Nat.reduceEqDiff, false_and, if_false, fr_43_6 hF1, fk_49 hF1, fl_49 hF1, mp, e2]
  · refine join_add (D2 := D2) hR hT hn hN ?_ ?_ ?_ ?_ ?_ ?_ ?_ ⟨?_, ?_, ?_, ?_⟩ ?_ ?_ ?_ a53 ?_ ⟨?_, ?_, ?_, ?_, ?_, rfl, ?_, ?_, ?_⟩ ?_
    · rw [← e1, e2]; exact (Dyn.tr (Dyn.tr (Dyn.tr (Dyn.tr (Dyn.tr (Dyn.tr (Dyn.tr (Dyn.si (by decide)) (Dyn.si (by decide))) (Dyn.si (by decide))) (Dyn.si (by decide))) (Dyn.si (by decide))) (Dyn.si (by decide))) (Dyn.si (by decide))) (Dyn.si (by decide)))
    · rw [e2, e1]; exact hN.1
    · rw [e2, e1]; rfl
    · intro a ha; rw [e2]; simp only [si_3]; rw [u2_ne (by omega), u2_ne (by omega), u2_ne (by omega), u2_ne (by omega), u2_ne (by omega), u2_ne (by omega), u2_ne (by omega), u2_ne (by omega), e1, si_3, u2_ne (by omega), sr_3]
    · rw [e2, e1]; rfl
    · rw [e2, e1]; rfl
    · rw [e2, e1, eD]; exact (ess_si (ess_si (ess_si (ess_si (ess_si (ess_si (ess_si (ess_si (ess_si (ess_new hR hN))))))))))
    · intro c k h1 h2 h3; rw [eD, u2_at, if_neg (by omega), u2_at, if_neg (by omega), u2_at, if_neg (by omega), u2_at, if_neg (by omega), u2_at, if_neg (by omega), u2_at, if_neg (by omega), u2_at, if_neg (by omega), u2_at, if_neg (by omega), u2_at, if_neg (by omega)]
    · intro c k h1 h2; rw [eD, u2_at, if_neg (by omega), u2_at, if_neg (by omega), u2_at, if_neg (by omega), u2_at, if_neg (by omega), u2_at, if_neg (by omega), u2_at, if_neg (by omega), u2_at, if_neg (by omega), u2_at, if_neg (by omega), u2_at, if_neg (by omega)]
    · intro c k h1 h2 h3; rw [eD, u2_at, if_neg (by omega), u2_at, if_neg (by omega), u2_at, if_neg (by omega), u2_at, if_neg (by omega), u2_at, if_neg (by omega), u2_at, if_neg (by omega), u2_at, if_neg (by omega), u2_at, if_neg (by omega), u2_at, if_neg (by omega)]
    · intro k h1; rw [eD, u2_at, if_neg (by omega), u2_at, if_neg (by omega), u2_at, if_neg (by omega), u2_at, if_neg (by omega), u2_at, if_neg (by omega), u2_at, if_neg (by omega), u2_at, if_neg (by omega), u2_at, if_neg (by omega), u2_at, if_neg (by omega)]
    · rw [eD]; simp [u2_at]
    · rw [eD]; simp [u2_at]
    · unfold PV; simp only [a44, a45, a47, a48, a49, a53]; exact ⟨rgN_lit 2 0 4 (by decide) (by decide), rg_wide (by decide) (by decide) (rg_of (lo := 1) (hi := 200) rfl rfl (by decide) (by decide) c0), fun _ _ => rg_of (lo := 1) (hi := 200) rfl rfl (by decide) (by decide) c0, fun q => absurd q (by decide), nxt_of c2, nxt_m1, rg_of (lo := 0) (hi := 65535) rfl rfl (by decide) (by decide) c1, fun q => absurd q (by decide), rgN_lit 0 0 6 (by decide) (by decide), fun _ => trivial, fun q => absurd q (by decide), fun i hi h3 => absurd h3 (nI_pos (by omega))⟩
    · rw [e2, e1]; exact (ScT.tr (ScT.tr (ScT.tr (ScT.tr (ScT.tr (ScT.tr (ScT.tr (ScT.tr (ScT.tr (ScT_new hF hN) (ScT.si (by decide) (by omega))) (ScT.si (by decide) (by omega))) (ScT.si (by decide) (by omega))) (ScT.si (by decide) (by omega))) (ScT.si (by decide) (by omega))) (ScT.si (by decide) (by omega))) (ScT.si (by decide) (by omega))) (ScT.si (by decide) (by omega))) (ScT.si (by decide) (by omega)))
    · rw [a44]; rfl
    · rw [a45]; rfl
    · rw [a49]; rfl
    · rw [a47]; rfl
    · rw [a48]; rfl
    · rw [a44]; exact fun q => absurd q (by decide)
    · rw [a44]; exact fun q => absurd q (by decide)
    · rw [a44]; exact fun q => absurd q (by decide)
    · rw [a44]
theorem sim_clock (v1 v2 v3 v4 : Int32) : Sim z (fX10_clock z v1 v2 v3 v4) (fX11_clock (z + 43) v1 v2 v3 v4) := by
  intro h hRel
  obtain ⟨⟨D, n, ng, pa, ba, la, ca, hR⟩, hT⟩ := id hRel
  obtain ⟨n1, n2, n3⟩ := rb_n hR
  have hF := hR.1
  by_cases c0 : ¬ (0 ≤ v1 ∧ v1 ≤ 23)
  · exact ⟨-1, h, h, by simp only [fX10_clock, l_within, l_isNextX, l_isHour, b2_s, bi_0, if_pos c0], fk_43 hF, by simp only [fX11_clock, l_in, l_isNext, l_areWishes, b2_s, bi_0, if_pos c0], hRel⟩
  replace c0 := Classical.not_not.mp c0
  by_cases c1 : ¬ (0 ≤ v2 ∧ v2 ≤ 23)
  · exact ⟨-1, h, h, by simp only [fX10_clock, l_within, l_isNextX, l_isHour, b2_s, bi_0, if_neg (not_not_intro c0), if_pos c1], fk_43 hF, by simp only [fX11_clock, l_in, l_isNext, l_areWishes, b2_s, bi_0, if_neg (not_not_intro c0), if_pos c1], hRel⟩
  replace c1 := Classical.not_not.mp c1
  by_cases c2 : ¬ (-1 ≤ v3 ∧ v3 ≤ 39)
  · exact ⟨-1, h, h, by simp only [fX10_clock, l_within, l_isNextX, l_isHour, b2_s, bi_0, if_neg (not_not_intro c0), if_neg (not_not_intro c1), if_pos c2], fk_43 hF, by simp only [fX11_clock, l_in, l_isNext, l_areWishes, b2_s, bi_0, if_neg (not_not_intro c0), if_neg (not_not_intro c1), if_pos c2], hRel⟩
  replace c2 := Classical.not_not.mp c2
  by_cases c3 : ¬ (-1 ≤ v4 ∧ v4 ≤ 39)
  · exact ⟨-1, h, h, by simp only [fX10_clock, l_within, l_isNextX, l_isHour, b2_s, bi_0, if_neg (not_not_intro c0), if_neg (not_not_intro c1), if_neg (not_not_intro c2), if_pos c3], fk_43 hF, by simp only [fX11_clock, l_in, l_isNext, l_areWishes, b2_s, bi_0, if_neg (not_not_intro c0), if_neg (not_not_intro c1), if_neg (not_not_intro c2), if_pos c3], hRel⟩
  replace c3 := Classical.not_not.mp c3
  by_cases hfull : n = 40
  · refine ⟨-3, h, h, ?_, fk_43 hF, ?_, hRel⟩
    · simp only [fX10_clock, l_within, l_isNextX, l_isHour, b2_s, bi_0, if_neg (not_not_intro c0), if_neg (not_not_intro c1), if_neg (not_not_intro c2), if_neg (not_not_intro c3), fk_0 hF, gk_s, fr_0_0 hF, bd_s, fk_1 hF, x_isFull hR, if_neg (not_not_intro hfull)]
    · simp only [fX11_clock, l_in, l_isNext, l_areWishes, b2_s, bi_0, if_neg (not_not_intro c0), if_neg (not_not_intro c1), if_neg (not_not_intro c2), if_neg (not_not_intro c3), fk_43 hF, gk_s, n2, m_full n3, if_pos hfull]
  have hn : n < 40 := by omega
  have q0 : ix (nI n) 40 = true := ix_nI hn (by decide)
  have q1 : (nI n).toNatClampNeg = n := nI_clamp (by omega)
  obtain ⟨g, eg, hN0⟩ := x_init5 h 3 0 0 v3 v4
  have hN1 : NewP h (hp_si g h.2.2.2.2 9 v1) (placeF 3 0 0 v3 v4 0 0 v1 0) _ := NewP.si hN0 (fun j hj => by rcases (show j = 0 ∨ j = 1 ∨ j = 2 ∨ j = 3 ∨ j = 4 ∨ j = 5 ∨ j = 6 ∨ j = 7 ∨ j = 8 ∨ j = 9 ∨ j = 10 by omega) with rfl | rfl | rfl | rfl | rfl | rfl | rfl | rfl | rfl | rfl | rfl <;> rfl)
  have hN2 : NewP h (hp_si (hp_si g h.2.2.2.2 9 v1) h.2.2.2.2 10 v2) (placeF 3 0 0 v3 v4 0 0 v1 v2) _ := NewP.si hN1 (fun j hj => by rcases (show j = 0 ∨ j = 1 ∨ j = 2 ∨ j = 3 ∨ j = 4 ∨ j = 5 ∨ j = 6 ∨ j = 7 ∨ j = 8 ∨ j = 9 ∨ j = 10 by omega) with rfl | rfl | rfl | rfl | rfl | rfl | rfl | rfl | rfl | rfl | rfl <;> rfl)
  obtain ⟨g2, eg2⟩ : ∃ g2, g2 = (hp_si (hp_si g h.2.2.2.2 9 v1) h.2.2.2.2 10 v2) := ⟨_, rfl⟩
  have hN : NewP h g2 (placeF 3 0 0 v3 v4 0 0 v1 v2) (if (3 : Int32) = 0 then 6 else 0) := by rw [eg2]; exact hN2
  have hFg := fxd_new hF hN0
  have hFg2 := fxd_new hF hN
  have hadd := x_add hR hn hN
  obtain ⟨h1, e1⟩ : ∃ h1, h1 = hp_si (hp_sr g2 (z + 2) n (some h.2.2.2.2)) (z + 1) 1 (nI (n + 1)) := ⟨_, rfl⟩
  have hF1 : fxd z h1 := by rw [e1]; exact fxd_sr (c0 := 2) (Or.inl rfl) hFg2
  obtain ⟨h2, e2⟩ : ∃ h2, h2 = (hp_si (hp_si (hp_si (hp_si (hp_si (hp_si (hp_si (hp_si (hp_si h1 (z + 50) n v1) (z + 51) n v2) (z + 44) n 3) (z + 45) n 0) (z + 47) n v3) (z + 48) n v4) (z + 49) n 0) (z + 53) n 0) (z + 43) 0 (nI (n + 1))) := ⟨_, rfl⟩
  obtain ⟨D2, eD⟩ : ∃ D2, D2 = (u2 (u2 (u2 (u2 (u2 (u2 (u2 (u2 (u2 (u2 D 1 1 (nI (n + 1))) 50 n v1) 51 n v2) 44 n 3) 45 n 0) 47 n v3) 48 n v4) 49 n 0) 53 n 0) 43 0 (nI (n + 1))) := ⟨_, rfl⟩
  have m43 : h1.2.2.1 (z + 43) 0 = nI n := by rw [e1, si_3, u2_at, if_neg (by omega), sr_3, (hN.2.1 _ (by have := hF.2.2.2; omega)).2.2.1]; exact n2
  have a44 : D2 44 n = 3 := by rw [eD]; simp [u2_at]
  have a45 : D2 45 n = 0 := by rw [eD]; simp [u2_at]
  have a47 : D2 47 n = v3 := by rw [eD]; simp [u2_at]
  have a48 : D2 48 n = v4 := by rw [eD]; simp [u2_at]
  have a49 : D2 49 n = 0 := by rw [eD]; simp [u2_at]
  have a53 : D2 53 n = 0 := by rw [eD]; simp [u2_at]
  have a50 : D2 50 n = v1 := by rw [eD]; simp [u2_at]
  have a51 : D2 51 n = v2 := by rw [eD]; simp [u2_at]
  refine ⟨nI n, h1, h2, ?_, fk_43 hF1, ?_, ?_⟩
  · simp only [fX10_clock, l_within, l_isNextX, l_isHour, b2_s, bi_0, if_neg (not_not_intro c0), if_neg (not_not_intro c1), if_neg (not_not_intro c2), if_neg (not_not_intro c3), fk_0 hF, gk_s, fr_0_0 hF, bd_s, fk_1 hF, x_isFull hR, if_pos hfull, nm_d, eg, hN0.2.2.1, si_1, si_2, si_4, fk_0 hFg, fr_0_0 hFg, fk_1 hFg, ← eg2, fk_1 hFg2, hadd, ← e1]
  · have mp := m_newPlace (z := z) (g := (hp_si (hp_si h1 (z + 50) n v1) (z + 51) n v2)) (n := n) (show fxd z (hp_si (hp_si h1 (z + 50) n v1) (z + 51) n v2) from hF1) (by simp only [si_3, u2_at, Nat.add_left_cancel_iff, Nat.reduceEqDiff, false_and, if_false]; exact m43) hn 3 0 v3 v4
    simp only [fX11_clock, l_in, l_isNext, l_areWishes, b2_s, bi_0, if_neg (not_not_intro c0), if_neg (not_not_intro c1), if_neg (not_not_intro c2), if_neg (not_not_intro c3), fk_43 hF1, gk_s, m43, m_full n3, if_neg hfull, bd_s, gd_e q0, q1, nm_d, si_1, si_2, si_3, si_4, u2_at, Nat.add_left_cancel_iff, Nat.reduceEqDiff, false_and, if_false, fr_43_7 hF1, fk_50 hF1, fl_50 hF1, fr_43_8 hF1, fk_51 hF1, fl_51 hF1, mp, e2]
  · refine join_add (D2 := D2) hR hT hn hN ?_ ?_ ?_ ?_ ?_ ?_ ?_ ⟨?_, ?_, ?_, ?_⟩ ?_ ?_ ?_ a53 ?_ ⟨?_, ?_, ?_, ?_, ?_, rfl, ?_, ?_, ?_⟩ ?_
    · rw [← e1, e2]; exact (Dyn.tr (Dyn.tr (Dyn.tr (Dyn.tr (Dyn.tr (Dyn.tr (Dyn.tr (Dyn.tr (Dyn.si (by decide)) (Dyn.si (by decide))) (Dyn.si (by decide))) (Dyn.si (by decide))) (Dyn.si (by decide))) (Dyn.si (by decide))) (Dyn.si (by decide))) (Dyn.si (by decide))) (Dyn.si (by decide)))
    · rw [e2, e1]; exact hN.1
    · rw [e2, e1]; rfl
    · intro a ha; rw [e2]; simp only [si_3]; rw [u2_ne (by omega), u2_ne (by omega), u2_ne (by omega), u2_ne (by omega), u2_ne (by omega), u2_ne (by omega), u2_ne (by omega), u2_ne (by omega), u2_ne (by omega), e1, si_3, u2_ne (by omega), sr_3]
    · rw [e2, e1]; rfl
    · rw [e2, e1]; rfl
    · rw [e2, e1, eD]; exact (ess_si (ess_si (ess_si (ess_si (ess_si (ess_si (ess_si (ess_si (ess_si (ess_si (ess_new hR hN)))))))))))
    · intro c k h1 h2 h3; rw [eD, u2_at, if_neg (by omega), u2_at, if_neg (by omega), u2_at, if_neg (by omega), u2_at, if_neg (by omega), u2_at, if_neg (by omega), u2_at, if_neg (by omega), u2_at, if_neg (by omega), u2_at, if_neg (by omega), u2_at, if_neg (by omega), u2_at, if_neg (by omega)]
    · intro c k h1 h2; rw [eD, u2_at, if_neg (by omega), u2_at, if_neg (by omega), u2_at, if_neg (by omega), u2_at, if_neg (by omega), u2_at, if_neg (by omega), u2_at, if_neg (by omega), u2_at, if_neg (by omega), u2_at, if_neg (by omega), u2_at, if_neg (by omega), u2_at, if_neg (by omega)]
    · intro c k h1 h2 h3; rw [eD, u2_at, if_neg (by omega), u2_at, if_neg (by omega), u2_at, if_neg (by omega), u2_at, if_neg (by omega), u2_at, if_neg (by omega), u2_at, if_neg (by omega), u2_at, if_neg (by omega), u2_at, if_neg (by omega), u2_at, if_neg (by omega), u2_at, if_neg (by omega)]
    · intro k h1; rw [eD, u2_at, if_neg (by omega), u2_at, if_neg (by omega), u2_at, if_neg (by omega), u2_at, if_neg (by omega), u2_at, if_neg (by omega), u2_at, if_neg (by omega), u2_at, if_neg (by omega), u2_at, if_neg (by omega), u2_at, if_neg (by omega), u2_at, if_neg (by omega)]
    · rw [eD]; simp [u2_at]
    · rw [eD]; simp [u2_at]
    · unfold PV; simp only [a44, a45, a47, a48, a49, a53, a50, a51]; exact ⟨rgN_lit 3 0 4 (by decide) (by decide), rgN_lit 0 0 500 (by decide) (by decide), fun _ q => absurd rfl q, fun q => absurd q (by decide), nxt_of c2, nxt_of c3, rgN_lit 0 0 65535 (by decide) (by decide), fun q => absurd q (by decide), rgN_lit 0 0 6 (by decide) (by decide), fun _ => trivial, fun q => absurd q (by decide), fun i hi h3 => absurd h3 (nI_pos (by omega))⟩
    · rw [e2, e1]; exact (ScT.tr (ScT.tr (ScT.tr (ScT.tr (ScT.tr (ScT.tr (ScT.tr (ScT.tr (ScT.tr (ScT.tr (ScT_new hF hN) (ScT.si (by decide) (by omega))) (ScT.si (by decide) (by omega))) (ScT.si (by decide) (by omega))) (ScT.si (by decide) (by omega))) (ScT.si (by decide) (by omega))) (ScT.si (by decide) (by omega))) (ScT.si (by decide) (by omega))) (ScT.si (by decide) (by omega))) (ScT.si (by decide) (by omega))) (ScT.si (by decide) (by omega)))
    · rw [a44]; rfl
    · rw [a45]; rfl
    · rw [a49]; rfl
    · rw [a47]; rfl
    · rw [a48]; rfl
    · rw [a44]; exact fun q => absurd q (by decide)
    · rw [a44]; exact fun q => absurd q (by decide)
    · rw [a44]; exact fun _ => ⟨a50.symm, a51.symm⟩
    · rw [a44]
theorem sim_asked (v1 v2 v3 v4 v5 : Int32) : Sim z (fX10_asked z v1 v2 v3 v4 v5) (fX11_asked (z + 43) v1 v2 v3 v4 v5) := by
  intro h hRel
  obtain ⟨⟨D, n, ng, pa, ba, la, ca, hR⟩, hT⟩ := id hRel
  obtain ⟨n1, n2, n3⟩ := rb_n hR
  have hF := hR.1
  by_cases c0 : ¬ (1 ≤ v1 ∧ v1 ≤ 200)
  · exact ⟨-1, h, h, by simp only [fX10_asked, l_within, l_isNextX, l_isHour, b2_s, bi_0, if_pos c0], fk_43 hF, by simp only [fX11_asked, l_in, l_isNext, l_areWishes, b2_s, bi_0, if_pos c0], hRel⟩
  replace c0 := Classical.not_not.mp c0
  by_cases c1 : ¬ (1 ≤ v2 ∧ v2 ≤ 8)
  · exact ⟨-1, h, h, by simp only [fX10_asked, l_within, l_isNextX, l_isHour, b2_s, bi_0, if_neg (not_not_intro c0), if_pos c1], fk_43 hF, by simp only [fX11_asked, l_in, l_isNext, l_areWishes, b2_s, bi_0, if_neg (not_not_intro c0), if_pos c1], hRel⟩
  replace c1 := Classical.not_not.mp c1
  by_cases c2 : ¬ (1 ≤ v3 ∧ v3 ≤ 3)
  · exact ⟨-1, h, h, by simp only [fX10_asked, l_within, l_isNextX, l_isHour, b2_s, bi_0, if_neg (not_not_intro c0), if_neg (not_not_intro c1), if_pos c2], fk_43 hF, by simp only [fX11_asked, l_in, l_isNext, l_areWishes, b2_s, bi_0, if_neg (not_not_intro c0), if_neg (not_not_intro c1), if_pos c2], hRel⟩
  replace c2 := Classical.not_not.mp c2
  by_cases c3 : ¬ (-1 ≤ v4 ∧ v4 ≤ 39)
  · exact ⟨-1, h, h, by simp only [fX10_asked, l_within, l_isNextX, l_isHour, b2_s, bi_0, if_neg (not_not_intro c0), if_neg (not_not_intro c1), if_neg (not_not_intro c2), if_pos c3], fk_43 hF, by simp only [fX11_asked, l_in, l_isNext, l_areWishes, b2_s, bi_0, if_neg (not_not_intro c0), if_neg (not_not_intro c1), if_neg (not_not_intro c2), if_pos c3], hRel⟩
  replace c3 := Classical.not_not.mp c3
  by_cases c4 : ¬ (-1 ≤ v5 ∧ v5 ≤ 39)
  · exact ⟨-1, h, h, by simp only [fX10_asked, l_within, l_isNextX, l_isHour, b2_s, bi_0, if_neg (not_not_intro c0), if_neg (not_not_intro c1), if_neg (not_not_intro c2), if_neg (not_not_intro c3), if_pos c4], fk_43 hF, by simp only [fX11_asked, l_in, l_isNext, l_areWishes, b2_s, bi_0, if_neg (not_not_intro c0), if_neg (not_not_intro c1), if_neg (not_not_intro c2), if_neg (not_not_intro c3), if_pos c4], hRel⟩
  replace c4 := Classical.not_not.mp c4
  by_cases hfull : n = 40
  · refine ⟨-3, h, h, ?_, fk_43 hF, ?_, hRel⟩
    · simp only [fX10_asked, l_within, l_isNextX, l_isHour, b2_s, bi_0, if_neg (not_not_intro c0), if_neg (not_not_intro c1), if_neg (not_not_intro c2), if_neg (not_not_intro c3), if_neg (not_not_intro c4), fk_0 hF, gk_s, fr_0_0 hF, bd_s, fk_1 hF, x_isFull hR, if_neg (not_not_intro hfull)]
    · simp only [fX11_asked, l_in, l_isNext, l_areWishes, b2_s, bi_0, if_neg (not_not_intro c0), if_neg (not_not_intro c1), if_neg (not_not_intro c2), if_neg (not_not_intro c3), if_neg (not_not_intro c4), fk_43 hF, gk_s, n2, m_full n3, if_pos hfull]
  have hn : n < 40 := by omega
  have q0 : ix (nI n) 40 = true := ix_nI hn (by decide)
  have q1 : (nI n).toNatClampNeg = n := nI_clamp (by omega)
  obtain ⟨g, eg, hN0⟩ := x_init5 h 4 v1 0 v4 v5
  have hN1 : NewP h (hp_si g h.2.2.2.2 8 v2) (placeF 4 v1 0 v4 v5 0 v2 0 0) _ := NewP.si hN0 (fun j hj => by rcases (show j = 0 ∨ j = 1 ∨ j = 2 ∨ j = 3 ∨ j = 4 ∨ j = 5 ∨ j = 6 ∨ j = 7 ∨ j = 8 ∨ j = 9 ∨ j = 10 by omega) with rfl | rfl | rfl | rfl | rfl | rfl | rfl | rfl | rfl | rfl | rfl <;> rfl)
  have hN2 : NewP h (hp_si (hp_si g h.2.2.2.2 8 v2) h.2.2.2.2 7 v3) (placeF 4 v1 0 v4 v5 v3 v2 0 0) _ := NewP.si hN1 (fun j hj => by rcases (show j = 0 ∨ j = 1 ∨ j = 2 ∨ j = 3 ∨ j = 4 ∨ j = 5 ∨ j = 6 ∨ j = 7 ∨ j = 8 ∨ j = 9 ∨ j = 10 by omega) with rfl | rfl | rfl | rfl | rfl | rfl | rfl | rfl | rfl | rfl | rfl <;> rfl)
  obtain ⟨g2, eg2⟩ : ∃ g2, g2 = (hp_si (hp_si g h.2.2.2.2 8 v2) h.2.2.2.2 7 v3) := ⟨_, rfl⟩
  have hN : NewP h g2 (placeF 4 v1 0 v4 v5 v3 v2 0 0) (if (4 : Int32) = 0 then 6 else 0) := by rw [eg2]; exact hN2
  have hFg := fxd_new hF hN0
  have hFg2 := fxd_new hF hN
  have hadd := x_add hR hn hN
  obtain ⟨h1, e1⟩ : ∃ h1, h1 = hp_si (hp_sr g2 (z + 2) n (some h.2.2.2.2)) (z + 1) 1 (nI (n + 1)) := ⟨_, rfl⟩
  have hF1 : fxd z h1 := by rw [e1]; exact fxd_sr (c0 := 2) (Or.inl rfl) hFg2
  obtain ⟨h2, e2⟩ : ∃ h2, h2 = (hp_si (hp_si (hp_si (hp_si (hp_si (hp_si (hp_si (hp_si (hp_si h1 (z + 52) n v2) (z + 46) n v3) (z + 44) n 4) (z + 45) n v1) (z + 47) n v4) (z + 48) n v5) (z + 49) n 0) (z + 53) n 0) (z + 43) 0 (nI (n + 1))) := ⟨_, rfl⟩
  obtain ⟨D2, eD⟩ : ∃ D2, D2 = (u2 (u2 (u2 (u2 (u2 (u2 (u2 (u2 (u2 (u2 D 1 1 (nI (n + 1))) 52 n v2) 46 n v3) 44 n 4) 45 n v1) 47 n v4) 48 n v5) 49 n 0) 53 n 0) 43 0 (nI (n + 1))) := ⟨_, rfl⟩
  have m43 : h1.2.2.1 (z + 43) 0 = nI n := by rw [e1, si_3, u2_at, if_neg (by omega), sr_3, (hN.2.1 _ (by have := hF.2.2.2; omega)).2.2.1]; exact n2
  have a44 : D2 44 n = 4 := by rw [eD]; simp [u2_at]
  have a45 : D2 45 n = v1 := by rw [eD]; simp [u2_at]
  have a47 : D2 47 n = v4 := by rw [eD]; simp [u2_at]
  have a48 : D2 48 n = v5 := by rw [eD]; simp [u2_at]
  have a49 : D2 49 n = 0 := by rw [eD]; simp [u2_at]
  have a53 : D2 53 n = 0 := by rw [eD]; simp [u2_at]
  have a52 : D2 52 n = v2 := by rw [eD]; simp [u2_at]
  have a46 : D2 46 n = v3 := by rw [eD]; simp [u2_at]
  refine ⟨nI n, h1, h2, ?_, fk_43 hF1, ?_, ?_⟩
  · simp only [fX10_asked, l_within, l_isNextX, l_isHour, b2_s, bi_0, if_neg (not_not_intro c0), if_neg (not_not_intro c1), if_neg (not_not_intro c2), if_neg (not_not_intro c3), if_neg (not_not_intro c4), fk_0 hF, gk_s, fr_0_0 hF, bd_s, fk_1 hF, x_isFull hR, if_pos hfull, nm_d, eg, hN0.2.2.1, si_1, si_2, si_4, fk_0 hFg, fr_0_0 hFg, fk_1 hFg, ← eg2, fk_1 hFg2, hadd, ← e1]
  · have mp := m_newPlace (z := z) (g := (hp_si (hp_si h1 (z + 52) n v2) (z + 46) n v3)) (n := n) (show fxd z (hp_si (hp_si h1 (z + 52) n v2) (z + 46) n v3) from hF1) (by simp only [si_3, u2_at, Nat.add_left_cancel_iff, Nat.reduceEqDiff, false_and, if_false]; exact m43) hn 4 v1 v4 v5
    simp only [fX11_asked, l_in, l_isNext, l_areWishes, b2_s, bi_0, if_neg (not_not_intro c0), if_neg (not_not_intro c1), if_neg (not_not_intro c2), if_neg (not_not_intro c3), if_neg (not_not_intro c4), fk_43 hF1, gk_s, m43, m_full n3, if_neg hfull, bd_s, gd_e q0, q1, nm_d, si_1, si_2, si_3, si_4, u2_at, Nat.add_left_cancel_iff, Nat.reduceEqDiff, false_and, if_false, fr_43_9 hF1, fk_52 hF1, fl_52 hF1, fr_43_3 hF1, fk_46 hF1, fl_46 hF1, mp, e2]
  · refine join_add (D2 := D2) hR hT hn hN ?_ ?_ ?_ ?_ ?_ ?_ ?_ ⟨?_, ?_, ?_, ?_⟩ ?_ ?_ ?_ a53 ?_ ⟨?_, ?_, ?_, ?_, ?_, rfl, ?_, ?_, ?_⟩ ?_
    · rw [← e1, e2]; exact (Dyn.tr (Dyn.tr (Dyn.tr (Dyn.tr (Dyn.tr (Dyn.tr (Dyn.tr (Dyn.tr (Dyn.si (by decide)) (Dyn.si (by decide))) (Dyn.si (by decide))) (Dyn.si (by decide))) (Dyn.si (by decide))) (Dyn.si (by decide))) (Dyn.si (by decide))) (Dyn.si (by decide))) (Dyn.si (by decide)))
    · rw [e2, e1]; exact hN.1
    · rw [e2, e1]; rfl
    · intro a ha; rw [e2]; simp only [si_3]; rw [u2_ne (by omega), u2_ne (by omega), u2_ne (by omega), u2_ne (by omega), u2_ne (by omega), u2_ne (by omega), u2_ne (by omega), u2_ne (by omega), u2_ne (by omega), e1, si_3, u2_ne (by omega), sr_3]
    · rw [e2, e1]; rfl
    · rw [e2, e1]; rfl
    · rw [e2, e1, eD]; exact (ess_si (ess_si (ess_si (ess_si (ess_si (ess_si (ess_si (ess_si (ess_si (ess_si (ess_new hR hN)))))))))))
    · intro c k h1 h2 h3; rw [eD, u2_at, if_neg (by omega), u2_at, if_neg (by omega), u2_at, if_neg (by omega), u2_at, if_neg (by omega), u2_at, if_neg (by omega), u2_at, if_neg (by omega), u2_at, if_neg (by omega), u2_at, if_neg (by omega), u2_at, if_neg (by omega), u2_at, if_neg (by omega)]
    · intro c k h1 h2; rw [eD, u2_at, if_neg (by omega), u2_at, if_neg (by omega), u2_at, if_neg (by omega), u2_at, if_neg (by omega), u2_at, if_neg (by omega), u2_at, if_neg (by omega), u2_at, if_neg (by omega), u2_at, if_neg (by omega), u2_at, if_neg (by omega), u2_at, if_neg (by omega)]
    · intro c k h1 h2 h3; rw [eD, u2_at, if_neg (by omega), u2_at, if_neg (by omega), u2_at, if_neg (by omega), u2_at, if_neg (by omega), u2_at, if_neg (by omega), u2_at, if_neg (by omega), u2_at, if_neg (by omega), u2_at, if_neg (by omega), u2_at, if_neg (by omega), u2_at, if_neg (by omega)]
    · intro k h1; rw [eD, u2_at, if_neg (by omega), u2_at, if_neg (by omega), u2_at, if_neg (by omega), u2_at, if_neg (by omega), u2_at, if_neg (by omega), u2_at, if_neg (by omega), u2_at, if_neg (by omega), u2_at, if_neg (by omega), u2_at, if_neg (by omega), u2_at, if_neg (by omega)]
    · rw [eD]; simp [u2_at]
    · rw [eD]; simp [u2_at]
    · unfold PV; simp only [a44, a45, a47, a48, a49, a53, a52, a46]; exact ⟨rgN_lit 4 0 4 (by decide) (by decide), rg_wide (by decide) (by decide) (rg_of (lo := 1) (hi := 200) rfl rfl (by decide) (by decide) c0), fun _ _ => rg_of (lo := 1) (hi := 200) rfl rfl (by decide) (by decide) c0, fun _ => rg_of (lo := 1) (hi := 3) rfl rfl (by decide) (by decide) c2, nxt_of c3, nxt_of c4, rgN_lit 0 0 65535 (by decide) (by decide), fun _ => rg_of (lo := 1) (hi := 8) rfl rfl (by decide) (by decide) c1, rgN_lit 0 0 6 (by decide) (by decide), fun _ => trivial, fun q => absurd q (by decide), fun i hi h3 => absurd h3 (nI_pos (by omega))⟩
    · rw [e2, e1]; exact (ScT.tr (ScT.tr (ScT.tr (ScT.tr (ScT.tr (ScT.tr (ScT.tr (ScT.tr (ScT.tr (ScT.tr (ScT_new hF hN) (ScT.si (by decide) (by omega))) (ScT.si (by decide) (by omega))) (ScT.si (by decide) (by omega))) (ScT.si (by decide) (by omega))) (ScT.si (by decide) (by omega))) (ScT.si (by decide) (by omega))) (ScT.si (by decide) (by omega))) (ScT.si (by decide) (by omega))) (ScT.si (by decide) (by omega))) (ScT.si (by decide) (by omega)))
    · rw [a44]; rfl
    · rw [a45]; rfl
    · rw [a49]; rfl
    · rw [a47]; rfl
    · rw [a48]; rfl
    · rw [a44]; exact fun _ => a46.symm
    · rw [a44]; exact fun _ => a52.symm
    · rw [a44]; exact fun q => absurd q (by decide)
    · rw [a44]
end
