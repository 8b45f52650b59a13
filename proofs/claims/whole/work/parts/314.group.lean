/-! group -/
section
variable {z : Nat}
set_option maxHeartbeats 4000000 in
theorem sim_group (v1 v2 v3 v4 v5 v6 : Int32) : Sim z (fX10_group z v1 v2 v3 v4 v5 v6) (fX11_group (z + 43) v1 v2 v3 v4 v5 v6) := by
  intro h hRel
  obtain ⟨⟨D, n, ng, pa, ba, la, ca, hR⟩, hT⟩ := id hRel
  obtain ⟨g1, g2, g3⟩ := rb_ng hR
  have hF := hR.1
  have hz0 := hF.2.2.2
  by_cases c0 : ¬ (1 ≤ v1 ∧ v1 ≤ 1000)
  · exact ⟨-1, h, h, by simp only [fX10_group, l_within, b2_s, bi_0, if_pos c0], fk_43 hF, by simp only [fX11_group, l_in, b2_s, bi_0, if_pos c0], hRel⟩
  replace c0 := Classical.not_not.mp c0
  by_cases c1 : ¬ ((0 ≤ v2 ∧ v2 ≤ 15) ∧ (0 ≤ v3 ∧ v3 ≤ 99999999) ∧ (1 ≤ v4 ∧ v4 ≤ 5000) ∧ (0 ≤ v5 ∧ v5 ≤ 23) ∧ (0 ≤ v6 ∧ v6 ≤ 1))
  · exact ⟨-1, h, h, by simp only [fX10_group, l_within, l_isCallerX, b2_s, bi_0, if_neg (not_not_intro c0), if_neg c1, if_true], fk_43 hF, by simp only [fX11_group, l_in, l_isCaller, b2_s, bi_0, if_neg (not_not_intro c0), if_neg c1, if_true], hRel⟩
  replace c1 := Classical.not_not.mp c1
  have e10 : ¬ (1 : Int32) = 0 := by decide
  by_cases hfull : ng = 12
  · refine ⟨-3, h, h, ?_, fk_43 hF, ?_, hRel⟩
    · simp only [fX10_group, l_within, l_isCallerX, b2_s, bi_0, if_neg (not_not_intro c0), if_pos c1, if_neg e10, fk_0 hF, gk_s, fr_0_3 hF, bd_s, fk_8 hF, g1, if_neg (show ¬ nI ng < 12 by rw [hfull]; decide)]
    · simp only [fX11_group, l_in, l_isCaller, b2_s, bi_0, if_neg (not_not_intro c0), if_pos c1, if_neg e10, fk_43 hF, gk_s, g2, if_pos (show nI ng = 12 by rw [hfull]; rfl)]
  have hlt : ng < 12 := by omega
  have hne : ¬ nI ng = 12 := fun q => hfull ((nI_eq (a := ng) (b := 12) (by omega) (by decide)).mp q)
  have q0 : ix (nI ng) 12 = true := ix_nI hlt (by decide)
  have q1 : (nI ng).toNatClampNeg = ng := nI_clamp (by omega)
  have r6 : rgN v6 0 1 := rg_of (lo := 0) (hi := 1) rfl rfl (by decide) (by decide) c1.2.2.2.2
  have kn : v6 = 0 ∨ v6 = 1 := by
    obtain ⟨k, k1, k2, e⟩ := r6
    rcases (show k = 0 ∨ k = 1 by omega) with rfl | rfl
    · exact Or.inl e
    · exact Or.inr e
  have z6 : zb v6 = true := by rcases kn with rfl | rfl <;> rfl
  obtain ⟨g0, eg0⟩ : ∃ g, g = hp_si (hp_si (hp_si (hp_si (hp_si (hp_nw h 1 0) h.2.2.2.2 0 v2) h.2.2.2.2 1 v3) h.2.2.2.2 2 v4) h.2.2.2.2 3 v5) h.2.2.2.2 4 v6 := ⟨_, rfl⟩
  have kz : (hp_nw h 1 0).1 h.2.2.2.2 = 1 := va_up_self _ _ _
  have d0 : Dyn z h g0 := by
    rw [eg0]
    exact ((((Dyn.nw.siN (Nat.le_refl _)).siN (Nat.le_refl _)).siN (Nat.le_refl _)).siN (Nat.le_refl _)).siN (Nat.le_refl _)
  have hF0 : fxd z g0 := fxd_dyn hF d0
  have g0z : g0.1 h.2.2.2.2 = 1 := by rw [eg0]; exact kz
  have g0n : g0.2.2.2.2 = h.2.2.2.2 + 1 := by rw [eg0]; rfl
  have g0i : ∀ a, a < h.2.2.2.2 → g0.2.2.1 a = h.2.2.1 a := fun a ha => by
    rw [eg0, si_3, u2_ne (by omega), si_3, u2_ne (by omega), si_3, u2_ne (by omega), si_3, u2_ne (by omega), si_3, u2_ne (by omega)]
    exact va_up_ne _ _ (by omega)
  have g0r : ∀ a, a < h.2.2.2.2 → g0.2.2.2.1 a = h.2.2.2.1 a := fun a ha => by rw [eg0]; show va_up _ _ _ _ = _; rw [va_up_ne _ _ (by omega)]
  obtain ⟨h1, e1⟩ : ∃ g, g = hp_si (hp_si (hp_sr g0 (z + 9) ng (some h.2.2.2.2)) (z + 10) ng v1) (z + 8) 2 (nI (ng + 1)) := ⟨_, rfl⟩
  have hF1 : fxd z h1 := by rw [e1]; exact fxd_sr (c0 := 9) (Or.inr (Or.inl rfl)) hF0
  have m15 : h1.2.2.1 (z + 43) 15 = nI ng := by
    rw [e1, si_3, u2_ne (by omega), si_3, u2_ne (by omega), sr_3, g0i _ (by omega)]
    exact g2
  obtain ⟨h2, e2⟩ : ∃ g, g = hp_si (hp_si (hp_si (hp_si (hp_si (hp_si (hp_si h1 (z + 58) ng v1) (z + 59) ng v2) (z + 60) ng v3) (z + 61) ng v4) (z + 62) ng v5) (z + 63) ng v6) (z + 43) 15 (nI (ng + 1)) := ⟨_, rfl⟩
  have hF2 : fxd z h2 := by rw [e2]; exact hF1
  obtain ⟨D2, eD⟩ : ∃ D2, D2 = u2 (u2 (u2 (u2 (u2 (u2 (u2 (u2 (u2 D 10 ng v1) 8 2 (nI (ng + 1))) 58 ng v1) 59 ng v2) 60 ng v3) 61 ng v4) 62 ng v5) 63 ng v6) 43 15 (nI (ng + 1)) := ⟨_, rfl⟩
  have qa : ∀ c k, c ≠ 8 → c ≠ 10 → c ≠ 43 → (c < 58 ∨ 63 < c) → D2 c k = D c k := fun c k a1 a2 a3 a4 => by
    rw [eD, u2_at, if_neg (by omega), u2_at, if_neg (by omega), u2_at, if_neg (by omega), u2_at, if_neg (by omega), u2_at, if_neg (by omega), u2_at, if_neg (by omega), u2_at, if_neg (by omega), u2_at, if_neg (by omega), u2_at, if_neg (by omega)]
  have qb : ∀ c k, (c = 10 ∨ (58 ≤ c ∧ c ≤ 63)) → k ≠ ng → D2 c k = D c k := fun c k a1 a2 => by
    rw [eD, u2_at, if_neg (by omega), u2_at, if_neg (by omega), u2_at, if_neg (by omega), u2_at, if_neg (by omega), u2_at, if_neg (by omega), u2_at, if_neg (by omega), u2_at, if_neg (by omega), u2_at, if_neg (by omega), u2_at, if_neg (by omega)]
  have q43 : ∀ k, k ≠ 15 → D2 43 k = D 43 k := fun k hk => by
    rw [eD, u2_at, if_neg (by omega), u2_at, if_neg (by omega), u2_at, if_neg (by omega), u2_at, if_neg (by omega), u2_at, if_neg (by omega), u2_at, if_neg (by omega), u2_at, if_neg (by omega), u2_at, if_neg (by omega), u2_at, if_neg (by omega)]
  have v58 : D2 58 ng = v1 := by rw [eD]; simp [u2_at]
  have v10 : D2 10 ng = v1 := by rw [eD]; simp [u2_at]
  have v59 : D2 59 ng = v2 := by rw [eD]; simp [u2_at]
  have v60 : D2 60 ng = v3 := by rw [eD]; simp [u2_at]
  have v61 : D2 61 ng = v4 := by rw [eD]; simp [u2_at]
  have v62 : D2 62 ng = v5 := by rw [eD]; simp [u2_at]
  have v63 : D2 63 ng = v6 := by rw [eD]; simp [u2_at]
  have v15 : D2 43 15 = nI (ng + 1) := by rw [eD]; simp [u2_at]
  have v82 : D2 8 2 = nI (ng + 1) := by rw [eD]; simp [u2_at]
  have h2i : ∀ a, z + 82 ≤ a → h2.2.2.1 a = g0.2.2.1 a := fun a ha => by
    rw [e2, si_3, u2_ne (by omega), si_3, u2_ne (by omega), si_3, u2_ne (by omega), si_3, u2_ne (by omega), si_3, u2_ne (by omega), si_3, u2_ne (by omega), si_3, u2_ne (by omega), e1, si_3, u2_ne (by omega), si_3, u2_ne (by omega), sr_3]
  have h2k : h2.1 = g0.1 := by rw [e2, e1]; rfl
  have h2r : h2.2.2.2.1 = u2 g0.2.2.2.1 (z + 9) ng (some h.2.2.2.2) := by rw [e2, e1]; rfl
  have h2z : h2.2.2.2.2 = h.2.2.2.2 + 1 := by rw [e2, e1]; exact g0n
  have h2l : h2.2.1 = g0.2.1 := by rw [e2, e1]; rfl
  refine ⟨nI (ng + 1), h1, h2, ?_, fk_43 hF1, ?_, ⟨D2, n, ng + 1, pa, ba, la, fun g => if g = ng then h.2.2.2.2 else ca g, hF2, ?_, ?_, ?_⟩, ?_⟩
  · have x0 : ∀ k, k = v6 → fX0_init h.2.2.2.2 v2 v3 v4 v5 k (hp_nw h 1 0) = some ((), g0) := fun k hk => by
      subst hk
      rw [eg0]
      simp only [fX0_init, kz, gk_s, nm_d, gd_e z6]
    have b1 : g0.2.2.1 (z + 8) 2 = nI ng := by rw [g0i _ (by omega)]; exact g1
    have xa : fX1_add (z + 8) v1 (some h.2.2.2.2) g0 = some ((), h1) := by
      rw [e1]
      simp only [fX1_add, fk_8 hF0, gk_s, b1, if_neg (show ¬ 12 ≤ nI ng from nI_ge (b := 12) hlt (by decide)), fr_8_0 hF0, bd_s, fk_9 hF0, g0z, fl_9 hF0, gd_e q0, q1, nm_d, sr_1, sr_2, sr_3, sr_4, u2_ne (show z + 8 ≠ z + 9 by omega), fr_8_1 hF0, fk_10 hF0, fl_10 hF0, si_3, u2_at, Nat.add_left_cancel_iff, Nat.reduceEqDiff, false_and, if_false, nI_1]
    have b2' : h1.2.2.1 (z + 8) 2 = nI (ng + 1) := by rw [e1, si_3, u2_at, if_pos ⟨rfl, rfl⟩]
    rcases kn with k0 | k0
    · simp only [fX10_group, l_within, l_isCallerX, b2_s, bi_0, if_neg (not_not_intro c0), if_pos c1, if_neg e10, fk_0 hF, gk_s, fr_0_3 hF, bd_s, fk_8 hF, g1, if_pos (show nI ng < 12 from nI_lt (b := 12) hlt (by decide)), nm_d, if_neg (show ¬ v6 = 1 by rw [k0]; decide), x0 0 k0.symm, fk_8 hF0, xa, fk_0 hF1, fr_0_3 hF1, fk_8 hF1, b2']
    · simp only [fX10_group, l_within, l_isCallerX, b2_s, bi_0, if_neg (not_not_intro c0), if_pos c1, if_neg e10, fk_0 hF, gk_s, fr_0_3 hF, bd_s, fk_8 hF, g1, if_pos (show nI ng < 12 from nI_lt (b := 12) hlt (by decide)), nm_d, if_pos k0, x0 1 k0.symm, fk_8 hF0, xa, fk_0 hF1, fr_0_3 hF1, fk_8 hF1, b2']
  · rw [e2]
    simp only [fX11_group, l_in, l_isCaller, b2_s, bi_0, if_neg (not_not_intro c0), if_pos c1, if_neg e10, fk_43 hF1, gk_s, m15, if_neg hne, fr_43_16 hF1, fr_43_17 hF1, fr_43_18 hF1, fr_43_19 hF1, fr_43_20 hF1, fr_43_21 hF1, bd_s, fk_58 hF1, fk_59 hF1, fk_60 hF1, fk_61 hF1, fk_62 hF1, fk_63 hF1, fl_58 hF1, fl_59 hF1, fl_60 hF1, fl_61 hF1, fl_62 hF1, fl_63 hF1, gd_e q0, q1, nm_d, si_1, si_2, si_3, si_4, u2_at, Nat.add_left_cancel_iff, Nat.reduceEqDiff, false_and, if_false, and_self, if_true, nI_1]
  · rw [e2, e1, eD]
    refine ess_si (ess_si (ess_si (ess_si (ess_si (ess_si (ess_si (ess_si (ess_si (fun c k hc he => ?_)))))))))
    rw [sr_3, g0i _ (by omega)]
    exact hR.2.1 c k hc he
  · obtain ⟨w1, w2, w3, w4, w5, w6, w7, w8, w9, w10, w11⟩ := hR.2.2.1
    refine ⟨w1, by rw [q43 0 (by decide)]; exact w2, by rw [qa 1 1 (by decide) (by decide) (by decide) (by decide)]; exact w3, fun p hp => PV_cong (fun c k a b => qa c k (by omega) (by omega) (by omega) (by omega)) (w4 p hp), by omega, v15, v82, fun g hg => ?_, fun k hk => ?_, fun k => by rw [qa 74 k (by decide) (by decide) (by decide) (by decide)]; exact w10 k, ?_⟩
    · by_cases e : g = ng
      · subst e
        unfold GV
        rw [v58, v10, v59, v60, v61, v62, v63]
        exact ⟨rg_of (lo := 1) (hi := 1000) rfl rfl (by decide) (by decide) c0, rfl, rg_of (lo := 0) (hi := 15) rfl rfl (by decide) (by decide) c1.1, rg_of (lo := 0) (hi := 99999999) rfl rfl (by decide) (by decide) c1.2.1, rg_of (lo := 1) (hi := 5000) rfl rfl (by decide) (by decide) c1.2.2.1, rg_of (lo := 0) (hi := 23) rfl rfl (by decide) (by decide) c1.2.2.2.1, r6⟩
      · have := w8 g (by omega)
        unfold GV at this ⊢
        rw [qb 58 g (by decide) e, qb 10 g (by decide) e, qb 59 g (by decide) e, qb 60 g (by decide) e, qb 61 g (by decide) e, qb 62 g (by decide) e, qb 63 g (by decide) e]
        exact this
    · rw [qa 66 k (by decide) (by decide) (by decide) (by decide), qa 67 k (by decide) (by decide) (by decide) (by decide), qa 16 k (by decide) (by decide) (by decide) (by decide), qa 17 k (by decide) (by decide) (by decide) (by decide)]
      exact w9 k hk
    · have e : pv D2 = pv D := by
        funext c k
        unfold pv
        split
        · rename_i q
          by_cases c43 : c = 43
          · subst c43; exact q43 k (by omega)
          · exact qa c k (by omega) (by omega) c43 (by omega)
        · rfl
      rw [e]
      exact w11
  · obtain ⟨d1, d2, d3, d4, d5⟩ := hR.2.2.2
    have hc57 : ∀ c k, 44 ≤ c → c ≤ 57 → D2 c k = D c k := fun c k a b => qa c k (by omega) (by omega) (by omega) (by omega)
    refine ⟨fun p hp => ?_, d2, d3, ?_, fun g hg => ?_⟩
    · obtain ⟨e1', e2', e3, e4, e5⟩ := d1 p hp
      have e53 := hc57 53 p (by decide) (by decide)
      refine ⟨by rw [h2r, u2_ne (by omega), g0r _ (by omega)]; exact e1', PlO_cong hc57 ?_, ⟨e3.1, by omega⟩, ⟨e4.1, by omega⟩, fun i hi h3 => by rw [e53] at h3; exact ⟨(e5 i hi h3).1, by have := (e5 i hi h3).2; omega⟩⟩
      have hp0 : PlO g0 D p (pa p) (ba p) (la p) := PlO_dyn d0 e3 e4 e5 e2'
      unfold PlO at hp0 ⊢
      rw [h2k, h2l, h2i _ e3.1, h2r, u2_ne (show pa p ≠ z + 9 by omega)]
      obtain ⟨p1, p2, p3, p4, p5, p6, p7, p8, p9, p10, p11, p12, p13, p14⟩ := hp0
      refine ⟨p1, p2, p3, p4, p5, p6, p7, p8, p9, p10, p11, p12, p13, fun i hi h3 => ⟨by rw [u2_ne (show ba p ≠ z + 9 by omega)]; exact (p14 i hi h3).1, ?_⟩⟩
      have := (p14 i hi h3).2
      unfold LnO at this ⊢
      rw [h2k, h2i _ (e5 i hi h3).1]
      exact this
    · intro p q i j hp hq hi h3 hj h4 e
      rw [hc57 53 p (by decide) (by decide)] at h3
      rw [hc57 53 q (by decide) (by decide)] at h4
      exact d4 p q i j hp hq hi h3 hj h4 e
    · by_cases e : g = ng
      · subst e
        simp only [if_pos]
        refine ⟨by rw [h2r, u2_at, if_pos ⟨rfl, rfl⟩], ?_, by omega, by omega⟩
        unfold CaO
        rw [h2k, h2i _ (by omega), v59, v60, v61, v62, v63]
        refine ⟨g0z, ?_, ?_, ?_, ?_, ?_⟩ <;> (rw [eg0]; simp [si_3, u2_at])
      · simp only [if_neg e]
        obtain ⟨e1', e2', e3, e4⟩ := d5 g (by omega)
        refine ⟨by rw [h2r, u2_at, if_neg (fun q => e q.2), g0r _ (by omega)]; exact e1', ?_, e3, by omega⟩
        have hc0 := CaO_dyn d0 ⟨e3, e4⟩ e2'
        unfold CaO at hc0 ⊢
        rw [h2k, h2i _ e3, qb 59 g (by decide) e, qb 60 g (by decide) e, qb 61 g (by decide) e, qb 62 g (by decide) e, qb 63 g (by decide) e]
        exact hc0
  · refine Told_scr hT ?_
    rw [e2, e1]
    refine ScT.tr (ScT.tr (ScT.tr (ScT.tr (ScT.tr (ScT.tr (ScT.tr (ScT.tr (ScT.tr ?_ (ScT.si (by decide) (by omega))) (ScT.si (by decide) (by omega))) (ScT.si (by decide) (by omega))) (ScT.si (by decide) (by omega))) (ScT.si (by decide) (by omega))) (ScT.si (by decide) (by omega))) (ScT.si (by decide) (by omega))) (ScT.si (by decide) (by omega))) (ScT.si (by decide) (by omega))
    have gi : ∀ c k, c < 82 → g0.2.2.1 (z + c) k = h.2.2.1 (z + c) k := fun c k hc => by rw [g0i _ (by omega)]
    exact ⟨fun k => gi _ _ (by decide), fun k => gi _ _ (by decide), fun k => gi _ _ (by decide), fun k _ _ => gi _ _ (by decide), fun k => gi _ _ (by decide), fun k => gi _ _ (by decide)⟩
end
