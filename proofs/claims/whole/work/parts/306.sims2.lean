/-! noGroups, wish, count -/
section
variable {z : Nat}
theorem sim_noGroups : Sim z (fX10_noGroups z) (fX11_noGroups (z + 43)) := by
  intro h hRel
  obtain ⟨⟨D, n, ng, pa, ba, la, ca, hR⟩, hT⟩ := id hRel
  have hF := hR.1
  obtain ⟨g1, g2, g3⟩ := rb_ng hR
  have hF1 : fxd z (hp_si h (z + 8) 2 0) := hF
  have d1 : Dyn z h (hp_si h (z + 8) 2 0) := Dyn.si (by decide)
  have d2 : Dyn z (hp_si h (z + 8) 2 0) (hp_si (hp_si h (z + 8) 2 0) (z + 43) 15 0) := Dyn.si (by decide)
  refine ⟨nI ng, hp_si h (z + 8) 2 0, hp_si (hp_si h (z + 8) 2 0) (z + 43) 15 0, ?_, fk_43 hF1, ?_, ⟨u2 (u2 D 8 2 0) 43 15 0, n, 0, pa, ba, la, ca, ?_⟩, ?_⟩
  · simp only [fX10_noGroups, fk_0 hF, gk_s, fr_0_3 hF, bd_s, fk_8 hF, nm_d, g1]
  · simp only [fX11_noGroups, fk_43 hF1, gk_s, nm_d, si_3, u2_at, Nat.add_left_cancel_iff, show ¬ (43 = 8) by decide, false_and, if_false, g2]
  · refine ⟨hF, ess_si (ess_si hR.2.1), ?_, ?_⟩
    · obtain ⟨v1, v2, v3, v4, v5, v6, v7, v8, v9, v10, v11⟩ := hR.2.2.1
      have hc : ∀ c k, 44 ≤ c → c ≤ 57 → u2 (u2 D 8 2 0) 43 15 0 c k = D c k := fun c k h1 h2 => by rw [u2_at, if_neg (by omega), u2_at, if_neg (by omega)]
      refine ⟨v1, by rw [u2_at, if_neg (by omega), u2_at, if_neg (by omega)]; exact v2, by rw [u2_at, if_neg (by omega), u2_at, if_neg (by omega)]; exact v3, fun p hp => PV_cong hc (v4 p hp), by decide, ?_, ?_, fun g hg => absurd hg (Nat.not_lt_zero g), fun k hk => ?_, fun k => ?_, ?_⟩
      · rw [u2_at, if_pos ⟨rfl, rfl⟩]; rfl
      · rw [u2_at, if_neg (by omega), u2_at, if_pos ⟨rfl, rfl⟩]; rfl
      · have := v9 k hk
        simp only [u2_at, show ∀ c, 9 ≤ c → ¬ (c = 8) by omega, show ¬ (66 = 43) by decide, show ¬ (67 = 43) by decide, show ¬ (16 = 43) by decide, show ¬ (17 = 43) by decide, show ¬ (66 = 8) by decide, show ¬ (67 = 8) by decide, show ¬ (16 = 8) by decide, show ¬ (17 = 8) by decide, false_and, if_false]
        exact this
      · rw [u2_at, if_neg (by omega), u2_at, if_neg (by omega)]; exact v10 k
      · have e : pv (u2 (u2 D 8 2 0) 43 15 0) = pv D := by
          funext c k
          unfold pv
          split
          · rw [u2_at, if_neg (by omega), u2_at, if_neg (by omega)]
          · rfl
        rw [e]
        exact v11
    · have hDY := DY_dyn hF1 d2 (DY_dyn hF d1 hR.2.2.2)
      have hDY0 : DY z (hp_si (hp_si h (z + 8) 2 0) (z + 43) 15 0) D n 0 pa ba la ca := ⟨hDY.1, hDY.2.1, hDY.2.2.1, hDY.2.2.2.1, fun g hg => absurd hg (Nat.not_lt_zero g)⟩
      exact DY_cong (fun c k h1 h2 => by rw [u2_at, if_neg (by omega), u2_at, if_neg (by omega)]) (fun c k _ _ hk => absurd hk (Nat.not_lt_zero k)) hDY0
  · exact Told_scr hT (ScT.tr (ScT.si (by decide) (by omega)) (ScT.si (by decide) (fun _ => Or.inl (by decide))))

theorem sim_wish (v1 v2 v3 : Int32) : Sim z (fX10_wish z v1 v2 v3) (fX11_wish (z + 43) v1 v2 v3) := by
  intro h hRel
  obtain ⟨⟨D, n, ng, pa, ba, la, ca, hR⟩, hT⟩ := id hRel
  have hF := hR.1
  by_cases c1 : ¬ (0 ≤ v1 ∧ v1 ≤ 7)
  · exact ⟨-1, h, h, by simp only [fX10_wish, l_within, b2_s, bi_0, if_pos c1], fk_43 hF, by simp only [fX11_wish, l_in, b2_s, bi_0, if_pos c1], hRel⟩
  replace c1 := Classical.not_not.mp c1
  by_cases c2 : ¬ (1 ≤ v2 ∧ v2 ≤ 200)
  · exact ⟨-1, h, h, by simp only [fX10_wish, l_within, b2_s, bi_0, if_neg (not_not_intro c1), if_pos c2], fk_43 hF, by simp only [fX11_wish, l_in, b2_s, bi_0, if_neg (not_not_intro c1), if_pos c2], hRel⟩
  replace c2 := Classical.not_not.mp c2
  by_cases c3 : ¬ (0 ≤ v3 ∧ v3 ≤ 1000)
  · exact ⟨-1, h, h, by simp only [fX10_wish, l_within, b2_s, bi_0, if_neg (not_not_intro c1), if_neg (not_not_intro c2), if_pos c3], fk_43 hF, by simp only [fX11_wish, l_in, b2_s, bi_0, if_neg (not_not_intro c1), if_neg (not_not_intro c2), if_pos c3], hRel⟩
  replace c3 := Classical.not_not.mp c3
  obtain ⟨j, hj, rfl⟩ : ∃ j, j < 8 ∧ v1 = nI j := (isP_iff (n := 8) (by decide) v1).mp c1
  have q0 : ix (nI j) 8 = true := ix_nI hj (by decide)
  have q1 : (nI j).toNatClampNeg = j := nI_clamp (by omega)
  have r2 : rgN v2 1 200 := by
    obtain ⟨k, h1, h2⟩ := nI_of2 (x := v2) (M := 200) (n := 200) rfl (by rw [i_nlt]; exact Int32.le_trans (by decide) c2.1) c2.2
    exact ⟨k, by rw [h2, show (1 : Int32) = nI 1 from rfl, nI_le' (by omega) (by omega)] at c2; exact c2.1, h1, h2⟩
  have r3 : rgN v3 0 1000 := by
    obtain ⟨k, h1, h2⟩ := nI_of2 (x := v3) (M := 1000) (n := 1000) rfl (by rw [i_nlt]; exact c3.1) c3.2
    exact ⟨k, Nat.zero_le _, h1, h2⟩
  obtain ⟨h1, e1⟩ : ∃ h1, h1 = hp_si (hp_si h (z + 16) j v2) (z + 17) j v3 := ⟨_, rfl⟩
  obtain ⟨h2, e2⟩ : ∃ h2, h2 = hp_si (hp_si h1 (z + 66) j v2) (z + 67) j v3 := ⟨_, rfl⟩
  have hF1 : fxd z h1 := by rw [e1]; exact hF
  have hF2 : fxd z h2 := by rw [e2]; exact hF1
  have dd : Dyn z h h2 := by
    rw [e2, e1]
    exact (((Dyn.si (by decide)).tr (Dyn.si (by decide))).tr (Dyn.si (by decide))).tr (Dyn.si (by decide))
  obtain ⟨D2, eD⟩ : ∃ D2, D2 = u2 (u2 (u2 (u2 D 16 j v2) 17 j v3) 66 j v2) 67 j v3 := ⟨_, rfl⟩
  have hq : ∀ c k, c ≠ 16 → c ≠ 17 → c ≠ 66 → c ≠ 67 → D2 c k = D c k := fun c k a1 a2 a3 a4 => by
    rw [eD, u2_at, if_neg (by omega), u2_at, if_neg (by omega), u2_at, if_neg (by omega), u2_at, if_neg (by omega)]
  refine ⟨0, h1, h2, ?_, fk_43 hF1, ?_, ⟨D2, n, ng, pa, ba, la, ca, ?_⟩, ?_⟩
  · rw [e1]
    simp only [fX10_wish, l_within, b2_s, bi_0, if_neg (not_not_intro c1), if_neg (not_not_intro c2), if_neg (not_not_intro c3), fk_0 hF, gk_s, fr_0_5 hF, bd_s, fk_15 hF, fr_15_0 hF, fk_16 hF, fl_16 hF, gd_e q0, q1, nm_d, si_1, si_2, si_4, fr_15_1 hF, fk_17 hF, fl_17 hF]
  · rw [e2]
    simp only [fX11_wish, l_in, b2_s, bi_0, if_neg (not_not_intro c1), if_neg (not_not_intro c2), if_neg (not_not_intro c3), fk_43 hF1, gk_s, fr_43_29 hF1, bd_s, fk_66 hF1, fl_66 hF1, gd_e q0, q1, nm_d, si_1, si_2, si_4, fr_43_30 hF1, fk_67 hF1, fl_67 hF1]
  · refine ⟨hF2, ?_, ?_, ?_⟩
    · rw [e2, e1, eD]
      exact ess_si (ess_si (ess_si (ess_si hR.2.1)))
    · obtain ⟨w1, w2, w3, w4, w5, w6, w7, w8, w9, w10, w11⟩ := hR.2.2.1
      refine ⟨w1, by rw [hq _ _ (by decide) (by decide) (by decide) (by decide)]; exact w2, by rw [hq _ _ (by decide) (by decide) (by decide) (by decide)]; exact w3, fun p hp => PV_cong (fun c k a b => hq c k (by omega) (by omega) (by omega) (by omega)) (w4 p hp), w5, by rw [hq _ _ (by decide) (by decide) (by decide) (by decide)]; exact w6, by rw [hq _ _ (by decide) (by decide) (by decide) (by decide)]; exact w7, fun g hg => ?_, fun k hk => ?_, fun k => by rw [hq _ _ (by decide) (by decide) (by decide) (by decide)]; exact w10 k, ?_⟩
      · have := w8 g hg
        unfold GV at this ⊢
        simp only [hq 58 _ (by decide) (by decide) (by decide) (by decide), hq 10 _ (by decide) (by decide) (by decide) (by decide), hq 59 _ (by decide) (by decide) (by decide) (by decide), hq 60 _ (by decide) (by decide) (by decide) (by decide), hq 61 _ (by decide) (by decide) (by decide) (by decide), hq 62 _ (by decide) (by decide) (by decide) (by decide), hq 63 _ (by decide) (by decide) (by decide) (by decide)]
        exact this
      · have a16 : D2 16 k = if k = j then v2 else D 16 k := by
          rw [eD]; simp only [u2_at, show ¬ (16 = 67) by decide, show ¬ (16 = 66) by decide, show ¬ (16 = 17) by decide, false_and, if_false, true_and]
        have a17 : D2 17 k = if k = j then v3 else D 17 k := by
          rw [eD]; simp only [u2_at, show ¬ (17 = 67) by decide, show ¬ (17 = 66) by decide, show ¬ (17 = 16) by decide, false_and, if_false, true_and]
        have a66 : D2 66 k = if k = j then v2 else D 66 k := by
          rw [eD]; simp only [u2_at, show ¬ (66 = 67) by decide, show ¬ (66 = 17) by decide, show ¬ (66 = 16) by decide, false_and, if_false, true_and]
        have a67 : D2 67 k = if k = j then v3 else D 67 k := by
          rw [eD]; simp only [u2_at, show ¬ (67 = 66) by decide, show ¬ (67 = 17) by decide, show ¬ (67 = 16) by decide, false_and, if_false, true_and]
        rw [a16, a17, a66, a67]
        by_cases e : k = j
        · simp only [if_pos e]
          exact ⟨r2, r3, trivial, trivial⟩
        · simp only [if_neg e]
          exact w9 k hk
      · have e : pv D2 = pv D := by
          funext c k
          unfold pv
          split
          · exact hq c k (by omega) (by omega) (by omega) (by omega)
          · rfl
        rw [e]
        exact w11
    · exact DY_cong (fun c k a b => hq c k (by omega) (by omega) (by omega) (by omega)) (fun c k a b _ => hq c k (by omega) (by omega) (by omega) (by omega)) (DY_dyn hF dd hR.2.2.2)
  · refine Told_scr hT ?_
    rw [e2, e1]
    exact (((ScT.si (by decide) (by omega)).tr (ScT.si (by decide) (by omega))).tr (ScT.si (by decide) (by omega))).tr (ScT.si (by decide) (by omega))
/-- sums over a row -/
def sm (f : Nat → Int32) : Nat → Int32
  | 0 => 0
  | n + 1 => sm f n + f n
theorem x_count2 {h : Hp} {D : Nat → Nat → Int32} {n ng : Nat} {pa ba : Nat → Nat} {la : Nat → Nat → Nat} {ca : Nat → Nat} (hR : RelB z h D n ng pa ba la ca) : ∀ (d i m : Nat), i + d = ng → d < m → fx bX1_howManyCallers_4 (fun _ _ _ _ => none) m (z + 8) (sm (D 58) i) (nI i) h = some (sm (D 58) ng, h) := by
  obtain ⟨g1, g2, g3⟩ := rb_ng hR
  have hF := hR.1
  intro d
  induction d with
  | zero =>
    intro i m hi hm
    obtain ⟨m, rfl⟩ : ∃ k, m = k + 1 := ⟨m - 1, by omega⟩
    rw [fx_s]
    simp only [bX1_howManyCallers_4, fk_8 hF, gk_s, g1]
    rw [show i = ng by omega, if_pos (nI_le (Nat.le_refl _) (by omega))]
  | succ d ih =>
    intro i m hi hm
    obtain ⟨m, rfl⟩ : ∃ k, m = k + 1 := ⟨m - 1, by omega⟩
    have hlt : i < ng := by omega
    have e10 : h.2.2.1 (z + 10) i = D 58 i := by rw [rb_ess hR 10 i (by decide) rfl]; exact (hR.2.2.1.2.2.2.2.2.2.2.1 i hlt).2.1
    rw [fx_s]
    simp only [bX1_howManyCallers_4, fk_8 hF, gk_s, g1, if_neg (nI_ge hlt (by omega)), fr_8_1 hF, bd_s, fk_10 hF, fl_10 hF, gd_e (ix_nI (p := i) (N := 12) (by omega) (by decide)), nI_clamp (n := i) (by omega), nm_d, e10, nI_1]
    exact ih (i + 1) m (by omega) (by omega)
theorem m_count {h : Hp} {D : Nat → Nat → Int32} {n ng : Nat} {pa ba : Nat → Nat} {la : Nat → Nat → Nat} {ca : Nat → Nat} (hR : RelB z h D n ng pa ba la ca) (v : Int32) : ∀ (d i m : Nat), i + d = ng → d < m → fx bX11_count_4 (fun _ _ _ _ _ => none) m (z + 43) v (sm (D 58) i) (nI i) h = some (if v = 0 then nI n else if v = 1 then nI ng else if v = 2 then sm (D 58) ng else -1, h) := by
  obtain ⟨g1, g2, g3⟩ := rb_ng hR
  obtain ⟨n1, n2, n3⟩ := rb_n hR
  have hF := hR.1
  intro d
  induction d with
  | zero =>
    intro i m hi hm
    obtain ⟨m, rfl⟩ : ∃ k, m = k + 1 := ⟨m - 1, by omega⟩
    rw [fx_s]
    simp only [bX11_count_4, fk_43 hF, gk_s, g2, n2]
    rw [show i = ng by omega, if_pos (nI_le (Nat.le_refl _) (by omega))]
    (repeat' split) <;> rfl
  | succ d ih =>
    intro i m hi hm
    obtain ⟨m, rfl⟩ : ∃ k, m = k + 1 := ⟨m - 1, by omega⟩
    have hlt : i < ng := by omega
    rw [fx_s]
    simp only [bX11_count_4, fk_43 hF, gk_s, g2, if_neg (nI_ge hlt (by omega)), fr_43_16 hF, bd_s, fk_58 hF, fl_58 hF, gd_e (ix_nI (p := i) (N := 12) (by omega) (by decide)), nI_clamp (n := i) (by omega), nm_d, rb_ess hR 58 i (by decide) rfl, nI_1]
    exact ih (i + 1) m (by omega) (by omega)
theorem NF_big : 2000000 < NF := by unfold NF; decide
theorem sim_count (v1 : Int32) : Sim z (fX10_count z v1) (fX11_count (z + 43) v1) := by
  intro h hRel
  obtain ⟨⟨D, n, ng, pa, ba, la, ca, hR⟩, hT⟩ := id hRel
  obtain ⟨g1, g2, g3⟩ := rb_ng hR
  obtain ⟨n1, n2, n3⟩ := rb_n hR
  have hF := hR.1
  have hb := NF_big
  refine ⟨_, h, h, ?_, fk_43 hF, m_count hR v1 ng 0 NF (by omega) (by omega), hRel⟩
  have e : fX1_howManyCallers (z + 8) h = some (sm (D 58) ng, h) := x_count2 hR ng 0 NF (by omega) (by omega)
  simp only [fX10_count, fk_0 hF, gk_s, fr_0_0 hF, fr_0_3 hF, bd_s, fk_1 hF, fk_8 hF, n1, g1, e, b2_s]
  (repeat' split) <;> rfl
end
