/-! noGroups, wish, count -/
section
variable {z : Nat}
theorem sim_noGroups : Sim z (fX10_noGroups z) (fX11_noGroups (z + 43)) := by
  intro h hRel
  obtain ⟨⟨D, n, ng, pa, ba, la, ca, hR⟩, hT⟩ := id hRel
  have hF := hR.1
  obtain ⟨g1, g2, g3⟩ := rb_ng hR
  have hF1 : fxd z (hp_si h (z + 8) 2 0) := hF
  have d1 : Dyn z h (hp_si h (z + 8) 2 0) := Dyn.si (by decide)
  have d2 : Dyn z (hp_si h (z + 8) 2 0) (hp_si (hp_si h (z + 8) 2 0) (z + 43) 15 0) := Dyn.si (by decide)
  refine ⟨nI ng, hp_si h (z + 8) 2 0, hp_si (hp_si h (z + 8) 2 0) (z + 43) 15 0, ?_, fk_43 hF1, ?_, ⟨u2 (u2 D 8 2 0) 43 15 0, n, 0, pa, ba, la, ca, ?_⟩, ?_⟩
  · simp only [fX10_noGroups, fk_0 hF, gk_s, fr_0_3 hF, bd_s, fk_8 hF, nm_d, g1]
  · simp only [fX11_noGroups, fk_43 hF1, gk_s, nm_d, si_3, u2_at, Nat.add_left_cancel_iff, show ¬ (43 = 8) by decide, false_and, if_false, g2]
  · refine ⟨hF, ess_si (ess_si hR.2.1), ?_, ?_⟩
    · obtain ⟨v1, v2, v3, v4, v5, v6, v7, v8, v9, v10, v11⟩ := hR.2.2.1
      have hc : ∀ c k, 44 ≤ c → c ≤ 57 → u2 (u2 D 8 2 0) 43 15 0 c k = D c k := fun c k h1 h2 => by rw [u2_at, if_neg (by omega), u2_at, if_neg (by omega)]
      refine ⟨v1, by rw [u2_at, if_neg (by omega), u2_at, if_neg (by omega)]; exact v2, by rw [u2_at, if_neg (by omega), u2_at, if_neg (by omega)]; exact v3, fun p hp => PV_cong hc (v4 p hp), by decide, ?_, ?_, fun g hg => absurd hg (Nat.not_lt_zero g), fun k hk => ?_, fun k => ?_, ?_⟩
      · rw [u2_at, if_pos ⟨rfl, rfl⟩]; rfl
      · rw [u2_at, if_neg (by omega), u2_at, if_pos ⟨rfl, rfl⟩]; rfl
      · have := v9 k hk
        simp only [u2_at, show ∀ c, 9 ≤ c → ¬ (c = 8) by omega, show ¬ (66 = 43) by decide, show ¬ (67 = 43) by decide, show ¬ (16 = 43) by decide, show ¬ (17 = 43) by decide, show ¬ (66 = 8) by decide, show ¬ (67 = 8) by decide, show ¬ (16 = 8) by decide, show ¬ (17 = 8) by decide, false_and, if_false]
        exact this
      · rw [u2_at, if_neg (by omega), u2_at, if_neg (by omega)]; exact v10 k
      · have e : pv (u2 (u2 D 8 2 0) 43 15 0) = pv D := by
          funext c k
          unfold pv
          split
          · rw [u2_at, if_neg (by omega), u2_at, if_neg (by omega)]
          · rfl
        rw [e]
        exact v11
    · have hDY := DY_dyn hF1 d2 (DY_dyn hF d1 hR.2.2.2)
      have hDY0 : DY z (hp_si (hp_si h (z + 8) 2 0) (z + 43) 15 0) D n 0 pa ba la ca := ⟨hDY.1, hDY.2.1, hDY.2.2.1, hDY.2.2.2.1, fun g hg => absurd hg (Nat.not_lt_zero g)⟩
      exact DY_cong (fun c k h1 h2 => by rw [u2_at, if_neg (by omega), u2_at, if_neg (by omega)]) (fun c k _ _ hk => absurd hk (Nat.not_lt_zero k)) hDY0
  · exact Told_scr hT (ScT.tr (ScT.si (by decide) (by decide)) (ScT.si (by decide) (fun _ => Or.inl (by decide))))
end
