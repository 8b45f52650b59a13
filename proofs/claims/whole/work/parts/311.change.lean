/-! change, swap, line -/
section
variable {z : Nat} {h : Hp} {D : Nat → Nat → Int32} {n ng p : Nat} {pa ba : Nat → Nat} {la : Nat → Nat → Nat} {ca : Nat → Nat}
theorem pl_facts (hR : RelB z h D n ng pa ba la ca) (hp : p < n) : PlO h D p (pa p) (ba p) (la p) ∧ (z + 82 ≤ pa p ∧ pa p < h.2.2.2.2) ∧ (z + 82 ≤ ba p ∧ ba p < h.2.2.2.2) ∧ ∀ i, i < 6 → nI i < D 53 p → z + 82 ≤ la p i ∧ la p i < h.2.2.2.2 := (hR.2.2.2.1 p hp).2
theorem rel_chg {i sl : Nat} {v t w x : Int32} (hR : RelB z h D n ng pa ba la ca) (hT : Told z h) (hp : p < n) (hi6 : i < 6) (hlt : nI i < D 53 p) (hO : LnO (hp_si h (la p i) sl v) (la p i) t (D 55 (6 * p + i)) w x) (rt : rgN t 1 200) (rw_ : rgN w 0 65535) (rx : nxt x) :
    Rel z (hp_si (hp_si (hp_si (hp_si h (la p i) sl v) (z + 54) (6 * p + i) t) (z + 56) (6 * p + i) w) (z + 57) (6 * p + i) x) := by
  have hF := hR.1
  have hz0 := hF.2.2.2
  obtain ⟨hP, hpa, hba, hla⟩ := pl_facts hR hp
  obtain ⟨l1, l2⟩ := hla i hi6 hlt
  obtain ⟨d1, d2, d3, d4, d5⟩ := hR.2.2.2
  obtain ⟨h2, e2⟩ : ∃ h2, h2 = hp_si (hp_si (hp_si (hp_si h (la p i) sl v) (z + 54) (6 * p + i) t) (z + 56) (6 * p + i) w) (z + 57) (6 * p + i) x := ⟨_, rfl⟩
  obtain ⟨D2, eD⟩ : ∃ D2, D2 = u2 (u2 (u2 D 54 (6 * p + i) t) 56 (6 * p + i) w) 57 (6 * p + i) x := ⟨_, rfl⟩
  rw [← e2]
  have q53 : ∀ k, D2 53 k = D 53 k := fun k => by rw [eD, u2_at, if_neg (by omega), u2_at, if_neg (by omega), u2_at, if_neg (by omega)]
  have q55 : ∀ k, D2 55 k = D 55 k := fun k => by rw [eD, u2_at, if_neg (by omega), u2_at, if_neg (by omega), u2_at, if_neg (by omega)]
  have qc : ∀ c k, (c < 53 ∨ 57 < c) → D2 c k = D c k := fun c k hc => by rw [eD, u2_at, if_neg (by omega), u2_at, if_neg (by omega), u2_at, if_neg (by omega)]
  have q54 : ∀ k, D2 54 k = if k = 6 * p + i then t else D 54 k := fun k => by rw [eD]; simp [u2_at]
  have q56 : ∀ k, D2 56 k = if k = 6 * p + i then w else D 56 k := fun k => by rw [eD]; simp [u2_at]
  have q57 : ∀ k, D2 57 k = if k = 6 * p + i then x else D 57 k := fun k => by rw [eD]; simp [u2_at]
  have ei : ∀ a, z + 82 ≤ a → h2.2.2.1 a = (hp_si h (la p i) sl v).2.2.1 a := fun a ha => by
    rw [e2, si_3, u2_ne (by omega), si_3, u2_ne (by omega), si_3, u2_ne (by omega)]
  have en : ∀ a, z + 82 ≤ a → a ≠ la p i → h2.2.2.1 a = h.2.2.1 a := fun a ha hne => by rw [ei a ha, si_3, u2_ne hne]
  have hs : sameButL D D2 p := ⟨qc, fun k _ => q53 k, fun c k h1 h2 h3 => by rw [eD, u2_at, if_neg (by omega), u2_at, if_neg (by omega), u2_at, if_neg (by omega)]⟩
  have kl : h.1 (la p i) = 4 := (hP.2.2.2.2.2.2.2.2.2.2.2.2.2 i hi6 hlt).2.1
  have nep : pa p ≠ la p i := fun e => by have := hP.1; rw [e, kl] at this; exact absurd this (by decide)
  have hPV : PV D2 p := by
    have := hR.2.2.1.2.2.2.1 p hp
    unfold PV at this ⊢
    simp only [qc 44 p (by decide), qc 45 p (by decide), qc 46 p (by decide), qc 47 p (by decide), qc 48 p (by decide), qc 49 p (by decide), qc 52 p (by decide), q53, q55]
    obtain ⟨a1, a2, a3, a4, a5, a6, a7, a8, a9, a10, a11, a12⟩ := this
    refine ⟨a1, a2, a3, a4, a5, a6, a7, a8, a9, a10, a11, fun j hj h3 => ?_⟩
    rw [q54, q56, q57]
    by_cases e : j = i
    · subst e
      simp only [if_pos]
      exact ⟨rt, (a12 j hj h3).2.1, rw_, rx⟩
    · simp only [if_neg (show ¬ 6 * p + j = 6 * p + i by omega)]
      exact a12 j hj h3
  have hR2 := RelB_lines (h2 := h2) (D2 := D2) (l' := la p) hR hp (by rw [e2]; exact hF) (by
      rw [e2, eD]
      refine ess_si (ess_si (ess_si (fun c k hc he => ?_)))
      rw [si_3, u2_ne (by omega)]
      exact hR.2.1 c k hc he) hs hPV (by rw [e2]; exact Nat.le_refl _) (fun a _ => by rw [e2]; exact ⟨rfl, rfl⟩) (fun a h1 h3 h4 h5 => en a h1 (h5 i hi6 hlt)) (fun a _ _ _ => by rw [e2]; rfl) (by rw [e2]; rfl) (by rw [e2]; rfl) (by
      obtain ⟨p1, p2, p3, p4, p5, p6, p7, p8, p9, p10, p11, p12, p13, p14⟩ := hP
      unfold PlO
      have k1 : h2.1 = h.1 := by rw [e2]; rfl
      have k2 : h2.2.1 = h.2.1 := by rw [e2]; rfl
      have k3 : h2.2.2.2.1 = h.2.2.2.1 := by rw [e2]; rfl
      rw [k1, k2, k3, en _ hpa.1 nep]
      simp only [qc 44 p (by decide), qc 45 p (by decide), qc 46 p (by decide), qc 47 p (by decide), qc 48 p (by decide), qc 49 p (by decide), qc 50 p (by decide), qc 51 p (by decide), qc 52 p (by decide), q53, q55]
      refine ⟨p1, p2, p3, p4, p5, p6, p7, p8, p9, p10, p11, p12, p13, fun j hj h3 => ⟨(p14 j hj h3).1, ?_⟩⟩
      rw [q54, q56, q57]
      by_cases e : j = i
      · subst e
        simp only [if_pos]
        unfold LnO at hO ⊢
        rw [k1, ei _ l1]
        exact hO
      · simp only [if_neg (show ¬ 6 * p + j = 6 * p + i by omega)]
        have hne : la p j ≠ la p i := fun q => e (d4 p p j i hp hp hj h3 hi6 hlt q).2
        have := (p14 j hj h3).2
        unfold LnO at this ⊢
        rw [k1, en _ (hla j hj h3).1 hne]
        exact this) (fun j hj h3 => Or.inl ⟨j, hj, by rw [← q53]; exact h3, rfl⟩) (fun j k hj h3 hk h4 e => (d4 p p j k hp hp hj (by rw [← q53]; exact h3) hk (by rw [← q53]; exact h4) e).2)
  refine ⟨⟨D2, n, ng, pa, ba, _, ca, hR2⟩, Told_scr hT ?_⟩
  rw [e2]
  refine ScT.tr (ScT.tr (ScT.tr ?_ (ScT.si (by decide) (by omega))) (ScT.si (by decide) (by omega))) (ScT.si (by decide) (by omega))
  refine ⟨fun k => ?_, fun k => ?_, fun k => ?_, fun k _ _ => ?_, fun k => ?_, fun k => ?_⟩ <;> (show u2 _ _ _ _ _ _ = _; rw [u2_ne (by omega)])
set_option maxHeartbeats 4000000 in
theorem sim_change (v1 v2 v3 v4 : Int32) : Sim z (fX10_change z v1 v2 v3 v4) (fX11_change (z + 43) v1 v2 v3 v4) := by
  intro h hRel
  obtain ⟨⟨D, n, ng, pa, ba, la, ca, hR⟩, hT⟩ := id hRel
  obtain ⟨n1, n2, n3⟩ := rb_n hR
  have hF := hR.1
  rcases ex_l hR v1 v2 with ⟨p, i, s, hp, h0, hi, h6, hs, rfl, rfl⟩ | hv
  · have hlt : nI i < D 53 p := by rw [hs]; exact nI_lt hi (by omega)
    obtain ⟨hP, hpa, hba, hla⟩ := pl_facts hR hp
    obtain ⟨l1, l2⟩ := hla i (by omega) hlt
    obtain ⟨-, l0, la1, la2, la3, la4⟩ := hP.2.2.2.2.2.2.2.2.2.2.2.2.2 i (by omega) hlt
    obtain ⟨-, -, -, -, -, -, -, -, -, -, -, pv12⟩ := hR.2.2.1.2.2.2.1 p hp
    obtain ⟨rt, rk, rw_, rx⟩ := pv12 i (by omega) hlt
    have q0 : ix (nI (6 * p + i)) 240 = true := ix_nI (by omega) (by decide)
    have q1 : (nI (6 * p + i)).toNatClampNeg = 6 * p + i := nI_clamp (by omega)
    have hml := m_Line hR hp h0 hi h6 hs
    have hb : ∀ (sl : Nat) (v : Int32) (c k : Nat), c < 82 → (hp_si h (la p i) sl v).2.2.1 (z + c) k = h.2.2.1 (z + c) k := fun sl v c k hc => by rw [si_3, u2_ne (by omega)]
    have hml1 : ∀ (sl : Nat) (v : Int32), fX11_isLine (z + 43) (nI p) (nI i) (hp_si h (la p i) sl v) = some (1, hp_si h (la p i) sl v) := fun sl v => m_isLine_t (h := hp_si h (la p i) sl v) (n := n) (s := s) (fxd_si hF) (by rw [hb _ _ _ _ (by decide)]; exact n2) n3 hp (by rw [hb _ _ _ _ (by decide), rb_ess hR 44 p (by decide) rfl]; exact h0) (by rw [hb _ _ _ _ (by decide), rb_ess hR 53 p (by decide) rfl]; exact hs) h6 hi
    by_cases c0 : v3 = 0
    · subst c0
      by_cases c1 : ¬ (1 ≤ v4 ∧ v4 ≤ 200)
      · refine ⟨-1000, h, h, ?_, fk_43 hF, ?_, hRel⟩
        · simp only [fX10_change, fk_0 hF, gk_s, fr_0_0 hF, bd_s, fk_1 hF, x_lineAt_t hR hp h0 (by omega) hlt, b2_s, rn, fX10_isLineValue, if_true, l_within, gd_e bi_zb, bi_0, if_pos c1]
        · simp only [fX11_change, fk_43 hF, gk_s, hml, b2_s, if_neg (show ¬ (1 : Int32) = 0 by decide), l_in, bi_0, if_neg (not_not_intro (show (0 : Int32) ≤ 0 ∧ (0 : Int32) ≤ 2 by decide)), if_true, if_pos c1]
      · replace c1 := Classical.not_not.mp c1
        refine ⟨D 54 (6 * p + i), hp_si h (la p i) 0 v4, hp_si (hp_si (hp_si (hp_si h (la p i) 0 v4) (z + 54) (6 * p + i) v4) (z + 56) (6 * p + i) (D 56 (6 * p + i))) (z + 57) (6 * p + i) (D 57 (6 * p + i)), ?_, fk_43 hF, ?_, ?_⟩
        · simp only [fX10_change, fk_0 hF, gk_s, fr_0_0 hF, bd_s, fk_1 hF, x_lineAt_t hR hp h0 (by omega) hlt, b2_s, rn, fX10_isLineValue, if_true, l_within, gd_e bi_zb, bi_0, if_neg (not_not_intro c1), l0, nm_d, la1]
        · have f1 : fxd z (hp_si h (la p i) 0 v4) := hF
          simp only [fX11_change, fX11_change_65, fX11_change_133, fX11_change_157, fk_43 f1, gk_s, hml1, b2_s, if_neg (show ¬ (1 : Int32) = 0 by decide), if_neg (show ¬ (0 : Int32) = 1 by decide), if_neg (show ¬ (0 : Int32) = 2 by decide), l_in, bi_0, if_neg (not_not_intro (show (0 : Int32) ≤ 0 ∧ (0 : Int32) ≤ 2 by decide)), if_true, if_neg (not_not_intro c1), nm_d, i6, si_1, si_2, si_4, fr_43_11 hF, fr_43_13 hF, fr_43_14 hF, bd_s, fk_43 hF, fk_54 hF, fk_56 hF, fk_57 hF, fl_54 hF, fl_56 hF, fl_57 hF, gd_e q0, q1, hb 0 v4 _ _ (show 54 < 82 by decide), rb_ess hR 54 (6 * p + i) (by decide) rfl]
          simp only [si_3, u2_at, Nat.add_left_cancel_iff, Nat.reduceEqDiff, false_and, if_false, if_neg (show ¬ (z + 56 = la p i ∧ 6 * p + i = 0) by omega), if_neg (show ¬ (z + 57 = la p i ∧ 6 * p + i = 0) by omega), rb_ess hR 56 (6 * p + i) (by decide) rfl, rb_ess hR 57 (6 * p + i) (by decide) rfl]
        · refine rel_chg hR hT hp (by omega) hlt ?_ (rg_of (lo := 1) (hi := 200) rfl rfl (by decide) (by decide) c1) rw_ rx
          refine ⟨l0, ?_, ?_, ?_, ?_⟩ <;> (rw [si_3, u2_at]; simp [la2, la3, la4])
    by_cases c2 : v3 = 1
    · subst c2
      by_cases c1 : ¬ (0 ≤ v4 ∧ v4 ≤ 65535)
      · refine ⟨-1000, h, h, ?_, fk_43 hF, ?_, hRel⟩
        · simp only [fX10_change, fk_0 hF, gk_s, fr_0_0 hF, bd_s, fk_1 hF, x_lineAt_t hR hp h0 (by omega) hlt, b2_s, rn, fX10_isLineValue, if_true, if_neg c0, l_within, gd_e bi_zb, bi_0, if_pos c1]
        · simp only [fX11_change, fk_43 hF, gk_s, hml, b2_s, if_neg (show ¬ (1 : Int32) = 0 by decide), l_in, l_areWishes, bi_0, if_neg (not_not_intro (show (0 : Int32) ≤ 1 ∧ (1 : Int32) ≤ 2 by decide)), if_true, if_pos c1]
      · replace c1 := Classical.not_not.mp c1
        refine ⟨D 56 (6 * p + i), hp_si h (la p i) 2 v4, hp_si (hp_si (hp_si (hp_si h (la p i) 2 v4) (z + 54) (6 * p + i) (D 54 (6 * p + i))) (z + 56) (6 * p + i) v4) (z + 57) (6 * p + i) (D 57 (6 * p + i)), ?_, fk_43 hF, ?_, ?_⟩
        · simp only [fX10_change, fk_0 hF, gk_s, fr_0_0 hF, bd_s, fk_1 hF, x_lineAt_t hR hp h0 (by omega) hlt, b2_s, rn, fX10_isLineValue, if_true, if_neg c0, l_within, gd_e bi_zb, bi_0, if_neg (not_not_intro c1), l0, nm_d, la3]
        · have f1 : fxd z (hp_si h (la p i) 2 v4) := hF
          simp only [fX11_change, fX11_change_65, fX11_change_133, fX11_change_157, fk_43 f1, gk_s, hml1, b2_s, if_neg (show ¬ (1 : Int32) = 0 by decide), if_neg (show ¬ (1 : Int32) = 2 by decide), l_in, l_areWishes, bi_0, if_neg (not_not_intro (show (0 : Int32) ≤ 1 ∧ (1 : Int32) ≤ 2 by decide)), if_true, if_neg (not_not_intro c1), nm_d, i6, si_1, si_2, si_4, fr_43_11 hF, fr_43_13 hF, fr_43_14 hF, bd_s, fk_43 hF, fk_54 hF, fk_56 hF, fk_57 hF, fl_54 hF, fl_56 hF, fl_57 hF, gd_e q0, q1, hb 2 v4 _ _ (show 56 < 82 by decide), hb 2 v4 _ _ (show 54 < 82 by decide), rb_ess hR 54 (6 * p + i) (by decide) rfl, rb_ess hR 56 (6 * p + i) (by decide) rfl]
          simp only [si_3, u2_at, Nat.add_left_cancel_iff, Nat.reduceEqDiff, false_and, if_false, if_neg (show ¬ (z + 57 = la p i ∧ 6 * p + i = 2) by omega), rb_ess hR 57 (6 * p + i) (by decide) rfl]
        · refine rel_chg hR hT hp (by omega) hlt ?_ rt (rg_of (lo := 0) (hi := 65535) rfl rfl (by decide) (by decide) c1) rx
          refine ⟨l0, ?_, ?_, ?_, ?_⟩ <;> (rw [si_3, u2_at]; simp [la1, la2, la4])
    by_cases c3 : v3 = 2
    · subst c3
      by_cases c1 : ¬ (-1 ≤ v4 ∧ v4 ≤ 39)
      · refine ⟨-1000, h, h, ?_, fk_43 hF, ?_, hRel⟩
        · simp only [fX10_change, fk_0 hF, gk_s, fr_0_0 hF, bd_s, fk_1 hF, x_lineAt_t hR hp h0 (by omega) hlt, b2_s, rn, fX10_isLineValue, if_true, if_neg c0, if_neg c2, l_isNextX, gd_e bi_zb, bi_0, if_pos c1]
        · simp only [fX11_change, fk_43 hF, gk_s, hml, b2_s, if_neg (show ¬ (1 : Int32) = 0 by decide), if_neg c0, if_neg c2, l_in, l_isNext, bi_0, if_neg (not_not_intro (show (0 : Int32) ≤ 2 ∧ (2 : Int32) ≤ 2 by decide)), if_true, if_pos c1]
      · replace c1 := Classical.not_not.mp c1
        refine ⟨D 57 (6 * p + i), hp_si h (la p i) 3 v4, hp_si (hp_si (hp_si (hp_si h (la p i) 3 v4) (z + 54) (6 * p + i) (D 54 (6 * p + i))) (z + 56) (6 * p + i) (D 56 (6 * p + i))) (z + 57) (6 * p + i) v4, ?_, fk_43 hF, ?_, ?_⟩
        · simp only [fX10_change, fk_0 hF, gk_s, fr_0_0 hF, bd_s, fk_1 hF, x_lineAt_t hR hp h0 (by omega) hlt, b2_s, rn, fX10_isLineValue, if_true, if_neg c0, if_neg c2, l_isNextX, gd_e bi_zb, bi_0, if_neg (not_not_intro c1), l0, nm_d, la4]
        · have f1 : fxd z (hp_si h (la p i) 3 v4) := hF
          simp only [fX11_change, fX11_change_65, fX11_change_133, fX11_change_157, fk_43 f1, gk_s, hml1, b2_s, if_neg (show ¬ (1 : Int32) = 0 by decide), if_neg c0, if_neg c2, l_in, l_isNext, bi_0, if_neg (not_not_intro (show (0 : Int32) ≤ 2 ∧ (2 : Int32) ≤ 2 by decide)), if_true, if_neg (not_not_intro c1), nm_d, i6, si_1, si_2, si_4, fr_43_11 hF, fr_43_13 hF, fr_43_14 hF, bd_s, fk_43 hF, fk_54 hF, fk_56 hF, fk_57 hF, fl_54 hF, fl_56 hF, fl_57 hF, gd_e q0, q1, hb 3 v4 _ _ (show 57 < 82 by decide), hb 3 v4 _ _ (show 54 < 82 by decide), rb_ess hR 54 (6 * p + i) (by decide) rfl, rb_ess hR 57 (6 * p + i) (by decide) rfl]
          simp only [si_3, u2_at, Nat.add_left_cancel_iff, Nat.reduceEqDiff, false_and, if_false, if_neg (show ¬ (z + 56 = la p i ∧ 6 * p + i = 3) by omega), rb_ess hR 56 (6 * p + i) (by decide) rfl]
        · refine rel_chg hR hT hp (by omega) hlt ?_ rt rw_ (nxt_of c1)
          refine ⟨l0, ?_, ?_, ?_, ?_⟩ <;> (rw [si_3, u2_at]; simp [la1, la2, la3])
    · refine ⟨-1000, h, h, ?_, fk_43 hF, ?_, hRel⟩
      · simp only [fX10_change, fk_0 hF, gk_s, fr_0_0 hF, bd_s, fk_1 hF, x_lineAt_t hR hp h0 (by omega) hlt, b2_s, rn, fX10_isLineValue, if_neg c0, if_neg c2, if_neg c3, if_true]
      · simp only [fX11_change, fk_43 hF, gk_s, hml, b2_s, if_neg (show ¬ (1 : Int32) = 0 by decide), l_in, bi_0, rg_2, c0, c2, c3, or_self, not_false_eq_true, if_true]
  · refine ⟨-1000, h, h, ?_, fk_43 hF, ?_, hRel⟩
    · simp only [fX10_change, fk_0 hF, gk_s, fr_0_0 hF, bd_s, fk_1 hF, x_lineAt_f hR hv, b2_s, rn]
    · simp only [fX11_change, fk_43 hF, gk_s, m_noLine hR hv, b2_s, if_pos]
end
