/-! arrange: class and model -/
section
variable {z : Nat}
theorem sim_arrange (v1 : Int32) : Sim z (fX10_arrange z v1) (fX11_arrange (z + 43) v1) := by
  intro h hRel
  obtain ⟨⟨D, n, ng, pa, ba, la, ca, hR⟩, hT⟩ := id hRel
  obtain ⟨n1, n2, n3⟩ := rb_n hR
  have hF := hR.1
  rcases (ex_p (n := n) v1).symm with hv | ⟨p, hp, rfl⟩
  · exact ⟨-1, h, h, by simp only [fX10_arrange, fk_0 hF, gk_s, fr_0_0 hF, bd_s, fk_1 hF, x_menuAt_f hR hv, b2_s, rn], fk_43 hF, by simp only [fX11_arrange, fk_43 hF, gk_s, m_isMenu_f hF n2 n3 hv, b2_s, if_true], hRel⟩
  have e44 := rb_ess hR 44 p (by decide) rfl
  by_cases h0 : D 44 p = 0
  · obtain ⟨hs, h6⟩ := sz_toN hR hp
    obtain ⟨s, es⟩ : ∃ s, s = toN (D 53 p) := ⟨_, rfl⟩
    rw [← es] at hs h6
    have xm := x_menuAt_t hR hp
    rw [if_pos h0] at xm
    obtain ⟨h1, h2, e1, f1, -, e2, f2, c2, c3⟩ := x_order hR hp hs h6
    obtain ⟨o, eo⟩ : ∃ o, o = srt (ahD D p (CL D n p ng)) s := ⟨_, rfl⟩
    rw [← eo] at c3
    obtain ⟨so, si⟩ := srt_ok (ah := ahD D p (CL D n p ng)) s
    rw [← eo] at so si
    have hR1 := f1.relB So_ess hR
    have hF1 := hR1.1
    have hR2 := f2.relB So_ess hR1
    have hF2 := hR2.1
    have hz2 := hF2.2.2.2
    have nfb := NF_big
    obtain ⟨hP2, hpa, hba, hla⟩ := pl_facts hR2 hp
    obtain ⟨g1, e3, s1, s2, s3⟩ := x_put1 hR2 hp hs h6 s 0 NF h2 (by omega) (by omega) ⟨rfl, rfl, rfl, rfl⟩ (fun _ _ => rfl) (fun j hj => absurd hj (Nat.not_lt_zero j))
    obtain ⟨h3, e4, t1, t2, t3⟩ := x_put2 (o := o) hR2 hp hs h6 (fun a ha => ⟨c3 a ha, so a ha⟩) s 0 NF g1 (by omega) (by omega) s1 (fun a ha _ => s2 a ha) s3 (fun j hj => absurd hj (Nat.not_lt_zero j))
    obtain ⟨k1, k2, k3, k4⟩ := t1
    have hF3 : fxd z h3 := by
      obtain ⟨f1, f2, f3, f4⟩ := hF2
      refine ⟨fun c hc => by rw [k1]; exact f1 c hc, fun c hc => by rw [k2]; exact f2 c hc, fun c k o ho => ?_, by rw [k4]; exact f4⟩
      have := RT_lt c k o ho
      rw [t2 _ (by omega) (by omega)]
      exact f3 c k o ho
    have hM3 : RelM z h3 D n ng pa ba la ca := ⟨hF3, fun c k hc he => by rw [k3]; exact hR2.2.1 c k hc he, hR2.2.2.1, trivial⟩
    obtain ⟨h4, e5, f5, -, c5⟩ := m_layOrder_M hM3 hp hs h6
    rw [← eo] at c5
    have hM4 := f5.relM SO_ess hM3
    obtain ⟨h5, e6, f6, c6⟩ := m_arr1 (o := o) hM4 hp hs h6 (fun a ha => ⟨c5 a ha, so a ha⟩) s 0 NF h4 (by omega) (by omega) Fr.rf (fun j hj => absurd hj (Nat.not_lt_zero j))
    have S77_ess : ∀ c k, S77 c k = true → ess c k = false := by
      intro c k q
      have : c = 77 := by simpa [S77] using q
      subst this
      rfl
    have hM5 := f6.relM S77_ess hM4
    obtain ⟨h6', e7, f7, c7⟩ := m_arr2 (o := o) hM5 hp hs h6 c6 s 0 NF h5 (by omega) (by omega) hM5.1 Fr.rf (fun c k hc1 hc2 => by
      rw [hM5.2.1 c k (by omega) (by simp [ess]; omega)]
      unfold pmD
      rw [if_neg (by omega)])
    have kk1 : h6'.1 = h2.1 := by rw [f7.1, f6.1, f5.1, k1]
    have kk2 : h6'.2.1 = h2.2.1 := by rw [f7.2.1, f6.2.1, f5.2.1, k2]
    have kk3 : h6'.2.2.2.1 = h3.2.2.2.1 := by rw [f7.2.2.1, f6.2.2.1, f5.2.2.1]
    have kk4 : h6'.2.2.2.2 = h2.2.2.2.2 := by rw [f7.2.2.2.1, f6.2.2.2.1, f5.2.2.2.1, k4]
    have kk5 : ∀ a, z + 82 ≤ a → h6'.2.2.1 a = h2.2.2.1 a := fun a ha => by rw [f7.2.2.2.2.2 a ha, f6.2.2.2.2.2 a ha, f5.2.2.2.2.2 a ha, k3]
    have hF6 : fxd z h6' := by
      obtain ⟨f1, f2, f3, f4⟩ := hF3
      exact ⟨fun c hc => by rw [kk1, ← k1]; exact f1 c hc, fun c hc => by rw [kk2, ← k2]; exact f2 c hc, fun c k o ho => by rw [kk3]; exact f3 c k o ho, by rw [kk4, ← k4]; exact f4⟩
    have qc : ∀ c k, (c < 54 ∨ 57 < c) → pmD D p s o c k = D c k := fun c k hc => by unfold pmD; rw [if_neg (by omega)]
    have ql : ∀ c i, 54 ≤ c → c ≤ 57 → i < s → pmD D p s o c (6 * p + i) = D c (6 * p + o i) := fun c i h1 h2 hi => by
      unfold pmD
      rw [if_pos ⟨⟨h1, h2⟩, by omega, by omega⟩, Nat.add_sub_cancel_left]
    have ilt : ∀ i, i < 6 → nI i < D 53 p → i < s := fun i h6' hl => by
      rw [hs] at hl
      exact (nI_ltI (by omega) (by omega)).mp hl
    have slt : ∀ i, i < s → nI i < D 53 p := fun i hi => by rw [hs]; exact nI_lt hi (by omega)
    have hsl : sameButL D (pmD D p s o) p := ⟨fun c k hc => qc c k (by omega), fun k _ => qc 53 k (by decide), fun c k h1 h2 h3 => by unfold pmD; rw [if_neg (by omega)]⟩
    have hV := pv_of hR hp
    have hPV : PV (pmD D p s o) p := by
      unfold PV at hV ⊢
      rw [qc 44 p (by decide), qc 45 p (by decide), qc 46 p (by decide), qc 47 p (by decide), qc 48 p (by decide), qc 49 p (by decide), qc 52 p (by decide), qc 53 p (by decide)]
      obtain ⟨a1, a2, a3, a4, a5, a6, a7, a8, a9, a10, a11, a12⟩ := hV
      refine ⟨a1, a2, a3, a4, a5, a6, a7, a8, a9, a10, a11, fun i hi hl => ?_⟩
      have hi2 := ilt i hi hl
      rw [ql 54 i (by decide) (by decide) hi2, ql 55 i (by decide) (by decide) hi2, ql 56 i (by decide) (by decide) hi2, ql 57 i (by decide) (by decide) hi2]
      have := so i hi2
      exact a12 (o i) (by omega) (slt _ this)
    have kp : h2.1 (pa p) = 6 := hP2.1
    have kb : h2.1 (ba p) = 16 := hP2.2.2.1
    have hne : pa p ≠ ba p := fun e => by rw [e, kb] at kp; exact absurd kp (by decide)
    have hO : PlO h6' (pmD D p s o) p (pa p) (ba p) (fun i => la p (o i)) := by
      obtain ⟨p1, p2, p3, p4, p5, p6, p7, p8, p9, p10, p11, p12, p13, p14⟩ := hP2
      unfold PlO
      rw [kk1, kk2, kk3, t2 (pa p) (by omega) hne, kk5 (pa p) hpa.1, qc 44 p (by decide), qc 45 p (by decide), qc 46 p (by decide), qc 47 p (by decide), qc 48 p (by decide), qc 49 p (by decide), qc 50 p (by decide), qc 51 p (by decide), qc 52 p (by decide), qc 53 p (by decide)]
      refine ⟨p1, p2, p3, p4, p5, p6, p7, p8, p9, p10, p11, p12, p13, fun i hi hl => ?_⟩
      have hi2 := ilt i hi hl
      have ho2 := so i hi2
      obtain ⟨q1, q2⟩ := p14 (o i) (by omega) (slt _ ho2)
      refine ⟨t3 i hi2, ?_⟩
      rw [ql 54 i (by decide) (by decide) hi2, ql 55 i (by decide) (by decide) hi2, ql 56 i (by decide) (by decide) hi2, ql 57 i (by decide) (by decide) hi2]
      have hl2 := hla (o i) (by omega) (slt _ ho2)
      unfold LnO at q2 ⊢
      rw [kk1, kk5 _ hl2.1]
      exact q2
    have hess : ∀ c k, c < 82 → ess c k = true → h6'.2.2.1 (z + c) k = pmD D p s o c k := fun c k hc he => by
      by_cases q : 54 ≤ c ∧ c ≤ 57
      · exact c7 c k q.1 q.2
      · rw [qc c k (by omega), f7.2.2.2.2.1 c k hc (by simp [S54]; omega)]
        exact hM5.2.1 c k hc he
    have hRf := RelB_lines (l' := fun i => la p (o i)) hR2 hp hF6 hess hsl hPV (by rw [kk4]; exact Nat.le_refl _) (fun a _ => ⟨by rw [kk1], by rw [kk2]⟩) (fun a ha _ _ _ => kk5 a ha) (fun a ha _ hb => by rw [kk3]; exact t2 a (by omega) hb) (by rw [kk3]; exact t2 _ (by omega) (by omega)) (by rw [kk3]; exact t2 _ (by omega) (by omega)) hO (fun i hi hl => by
      rw [qc 53 p (by decide)] at hl
      have ho2 := so i (ilt i hi hl)
      exact Or.inl ⟨o i, by omega, slt _ ho2, rfl⟩) (fun i j hi hli hj hlj e => by
      rw [qc 53 p (by decide)] at hli hlj
      have hi2 := ilt i hi hli
      have hj2 := ilt j hj hlj
      have hoi := so i hi2
      have hoj := so j hj2
      exact si i j hi2 hj2 (hR2.2.2.2.2.2.2.1 p p (o i) (o j) hp hp (by omega) (slt _ hoi) (by omega) (slt _ hoj) e).2)
    have mm := m_isMenu_t hF3 (rb_n_M hM3).2.1 n3 hp
    rw [rb_ess_M hM3 44 p (by decide) rfl] at mm
    refine ⟨0, h3, h6', ?_, fk_43 hF3, ?_, ⟨pmD D p s o, n, ng, pa, ba, _, ca, hRf⟩, ?_⟩
    · have e34 : fX4_putInOrder (z + 11) (some (pa p)) h2 = some ((), h3) := e3.trans e4
      simp only [fX10_arrange, fk_0 hF, gk_s, fr_0_0 hF, bd_s, fk_1 hF, xm, b2_s, rn, e1, fk_0 hF1, fr_0_4 hF1, fk_11 hF1, e2, fk_0 hF2, fr_0_4 hF2, fk_11 hF2, e34]
    · have e67 : fX11_arrange_17 (z + 43) (nI p) 0 h4 = some (0, h6') := e6.trans e7
      simp only [fX11_arrange, fk_43 hF3, gk_s, mm, b2_s, bi_0, if_neg (not_not_intro h0), e5, e67]
    · have sc23 : ScT z h2 h3 := by
        refine ⟨fun k => ?_, fun k => ?_, fun k => ?_, fun k _ _ => ?_, fun k => ?_, fun k => ?_⟩ <;> (unfold vv; rw [k3])
      refine Told_scr hT (((f1.scT So_sc).tr (f2.scT So_sc)).tr (sc23.tr ((f5.scT SO_sc).tr ((f6.scT ?_).tr (f7.scT ?_)))))
      · intro c k hq
        have : c = 77 := by simpa [S77] using hq
        omega
      · intro c k hq
        simp only [S54, Bool.or_eq_true, beq_iff_eq] at hq
        omega
  · have xm := x_menuAt_t hR hp
    rw [if_neg h0] at xm
    have mm := m_isMenu_t hF n2 n3 hp
    rw [e44] at mm
    exact ⟨-1, h, h, by simp only [fX10_arrange, fk_0 hF, gk_s, fr_0_0 hF, bd_s, fk_1 hF, xm, b2_s, rn], fk_43 hF, by simp only [fX11_arrange, fk_43 hF, gk_s, mm, b2_s, bi_0, if_pos h0], hRel⟩
end
