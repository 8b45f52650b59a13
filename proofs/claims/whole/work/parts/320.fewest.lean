/-! a new caller; fewest -/
section
variable {z : Nat} {h : Hp} {D : Nat → Nat → Int32} {n ng : Nat} {pa ba : Nat → Nat} {la : Nat → Nat → Nat} {ca : Nat → Nat}
theorem x_caller (hF : fxd z h) (w v m u k : Int32) (hk : k = 0 ∨ k = 1) : ∃ g, fX0_init h.2.2.2.2 w v m u k (hp_nw h 1 0) = some ((), g) ∧ Scr z h g ∧ ScT z h g ∧ CaV z g h.2.2.2.2 w v u ∧ g.2.2.1 h.2.2.2.2 2 = m ∧ g.2.2.1 h.2.2.2.2 4 = k := by
  have hz := hF.2.2.2
  obtain ⟨a, ea⟩ : ∃ a, a = h.2.2.2.2 := ⟨_, rfl⟩
  have e1 : (hp_nw h 1 0).1 a = 1 := by rw [ea]; exact va_up_self _ _ _
  have hzb : zb k = true := by rcases hk with r | r <;> rw [r] <;> rfl
  obtain ⟨g, eg⟩ : ∃ g, g = hp_si (hp_si (hp_si (hp_si (hp_si (hp_nw h 1 0) a 0 w) a 1 v) a 2 m) a 3 u) a 4 k := ⟨_, rfl⟩
  have r3 : ∀ b, b < a → g.2.2.1 b = h.2.2.1 b := fun b hb => by
    rw [eg]
    show u2 (u2 (u2 (u2 (u2 (hp_nw h 1 0).2.2.1 a 0 w) a 1 v) a 2 m) a 3 u) a 4 k b = _
    rw [u2_ne (by omega), u2_ne (by omega), u2_ne (by omega), u2_ne (by omega), u2_ne (by omega)]
    show va_up _ _ _ b = _
    exact va_up_ne _ _ (by omega)
  have hd : Dyn z h g := by
    rw [eg, ea]
    exact (((((Dyn.nw).siN (Nat.le_refl _)).siN (Nat.le_refl _)).siN (Nat.le_refl _)).siN (Nat.le_refl _)).siN (Nat.le_refl _)
  rw [← ea]
  refine ⟨g, ?_, ⟨hd.1, hd.2.1, hd.2.2.1, hd.2.2.2, fun c k hc _ => by rw [r3 _ (by omega)]⟩, ?_, ⟨by omega, ?_, ?_, ?_, ?_⟩, ?_, ?_⟩
  · rw [eg]
    simp only [fX0_init, e1, gk_s, nm_d, gd_e hzb]
  · refine ⟨fun j => ?_, fun j => ?_, fun j => ?_, fun j _ _ => ?_, fun j => ?_, fun j => ?_⟩ <;> (unfold vv; rw [r3 _ (by omega)])
  · rw [eg]; exact e1
  all_goals (rw [eg]; simp only [si_3, u2_at, true_and]; simp)
theorem ow_two (hR : RelB z h D n ng pa ba la ca) (w v u : Int32) (q : Nat) : (OW n (mG D) (cG D w v) (tG D w v u) 1000000 n q = 1000000 ∧ OW n (mG D) (cG D w v) (tG D w v u) 100000000 n q = 100000000 ∧ q ≠ 41) ∨ (OW n (mG D) (cG D w v) (tG D w v u) 1000000 n q = OW n (mG D) (cG D w v) (tG D w v u) 100000000 n q ∧ OW n (mG D) (cG D w v) (tG D w v u) 1000000 n q ≤ 4200 * n) :=
  OW_two (rb_n hR).2.2 (cG_le hR w v) n q (by have := (rb_n hR).2.2; omega) (by have := (rb_n hR).2.2; omega)
theorem nI_nxt {q : Nat} (hq : q < 40) : nxt (nI q) := Or.inr ⟨q, hq, rfl⟩
theorem tg_nI {q : Nat} (hq : q < 40) : tg (nI q) = q := by
  obtain ⟨a, b, c⟩ := tg_in (nI_nxt hq)
  by_cases e : tg (nI q) = 40
  · have := c e
    have h1 := nI_pos (n := q) (by omega)
    rw [this] at h1
    exact absurd (by decide) h1
  · exact ((nI_eq (by omega) (by omega)).mp (b (by omega))).symm
theorem sim_fewest (v1 v2 v3 v4 : Int32) : Sim z (fX10_fewest z v1 v2 v3 v4) (fX11_fewest (z + 43) v1 v2 v3 v4) := by
  intro h hRel
  obtain ⟨⟨D, n, ng, pa, ba, la, ca, hR⟩, hT⟩ := id hRel
  obtain ⟨n1, n2, n3⟩ := rb_n hR
  have hF := hR.1
  rcases (ex_p (n := n) v1).symm with hv | ⟨p, hp, rfl⟩
  · exact ⟨-1, h, h, by simp only [fX10_fewest, fk_0 hF, gk_s, fr_0_0 hF, bd_s, fk_1 hF, x_at_f hR hv, b2_s, rn], fk_43 hF, by simp only [fX11_fewest, fk_43 hF, gk_s, m_isPlace_f hF n2 n3 hv, b2_s, if_pos], hRel⟩
  have e10 : ¬ (1 : Int32) = 0 := by decide
  rcases (Classical.em ((0 ≤ v2 ∧ v2 ≤ 15) ∧ (0 ≤ v3 ∧ v3 ≤ 99999999) ∧ ((1 : Int32) ≤ 1 ∧ (1 : Int32) ≤ 5000) ∧ (0 ≤ v4 ∧ v4 ≤ 23) ∧ ((0 : Int32) ≤ 1 ∧ (1 : Int32) ≤ 1))).symm with c1 | c1
  · have c2 : ¬ ((0 ≤ v2 ∧ v2 ≤ 15) ∧ (0 ≤ v3 ∧ v3 ≤ 99999999) ∧ ((1 : Int32) ≤ 1 ∧ (1 : Int32) ≤ 5000) ∧ (0 ≤ v4 ∧ v4 ≤ 23) ∧ ((0 : Int32) ≤ 0 ∧ (0 : Int32) ≤ 1)) := fun q => c1 ⟨q.1, q.2.1, q.2.2.1, q.2.2.2.1, by decide⟩
    exact ⟨-1, h, h, by simp only [fX10_fewest, fk_0 hF, gk_s, fr_0_0 hF, bd_s, fk_1 hF, x_at_t hR hp, b2_s, rn, l_isCallerX, if_neg c1, if_true], fk_43 hF, by simp only [fX11_fewest, fk_43 hF, gk_s, m_isPlace_t hF n2 n3 hp, b2_s, if_neg e10, l_isCaller, if_neg c2, if_true], hRel⟩
  have c2 : (0 ≤ v2 ∧ v2 ≤ 15) ∧ (0 ≤ v3 ∧ v3 ≤ 99999999) ∧ ((1 : Int32) ≤ 1 ∧ (1 : Int32) ≤ 5000) ∧ (0 ≤ v4 ∧ v4 ≤ 23) ∧ ((0 : Int32) ≤ 0 ∧ (0 : Int32) ≤ 1) := ⟨c1.1, c1.2.1, c1.2.2.1, c1.2.2.2.1, by decide⟩
  obtain ⟨g, e1, s1, s2, hC, -, -⟩ := x_caller hF v2 v3 1 v4 1 (Or.inr rfl)
  have hRg := RelB_scr hR s1
  obtain ⟨g2, e2, f2, hT2⟩ := x_measure hRg hC
  have hR2 := f2.relB S4_ess hRg
  have hF2 := hR2.1
  have hx : nxt (nI p) := nI_nxt (by omega)
  have htg := tg_nI (q := p) (by omega)
  have hTF := x_ticksFrom hF2 hT2 rfl hx
  rw [htg] at hTF
  obtain ⟨g3, eg3⟩ : ∃ g3, g3 = hp_si (hp_si (hp_si g2 (z + 43) 32 v2) (z + 43) 33 v3) (z + 43) 35 v4 := ⟨_, rfl⟩
  have f3 : Fr z (fun c k => c == 43 && (k == 32 || k == 33 || k == 35)) g2 g3 := by
    rw [eg3]
    exact ((Fr.si (by decide) rfl).tr (Fr.si (by decide) rfl)).tr (Fr.si (by decide) rfl)
  have f3e : ∀ c k, (c == 43 && (k == 32 || k == 33 || k == 35)) = true → ess c k = false := by
    intro c k hq
    simp only [Bool.and_eq_true, Bool.or_eq_true, beq_iff_eq] at hq
    obtain ⟨rfl, (rfl | rfl) | rfl⟩ := hq <;> rfl
  have hR3 := f3.relB f3e hR2
  have hF3 := hR3.1
  have hM : MoV z g3 v2 v3 v4 := by
    rw [eg3]
    refine ⟨?_, ?_, ?_⟩ <;> simp only [si_3, u2_at, true_and] <;> simp
  obtain ⟨g4, e4, f4, hT4⟩ := m_layLeast hR3 hM
  have hR4 := f4.relB S68_ess hR3
  have hF4 := hR4.1
  have e68 : g4.2.2.1 (z + 68) p = nI (OW n (mG D) (cG D v2 v3) (tG D v2 v3 v4) 100000000 n p) := hT4.1 p (by omega)
  have q0 : ix (nI p) 40 = true := ix_nI (by omega) (by decide)
  have q1 : (nI p).toNatClampNeg = p := nI_clamp (by omega)
  have htwo := ow_two hR v2 v3 v4 p
  obtain ⟨A, eA⟩ : ∃ A, A = OW n (mG D) (cG D v2 v3) (tG D v2 v3 v4) 1000000 n p := ⟨_, rfl⟩
  obtain ⟨B, eB⟩ : ∃ B, B = OW n (mG D) (cG D v2 v3) (tG D v2 v3 v4) 100000000 n p := ⟨_, rfl⟩
  rw [← eA] at hTF htwo
  rw [← eB] at e68 htwo
  refine ⟨if A = 1000000 then -4 else nI A, g2, g4, ?_, fk_43 hF2, ?_, ⟨D, n, ng, pa, ba, la, ca, hR4⟩, ?_⟩
  · simp only [fX10_fewest, fk_0 hF, gk_s, fr_0_0 hF, bd_s, fk_1 hF, x_at_t hR hp, b2_s, rn, l_isCallerX, if_pos c1, if_neg e10, fr_0_1 hF, nm_d, e1, fk_3 hRg.1, e2, fk_0 hF2, fr_0_1 hF2, fk_3 hF2, hTF]
    have e6 : (1000000 : Int32) = nI 1000000 := rfl
    rcases htwo with ⟨r, -, -⟩ | ⟨r1, r2⟩
    · rw [r, if_pos (by decide), if_pos rfl]
    · rw [if_neg (by rw [e6]; exact nI_ge (by omega) (by decide)), if_neg (by omega)]
  · simp only [fX11_fewest, fk_43 hF2, gk_s, m_isPlace_t hF2 (rb_n hR2).2.1 n3 hp, b2_s, if_neg e10, l_isCaller, if_pos c2, nm_d, ← eg3, e4, fk_43 hF4, fr_43_36 hF4, bd_s, fk_68 hF4, fl_68 hF4, gd_e q0, q1, e68]
    have e8 : (100000000 : Int32) = nI 100000000 := rfl
    rcases htwo with ⟨r, r2, -⟩ | ⟨r1, r2⟩
    · rw [r, r2, if_pos rfl, if_pos e8.symm]
    · rw [if_neg (by rw [e8, nI_ne (by omega) (by decide)]; omega), if_neg (by omega), r1]
  · refine Told_scr hT (s2.tr ((f2.scT ?_).tr ((f3.scT ?_).tr (f4.scT ?_))))
    · intro c k hq
      have : c = 4 := by simpa [S4] using hq
      omega
    · intro c k hq
      simp only [Bool.and_eq_true, Bool.or_eq_true, beq_iff_eq] at hq
      omega
    · intro c k hq
      have : c = 68 := by simpa [S68] using hq
      omega
end
