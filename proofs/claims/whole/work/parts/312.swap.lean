/-! swap, line, group -/
section
variable {z : Nat}
theorem m_turn {h : Hp} {r a b N : Nat} (hk : h.1 r = 13) (hN : h.2.1 r = N) (ha : a < N) (hb : b < N) (hN2 : N < 2 ^ 31) : fX11_turn (some r) (nI a) (nI b) h = some ((), hp_si (hp_si h r a (h.2.2.1 r b)) r b (h.2.2.1 r a)) := by
  simp only [fX11_turn, bd_s, hk, gk_s, hN, gd_e (ix_nI ha hN2), gd_e (ix_nI hb hN2), nI_clamp (n := a) (by omega), nI_clamp (n := b) (by omega), nm_d, si_2]
/-- a row with two places turned -/
def trn (f : Nat → Int32) (a b : Nat) : Nat → Int32 := fun k => if k = b then f a else if k = a then f b else f k
theorem sim_swap (v1 v2 v3 : Int32) : Sim z (fX10_swap z v1 v2 v3) (fX11_swap (z + 43) v1 v2 v3) := by
  intro h hRel
  obtain ⟨⟨D, n, ng, pa, ba, la, ca, hR⟩, hT⟩ := id hRel
  obtain ⟨n1, n2, n3⟩ := rb_n hR
  have hF := hR.1
  have hz0 := hF.2.2.2
  rcases ex_l hR v1 v2 with ⟨p, i, s, hp, h0, hi, h6, hs, rfl, rfl⟩ | hv
  · rcases ex_l hR (nI p) v3 with ⟨p', j, s', hp', h0', hj, h6', hs', e1, rfl⟩ | hv
    · obtain rfl : p = p' := (nI_eq (by omega) (by omega)).mp e1
      obtain rfl : s = s' := (nI_eq (by omega) (by omega)).mp (hs.symm.trans hs')
      have hli : nI i < D 53 p := by rw [hs]; exact nI_lt hi (by omega)
      have hlj : nI j < D 53 p := by rw [hs]; exact nI_lt hj (by omega)
      obtain ⟨hP, hpa, hba, hla⟩ := pl_facts hR hp
      obtain ⟨d1, d2, d3, d4, d5⟩ := hR.2.2.2
      obtain ⟨p1, p2, p3, p4, p5, p6, p7, p8, p9, p10, p11, p12, p13, p14⟩ := id hP
      rw [if_pos h0] at p4
      obtain ⟨h1, e1⟩ : ∃ h1, h1 = hp_sr (hp_sr h (ba p) i (some (la p j))) (ba p) j (some (la p i)) := ⟨_, rfl⟩
      have hF1 : fxd z h1 := by
        obtain ⟨f1, f2, f3, f4⟩ := hF
        rw [e1]
        refine ⟨f1, f2, fun c k o ho => ?_, f4⟩
        have := (RT_lt c k o ho).1
        rw [sr_4, u2_ne (by omega), sr_4, u2_ne (by omega)]
        exact f3 c k o ho
      have hI1 : h1.2.2.1 = h.2.2.1 := by rw [e1]; rfl
      have qa : 6 * p + i < 240 := by omega
      have qb : 6 * p + j < 240 := by omega
      obtain ⟨g1, eg1⟩ : ∃ g, g = hp_si (hp_si h1 (z + 54) (6 * p + i) (D 54 (6 * p + j))) (z + 54) (6 * p + j) (D 54 (6 * p + i)) := ⟨_, rfl⟩
      obtain ⟨g2, eg2⟩ : ∃ g, g = hp_si (hp_si g1 (z + 55) (6 * p + i) (D 55 (6 * p + j))) (z + 55) (6 * p + j) (D 55 (6 * p + i)) := ⟨_, rfl⟩
      obtain ⟨g3, eg3⟩ : ∃ g, g = hp_si (hp_si g2 (z + 56) (6 * p + i) (D 56 (6 * p + j))) (z + 56) (6 * p + j) (D 56 (6 * p + i)) := ⟨_, rfl⟩
      obtain ⟨g4, eg4⟩ : ∃ g, g = hp_si (hp_si g3 (z + 57) (6 * p + i) (D 57 (6 * p + j))) (z + 57) (6 * p + j) (D 57 (6 * p + i)) := ⟨_, rfl⟩
      have F1 : fxd z g1 := by rw [eg1]; exact hF1
      have F2 : fxd z g2 := by rw [eg2]; exact F1
      have F3 : fxd z g3 := by rw [eg3]; exact F2
      have F4 : fxd z g4 := by rw [eg4]; exact F3
      have r1 : ∀ c k, c ≠ 54 → g1.2.2.1 (z + c) k = h.2.2.1 (z + c) k := fun c k hc => by rw [eg1, si_3, u2_ne (by omega), si_3, u2_ne (by omega), hI1]
      have r2 : ∀ c k, c ≠ 54 → c ≠ 55 → g2.2.2.1 (z + c) k = h.2.2.1 (z + c) k := fun c k hc hd => by rw [eg2, si_3, u2_ne (by omega), si_3, u2_ne (by omega), r1 c k hc]
      have r3 : ∀ c k, c ≠ 54 → c ≠ 55 → c ≠ 56 → g3.2.2.1 (z + c) k = h.2.2.1 (z + c) k := fun c k hc hd he => by rw [eg3, si_3, u2_ne (by omega), si_3, u2_ne (by omega), r2 c k hc hd]
      have t1 := m_turn (h := h1) (fk_54 hF1) (fl_54 hF1) qa qb (by decide)
      rw [hI1, rb_ess hR 54 _ (by decide) rfl, rb_ess hR 54 _ (by decide) rfl, ← eg1] at t1
      have t2 := m_turn (h := g1) (fk_55 F1) (fl_55 F1) qa qb (by decide)
      rw [r1 55 _ (by decide), r1 55 _ (by decide), rb_ess hR 55 _ (by decide) rfl, rb_ess hR 55 _ (by decide) rfl, ← eg2] at t2
      have t3 := m_turn (h := g2) (fk_56 F2) (fl_56 F2) qa qb (by decide)
      rw [r2 56 _ (by decide) (by decide), r2 56 _ (by decide) (by decide), rb_ess hR 56 _ (by decide) rfl, rb_ess hR 56 _ (by decide) rfl, ← eg3] at t3
      have t4 := m_turn (h := g3) (fk_57 F3) (fl_57 F3) qa qb (by decide)
      rw [r3 57 _ (by decide) (by decide) (by decide), r3 57 _ (by decide) (by decide) (by decide), rb_ess hR 57 _ (by decide) rfl, rb_ess hR 57 _ (by decide) rfl, ← eg4] at t4
      have l1 : ∀ i', i' < s → fX11_isLine (z + 43) (nI p) (nI i') h1 = some (1, h1) := fun i' hi' => m_isLine_t (n := n) (s := s) hF1 (by rw [hI1]; exact n2) n3 hp (by rw [hI1, rb_ess hR 44 p (by decide) rfl]; exact h0) (by rw [hI1, rb_ess hR 53 p (by decide) rfl]; exact hs) h6 hi'
      obtain ⟨D2, eD⟩ : ∃ D2, D2 = u2 (u2 (u2 (u2 (u2 (u2 (u2 (u2 D 54 (6 * p + i) (D 54 (6 * p + j))) 54 (6 * p + j) (D 54 (6 * p + i))) 55 (6 * p + i) (D 55 (6 * p + j))) 55 (6 * p + j) (D 55 (6 * p + i))) 56 (6 * p + i) (D 56 (6 * p + j))) 56 (6 * p + j) (D 56 (6 * p + i))) 57 (6 * p + i) (D 57 (6 * p + j))) 57 (6 * p + j) (D 57 (6 * p + i)) := ⟨_, rfl⟩
      have qc : ∀ c k, (c < 54 ∨ 57 < c) → D2 c k = D c k := fun c k hc => by
        rw [eD, u2_at, if_neg (by omega), u2_at, if_neg (by omega), u2_at, if_neg (by omega), u2_at, if_neg (by omega), u2_at, if_neg (by omega), u2_at, if_neg (by omega), u2_at, if_neg (by omega), u2_at, if_neg (by omega)]
      have qt : ∀ c k, (c = 54 ∨ c = 55 ∨ c = 56 ∨ c = 57) → D2 c k = trn (D c) (6 * p + i) (6 * p + j) k := fun c k hc => by
        rcases hc with rfl | rfl | rfl | rfl <;> (rw [eD]; simp [u2_at, trn])
      have hsl : sameButL D D2 p := ⟨fun c k hc => qc c k (by omega), fun k _ => qc 53 k (by decide), fun c k h1 h2 h3 => by
        rw [qt c k (by omega)]
        unfold trn
        rw [if_neg (by omega), if_neg (by omega)]⟩
      obtain ⟨l', el'⟩ : ∃ l' : Nat → Nat, l' = fun k => if k = j then la p i else if k = i then la p j else la p k := ⟨_, rfl⟩
      have hk1 : g4.1 = h.1 := by rw [eg4, eg3, eg2, eg1, e1]; rfl
      have hk2 : g4.2.1 = h.2.1 := by rw [eg4, eg3, eg2, eg1, e1]; rfl
      have hr4 : g4.2.2.2.1 = u2 (u2 h.2.2.2.1 (ba p) i (some (la p j))) (ba p) j (some (la p i)) := by rw [eg4, eg3, eg2, eg1, e1]; rfl
      have hi4 : ∀ a, z + 82 ≤ a → g4.2.2.1 a = h.2.2.1 a := fun a ha => by
        rw [eg4, si_3, u2_ne (by omega), si_3, u2_ne (by omega), eg3, si_3, u2_ne (by omega), si_3, u2_ne (by omega), eg2, si_3, u2_ne (by omega), si_3, u2_ne (by omega), eg1, si_3, u2_ne (by omega), si_3, u2_ne (by omega), hI1]
      have hln : ∀ k, k < 6 → nI k < D 53 p → ∃ m, m < 6 ∧ nI m < D 53 p ∧ l' k = la p m ∧ D2 54 (6 * p + k) = D 54 (6 * p + m) ∧ D2 55 (6 * p + k) = D 55 (6 * p + m) ∧ D2 56 (6 * p + k) = D 56 (6 * p + m) ∧ D2 57 (6 * p + k) = D 57 (6 * p + m) ∧ (m = if k = j then i else if k = i then j else k) := fun k k6 k3 => by
        rw [qt 54 _ (by decide), qt 55 _ (by decide), qt 56 _ (by decide), qt 57 _ (by decide), el']
        unfold trn
        by_cases kj : k = j
        · subst kj
          simp only [if_pos]
          exact ⟨i, by omega, hli, rfl, rfl, rfl, rfl, rfl, rfl⟩
        · by_cases ki : k = i
          · subst ki
            simp only [if_pos, if_neg kj, if_neg (show ¬ 6 * p + k = 6 * p + j by omega)]
            exact ⟨j, by omega, hlj, rfl, rfl, rfl, rfl, rfl, rfl⟩
          · simp only [if_neg kj, if_neg ki, if_neg (show ¬ 6 * p + k = 6 * p + j by omega), if_neg (show ¬ 6 * p + k = 6 * p + i by omega)]
            exact ⟨k, k6, k3, rfl, rfl, rfl, rfl, rfl, rfl⟩
      have q53 : D2 53 p = D 53 p := qc 53 p (by decide)
      refine ⟨0, h1, g4, ?_, fk_43 hF1, ?_, ⟨D2, n, ng, pa, ba, _, ca, RelB_lines (l' := l') hR hp F4 ?_ hsl ?_ ?_ ?_ ?_ ?_ ?_ ?_ ?_ ?_ ?_⟩, ?_⟩
      · rw [e1]
        simp only [fX10_swap, fk_0 hF, gk_s, fr_0_0 hF, bd_s, fk_1 hF, x_menuAt_t hR hp, if_pos h0, x_lineAt_t hR hp h0 (show i < 6 by omega) hli, x_lineAt_t hR hp h0 (show j < 6 by omega) hlj, b2_s, rn, p1, p2, p3, p4, (p14 j (by omega) hlj).2.1, (p14 i (by omega) hli).2.1, gd_e (ix_nI (p := i) (N := 6) (by omega) (by decide)), gd_e (ix_nI (p := j) (N := 6) (by omega) (by decide)), nI_clamp (n := i) (by omega), nI_clamp (n := j) (by omega), nm_d, sr_1, sr_2, sr_4]
        rw [u2_ne (fun e => by have := p1; rw [e, p3] at this; exact absurd this (by decide)), p2]
        simp only [bd_s, p3, gk_s, p4, (p14 i (by omega) hli).2.1, gd_e (ix_nI (p := j) (N := 6) (by omega) (by decide))]
      · simp only [fX11_swap, fX11_swapAt, fk_43 hF1, gk_s, l1 i hi, l1 j hj, b2_s, if_neg (show ¬ (1 : Int32) = 0 by decide), i6, fr_43_11 hF1, bd_s, t1, fk_43 F1, fr_43_12 F1, t2, fk_43 F2, fr_43_13 F2, t3, fk_43 F3, fr_43_14 F3, t4]
      · rw [eg4, eg3, eg2, eg1, eD]
        refine ess_si (ess_si (ess_si (ess_si (ess_si (ess_si (ess_si (ess_si (fun c k hc he => ?_))))))))
        rw [hI1]
        exact hR.2.1 c k hc he
      · have := hR.2.2.1.2.2.2.1 p hp
        unfold PV at this ⊢
        simp only [qc 44 p (by decide), qc 45 p (by decide), qc 46 p (by decide), qc 47 p (by decide), qc 48 p (by decide), qc 49 p (by decide), qc 52 p (by decide), q53]
        obtain ⟨a1, a2, a3, a4, a5, a6, a7, a8, a9, a10, a11, a12⟩ := this
        refine ⟨a1, a2, a3, a4, a5, a6, a7, a8, a9, a10, a11, fun k hk h3 => ?_⟩
        obtain ⟨m, m1, m2, m3, m4, m5, m6, m7, -⟩ := hln k hk h3
        rw [m4, m5, m6, m7]
        exact a12 m m1 m2
      · rw [eg4, eg3, eg2, eg1, e1]; exact Nat.le_refl _
      · intro a _; rw [hk1, hk2]; exact ⟨rfl, rfl⟩
      · intro a ha _ _ _; exact hi4 a ha
      · intro a _ _ hne; rw [hr4, u2_ne hne, u2_ne hne]
      · rw [hr4, u2_ne (by omega), u2_ne (by omega)]
      · rw [hr4, u2_ne (by omega), u2_ne (by omega)]
      · unfold PlO
        have nb : pa p ≠ ba p := fun e => by have := p1; rw [e, p3] at this; exact absurd this (by decide)
        rw [hk1, hk2, hi4 _ hpa.1]
        simp only [qc 44 p (by decide), qc 45 p (by decide), qc 46 p (by decide), qc 47 p (by decide), qc 48 p (by decide), qc 49 p (by decide), qc 50 p (by decide), qc 51 p (by decide), qc 52 p (by decide), q53]
        refine ⟨p1, by rw [hr4, u2_ne nb, u2_ne nb]; exact p2, p3, by rw [if_pos h0]; exact p4, p5, p6, p7, p8, p9, p10, p11, p12, p13, fun k hk h3 => ⟨?_, ?_⟩⟩
        · rw [hr4, u2_at, u2_at, el', (p14 k hk h3).1]
          by_cases kj : k = j
          · simp [kj]
          · by_cases ki : k = i
            · subst ki
              simp [kj]
            · simp [kj, ki]
        · obtain ⟨m, m1, m2, m3, m4, m5, m6, m7, -⟩ := hln k hk h3
          rw [m3, m4, m5, m6, m7]
          have := (p14 m m1 m2).2
          unfold LnO at this ⊢
          rw [hk1, hi4 _ (hla m m1 m2).1]
          exact this
      · intro k hk h3
        rw [q53] at h3
        obtain ⟨m, m1, m2, m3, -⟩ := hln k hk h3
        exact Or.inl ⟨m, m1, m2, m3⟩
      · intro k k' hk h3 hk' h3' e
        rw [q53] at h3 h3'
        obtain ⟨m, m1, m2, m3, -, -, -, -, m8⟩ := hln k hk h3
        obtain ⟨m', m1', m2', m3', -, -, -, -, m8'⟩ := hln k' hk' h3'
        rw [m3, m3'] at e
        have := (d4 p p m m' hp hp m1 m2 m1' m2' e).2
        rw [m8, m8'] at this
        split at this <;> split at this <;> (try split at this) <;> (try split at this) <;> omega
      · refine Told_scr hT ?_
        rw [eg4, eg3, eg2, eg1]
        refine ScT.tr (ScT.tr (ScT.tr (ScT.tr (ScT.tr (ScT.tr (ScT.tr (ScT.tr ?_ (ScT.si (by decide) (by omega))) (ScT.si (by decide) (by omega))) (ScT.si (by decide) (by omega))) (ScT.si (by decide) (by omega))) (ScT.si (by decide) (by omega))) (ScT.si (by decide) (by omega))) (ScT.si (by decide) (by omega))) (ScT.si (by decide) (by omega))
        refine ⟨fun k => ?_, fun k => ?_, fun k => ?_, fun k _ _ => ?_, fun k => ?_, fun k => ?_⟩ <;> (show h1.2.2.1 _ _ = _; rw [hI1])
    · have hlt : nI i < D 53 p := by rw [hs]; exact nI_lt hi (by omega)
      refine ⟨-1, h, h, ?_, fk_43 hF, ?_, hRel⟩
      · simp only [fX10_swap, fk_0 hF, gk_s, fr_0_0 hF, bd_s, fk_1 hF, x_menuAt_t hR hp, if_pos h0, x_lineAt_t hR hp h0 (show i < 6 by omega) hlt, x_lineAt_f hR hv, b2_s, rn]
      · simp only [fX11_swap, fk_43 hF, gk_s, m_Line hR hp h0 hi h6 hs, m_noLine hR hv, b2_s, if_neg (show ¬ (1 : Int32) = 0 by decide), if_pos]
  · refine ⟨-1, h, h, ?_, fk_43 hF, ?_, hRel⟩
    · rcases ex_p (n := n) v1 with ⟨p, hp, rfl⟩ | hq
      · by_cases h0 : D 44 p = 0
        · rcases ex_l hR (nI p) v3 with ⟨p', j, s', hp', h0', hj, h6', hs', e1, rfl⟩ | hw
          · obtain rfl : p = p' := (nI_eq (by omega) (by omega)).mp e1
            simp only [fX10_swap, fk_0 hF, gk_s, fr_0_0 hF, bd_s, fk_1 hF, x_menuAt_t hR hp, if_pos h0, x_lineAt_f hR hv, x_lineAt_t hR hp h0 (show j < 6 by omega) (show nI j < D 53 p by rw [hs']; exact nI_lt hj (by omega)), b2_s, rn]
          · simp only [fX10_swap, fk_0 hF, gk_s, fr_0_0 hF, bd_s, fk_1 hF, x_menuAt_t hR hp, if_pos h0, x_lineAt_f hR hv, x_lineAt_f hR hw, b2_s, rn]
        · have hw : ∀ q i, q < n → D 44 q = 0 → i < 6 → nI i < D 53 q → nI p = nI q → v3 ≠ nI i := fun q i hq h0q _ _ e => by
            obtain rfl : p = q := (nI_eq (by omega) (by omega)).mp e
            exact absurd h0q h0
          simp only [fX10_swap, fk_0 hF, gk_s, fr_0_0 hF, bd_s, fk_1 hF, x_menuAt_t hR hp, if_neg h0, x_lineAt_f hR hv, x_lineAt_f hR hw, b2_s, rn]
      · have hw : ∀ q i, q < n → D 44 q = 0 → i < 6 → nI i < D 53 q → v1 = nI q → v3 ≠ nI i := fun q i hqn _ _ _ e => absurd e (hq q hqn)
        simp only [fX10_swap, fk_0 hF, gk_s, fr_0_0 hF, bd_s, fk_1 hF, x_menuAt_f hR hq, x_lineAt_f hR hv, x_lineAt_f hR hw, b2_s, rn]
    · simp only [fX11_swap, fk_43 hF, gk_s, m_noLine hR hv, b2_s, if_pos]
end
