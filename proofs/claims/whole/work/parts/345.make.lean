/-! the class's plan: all sets -/
theorem leastPart_cg {P Q : Nat → Prop} {m : Nat} (h : ∀ q, P q ↔ Q q) (a : leastPart P m) : leastPart Q m := ⟨(h m).mp a.1, fun q hq hx => a.2 q hq ((h q).mpr hx)⟩
section
variable {z : Nat} {h : Hp} {wt wc : Nat → Nat} {gt b : Nat} {t t' : Nat → Nat → Nat} {s j N : Nat}
def SP : Nat → Nat → Bool := fun c k => ((18 ≤ c && c ≤ 20) || (23 ≤ c && c ≤ 27) || (30 ≤ c && c ≤ 34)) && 1 ≤ k
theorem Sp_SP (hs : 1 ≤ s) : ∀ c k, SP c k = false → Sp s c k = false := by
  intro c k q
  cases r : Sp s c k
  · rfl
  · simp only [Sp, Bool.and_eq_true, beq_iff_eq] at r
    exfalso
    have : SP c k = true := by
      simp only [SP, Bool.and_eq_true, decide_eq_true_eq]
      exact ⟨r.1, by omega⟩
    rw [this] at q
    exact absurd q (by decide)
theorem x_22 (hb2 : 2 ≤ b) (hb6 : b ≤ 6) (hw : ∀ k, k < 8 → wt k ≤ 200) (hg : gt ≤ 200) (hc : ∀ k, k < 8 → wc k ≤ 1000) {A : Nat} (hA1 : 1 ≤ A) (hA : A < 256) : ∀ (d s f : Nat) (h : Hp) (t : Nat → Nat → Nat), s + d = A + 1 → d < f → 1 ≤ s → CH z h wt wc gt b → h.2.2.1 (z + 15) 2 = nI A → Tab wt wc gt b t s → CT z h wc b t s → CF z h wt wc gt b t s →
    ∃ h' t', fx bX6_make_22 (fun _ _ _ => none) f (z + 15) (nI s) h = some (nI (t' A 0), h') ∧ Fr z SP h h' ∧ Tab wt wc gt b t' (A + 1) ∧ CT z h' wc b t' (A + 1) ∧ CF z h' wt wc gt b t' (A + 1) := by
  intro d
  induction d with
  | zero =>
    intro s f h t hs hf hs1 hH h2 hTab hT hC
    obtain ⟨f, rfl⟩ : ∃ k, f = k + 1 := ⟨f - 1, by omega⟩
    obtain rfl : s = A + 1 := by omega
    have hF := hH.1
    refine ⟨h, t, ?_, Fr.rf, hTab, hT, hC⟩
    rw [fx_s]
    simp only [bX6_make_22, fk_15 hF, gk_s, h2, if_pos (nI_lt (show A < A + 1 by omega) (by omega)), fr_15_6 hF, bd_s, fk_19 hF, fl_19 hF, gd_e (ix_nI (p := A) (N := 256) (by omega) (by decide)), nI_clamp (n := A) (by omega), ((hT A (by omega)).2 hA1).1]
  | succ d ih =>
    intro s f h t hs hf hs1 hH h2 hTab hT hC
    obtain ⟨f, rfl⟩ : ∃ k, f = k + 1 := ⟨f - 1, by omega⟩
    have nfb := NF_big
    have hF := hH.1
    have hs2 : s < 256 := by omega
    obtain ⟨z1, z2, z3, -⟩ := tz_facts s hs2 hs1
    have hpw : 1 ≤ 2 ^ tz s := Nat.one_le_two_pow
    have elow : nI s &&& (nI s - 1) = nI (s &&& (s - 1)) := by
      obtain ⟨p', rfl⟩ : ∃ p', s = p' + 1 := ⟨s - 1, by omega⟩
      rw [nI_pred, nI_and]; rfl
    obtain ⟨g1, eg1⟩ : ∃ g1, g1 = hp_si h (z + 18) s (nI (calN wc s)) := ⟨_, rfl⟩
    have fg1 : Fr z (Sp s) h g1 := by rw [eg1]; exact Fr.si (by decide) (by simp [Sp])
    have H1 := hH.fr hs1 fg1
    have T1 := hT.fr hb6 fg1
    obtain ⟨g2, m0, f0, e2, f2, c18, c19, c20, cm, cf⟩ := x_planMenu hb2 hb6 hw hg hc hs1 hs2 hTab H1 T1 (by rw [eg1, si_3, u2_at, if_pos ⟨rfl, rfl⟩])
    have H2 := H1.fr hs1 f2
    have T2 := T1.fr hb6 f2
    have F2 := H2.1
    have m0le : m0 ≤ 56000000 := by
      obtain ⟨⟨q, hq, e⟩, -⟩ := cm
      have e' : coN wt wc gt t s q (b - 1) = m0 := e
      have := co_bd hb2 hw hg hc (by omega) hTab (q := q) (j := b - 1) (Nat.le_refl s) hs2 hq.1 (sub_le hq.2.1) (fun x => Or.inl (hq.2.2 x)) (by
        by_cases x : q = s
        · exact Or.inl x
        · exact Or.inr ⟨by omega, by omega⟩)
      omega
    obtain ⟨t1, et1⟩ : ∃ t1 : Nat → Nat → Nat, t1 = fun a i => if a = s ∧ i = 0 then m0 else t a i := ⟨_, rfl⟩
    have t1a : ∀ a i, a < s → t1 a i = t a i := fun a i ha => by rw [et1]; exact if_neg (by omega)
    have t1s : t1 s 0 = m0 := by rw [et1]; exact if_pos ⟨rfl, rfl⟩
    have Tab1 : Tab wt wc gt b t1 s := fun a h1 h2 => TabR_cg h1 (fun x i _ hx => (t1a x i (by omega)).symm) (hTab a h1 h2)
    have CT1 : CT z g2 wc b t1 s := fun a ha => by
      obtain ⟨x1, x2⟩ := T2 a ha
      exact ⟨x1, fun h1 => ⟨by rw [t1a a 0 ha]; exact (x2 h1).1, fun j y1 y2 => by rw [t1a a j ha]; exact (x2 h1).2 j y1 y2⟩⟩
    obtain ⟨h3, e3, f3, k3, r3⟩ := x_74 (rc := fx bX6_make_22 (fun _ _ _ => none) f) hb2 hb6 hw hg hc hs1 hs2 Tab1 (by rw [t1s]; exact m0le) (b - 1) 1 NF g2 (by omega) (Nat.le_refl 1) (by omega) H2 CT1 c18 (by rw [t1s]; exact c19) (fun j h1 h2 => by omega)
    have H3 := H2.fr hs1 f3
    have T3 := T2.fr hb6 f3
    obtain ⟨t2, et2⟩ : ∃ t2 : Nat → Nat → Nat, t2 = fun a i => if a = s then (if i = 0 then m0 else toN (h3.2.2.1 (z + (22 + i)) s)) else t a i := ⟨_, rfl⟩
    have t2a : ∀ a i, a < s → t2 a i = t a i := fun a i ha => by rw [et2]; exact if_neg (by omega)
    have t2s : t2 s 0 = m0 := by rw [et2]; show (if s = s then _ else _) = _; rw [if_pos rfl, if_pos rfl]
    have t2j : ∀ i, 1 ≤ i → t2 s i = toN (h3.2.2.1 (z + (22 + i)) s) := fun i hi => by rw [et2]; show (if s = s then _ else _) = _; rw [if_pos rfl, if_neg (by omega)]
    -- costs by the new table
    have co0 : ∀ q, VM s q → coN wt wc gt t s q (b - 1) = coN wt wc gt t2 s q (b - 1) := fun q hq => by
      have hle := sub_le hq.2.1
      unfold coN
      have x1 : (if oneB q = true then 0 else t q 0) = (if oneB q = true then 0 else t2 q 0) := by
        by_cases o : oneB q = true
        · rw [if_pos o, if_pos o]
        · rw [if_neg o, if_neg o]
          have : q ≠ s := fun e => o (by rw [e]; exact hq.2.2 e)
          exact (t2a q 0 (by omega)).symm
      rw [x1]
      by_cases e : q = s
      · rw [if_pos e, if_pos e]
      · rw [if_neg e, if_neg e, t2a (s - q) (b - 1) (by have := hq.1; omega)]
    have coj : ∀ q i, 1 ≤ q → q &&& s = q → coN wt wc gt t1 s q i = coN wt wc gt t2 s q i := fun q i h1 hq => by
      have hle := sub_le hq
      unfold coN
      by_cases e : q = s
      · rw [if_pos e, if_pos e, e, t1s, t2s]
      · rw [if_neg e, if_neg e, t2a (s - q) i (by omega), t1a (s - q) i (by omega), t2a q 0 (by omega), t1a q 0 (by omega)]
    have coa : ∀ a q i, 1 ≤ a → a < s → 1 ≤ q → q &&& a = q → coN wt wc gt t a q i = coN wt wc gt t2 a q i := fun a q i h1 h2 h3 hq => co_cg (N := s) h2 (fun x i _ hx => (t2a x i hx).symm) h3 (sub_le hq)
    have Tab2 : Tab wt wc gt b t2 (s + 1) := fun a h1 h2 => by
      by_cases e : a = s
      · rw [e]
        refine ⟨by rw [t2s]; exact cm.cg (fun _ => Iff.rfl) co0, fun j y1 y2 => ?_⟩
        obtain ⟨m, fs, x1, x2, x3, x4⟩ := r3 j y1 y2
        have hm58 : m ≤ 58000000 := by
          obtain ⟨⟨q, hq, e⟩, -⟩ := x3
          have e' : coN wt wc gt t1 s q (j - 1) = m := e
          have := co_bd2 hb2 hw hg hc (by omega) Tab1 (q := q) (j := j - 1) hs2 hq.1 (sub_le hq.2.1) (by rw [t1s]; exact m0le) (by
            by_cases w : q = s
            · exact Or.inl w
            · refine Or.inr ⟨?_, by omega⟩
              by_cases w2 : j = 1
              · exact absurd (hq.2.2 w2) w
              · omega)
          omega
        rw [t2j j y1, x1, toN_nI (by omega)]
        exact x3.cg (fun _ => Iff.rfl) (fun q hq => coj q _ hq.1 hq.2.1)
      · exact TabR_cg h1 (fun x i _ hx => (t2a x i (by omega)).symm) (hTab a h1 (by omega))
    have CT2 : CT z h3 wc b t2 (s + 1) := fun a ha => by
      by_cases e : a = s
      · rw [e]
        refine ⟨by rw [(k3 s).1]; exact c18, fun _ => ⟨by rw [(k3 s).2.1, t2s]; exact c19, fun j y1 y2 => ?_⟩⟩
        obtain ⟨m, fs, x1, x2, x3, x4⟩ := r3 j y1 y2
        have hm58 : m ≤ 58000000 := by
          obtain ⟨⟨q, hq, e⟩, -⟩ := x3
          have e' : coN wt wc gt t1 s q (j - 1) = m := e
          have := co_bd2 hb2 hw hg hc (by omega) Tab1 (q := q) (j := j - 1) hs2 hq.1 (sub_le hq.2.1) (by rw [t1s]; exact m0le) (by
            by_cases w : q = s
            · exact Or.inl w
            · refine Or.inr ⟨?_, by omega⟩
              by_cases w2 : j = 1
              · exact absurd (hq.2.2 w2) w
              · omega)
          omega
        rw [t2j j y1, x1, toN_nI (by omega)]
      · obtain ⟨x1, x2⟩ := T3 a (by omega)
        exact ⟨x1, fun h1 => ⟨by rw [t2a a 0 (by omega)]; exact (x2 h1).1, fun j y1 y2 => by rw [t2a a j (by omega)]; exact (x2 h1).2 j y1 y2⟩⟩
    have frs := (fg1.tr f2).tr f3
    have CF2 : CF z h3 wt wc gt b t2 (s + 1) := fun a h1 h2 => by
      by_cases e : a = s
      · rw [e]
        refine ⟨⟨f0, by rw [(k3 s).2.2]; exact c20, leastPart_cg (fun q => ?_) cf⟩, fun j y1 y2 => ?_⟩
        · rw [t2s]
          exact ⟨fun x => ⟨x.1, by rw [← co0 q x.1]; exact x.2⟩, fun x => ⟨x.1, by rw [co0 q x.1]; exact x.2⟩⟩
        · obtain ⟨m, fs, x1, x2, x3, x4⟩ := r3 j y1 y2
          have hm58 : t2 s j = m := by
            have hx := ((CT2 s (by omega)).2 hs1).2 j y1 y2
            rw [x1] at hx
            have b1 : m < 2 ^ 31 := by
              obtain ⟨⟨q, hq, e⟩, -⟩ := x3
              have e' : coN wt wc gt t1 s q (j - 1) = m := e
              have := co_bd2 hb2 hw hg hc (by omega) Tab1 (q := q) (j := j - 1) hs2 hq.1 (sub_le hq.2.1) (by rw [t1s]; exact m0le) (by
                by_cases w : q = s
                · exact Or.inl w
                · refine Or.inr ⟨?_, by omega⟩
                  by_cases w2 : j = 1
                  · exact absurd (hq.2.2 w2) w
                  · omega)
              omega
            rw [t2j j y1, x1, toN_nI b1]
          refine ⟨fs, x2, leastPart_cg (fun q => ?_) x4⟩
          rw [hm58]
          exact ⟨fun x => ⟨x.1, by rw [← coj q _ x.1.1 x.1.2.1]; exact x.2⟩, fun x => ⟨x.1, by rw [coj q _ x.1.1 x.1.2.1]; exact x.2⟩⟩
      · obtain ⟨⟨fa, x1, x2⟩, x3⟩ := hC a h1 (by omega)
        have rd := frs.2.2.2.2.1
        refine ⟨⟨fa, by rw [rd 20 a (by decide) (Sp_no e)]; exact x1, leastPart_cg (fun q => ?_) x2⟩, fun j y1 y2 => ?_⟩
        · rw [t2a a 0 (by omega)]
          exact ⟨fun x => ⟨x.1, by rw [← coa a q _ h1 (by omega) x.1.1 x.1.2.1]; exact x.2⟩, fun x => ⟨x.1, by rw [coa a q _ h1 (by omega) x.1.1 x.1.2.1]; exact x.2⟩⟩
        · obtain ⟨fj, w1, w2⟩ := x3 j y1 y2
          refine ⟨fj, by rw [rd (29 + j) a (by omega) (Sp_no e)]; exact w1, leastPart_cg (fun q => ?_) w2⟩
          rw [t2a a j (by omega)]
          exact ⟨fun x => ⟨x.1, by rw [← coa a q _ h1 (by omega) x.1.1 x.1.2.1]; exact x.2⟩, fun x => ⟨x.1, by rw [coa a q _ h1 (by omega) x.1.1 x.1.2.1]; exact x.2⟩⟩
    have h23 : h3.2.2.1 (z + 15) 2 = nI A := by rw [frs.2.2.2.2.1 15 2 (by decide) (Sp_c (by omega))]; exact h2
    obtain ⟨h', t', e4, f4, w1, w2, w3⟩ := ih (s + 1) f h3 t2 (by omega) (by omega) (by omega) H3 h23 Tab2 CT2 CF2
    refine ⟨h', t', ?_, (frs.mono (Sp_SP hs1)).tr f4, w1, w2, w3⟩
    have hlow : h.2.2.1 (z + 18) (s &&& (s - 1)) = nI (calN wc (s &&& (s - 1))) := (hT _ (by omega)).1
    rw [fx_s]
    simp only [bX6_make_22, fk_15 hF, gk_s, h2, if_neg (nI_nlt (show s ≤ A by omega) (by omega)), x_ntz hs1 hs2, b2_s, fr_15_5 hF, bd_s, fk_18 hF, fl_18 hF, elow, gd_e (ix_nI (p := s &&& (s - 1)) (N := 256) (by omega) (by decide)), nI_clamp (n := s &&& (s - 1)) (by omega), fr_15_1 hF, fk_17 hF, fl_17 hF, gd_e (ix_nI (p := tz s) (N := 8) z1 (by decide)), nI_clamp (n := tz s) (by omega), gd_e (ix_nI (p := s) (N := 256) (by omega) (by decide)), nI_clamp (n := s) (by omega), hlow, hH.2.2.1 (tz s) z1, nI_add, cal_low hs1 hs2, nm_d, ← eg1, e2, fX6_make_74]
    exact e3.trans e4
end
