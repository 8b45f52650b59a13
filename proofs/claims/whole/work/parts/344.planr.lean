/-! the class's plan: what is left; all sets -/
section
variable {z : Nat} {h : Hp} {wt wc : Nat → Nat} {gt b : Nat} {t t' : Nat → Nat → Nat} {s j N : Nat}
theorem TabR_cg (hs1 : 1 ≤ s) (h : ∀ a i, 1 ≤ a → a ≤ s → t a i = t' a i) (hR : TabR wt wc gt b t s) : TabR wt wc gt b t' s := by
  obtain ⟨a1, a2⟩ := hR
  have hc : ∀ q i, 1 ≤ q → q ≤ s → coN wt wc gt t s q i = coN wt wc gt t' s q i := fun q i h1 h2 => co_cg (N := s + 1) (by omega) (fun a i x y => h a i x (by omega)) h1 h2
  refine ⟨?_, fun j h1 h2 => ?_⟩
  · rw [← h s 0 hs1 (Nat.le_refl s)]
    exact a1.cg (fun _ => Iff.rfl) (fun q hq => hc q _ hq.1 (sub_le hq.2.1))
  · rw [← h s j hs1 (Nat.le_refl s)]
    exact (a2 j h1 h2).cg (fun _ => Iff.rfl) (fun q hq => hc q _ hq.1 (sub_le hq.2.1))
theorem co_bd2 (hb : 2 ≤ b) (hw : ∀ k, k < 8 → wt k ≤ 200) (hg : gt ≤ 200) (hc : ∀ k, k < 8 → wc k ≤ 1000) (hN : s ≤ 256) (h1 : Tab wt wc gt b t s) {q j : Nat} (hs2 : s < 256) (hq1 : 1 ≤ q) (hq : q ≤ s) (hqs : t s 0 ≤ 56000000) (hj : q = s ∨ (1 ≤ j ∧ j < b)) : coN wt wc gt t s q j ≤ 58000000 := by
  have h3 := tc_le hw hg hc hq1 (by omega : q < 256) s
  have hp := pc_le
  by_cases e : q = s
  · subst e
    unfold coN
    rw [if_pos rfl]
    by_cases o : oneB q = true
    · rw [if_pos o]; omega
    · rw [if_neg o]; omega
  · have := co_bd hb hw hg hc hN h1 (q := q) (j := j) (Nat.le_refl s) hs2 hq1 hq (fun x => absurd x e) hj
    omega
def VA (s q : Nat) : Prop := 1 ≤ q ∧ q &&& s = q
def rrN (t : Nat → Nat → Nat) (s q j : Nat) : Nat := if q = s then 0 else if j = 0 then 500000000 else t (s - q) j
def ccN (wt wc : Nat → Nat) (gt : Nat) (t : Nat → Nat → Nat) (s q j : Nat) : Nat := tkN wt gt q * calN wc s + (if oneB q = true then 0 else t q 0) + rrN t s q j
def Sq (s j : Nat) : Nat → Nat → Bool := fun c k => (c == 22 + j || c == 29 + j) && k == s
theorem Sq_Sp (h1 : 1 ≤ j) (h2 : j < 6) : ∀ c k, Sp s c k = false → Sq s j c k = false := by
  intro c k q
  cases r : Sq s j c k
  · rfl
  · simp only [Sq, Bool.and_eq_true, Bool.or_eq_true, beq_iff_eq] at r
    exfalso
    have : Sp s c k = true := by
      simp only [Sp, Bool.and_eq_true, Bool.or_eq_true, beq_iff_eq, decide_eq_true_eq]
      omega
    rw [this] at q
    exact absurd q (by decide)
theorem x_pr_l (hb2 : 2 ≤ b) (hb6 : b ≤ 6) (hw : ∀ k, k < 8 → wt k ≤ 200) (hg : gt ≤ 200) (hc : ∀ k, k < 8 → wc k ≤ 1000) (hs1 : 1 ≤ s) (hs2 : s < 256) (hTab : Tab wt wc gt b t s) (ht0 : t s 0 ≤ 56000000) (hj1 : 1 ≤ j) (hjb : j < b) : ∀ (k p f m fs : Nat) (h : Hp), p ≤ k → k < f → p &&& s = p → CH z h wt wc gt b → CT z h wc b t s → h.2.2.1 (z + 18) s = nI (calN wc s) → h.2.2.1 (z + 19) s = nI (t s 0) → (p < s → h.2.2.1 (z + (29 + j)) s = nI fs) → (p = s → m = 500000000) → DnI (VA s) (fun q => ccN wt wc gt t s q (j - 1)) p m fs →
    ∃ h' m' f', fx bX6_planRest_6 (fun _ _ _ _ _ _ => none) f (z + 15) (nI s) (nI j) (nI m) (nI p) h = some ((), h') ∧ Fr z (Sq s j) h h' ∧ h'.2.2.1 (z + (22 + j)) s = nI m' ∧ h'.2.2.1 (z + (29 + j)) s = nI f' ∧ DnI (VA s) (fun q => ccN wt wc gt t s q (j - 1)) 0 m' f' := by
  have vb : ∀ r, VA s r → ccN wt wc gt t s r (j - 1) ≤ 558000000 := fun r hr => by
    obtain ⟨v1, v2⟩ := hr
    have hle := sub_le v2
    by_cases e : r = s ∨ (1 ≤ j - 1 ∧ j - 1 < b)
    · have := co_bd2 hb2 hw hg hc (by omega) hTab hs2 v1 hle ht0 e
      have e2 : ccN wt wc gt t s r (j - 1) = coN wt wc gt t s r (j - 1) := by
        unfold ccN coN rrN
        by_cases x : r = s
        · rw [if_pos x, if_pos x]
        · rw [if_neg x, if_neg x, if_neg (show ¬ j - 1 = 0 by omega)]
      omega
    · have h3 := tc_le hw hg hc v1 (by omega : r < 256) s
      have hp := pc_le r
      unfold ccN rrN
      rw [if_neg (show ¬ r = s by omega), if_pos (show j - 1 = 0 by omega)]
      by_cases o : oneB r = true
      · rw [if_pos o]; omega
      · rw [if_neg o]
        have := (Tab_bd hb2 hw hg hc (by omega) hTab r v1 (by omega)).1
        omega
  have vs : ccN wt wc gt t s s (j - 1) ≤ 58000000 := by
    have := co_bd2 hb2 hw hg hc (by omega) hTab hs2 hs1 (Nat.le_refl s) ht0 (j := j - 1) (Or.inl rfl)
    have e2 : ccN wt wc gt t s s (j - 1) = coN wt wc gt t s s (j - 1) := by
      unfold ccN coN rrN
      rw [if_pos rfl, if_pos rfl]
    omega
  have hVs : VA s s := ⟨hs1, Nat.and_self s⟩
  intro k
  induction k with
  | zero =>
    intro p f m fs h hp hf hps hH hT h18 h19 h29 hm hD
    obtain ⟨f, rfl⟩ : ∃ k, f = k + 1 := ⟨f - 1, by omega⟩
    obtain rfl : p = 0 := by omega
    have hF := hH.1
    obtain ⟨k1, k2, k3, -⟩ := c21 hF (j := j) (by omega)
    refine ⟨hp_si h (z + (22 + j)) s (nI m), m, fs, ?_, Fr.si (by omega) (by simp [Sq]), by rw [si_3, u2_at, if_pos ⟨rfl, rfl⟩], by rw [si_3, u2_ne (by omega)]; exact h29 (by omega), hD⟩
    rw [fx_s]
    simp only [bX6_planRest_6, if_pos (show nI 0 ≤ 0 by decide), fk_15 hF, gk_s, fr_15_8 hF, bd_s, fk_21 hF, fl_21 hF, gd_e (ix_nI (p := j) (N := 6) (by omega) (by decide)), nI_clamp (n := j) (by omega), k1, k2, k3, gd_e (ix_nI (p := s) (N := 256) (by omega) (by decide)), nI_clamp (n := s) (by omega), nm_d]
  | succ k ih =>
    intro p f m fs h hp hf hps hH hT h18 h19 h29 hm hD
    obtain ⟨f, rfl⟩ : ∃ k, f = k + 1 := ⟨f - 1, by omega⟩
    have hF := hH.1
    obtain ⟨k1, k2, k3, k4, k5, k6⟩ := c21 hF (j := j) (by omega)
    by_cases p0 : p = 0
    · subst p0
      refine ⟨hp_si h (z + (22 + j)) s (nI m), m, fs, ?_, Fr.si (by omega) (by simp [Sq]), by rw [si_3, u2_at, if_pos ⟨rfl, rfl⟩], by rw [si_3, u2_ne (by omega)]; exact h29 (by omega), hD⟩
      rw [fx_s]
      simp only [bX6_planRest_6, if_pos (show nI 0 ≤ 0 by decide), fk_15 hF, gk_s, fr_15_8 hF, bd_s, fk_21 hF, fl_21 hF, gd_e (ix_nI (p := j) (N := 6) (by omega) (by decide)), nI_clamp (n := j) (by omega), k1, k2, k3, gd_e (ix_nI (p := s) (N := 256) (by omega) (by decide)), nI_clamp (n := s) (by omega), nm_d]
    have hle := sub_le hps
    have hV : VA s p := ⟨by omega, hps⟩
    have hcp := vb p hV
    have mle : m ≤ 500000000 := by
      by_cases e : p = s
      · have := hm e; omega
      · have : m ≤ ccN wt wc gt t s s (j - 1) := hD.1 s hVs (by omega)
        omega
    obtain ⟨l1, l2, l3, -⟩ := c21 hF (j := j - 1) (by omega)
    have hrest : h.2.2.1 (z + (22 + (j - 1))) (s - p) = nI (rrN t s p (j - 1)) := by
      unfold rrN
      by_cases e : p = s
      · rw [if_pos e, e, Nat.sub_self]
        by_cases e2 : j - 1 = 0
        · rw [e2]; exact hH.2.2.2.2.2.1
        · exact hH.2.2.2.2.2.2.2 (j - 1) (by omega) (by omega)
      · rw [if_neg e]
        by_cases e2 : j - 1 = 0
        · rw [if_pos e2, e2]; exact hH.2.2.2.2.2.2.1 (s - p) (by omega) (by omega)
        · rw [if_neg e2]; exact ((hT (s - p) (by omega)).2 (by omega)).2 (j - 1) (by omega) (by omega)
    have hcl := x_costOfLine (s := s) (q := p) (v := t p 0) hH (by omega) (by omega) hs2 h18 (fun _ => by
      by_cases e : p = s
      · rw [e]; exact h19
      · exact ((hT p (by omega)).2 (by omega)).1)
    have ej : nI j - 1 = nI (j - 1) := by
      obtain ⟨b', rfl⟩ : ∃ b', j = b' + 1 := ⟨j - 1, by omega⟩
      exact nI_pred b'
    have ecp : nI (tkN wt gt p * calN wc s + (if oneB p = true then 0 else t p 0)) + nI (rrN t s p (j - 1)) = nI (ccN wt wc gt t s p (j - 1)) := nI_add _ _
    have enx : (nI p - 1) &&& nI s = nI ((p - 1) &&& s) := by
      obtain ⟨p', rfl⟩ : ∃ p', p = p' + 1 := ⟨p - 1, by omega⟩
      rw [nI_pred, nI_and]; rfl
    have nx1 : (p - 1) &&& s ≤ p - 1 := Nat.and_le_left
    have nx2 : ((p - 1) &&& s) &&& s = (p - 1) &&& s := by rw [Nat.and_assoc, Nat.and_self]
    have hst := hD.st (lo := (p - 1) &&& s) hV (by omega) (fun r hr hl => Nat.le_of_not_lt fun x => absurd (sub_next s p r hps hr.2 x) (by omega)) (fun hno => by
      have : p = s := by
        have := hno s hVs
        omega
      rw [this]; omega)
    by_cases q : m < ccN wt wc gt t s p (j - 1)
    · rw [if_pos q] at hst
      have hps' : p < s := by
        rcases (show p = s ∨ p < s by omega) with e | e
        · rw [e] at q
          have := hm e
          omega
        · exact e
      obtain ⟨h', m', f', e1, f1, c1, c2, c3⟩ := ih ((p - 1) &&& s) f m fs h (by omega) (by omega) nx2 hH hT h18 h19 (fun _ => h29 hps') (fun e => by omega) hst
      refine ⟨h', m', f', ?_, f1, c1, c2, c3⟩
      rw [fx_s]
      simp only [bX6_planRest_6, if_neg (show ¬ nI p ≤ 0 from nI_nle (by omega) (by omega)), fk_15 hF, gk_s, hcl, b2_s, fr_15_8 hF, bd_s, fk_21 hF, fl_21 hF, ej, gd_e (ix_nI (p := j - 1) (N := 6) (by omega) (by decide)), nI_clamp (n := j - 1) (by omega), l1, l2, l3, and_sub s hs2 p (by omega) hps, gd_e (ix_nI (p := s - p) (N := 256) (by omega) (by decide)), nI_clamp (n := s - p) (by omega), hrest, ecp, nm_d, if_pos (nI_lt q (by omega)), enx]
      exact e1
    · rw [if_neg q] at hst
      obtain ⟨g2, eg2⟩ : ∃ g2, g2 = hp_si h (z + (29 + j)) s (nI p) := ⟨_, rfl⟩
      have fg : Fr z (Sq s j) h g2 := by rw [eg2]; exact Fr.si (by omega) (by simp [Sq])
      have fg' := fg.mono (Sq_Sp hj1 (by omega))
      obtain ⟨h', m', f', e1, f1, c1, c2, c3⟩ := ih ((p - 1) &&& s) f (ccN wt wc gt t s p (j - 1)) p g2 (by omega) (by omega) nx2 (hH.fr hs1 fg') (hT.fr hb6 fg') (by rw [eg2, si_3, u2_ne (by omega)]; exact h18) (by rw [eg2, si_3, u2_ne (by omega)]; exact h19) (fun _ => by rw [eg2, si_3, u2_at, if_pos ⟨rfl, rfl⟩]) (fun e => by omega) hst
      refine ⟨h', m', f', ?_, fg.tr f1, c1, c2, c3⟩
      rw [fx_s]
      simp only [bX6_planRest_6, if_neg (show ¬ nI p ≤ 0 from nI_nle (by omega) (by omega)), fk_15 hF, gk_s, hcl, b2_s, fr_15_8 hF, bd_s, fk_21 hF, fl_21 hF, ej, gd_e (ix_nI (p := j - 1) (N := 6) (by omega) (by decide)), nI_clamp (n := j - 1) (by omega), l1, l2, l3, and_sub s hs2 p (by omega) hps, gd_e (ix_nI (p := s - p) (N := 256) (by omega) (by decide)), nI_clamp (n := s - p) (by omega), hrest, ecp, nm_d, if_neg (nI_nlt (show ccN wt wc gt t s p (j - 1) ≤ m by omega) (by omega)), fr_15_9 hF, fk_28 hF, fl_28 hF, gd_e (ix_nI (p := j) (N := 6) (by omega) (by decide)), nI_clamp (n := j) (by omega), k4, k5, k6, gd_e (ix_nI (p := s) (N := 256) (by omega) (by decide)), nI_clamp (n := s) (by omega), ← eg2, enx]
      exact e1
theorem x_planRest (hb2 : 2 ≤ b) (hb6 : b ≤ 6) (hw : ∀ k, k < 8 → wt k ≤ 200) (hg : gt ≤ 200) (hc : ∀ k, k < 8 → wc k ≤ 1000) (hs1 : 1 ≤ s) (hs2 : s < 256) (hTab : Tab wt wc gt b t s) (ht0 : t s 0 ≤ 56000000) (hj1 : 1 ≤ j) (hjb : j < b) (hH : CH z h wt wc gt b) (hT : CT z h wc b t s) (h18 : h.2.2.1 (z + 18) s = nI (calN wc s)) (h19 : h.2.2.1 (z + 19) s = nI (t s 0)) :
    ∃ h' m f, fX6_planRest (z + 15) (nI s) (nI j) h = some ((), h') ∧ Fr z (Sq s j) h h' ∧ h'.2.2.1 (z + (22 + j)) s = nI m ∧ h'.2.2.1 (z + (29 + j)) s = nI f ∧ IsMin (VR s j) (fun q => coN wt wc gt t s q (j - 1)) m ∧ leastPart (fun q => VR s j q ∧ coN wt wc gt t s q (j - 1) = m) f := by
  have nfb := NF_big
  have hVs : VA s s := ⟨hs1, Nat.and_self s⟩
  obtain ⟨h', m, f, e1, f1, c1, c2, c3⟩ := x_pr_l hb2 hb6 hw hg hc hs1 hs2 hTab ht0 hj1 hjb s s NF 500000000 s h (Nat.le_refl s) (by omega) (Nat.and_self s) hH hT h18 h19 (fun x => absurd x (Nat.lt_irrefl s)) (fun _ => rfl) ⟨fun r hr hl => by have := sub_le hr.2; omega, Or.inl ⟨rfl, fun r hr hl => by have := sub_le hr.2; omega⟩⟩
  obtain ⟨d1, d2⟩ := c3.fin hVs (fun r hr => hr.1)
  refine ⟨h', m, f, e1, f1, c1, c2, ?_⟩
  have vs : ccN wt wc gt t s s (j - 1) ≤ 58000000 := by
    have := co_bd2 hb2 hw hg hc (by omega) hTab hs2 hs1 (Nat.le_refl s) ht0 (j := j - 1) (Or.inl rfl)
    have e2 : ccN wt wc gt t s s (j - 1) = coN wt wc gt t s s (j - 1) := by
      unfold ccN coN rrN
      rw [if_pos rfl, if_pos rfl]
    omega
  have cs : ∀ q, q = s ∨ j ≠ 1 → ccN wt wc gt t s q (j - 1) = coN wt wc gt t s q (j - 1) := fun q hq => by
    unfold ccN coN rrN
    by_cases x : q = s
    · rw [if_pos x, if_pos x]
    · rw [if_neg x, if_neg x, if_neg (show ¬ j - 1 = 0 by omega)]
  by_cases j1 : j = 1
  · have big : ∀ q, VA s q → q ≠ s → 500000000 ≤ ccN wt wc gt t s q (j - 1) := fun q _ hq => by
      unfold ccN rrN
      rw [if_neg hq, if_pos (show j - 1 = 0 by omega)]
      omega
    have ms : m ≤ 58000000 := by
      have := d1.2 s hVs
      dsimp only at this
      omega
    have fe : f = s := by
      obtain ⟨⟨y1, y2⟩, -⟩ := d2
      refine Classical.byContradiction fun x => ?_
      have := big f y1 x
      omega
    have me : coN wt wc gt t s s (j - 1) = m := by
      rw [← cs s (Or.inl rfl)]
      have := d2.1.2
      rw [fe] at this
      exact this
    have hVR : VR s j s := ⟨hs1, Nat.and_self s, fun _ => rfl⟩
    refine ⟨⟨⟨s, hVR, me⟩, fun q hq => ?_⟩, ?_⟩
    · dsimp only
      rw [hq.2.2 j1, me]
      exact Nat.le_refl _
    · rw [fe]
      refine ⟨⟨hVR, me⟩, fun q hq hx => ?_⟩
      have := hx.1.2.2 j1
      omega
  · have hV : ∀ q, VA s q ↔ VR s j q := fun q => ⟨fun x => ⟨x.1, x.2, fun y => absurd y j1⟩, fun x => ⟨x.1, x.2.1⟩⟩
    refine ⟨d1.cg hV (fun q _ => cs q (Or.inr j1)), ?_⟩
    obtain ⟨⟨y1, y2⟩, y3⟩ := d2
    refine ⟨⟨(hV f).mp y1, by rw [← cs f (Or.inr j1)]; exact y2⟩, fun q hq hx => y3 q hq ⟨(hV q).mpr hx.1, ?_⟩⟩
    rw [cs q (Or.inr j1)]
    exact hx.2
/-- the numbers of lines, one after another -/
theorem x_74 {rc : Nat → Int32 → Hp → Option (Int32 × Hp)} (hb2 : 2 ≤ b) (hb6 : b ≤ 6) (hw : ∀ k, k < 8 → wt k ≤ 200) (hg : gt ≤ 200) (hc : ∀ k, k < 8 → wc k ≤ 1000) (hs1 : 1 ≤ s) (hs2 : s < 256) (hTab : Tab wt wc gt b t s) (ht0 : t s 0 ≤ 56000000) : ∀ (d i f : Nat) (h : Hp), i + d = b → 1 ≤ i → d < f → CH z h wt wc gt b → CT z h wc b t s → h.2.2.1 (z + 18) s = nI (calN wc s) → h.2.2.1 (z + 19) s = nI (t s 0) →
    (∀ j, 1 ≤ j → j < i → ∃ m f, h.2.2.1 (z + (22 + j)) s = nI m ∧ h.2.2.1 (z + (29 + j)) s = nI f ∧ IsMin (VR s j) (fun q => coN wt wc gt t s q (j - 1)) m ∧ leastPart (fun q => VR s j q ∧ coN wt wc gt t s q (j - 1) = m) f) →
    ∃ h', fx (bX6_make_74 rc) (fun _ _ _ _ => none) f (z + 15) (nI s) (nI i) h = rc (z + 15) (nI (s + 1)) h' ∧ Fr z (Sp s) h h' ∧ (∀ k, h'.2.2.1 (z + 18) k = h.2.2.1 (z + 18) k ∧ h'.2.2.1 (z + 19) k = h.2.2.1 (z + 19) k ∧ h'.2.2.1 (z + 20) k = h.2.2.1 (z + 20) k) ∧
      (∀ j, 1 ≤ j → j < b → ∃ m f, h'.2.2.1 (z + (22 + j)) s = nI m ∧ h'.2.2.1 (z + (29 + j)) s = nI f ∧ IsMin (VR s j) (fun q => coN wt wc gt t s q (j - 1)) m ∧ leastPart (fun q => VR s j q ∧ coN wt wc gt t s q (j - 1) = m) f) := by
  intro d
  induction d with
  | zero =>
    intro i f h hi hi1 hf hH hT h18 h19 hacc
    obtain ⟨f, rfl⟩ : ∃ k, f = k + 1 := ⟨f - 1, by omega⟩
    obtain rfl : i = b := by omega
    have hF := hH.1
    refine ⟨h, ?_, Fr.rf, fun _ => ⟨rfl, rfl, rfl⟩, hacc⟩
    rw [fx_s]
    simp only [bX6_make_74, fk_15 hF, gk_s, hH.2.2.2.2.1, if_pos (Int32.le_refl (nI i)), nm_d, nI_1]
  | succ d ih =>
    intro i f h hi hi1 hf hH hT h18 h19 hacc
    obtain ⟨f, rfl⟩ : ∃ k, f = k + 1 := ⟨f - 1, by omega⟩
    have hF := hH.1
    obtain ⟨g, m, fs, e1, f1, c1, c2, c3, c4⟩ := x_planRest (j := i) hb2 hb6 hw hg hc hs1 hs2 hTab ht0 hi1 (by omega) hH hT h18 h19
    have f1' := f1.mono (Sq_Sp hi1 (by omega))
    have rd := f1.2.2.2.2.1
    have nq : ∀ c k, c < 82 → c ≠ 22 + i → c ≠ 29 + i → g.2.2.1 (z + c) k = h.2.2.1 (z + c) k := fun c k hc82 x y => rd c k hc82 (by
      cases r : Sq s i c k
      · rfl
      · simp only [Sq, Bool.and_eq_true, Bool.or_eq_true, beq_iff_eq] at r
        omega)
    obtain ⟨h', e2, f2, k2, k3⟩ := ih (i + 1) f g (by omega) (by omega) (by omega) (hH.fr hs1 f1') (hT.fr hb6 f1') (by rw [nq 18 s (by decide) (by omega) (by omega)]; exact h18) (by rw [nq 19 s (by decide) (by omega) (by omega)]; exact h19) (fun j h1 h2 => by
      by_cases e : j = i
      · rw [e]; exact ⟨m, fs, c1, c2, c3, c4⟩
      · obtain ⟨m', f', x1, x2, x3, x4⟩ := hacc j h1 (by omega)
        exact ⟨m', f', by rw [nq (22 + j) s (by omega) (by omega) (by omega)]; exact x1, by rw [nq (29 + j) s (by omega) (by omega) (by omega)]; exact x2, x3, x4⟩)
    refine ⟨h', ?_, f1'.tr f2, fun k => ?_, k3⟩
    · rw [fx_s]
      simp only [bX6_make_74, fk_15 hF, gk_s, hH.2.2.2.2.1, if_neg (nI_ge (show i < b by omega) (by omega)), e1, b2_s, nm_d, nI_1]
      exact e2
    · obtain ⟨y1, y2, y3⟩ := k2 k
      exact ⟨by rw [y1, nq 18 k (by decide) (by omega) (by omega)], by rw [y2, nq 19 k (by decide) (by omega) (by omega)], by rw [y3, nq 20 k (by decide) (by omega) (by omega)]⟩
end
