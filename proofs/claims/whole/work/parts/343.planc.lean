/-! the class's plan -/
theorem nI_mul (a b : Nat) : nI a * nI b = nI (a * b) := (Int32.ofNat_mul a b).symm
section
variable {z : Nat} {h : Hp} {wt wc : Nat → Nat} {gt b : Nat} {t : Nat → Nat → Nat} {s : Nat}
theorem c21 (hF : fxd z h) {j : Nat} (hj : j < 6) : h.2.2.2.1 (z + 21) j = some (z + (22 + j)) ∧ h.1 (z + (22 + j)) = 13 ∧ h.2.1 (z + (22 + j)) = 256 ∧ h.2.2.2.1 (z + 28) j = some (z + (29 + j)) ∧ h.1 (z + (29 + j)) = 13 ∧ h.2.1 (z + (29 + j)) = 256 := by
  rcases (show j = 0 ∨ j = 1 ∨ j = 2 ∨ j = 3 ∨ j = 4 ∨ j = 5 by omega) with rfl | rfl | rfl | rfl | rfl | rfl
  · exact ⟨fr_21_0 hF, fk_22 hF, fl_22 hF, fr_28_0 hF, fk_29 hF, fl_29 hF⟩
  · exact ⟨fr_21_1 hF, fk_23 hF, fl_23 hF, fr_28_1 hF, fk_30 hF, fl_30 hF⟩
  · exact ⟨fr_21_2 hF, fk_24 hF, fl_24 hF, fr_28_2 hF, fk_31 hF, fl_31 hF⟩
  · exact ⟨fr_21_3 hF, fk_25 hF, fl_25 hF, fr_28_3 hF, fk_32 hF, fl_32 hF⟩
  · exact ⟨fr_21_4 hF, fk_26 hF, fl_26 hF, fr_28_4 hF, fk_33 hF, fl_33 hF⟩
  · exact ⟨fr_21_5 hF, fk_27 hF, fl_27 hF, fr_28_5 hF, fk_34 hF, fl_34 hF⟩
/-- what the planner rests on -/
def CH (z : Nat) (h : Hp) (wt wc : Nat → Nat) (gt b : Nat) : Prop := fxd z h ∧ (∀ k, k < 8 → h.2.2.1 (z + 16) k = nI (wt k)) ∧ (∀ k, k < 8 → h.2.2.1 (z + 17) k = nI (wc k)) ∧ h.2.2.1 (z + 15) 4 = nI gt ∧ h.2.2.1 (z + 15) 3 = nI b ∧ h.2.2.1 (z + 22) 0 = 0 ∧ (∀ s, 1 ≤ s → s < 256 → h.2.2.1 (z + 22) s = 500000000) ∧ (∀ j, 1 ≤ j → j < 6 → h.2.2.1 (z + (22 + j)) 0 = 0)
def CT (z : Nat) (h : Hp) (wc : Nat → Nat) (b : Nat) (t : Nat → Nat → Nat) (N : Nat) : Prop := ∀ s, s < N → h.2.2.1 (z + 18) s = nI (calN wc s) ∧ (1 ≤ s → h.2.2.1 (z + 19) s = nI (t s 0) ∧ ∀ j, 1 ≤ j → j < b → h.2.2.1 (z + (22 + j)) s = nI (t s j))
def CF (z : Nat) (h : Hp) (wt wc : Nat → Nat) (gt b : Nat) (t : Nat → Nat → Nat) (N : Nat) : Prop := ∀ s, 1 ≤ s → s < N → (∃ f, h.2.2.1 (z + 20) s = nI f ∧ leastPart (fun q => VM s q ∧ coN wt wc gt t s q (b - 1) = t s 0) f) ∧ ∀ j, 1 ≤ j → j < b → ∃ f, h.2.2.1 (z + (29 + j)) s = nI f ∧ leastPart (fun q => VR s j q ∧ coN wt wc gt t s q (j - 1) = t s j) f
/-- what planning one set may change: not what it rests on, not the tables of other sets -/
def Sp (s : Nat) : Nat → Nat → Bool := fun c k => ((18 ≤ c && c ≤ 20) || (23 ≤ c && c ≤ 27) || (30 ≤ c && c ≤ 34)) && k == s
theorem Sp_no {c k : Nat} (h : k ≠ s) : Sp s c k = false := by unfold Sp; simp [h]
theorem Sp_c {c k : Nat} (h : c < 18 ∨ c = 21 ∨ c = 22 ∨ c = 28 ∨ c = 29 ∨ 34 < c) : Sp s c k = false := by
  unfold Sp
  have : ((decide (18 ≤ c) && decide (c ≤ 20)) || (decide (23 ≤ c) && decide (c ≤ 27)) || (decide (30 ≤ c) && decide (c ≤ 34))) = false := by
    simp only [Bool.or_eq_false_iff, Bool.and_eq_false_iff, decide_eq_false_iff_not]
    omega
  rw [this]; rfl
theorem CH.fr {h' : Hp} (hs : 1 ≤ s) (hH : CH z h wt wc gt b) (hf : Fr z (Sp s) h h') : CH z h' wt wc gt b := by
  obtain ⟨a1, a2, a3, a4, a5, a6, a7, a8⟩ := hH
  have rd := hf.2.2.2.2.1
  refine ⟨?_, fun k hk => by rw [rd 16 k (by decide) (Sp_c (by omega))]; exact a2 k hk, fun k hk => by rw [rd 17 k (by decide) (Sp_c (by omega))]; exact a3 k hk, by rw [rd 15 4 (by decide) (Sp_c (by omega))]; exact a4, by rw [rd 15 3 (by decide) (Sp_c (by omega))]; exact a5, by rw [rd 22 0 (by decide) (Sp_c (by omega))]; exact a6, fun x h1 h2 => by rw [rd 22 x (by decide) (Sp_c (by omega))]; exact a7 x h1 h2, fun j h1 h2 => by rw [rd (22 + j) 0 (by omega) (Sp_no (by omega))]; exact a8 j h1 h2⟩
  obtain ⟨f1, f2, f3, f4⟩ := a1
  exact ⟨fun c hc => by rw [hf.1]; exact f1 c hc, fun c hc => by rw [hf.2.1]; exact f2 c hc, fun c k o ho => by rw [hf.2.2.1]; exact f3 c k o ho, by rw [hf.2.2.2.1]; exact f4⟩
theorem CT.fr {h' : Hp} (hb : b ≤ 6) (hT : CT z h wc b t s) (hf : Fr z (Sp s) h h') : CT z h' wc b t s := fun x hx => by
  obtain ⟨a1, a2⟩ := hT x hx
  have rd := hf.2.2.2.2.1
  exact ⟨by rw [rd 18 x (by decide) (Sp_no (by omega))]; exact a1, fun h1 => ⟨by rw [rd 19 x (by decide) (Sp_no (by omega))]; exact (a2 h1).1, fun j h2 h3 => by rw [rd (22 + j) x (by omega) (Sp_no (by omega))]; exact (a2 h1).2 j h2 h3⟩⟩
theorem x_isOne {q : Nat} (h1 : 1 ≤ q) (h2 : q < 256) : fX6_isOne (nI q) h = some (if oneB q = true then 1 else 0, h) := by
  simp only [fX6_isOne, oneB_I h1 h2]
  by_cases o : oneB q = true
  · rw [if_pos o, if_pos o]
  · rw [if_neg o, if_neg o]
theorem x_costOfLine (hH : CH z h wt wc gt b) {q : Nat} (h1 : 1 ≤ q) (h2 : q < 256) (hs : s < 256) (h18 : h.2.2.1 (z + 18) s = nI (calN wc s)) {v : Nat} (h19 : ¬ oneB q = true → h.2.2.1 (z + 19) q = nI v) : fX6_costOfLine (z + 15) (nI q) (nI s) h = some (nI (tkN wt gt q * calN wc s + (if oneB q = true then 0 else v)), h) := by
  obtain ⟨hF, a2, a3, a4, a5, a6, a7, a8⟩ := hH
  have q0 : ix (nI s) 256 = true := ix_nI (by omega) (by decide)
  have q1 : (nI s).toNatClampNeg = s := nI_clamp (by omega)
  have p0 : ix (nI q) 256 = true := ix_nI (by omega) (by decide)
  have p1 : (nI q).toNatClampNeg = q := nI_clamp (by omega)
  by_cases o : oneB q = true
  · obtain ⟨z1, -⟩ := tz_facts q h2 h1
    have ht : tkN wt gt q = wt (tz q) := by unfold tkN; rw [if_pos o]
    simp only [fX6_costOfLine, x_isOne h1 h2, b2_s, if_pos o, if_neg (show ¬ (1 : Int32) = 0 by decide), fk_15 hF, gk_s, fr_15_0 hF, bd_s, x_ntz h1 h2, fk_16 hF, fl_16 hF, gd_e (ix_nI (p := tz q) (N := 8) z1 (by decide)), nI_clamp (n := tz q) (by omega), a2 _ z1, fr_15_5 hF, fk_18 hF, fl_18 hF, gd_e q0, q1, h18, nI_mul, ht, Nat.add_zero]
  · have ht : tkN wt gt q = gt := by unfold tkN; rw [if_neg o]
    simp only [fX6_costOfLine, x_isOne h1 h2, b2_s, if_neg o, if_true, fk_15 hF, gk_s, fr_15_5 hF, bd_s, fk_18 hF, fl_18 hF, gd_e q0, q1, fr_15_6 hF, fk_19 hF, fl_19 hF, gd_e p0, p1, h18, h19 o, a4, nI_mul, nI_add, ht]
/-- the menu's loop -/
theorem x_pm_l (hb2 : 2 ≤ b) (hb6 : b ≤ 6) (hw : ∀ k, k < 8 → wt k ≤ 200) (hg : gt ≤ 200) (hc : ∀ k, k < 8 → wc k ≤ 1000) (hs1 : 1 ≤ s) (hs2 : s < 256) (hTab : Tab wt wc gt b t s) (ho : ¬ oneB s = true) : ∀ (k p f m fs : Nat) (h : Hp), p ≤ k → k < f → p &&& s = p → p ≠ s → CH z h wt wc gt b → CT z h wc b t s → h.2.2.1 (z + 18) s = nI (calN wc s) → h.2.2.1 (z + 19) s = nI m → h.2.2.1 (z + 20) s = nI fs → DnI (VM s) (fun q => coN wt wc gt t s q (b - 1)) p m fs →
    ∃ h' m' f', fx bX6_planMenu_37 (fun _ _ _ _ => none) f (z + 15) (nI s) (nI p) h = some ((), h') ∧ Fr z (Sp s) h h' ∧ h'.2.2.1 (z + 18) s = nI (calN wc s) ∧ h'.2.2.1 (z + 19) s = nI m' ∧ h'.2.2.1 (z + 20) s = nI f' ∧ DnI (VM s) (fun q => coN wt wc gt t s q (b - 1)) 0 m' f' := by
  have vb : ∀ r, VM s r → coN wt wc gt t s r (b - 1) ≤ 56000000 := fun r hr => by
    obtain ⟨v1, v2, v3⟩ := hr
    exact co_bd hb2 hw hg hc (by omega) hTab (Nat.le_refl s) hs2 v1 (sub_le v2) (fun e => Or.inl (v3 e)) (by
      by_cases e : r = s
      · exact Or.inl e
      · exact Or.inr ⟨by omega, by omega⟩)
  intro k
  induction k with
  | zero =>
    intro p f m fs h hp hf hps hne hH hT h18 h19 h20 hD
    obtain ⟨f, rfl⟩ : ∃ k, f = k + 1 := ⟨f - 1, by omega⟩
    obtain rfl : p = 0 := by omega
    refine ⟨h, m, fs, ?_, Fr.rf, h18, h19, h20, hD⟩
    rw [fx_s]
    simp only [bX6_planMenu_37, if_pos (show nI 0 ≤ 0 by decide)]
  | succ k ih =>
    intro p f m fs h hp hf hps hne hH hT h18 h19 h20 hD
    obtain ⟨f, rfl⟩ : ∃ k, f = k + 1 := ⟨f - 1, by omega⟩
    by_cases p0 : p = 0
    · subst p0
      refine ⟨h, m, fs, ?_, Fr.rf, h18, h19, h20, hD⟩
      rw [fx_s]
      simp only [bX6_planMenu_37, if_pos (show nI 0 ≤ 0 by decide)]
    have hF := hH.1
    have hle := sub_le hps
    have hV : VM s p := ⟨by omega, hps, fun e => absurd e hne⟩
    have hcp := vb p hV
    have mle : m ≤ 500000000 := by
      rcases hD.2 with ⟨a, -⟩ | ⟨a, -, c', -⟩
      · omega
      · have := vb fs a
        dsimp only at c'
        omega
    have hrest : h.2.2.1 (z + (22 + (b - 1))) (s - p) = nI (t (s - p) (b - 1)) := ((hT (s - p) (by omega)).2 (by omega)).2 (b - 1) (by omega) (by omega)
    have hcl := x_costOfLine (s := s) (q := p) (v := t p 0) hH (by omega) (by omega) hs2 h18 (fun _ => ((hT p (by omega)).2 (by omega)).1)
    obtain ⟨k1, k2, k3, -⟩ := c21 hF (j := b - 1) (by omega)
    have eb : nI b - 1 = nI (b - 1) := by
      obtain ⟨b', rfl⟩ : ∃ b', b = b' + 1 := ⟨b - 1, by omega⟩
      exact nI_pred b'
    have ecp : nI (tkN wt gt p * calN wc s + (if oneB p = true then 0 else t p 0)) + nI (t (s - p) (b - 1)) = nI (coN wt wc gt t s p (b - 1)) := by
      rw [nI_add]; unfold coN; rw [if_neg hne]
    have enx : (nI p - 1) &&& nI s = nI ((p - 1) &&& s) := by
      obtain ⟨p', rfl⟩ : ∃ p', p = p' + 1 := ⟨p - 1, by omega⟩
      rw [nI_pred, nI_and]; rfl
    have nx1 : (p - 1) &&& s ≤ p - 1 := Nat.and_le_left
    have nx2 : ((p - 1) &&& s) &&& s = (p - 1) &&& s := by rw [Nat.and_assoc, Nat.and_self]
    have hst := hD.st (lo := (p - 1) &&& s) hV (by omega) (fun r hr hl => Nat.le_of_not_lt fun x => absurd (sub_next s p r hps hr.2.1 x) (by omega)) (fun _ => by omega)
    by_cases q : m < coN wt wc gt t s p (b - 1)
    · rw [if_pos q] at hst
      obtain ⟨h', m', f', e1, f1, c0, c1, c2, c3⟩ := ih ((p - 1) &&& s) f m fs h (by omega) (by omega) nx2 (by omega) hH hT h18 h19 h20 hst
      refine ⟨h', m', f', ?_, f1, c0, c1, c2, c3⟩
      rw [fx_s]
      simp only [bX6_planMenu_37, if_neg (show ¬ nI p ≤ 0 from nI_nle (by omega) (by omega)), fk_15 hF, gk_s, hcl, b2_s, fr_15_8 hF, bd_s, fk_21 hF, fl_21 hF, hH.2.2.2.2.1, eb, gd_e (ix_nI (p := b - 1) (N := 6) (by omega) (by decide)), nI_clamp (n := b - 1) (by omega), k1, k2, k3, and_sub s hs2 p (by omega) hps, gd_e (ix_nI (p := s - p) (N := 256) (by omega) (by decide)), nI_clamp (n := s - p) (by omega), hrest, ecp, nm_d, fr_15_6 hF, fk_19 hF, fl_19 hF, gd_e (ix_nI (p := s) (N := 256) (by omega) (by decide)), nI_clamp (n := s) (by omega), h19, if_pos (nI_lt q (by omega)), enx]
      exact e1
    · rw [if_neg q] at hst
      obtain ⟨g1, eg1⟩ : ∃ g1, g1 = hp_si h (z + 19) s (nI (coN wt wc gt t s p (b - 1))) := ⟨_, rfl⟩
      obtain ⟨g2, eg2⟩ : ∃ g2, g2 = hp_si g1 (z + 20) s (nI p) := ⟨_, rfl⟩
      have fg : Fr z (Sp s) h g2 := by rw [eg2, eg1]; exact (Fr.si (by decide) (by simp [Sp])).tr (Fr.si (by decide) (by simp [Sp]))
      have F1 : fxd z g1 := by rw [eg1]; exact hF
      obtain ⟨h', m', f', e1, f1, c0, c1, c2, c3⟩ := ih ((p - 1) &&& s) f (coN wt wc gt t s p (b - 1)) p g2 (by omega) (by omega) nx2 (by omega) (hH.fr hs1 fg) (hT.fr hb6 fg) (by rw [eg2, si_3, u2_ne (by omega), eg1, si_3, u2_ne (by omega)]; exact h18) (by rw [eg2, si_3, u2_ne (by omega), eg1, si_3, u2_at, if_pos ⟨rfl, rfl⟩]) (by rw [eg2, si_3, u2_at, if_pos ⟨rfl, rfl⟩]) hst
      refine ⟨h', m', f', ?_, fg.tr f1, c0, c1, c2, c3⟩
      rw [fx_s]
      simp only [bX6_planMenu_37, if_neg (show ¬ nI p ≤ 0 from nI_nle (by omega) (by omega)), fk_15 hF, gk_s, hcl, b2_s, fr_15_8 hF, bd_s, fk_21 hF, fl_21 hF, hH.2.2.2.2.1, eb, gd_e (ix_nI (p := b - 1) (N := 6) (by omega) (by decide)), nI_clamp (n := b - 1) (by omega), k1, k2, k3, and_sub s hs2 p (by omega) hps, gd_e (ix_nI (p := s - p) (N := 256) (by omega) (by decide)), nI_clamp (n := s - p) (by omega), hrest, ecp, nm_d, fr_15_6 hF, fk_19 hF, fl_19 hF, gd_e (ix_nI (p := s) (N := 256) (by omega) (by decide)), nI_clamp (n := s) (by omega), h19, if_neg (nI_nlt (show coN wt wc gt t s p (b - 1) ≤ m by omega) (by omega)), ← eg1, fr_15_7 F1, fk_20 F1, fl_20 F1, ← eg2, enx]
      exact e1
theorem one_sub {q : Nat} (ho : oneB s = true) (h1 : 1 ≤ q) (hq : q &&& s = q) : q = s := by
  have hle := sub_le hq
  rcases (show q = s ∨ q < s by omega) with r | r
  · exact r
  · have := sub_next s s q (Nat.and_self s) hq r
    unfold oneB at ho
    rw [beq_iff_eq] at ho
    rw [Nat.and_comm] at this
    omega
/-- planning a set's menu -/
theorem x_planMenu (hb2 : 2 ≤ b) (hb6 : b ≤ 6) (hw : ∀ k, k < 8 → wt k ≤ 200) (hg : gt ≤ 200) (hc : ∀ k, k < 8 → wc k ≤ 1000) (hs1 : 1 ≤ s) (hs2 : s < 256) (hTab : Tab wt wc gt b t s) (hH : CH z h wt wc gt b) (hT : CT z h wc b t s) (h18 : h.2.2.1 (z + 18) s = nI (calN wc s)) :
    ∃ h' m f, fX6_planMenu (z + 15) (nI s) h = some ((), h') ∧ Fr z (Sp s) h h' ∧ h'.2.2.1 (z + 18) s = nI (calN wc s) ∧ h'.2.2.1 (z + 19) s = nI m ∧ h'.2.2.1 (z + 20) s = nI f ∧ IsMin (VM s) (fun q => coN wt wc gt t s q (b - 1)) m ∧ leastPart (fun q => VM s q ∧ coN wt wc gt t s q (b - 1) = m) f := by
  have hF := hH.1
  have nfb := NF_big
  have q0 : ix (nI s) 256 = true := ix_nI (by omega) (by decide)
  have q1 : (nI s).toNatClampNeg = s := nI_clamp (by omega)
  obtain ⟨g1, eg1⟩ : ∃ g1, g1 = hp_si h (z + 20) s (nI s) := ⟨_, rfl⟩
  have fg1 : Fr z (Sp s) h g1 := by rw [eg1]; exact Fr.si (by decide) (by simp [Sp])
  have H1 := hH.fr hs1 fg1
  have T1 := hT.fr hb6 fg1
  have F1 := H1.1
  have h181 : g1.2.2.1 (z + 18) s = nI (calN wc s) := by rw [eg1, si_3, u2_ne (by omega)]; exact h18
  have enx : (nI s - 1) &&& nI s = nI ((s - 1) &&& s) := by
    obtain ⟨p', rfl⟩ : ∃ p', s = p' + 1 := ⟨s - 1, by omega⟩
    rw [nI_pred, nI_and]; rfl
  have nx1 : (s - 1) &&& s ≤ s - 1 := Nat.and_le_left
  have nx2 : ((s - 1) &&& s) &&& s = (s - 1) &&& s := by rw [Nat.and_assoc, Nat.and_self]
  by_cases o : oneB s = true
  · have hcl := x_costOfLine (s := s) (q := s) (v := 0) H1 hs1 hs2 hs2 h181 (fun x => absurd o x)
    rw [if_pos o, show tkN wt gt s * calN wc s + 0 = tkN wt gt s * calN wc s from rfl] at hcl
    have e0 : (s - 1) &&& s = 0 := by rw [Nat.and_comm]; unfold oneB at o; exact beq_iff_eq.mp o
    have ec : coN wt wc gt t s s (b - 1) = tkN wt gt s * calN wc s := by unfold coN; rw [if_pos o, if_pos rfl]; omega
    obtain ⟨F, eF⟩ : ∃ F, NF = F + 1 := ⟨NF - 1, by omega⟩
    refine ⟨hp_si g1 (z + 19) s (nI (tkN wt gt s * calN wc s)), _, s, ?_, fg1.tr (Fr.si (by decide) (by simp [Sp])), by rw [si_3, u2_ne (by omega)]; exact h181, by rw [si_3, u2_at, if_pos ⟨rfl, rfl⟩], by rw [si_3, u2_ne (by omega), eg1, si_3, u2_at, if_pos ⟨rfl, rfl⟩], ⟨⟨s, ⟨hs1, Nat.and_self s, fun _ => o⟩, ec⟩, fun q hq => ?_⟩, ⟨⟨hs1, Nat.and_self s, fun _ => o⟩, ec⟩, fun q hq hx => ?_⟩
    · simp only [fX6_planMenu, fk_15 hF, gk_s, fr_15_7 hF, bd_s, fk_20 hF, fl_20 hF, gd_e q0, q1, nm_d, ← eg1, fr_15_6 F1, x_isOne hs1 hs2, b2_s, if_pos o, if_neg (show ¬ (1 : Int32) = 0 by decide), fk_15 F1, hcl, fk_19 F1, fl_19 F1, enx, e0, fX6_planMenu_37, eF]
      rw [fx_s]
      simp only [bX6_planMenu_37, if_pos (show nI 0 ≤ 0 by decide)]
    · have := one_sub o hq.1 hq.2.1
      dsimp only
      rw [this, ec]
      exact Nat.le_refl _
    · have := one_sub o hx.1.1 hx.1.2.1
      omega
  · have p0ne : (s - 1) &&& s ≠ 0 := fun e => o (by unfold oneB; rw [beq_iff_eq, Nat.and_comm]; exact e)
    obtain ⟨g2, eg2⟩ : ∃ g2, g2 = hp_si g1 (z + 19) s (nI 500000000) := ⟨_, rfl⟩
    have fg2 : Fr z (Sp s) g1 g2 := by rw [eg2]; exact Fr.si (by decide) (by simp [Sp])
    obtain ⟨h', m, f, e1, f1, c0, c1, c2, c3⟩ := x_pm_l hb2 hb6 hw hg hc hs1 hs2 hTab o ((s - 1) &&& s) ((s - 1) &&& s) NF 500000000 s g2 (Nat.le_refl _) (by omega) nx2 (by omega) (H1.fr hs1 fg2) (T1.fr hb6 fg2) (by rw [eg2, si_3, u2_ne (by omega)]; exact h181) (by rw [eg2, si_3, u2_at, if_pos ⟨rfl, rfl⟩]) (by rw [eg2, si_3, u2_ne (by omega), eg1, si_3, u2_at, if_pos ⟨rfl, rfl⟩]) ⟨fun r hr hl => by
      exfalso
      have hle := sub_le hr.2.1
      have : r ≠ s := fun e => o (hr.2.2 e)
      have := sub_next s s r (Nat.and_self s) hr.2.1 (by omega)
      omega, Or.inl ⟨rfl, fun r hr hl => by
      have hle := sub_le hr.2.1
      have : r ≠ s := fun e => o (hr.2.2 e)
      have := sub_next s s r (Nat.and_self s) hr.2.1 (by omega)
      omega⟩⟩
    obtain ⟨d1, d2⟩ := c3.fin (q := (s - 1) &&& s) ⟨by omega, nx2, fun e => by omega⟩ (fun r hr => hr.1)
    refine ⟨h', m, f, ?_, (fg1.tr fg2).tr f1, c0, c1, c2, d1, d2⟩
    have e5 : (500000000 : Int32) = nI 500000000 := rfl
    simp only [fX6_planMenu, fk_15 hF, gk_s, fr_15_7 hF, bd_s, fk_20 hF, fl_20 hF, gd_e q0, q1, nm_d, ← eg1, fr_15_6 F1, x_isOne hs1 hs2, b2_s, if_neg o, if_true, fk_19 F1, fl_19 F1, e5, ← eg2, enx]
    exact e1
end
