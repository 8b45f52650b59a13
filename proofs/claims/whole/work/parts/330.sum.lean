/-! sum, hung -/
section
variable {z b : Nat} {h : Hp} {D : Nat → Nat → Int32} {n ng : Nat} {pa ba : Nat → Nat} {la : Nat → Nat → Nat} {ca : Nat → Nat} {g : Nat}
def wkG (D : Nat → Nat → Int32) (n g : Nat) : Option WR := wkO D n (D 59 g) (D 60 g) (D 62 g) (decide (D 63 g = 1)) (toN (D 61 g))
theorem gv_of (hR : RelB z h D n ng pa ba la ca) (hg : g < ng) : GV D g := hR.2.2.1.2.2.2.2.2.2.2.1 g hg
theorem pat_of (hR : RelB z h D n ng pa ba la ca) (hg : g < ng) : D 61 g = nI (toN (D 61 g)) ∧ toN (D 61 g) ≤ 5000 := by
  obtain ⟨a, b, c⟩ := nI_toN (gv_of hR hg).2.2.2.2.1 (by decide)
  exact ⟨a.symm, c⟩
theorem kn_of (hR : RelB z h D n ng pa ba la ca) (hg : g < ng) : (D 63 g = 0 ∧ decide (D 63 g = 1) = false) ∨ (D 63 g = 1 ∧ decide (D 63 g = 1) = true) := by
  obtain ⟨k, a, b, c⟩ := (gv_of hR hg).2.2.2.2.2.2
  rcases (show k = 0 ∨ k = 1 by omega) with r | r
  · left; rw [c, r]; exact ⟨rfl, rfl⟩
  · right; rw [c, r]; exact ⟨rfl, rfl⟩
/-- the caller of a group -/
theorem x_gca (hR : RelB z h D n ng pa ba la ca) (hg : g < ng) : h.2.2.2.1 (z + 9) g = some (ca g) ∧ CaV z h (ca g) (D 59 g) (D 60 g) (D 62 g) ∧ CaP z h (ca g) (toN (D 61 g)) ∧ h.2.2.1 (ca g) 4 = (if decide (D 63 g = 1) = true then 1 else 0) ∧ h.2.2.1 (ca g) 4 = D 63 g := by
  obtain ⟨e1, ⟨c1, c2, c3, c4, c5, c6⟩, e3, e4⟩ := hR.2.2.2.2.2.2.2 g hg
  obtain ⟨p1, p2⟩ := pat_of hR hg
  refine ⟨e1, ⟨e3, c1, c2, c3, c5⟩, ⟨e3, c1, by rw [c4]; exact p1, p2⟩, ?_, c6⟩
  rw [c6]
  rcases kn_of hR hg with ⟨q, -⟩ | ⟨q, -⟩ <;> rw [q] <;> rfl
theorem x_grp (hR : RelB z h D n ng pa ba la ca) (hn : 0 < n) (hg : g < ng) : ∃ r h', wkG D n g = some r ∧ fX8_follow (z + 39) (some (z + 1)) (some (z + 3)) (some (ca g)) h = some ((), h') ∧ Fr z (Sx 39) h h' ∧ CE z 39 h' r := by
  obtain ⟨-, a2, a3, a4, -⟩ := x_gca hR hg
  exact x_follow (Or.inr rfl) hR hn a2 a3 _ a4
theorem m_callOf (hR : RelB z h D n ng pa ba la ca) (hn : 0 < n) (hg : g < ng) : ∃ r h', wkG D n g = some r ∧ fX11_callOf (z + 43) (nI g) h = some (r.1, h') ∧ Fr z SM h h' ∧ ME z h' r := by
  have hF := hR.1
  have n12 := (rb_ng hR).2.2
  obtain ⟨p1, p2⟩ := pat_of hR hg
  obtain ⟨r, h', hw, e1, f1, c1⟩ := m_goThrough (w := D 59 g) (v := D 60 g) (u := D 62 g) hR hn p2 (decide (D 63 g = 1))
  refine ⟨r, h', hw, ?_, f1, c1⟩
  rw [← p1] at e1
  have q0 : ix (nI g) 12 = true := ix_nI (by omega) (by decide)
  have q1 : (nI g).toNatClampNeg = g := nI_clamp (by omega)
  simp only [fX11_callOf, fk_43 hF, gk_s, fr_43_17 hF, fr_43_18 hF, fr_43_19 hF, fr_43_20 hF, fr_43_21 hF, bd_s, fk_59 hF, fl_59 hF, fk_60 hF, fl_60 hF, fk_61 hF, fl_61 hF, fk_62 hF, fl_62 hF, fk_63 hF, fl_63 hF, gd_e q0, q1, rb_ess hR 59 g (by decide) rfl, rb_ess hR 60 g (by decide) rfl, rb_ess hR 61 g (by decide) rfl, rb_ess hR 62 g (by decide) rfl, rb_ess hR 63 g (by decide) rfl]
  rcases kn_of hR hg with ⟨q, q2⟩ | ⟨q, q2⟩
  · rw [q2] at e1
    simp only [Bool.false_eq_true, if_false] at e1
    rw [if_neg (by rw [q]; decide)]
    simp only [e1, b2_s]
  · rw [q2] at e1
    simp only [if_true] at e1
    rw [if_pos q]
    simp only [e1, b2_s]
/-- sums over groups -/
def gsum (f : Nat → Int32) : Nat → Int32
  | 0 => 0
  | g + 1 => gsum f g + f g
def ctS (D : Nat → Nat → Int32) (n : Nat) (x : Int32) (g : Nat) : Int32 := match wkG D n g with | none => 0 | some r => if x = 0 then D 58 g * nI r.2.1 else if r.1 = x - 1 then D 58 g else 0
def ctH (D : Nat → Nat → Int32) (n : Nat) (x : Int32) (g : Nat) : Int32 := match wkG D n g with | none => 0 | some r => if r.1 = 2 then (if nI r.2.2.1 = x then D 58 g else 0) else 0
theorem x_sum_l (hn : 0 < n) (x : Int32) : ∀ (d i f : Nat) (h : Hp), RelB z h D n ng pa ba la ca → i + d = ng → d < f → ∃ h', fx bX10_sum_28 (fun _ _ _ _ _ => none) f z x (gsum (ctS D n x) i) (nI i) h = some (gsum (ctS D n x) ng, h') ∧ Fr z (Sx 39) h h' := by
  intro d
  induction d with
  | zero =>
    intro i f h hR hi hf
    obtain ⟨f, rfl⟩ : ∃ k, f = k + 1 := ⟨f - 1, by omega⟩
    obtain rfl : i = ng := by omega
    have hF := hR.1
    obtain ⟨g1, g2, g3⟩ := rb_ng hR
    refine ⟨h, ?_, Fr.rf⟩
    rw [fx_s]
    simp only [bX10_sum_28, fk_0 hF, gk_s, fr_0_3 hF, bd_s, fk_8 hF, g1, if_pos (nI_le (Nat.le_refl i) (by omega))]
  | succ d ih =>
    intro i f h hR hi hf
    obtain ⟨f, rfl⟩ : ∃ k, f = k + 1 := ⟨f - 1, by omega⟩
    have hF := hR.1
    obtain ⟨g1, g2, g3⟩ := rb_ng hR
    obtain ⟨a1, -⟩ := x_gca hR (g := i) (by omega)
    obtain ⟨r, h1, hw, e1, f1, c1⟩ := x_grp hR hn (g := i) (by omega)
    have hR1 := f1.relB (Sx_ess (Or.inr rfl)) hR
    have hF1 := hR1.1
    obtain ⟨h', e2, f2⟩ := ih (i + 1) f h1 hR1 (by omega) (by omega)
    refine ⟨h', ?_, f1.tr f2⟩
    have q0 : ix (nI i) 12 = true := ix_nI (by omega) (by decide)
    have q1 : (nI i).toNatClampNeg = i := nI_clamp (by omega)
    obtain ⟨cl, b0, b1, b2, b3, -⟩ := c1
    have e10 : h1.2.2.1 (z + 10) i = D 58 i := by rw [rb_ess hR1 10 i (by decide) rfl]; exact (gv_of hR (by omega)).2.1
    have hct : ctS D n x i = if x = 0 then D 58 i * nI r.2.1 else if r.1 = x - 1 then D 58 i else 0 := by unfold ctS; rw [hw]
    have hst : gsum (ctS D n x) (i + 1) = gsum (ctS D n x) i + ctS D n x i := rfl
    rw [hst, hct] at e2
    rw [fx_s]
    simp only [bX10_sum_28, fk_0 hF, gk_s, fr_0_3 hF, bd_s, fk_8 hF, g1, if_neg (nI_ge (show i < ng by omega) (by omega)), fr_0_7 hF, fr_0_0 hF, fr_0_1 hF, fr_8_0 hF, fk_9 hF, fl_9 hF, gd_e q0, q1, a1, fk_39 hF, e1, b2_s, fk_0 hF1, fr_0_3 hF1, fk_8 hF1, fr_8_1 hF1, fk_10 hF1, fl_10 hF1, fr_0_7 hF1, fk_39 hF1, e10, b1, b2, nm_d, nI_1]
    by_cases c1 : x = 0
    · rw [if_pos c1] at e2 ⊢
      exact e2
    · rw [if_neg c1] at e2 ⊢
      by_cases c2 : r.1 = x - 1
      · rw [if_pos c2] at e2 ⊢
        exact e2
      · rw [if_neg c2] at e2 ⊢
        rw [Int32.add_zero] at e2
        exact e2
theorem m_sum_l (hn : 0 < n) (x : Int32) : ∀ (d i f : Nat) (h : Hp), RelB z h D n ng pa ba la ca → i + d = ng → d < f → ∃ h', fx bX11_sum_25 (fun _ _ _ _ _ => none) f (z + 43) x (gsum (ctS D n x) i) (nI i) h = some (gsum (ctS D n x) ng, h') ∧ Fr z SM h h' := by
  intro d
  induction d with
  | zero =>
    intro i f h hR hi hf
    obtain ⟨f, rfl⟩ : ∃ k, f = k + 1 := ⟨f - 1, by omega⟩
    obtain rfl : i = ng := by omega
    have hF := hR.1
    obtain ⟨g1, g2, g3⟩ := rb_ng hR
    refine ⟨h, ?_, Fr.rf⟩
    rw [fx_s]
    simp only [bX11_sum_25, fk_43 hF, gk_s, g2, if_pos (nI_le (Nat.le_refl i) (by omega))]
  | succ d ih =>
    intro i f h hR hi hf
    obtain ⟨f, rfl⟩ : ∃ k, f = k + 1 := ⟨f - 1, by omega⟩
    have hF := hR.1
    obtain ⟨g1, g2, g3⟩ := rb_ng hR
    obtain ⟨r, h1, hw, e1, f1, c1⟩ := m_callOf hR hn (g := i) (by omega)
    have hR1 := f1.relB SM_ess hR
    have hF1 := hR1.1
    obtain ⟨h', e2, f2⟩ := ih (i + 1) f h1 hR1 (by omega) (by omega)
    refine ⟨h', ?_, f1.tr f2⟩
    have q0 : ix (nI i) 12 = true := ix_nI (by omega) (by decide)
    have q1 : (nI i).toNatClampNeg = i := nI_clamp (by omega)
    obtain ⟨cl, b0, -⟩ := c1
    have hct : ctS D n x i = if x = 0 then D 58 i * nI r.2.1 else if r.1 = x - 1 then D 58 i else 0 := by unfold ctS; rw [hw]
    have hst : gsum (ctS D n x) (i + 1) = gsum (ctS D n x) i + ctS D n x i := rfl
    rw [hst, hct] at e2
    rw [fx_s]
    simp only [bX11_sum_25, fk_43 hF, gk_s, g2, if_neg (nI_ge (show i < ng by omega) (by omega)), e1, b2_s, fk_43 hF1, fr_43_16 hF1, bd_s, fk_58 hF1, fl_58 hF1, gd_e q0, q1, rb_ess hR1 58 i (by decide) rfl, b0, nm_d, nI_1]
    by_cases c1 : x = 0
    · rw [if_pos c1] at e2 ⊢
      exact e2
    · rw [if_neg c1] at e2 ⊢
      by_cases c2 : r.1 = x - 1
      · rw [if_pos c2] at e2 ⊢
        exact e2
      · rw [if_neg c2] at e2 ⊢
        exact e2
theorem x_hung_l (hn : 0 < n) (x : Int32) : ∀ (d i f : Nat) (h : Hp), RelB z h D n ng pa ba la ca → i + d = ng → d < f → ∃ h', fx bX10_hung_17 (fun _ _ _ _ _ => none) f z x (gsum (ctH D n x) i) (nI i) h = some (gsum (ctH D n x) ng, h') ∧ Fr z (Sx 39) h h' := by
  intro d
  induction d with
  | zero =>
    intro i f h hR hi hf
    obtain ⟨f, rfl⟩ : ∃ k, f = k + 1 := ⟨f - 1, by omega⟩
    obtain rfl : i = ng := by omega
    have hF := hR.1
    obtain ⟨g1, g2, g3⟩ := rb_ng hR
    refine ⟨h, ?_, Fr.rf⟩
    rw [fx_s]
    simp only [bX10_hung_17, fk_0 hF, gk_s, fr_0_3 hF, bd_s, fk_8 hF, g1, if_pos (nI_le (Nat.le_refl i) (by omega))]
  | succ d ih =>
    intro i f h hR hi hf
    obtain ⟨f, rfl⟩ : ∃ k, f = k + 1 := ⟨f - 1, by omega⟩
    have hF := hR.1
    obtain ⟨g1, g2, g3⟩ := rb_ng hR
    obtain ⟨a1, -⟩ := x_gca hR (g := i) (by omega)
    obtain ⟨r, h1, hw, e1, f1, c1⟩ := x_grp hR hn (g := i) (by omega)
    have hR1 := f1.relB (Sx_ess (Or.inr rfl)) hR
    have hF1 := hR1.1
    obtain ⟨h', e2, f2⟩ := ih (i + 1) f h1 hR1 (by omega) (by omega)
    refine ⟨h', ?_, f1.tr f2⟩
    have q0 : ix (nI i) 12 = true := ix_nI (by omega) (by decide)
    have q1 : (nI i).toNatClampNeg = i := nI_clamp (by omega)
    obtain ⟨cl, b0, b1, b2, b3, -⟩ := c1
    have e10 : h1.2.2.1 (z + 10) i = D 58 i := by rw [rb_ess hR1 10 i (by decide) rfl]; exact (gv_of hR (by omega)).2.1
    have hct : ctH D n x i = if r.1 = 2 then (if nI r.2.2.1 = x then D 58 i else 0) else 0 := by unfold ctH; rw [hw]
    have hst : gsum (ctH D n x) (i + 1) = gsum (ctH D n x) i + ctH D n x i := rfl
    rw [hst, hct] at e2
    rw [fx_s]
    simp only [bX10_hung_17, fk_0 hF, gk_s, fr_0_3 hF, bd_s, fk_8 hF, g1, if_neg (nI_ge (show i < ng by omega) (by omega)), fr_0_7 hF, fr_0_0 hF, fr_0_1 hF, fr_8_0 hF, fk_9 hF, fl_9 hF, gd_e q0, q1, a1, fk_39 hF, e1, b2_s, fk_0 hF1, fr_0_3 hF1, fk_8 hF1, fr_8_1 hF1, fk_10 hF1, fl_10 hF1, fr_0_7 hF1, fk_39 hF1, e10, b1, b3, nm_d, nI_1]
    by_cases c1 : r.1 = 2
    · rw [if_pos c1] at e2 ⊢
      by_cases c2 : nI r.2.2.1 = x
      · rw [if_pos c2] at e2 ⊢
        exact e2
      · rw [if_neg c2] at e2 ⊢
        rw [Int32.add_zero] at e2
        exact e2
    · rw [if_neg c1] at e2 ⊢
      rw [Int32.add_zero] at e2
      exact e2
theorem m_hung_l (hn : 0 < n) (x : Int32) : ∀ (d i f : Nat) (h : Hp), RelB z h D n ng pa ba la ca → i + d = ng → d < f → ∃ h', fx bX11_hung_14 (fun _ _ _ _ _ => none) f (z + 43) x (gsum (ctH D n x) i) (nI i) h = some (gsum (ctH D n x) ng, h') ∧ Fr z SM h h' := by
  intro d
  induction d with
  | zero =>
    intro i f h hR hi hf
    obtain ⟨f, rfl⟩ : ∃ k, f = k + 1 := ⟨f - 1, by omega⟩
    obtain rfl : i = ng := by omega
    have hF := hR.1
    obtain ⟨g1, g2, g3⟩ := rb_ng hR
    refine ⟨h, ?_, Fr.rf⟩
    rw [fx_s]
    simp only [bX11_hung_14, fk_43 hF, gk_s, g2, if_pos (nI_le (Nat.le_refl i) (by omega))]
  | succ d ih =>
    intro i f h hR hi hf
    obtain ⟨f, rfl⟩ : ∃ k, f = k + 1 := ⟨f - 1, by omega⟩
    have hF := hR.1
    obtain ⟨g1, g2, g3⟩ := rb_ng hR
    obtain ⟨r, h1, hw, e1, f1, c1⟩ := m_callOf hR hn (g := i) (by omega)
    have hR1 := f1.relB SM_ess hR
    have hF1 := hR1.1
    obtain ⟨h', e2, f2⟩ := ih (i + 1) f h1 hR1 (by omega) (by omega)
    refine ⟨h', ?_, f1.tr f2⟩
    have q0 : ix (nI i) 12 = true := ix_nI (by omega) (by decide)
    have q1 : (nI i).toNatClampNeg = i := nI_clamp (by omega)
    obtain ⟨cl, -, b1, -⟩ := c1
    have hct : ctH D n x i = if r.1 = 2 then (if nI r.2.2.1 = x then D 58 i else 0) else 0 := by unfold ctH; rw [hw]
    have hst : gsum (ctH D n x) (i + 1) = gsum (ctH D n x) i + ctH D n x i := rfl
    rw [hst, hct] at e2
    rw [fx_s]
    simp only [bX11_hung_14, fk_43 hF, gk_s, g2, if_neg (nI_ge (show i < ng by omega) (by omega)), e1, b2_s, fk_43 hF1, fr_43_16 hF1, bd_s, fk_58 hF1, fl_58 hF1, gd_e q0, q1, rb_ess hR1 58 i (by decide) rfl, b1, nm_d, nI_1]
    by_cases c1 : r.1 = 2
    · rw [if_pos c1] at e2 ⊢
      by_cases c2 : nI r.2.2.1 = x
      · rw [if_pos c2] at e2 ⊢
        exact e2
      · rw [if_neg c2] at e2 ⊢
        exact e2
    · rw [if_neg c1] at e2 ⊢
      exact e2
theorem Sx_sc : ∀ c k, Sx 39 c k = true → c ≠ 35 ∧ c ≠ 36 ∧ c ≠ 37 ∧ c ≠ 64 ∧ c ≠ 65 ∧ (c = 43 → k < 22 ∨ 26 < k) := by
  intro c k hq
  simp only [Sx, Sw, Bool.or_eq_true, beq_iff_eq] at hq
  omega
theorem SM_sc : ∀ c k, SM c k = true → c ≠ 35 ∧ c ≠ 36 ∧ c ≠ 37 ∧ c ≠ 64 ∧ c ≠ 65 ∧ (c = 43 → k < 22 ∨ 26 < k) := by
  intro c k hq
  simp only [SM, Sm, Bool.or_eq_true, Bool.and_eq_true, beq_iff_eq] at hq
  omega
theorem sim_sum (v1 : Int32) : Sim z (fX10_sum z v1) (fX11_sum (z + 43) v1) := by
  intro h hRel
  obtain ⟨⟨D, n, ng, pa, ba, la, ca, hR⟩, hT⟩ := id hRel
  obtain ⟨n1, n2, n3⟩ := rb_n hR
  have hF := hR.1
  have g3 := (rb_ng hR).2.2
  rcases (Classical.em (0 ≤ v1 ∧ v1 ≤ 4)).symm with c1 | c1
  · exact ⟨-1, h, h, by simp only [fX10_sum, l_within, b2_s, bi_0, if_pos c1], fk_43 hF, by simp only [fX11_sum, l_in, b2_s, bi_0, if_pos c1], hRel⟩
  by_cases hn0 : n = 0
  · subst hn0
    exact ⟨-2, h, h, by simp only [fX10_sum, l_within, b2_s, bi_0, if_neg (not_not_intro c1), fk_0 hF, gk_s, fr_0_0 hF, bd_s, fk_1 hF, n1, if_pos (show nI 0 = 0 from rfl)], fk_43 hF, by simp only [fX11_sum, l_in, b2_s, bi_0, if_neg (not_not_intro c1), fk_43 hF, gk_s, n2, if_pos (show nI 0 = 0 from rfl)], hRel⟩
  have hne : ¬ nI n = 0 := nI_ne0 (by omega) (by omega)
  have nfb := NF_big
  obtain ⟨h1, e1, f1⟩ := x_sum_l (by omega) v1 ng 0 NF h hR (by omega) (by omega)
  have hR1 := f1.relB (Sx_ess (Or.inr rfl)) hR
  have hF1 := hR1.1
  obtain ⟨h2, e2, f2⟩ := m_sum_l (by omega) v1 ng 0 NF h1 hR1 (by omega) (by omega)
  have n2' := (rb_n hR1).2.1
  refine ⟨gsum (ctS D n v1) ng, h1, h2, ?_, fk_43 hF1, ?_, ⟨D, n, ng, pa, ba, la, ca, f2.relB SM_ess hR1⟩, Told_scr hT ((f1.scT Sx_sc).tr (f2.scT SM_sc))⟩
  · simp only [fX10_sum, l_within, b2_s, bi_0, if_neg (not_not_intro c1), fk_0 hF, gk_s, fr_0_0 hF, bd_s, fk_1 hF, n1, if_neg hne]
    exact e1
  · simp only [fX11_sum, l_in, b2_s, bi_0, if_neg (not_not_intro c1), fk_43 hF1, gk_s, n2', if_neg hne]
    exact e2
theorem sim_hung (v1 : Int32) : Sim z (fX10_hung z v1) (fX11_hung (z + 43) v1) := by
  intro h hRel
  obtain ⟨⟨D, n, ng, pa, ba, la, ca, hR⟩, hT⟩ := id hRel
  obtain ⟨n1, n2, n3⟩ := rb_n hR
  have hF := hR.1
  have g3 := (rb_ng hR).2.2
  rcases (ex_p (n := n) v1).symm with hv | ⟨p, hp, rfl⟩
  · exact ⟨-1, h, h, by simp only [fX10_hung, fk_0 hF, gk_s, fr_0_0 hF, bd_s, fk_1 hF, x_at_f hR hv, b2_s, rn], fk_43 hF, by simp only [fX11_hung, fk_43 hF, gk_s, m_isPlace_f hF n2 n3 hv, b2_s, if_pos], hRel⟩
  have nfb := NF_big
  obtain ⟨h1, e1, f1⟩ := x_hung_l (by omega) (nI p) ng 0 NF h hR (by omega) (by omega)
  have hR1 := f1.relB (Sx_ess (Or.inr rfl)) hR
  have hF1 := hR1.1
  obtain ⟨h2, e2, f2⟩ := m_hung_l (by omega) (nI p) ng 0 NF h1 hR1 (by omega) (by omega)
  have n2' := (rb_n hR1).2.1
  refine ⟨gsum (ctH D n (nI p)) ng, h1, h2, ?_, fk_43 hF1, ?_, ⟨D, n, ng, pa, ba, la, ca, f2.relB SM_ess hR1⟩, Told_scr hT ((f1.scT Sx_sc).tr (f2.scT SM_sc))⟩
  · simp only [fX10_hung, fk_0 hF, gk_s, fr_0_0 hF, bd_s, fk_1 hF, x_at_t hR hp, b2_s, rn]
    exact e1
  · simp only [fX11_hung, fk_43 hF1, gk_s, m_isPlace_t hF1 n2' n3 hp, b2_s, if_neg (show ¬ (1 : Int32) = 0 by decide)]
    exact e2
end
