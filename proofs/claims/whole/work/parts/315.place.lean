/-! what a place is for a caller: class and model -/
section
variable {z : Nat} {h : Hp} {D : Nat → Nat → Int32} {n ng : Nat} {pa ba : Nat → Nat} {la : Nat → Nat → Nat} {ca : Nat → Nat} {p s : Nat}
/-- the ticks of the first lines; of hearing all -/
def tlD (D : Nat → Nat → Int32) (p i : Nat) : Int32 := sm (fun k => D 54 (6 * p + k)) i
def hrD (D : Nat → Nat → Int32) (p s : Nat) : Int32 := D 46 p * (tlD D p s + D 45 p)
theorem x_ln (hR : RelB z h D n ng pa ba la ca) (hp : p < n) (hs : D 53 p = nI s) (h6 : s ≤ 6) {i : Nat} (hi : i < s) :
    h.2.1 (ba p) = 6 ∧ h.2.2.2.1 (ba p) i = some (la p i) ∧ h.1 (la p i) = 4 ∧ h.2.2.1 (la p i) 0 = D 54 (6 * p + i) ∧ h.2.2.1 (la p i) 1 = D 55 (6 * p + i) ∧ h.2.2.1 (la p i) 2 = D 56 (6 * p + i) ∧ h.2.2.1 (la p i) 3 = D 57 (6 * p + i) := by
  obtain ⟨⟨p1, p2, p3, p4, p5, p6, p7, p8, p9, p10, p11, p12, p13, p14⟩, -⟩ := pl_facts hR hp
  have hV := hR.2.2.1.2.2.2.1 p hp
  have e0 : D 44 p = 0 := Classical.byContradiction fun q => by
    have := hV.2.2.2.2.2.2.2.2.2.1 q
    rw [hs] at this
    exact nI_ne0 (by omega) (by omega) this
  obtain ⟨q1, q2, q3, q4, q5, q6⟩ := p14 i (by omega) (by rw [hs]; exact nI_lt hi (by omega))
  exact ⟨by rw [p4, if_pos e0], q1, q2, q3, q4, q5, q6⟩
theorem x_pl (hR : RelB z h D n ng pa ba la ca) (hp : p < n) : h.1 (pa p) = 6 ∧ h.2.2.2.1 (pa p) 5 = some (ba p) ∧ h.1 (ba p) = 16
  ∧ h.2.2.1 (pa p) 0 = D 44 p ∧ h.2.2.1 (pa p) 1 = D 45 p ∧ h.2.2.1 (pa p) 2 = D 49 p ∧ h.2.2.1 (pa p) 3 = D 47 p ∧ h.2.2.1 (pa p) 4 = D 48 p ∧ h.2.2.1 (pa p) 6 = D 53 p
  ∧ (D 44 p = 0 ∨ D 44 p = 4 → h.2.2.1 (pa p) 7 = D 46 p) ∧ (D 44 p = 4 → h.2.2.1 (pa p) 8 = D 52 p) ∧ (D 44 p = 3 → h.2.2.1 (pa p) 9 = D 50 p ∧ h.2.2.1 (pa p) 10 = D 51 p) := by
  obtain ⟨⟨p1, p2, p3, p4, p5, p6, p7, p8, p9, p10, p11, p12, p13, p14⟩, -⟩ := pl_facts hR hp
  exact ⟨p1, p2, p3, p5, p6, p7, p8, p9, p10, p11, p12, p13⟩
theorem x_ticksOfLines_l (hR : RelB z h D n ng pa ba la ca) (hp : p < n) (hs : D 53 p = nI s) (h6 : s ≤ 6) {m : Nat} (hm : m ≤ s) : ∀ (d i f : Nat), i + d = m → d < f → fx bX5_ticksOfLines_4 (fun _ _ _ _ _ => none) f (pa p) (nI m) (tlD D p i) (nI i) h = some (tlD D p m, h) := by
  obtain ⟨p1, p2, p3, p5, p6, p7, p8, p9, p10, p11, p12, p13⟩ := x_pl hR hp
  intro d
  induction d with
  | zero =>
    intro i f hi hf
    obtain ⟨f, rfl⟩ : ∃ k, f = k + 1 := ⟨f - 1, by omega⟩
    rw [fx_s]
    simp only [bX5_ticksOfLines_4]
    rw [show i = m by omega, if_pos (nI_le (Nat.le_refl _) (by omega))]
  | succ d ih =>
    intro i f hi hf
    obtain ⟨f, rfl⟩ : ∃ k, f = k + 1 := ⟨f - 1, by omega⟩
    obtain ⟨l0, l1, l2, l3, l4, l5, l6⟩ := x_ln hR hp hs h6 (i := i) (by omega)
    rw [fx_s]
    simp only [bX5_ticksOfLines_4, if_neg (nI_ge (show i < m by omega) (by omega)), p1, gk_s, p10, hs, if_neg (nI_ge (show i < s by omega) (by omega)), p2, bd_s, p3, l0, gd_e (ix_nI (p := i) (N := 6) (by omega) (by decide)), nI_clamp (n := i) (by omega), l1, l2, l3, nm_d, nI_1]
    exact ih (i + 1) f (by omega) (by omega)
theorem x_ticksOfLines (hR : RelB z h D n ng pa ba la ca) (hp : p < n) (hs : D 53 p = nI s) (h6 : s ≤ 6) {m : Nat} (hm : m ≤ s) : fX5_ticksOfLines (pa p) (nI m) h = some (tlD D p m, h) :=
  x_ticksOfLines_l hR hp hs h6 hm m 0 NF (by omega) (by have := NF_big; omega)
theorem x_hearing (hR : RelB z h D n ng pa ba la ca) (hp : p < n) (h0 : D 44 p = 0) (hs : D 53 p = nI s) (h6 : s ≤ 6) : fX5_ticksOfHearingAll (pa p) h = some (hrD D p s, h) := by
  obtain ⟨p1, p2, p3, p5, p6, p7, p8, p9, p10, p11, p12, p13⟩ := x_pl hR hp
  simp only [fX5_ticksOfHearingAll, p1, gk_s, p10, hs, x_ticksOfLines hR hp hs h6 (Nat.le_refl s), b2_s, p11 (Or.inl h0), p6]
  rfl
theorem m_heard_l (hR : RelB z h D n ng pa ba la ca) (hp : p < n) (hs : D 53 p = nI s) (h6 : s ≤ 6) : ∀ (d i f : Nat), i + d = s → d < f → fx bX11_heard_9 (fun _ _ _ _ _ => none) f (z + 43) (nI p) (tlD D p i + D 45 p) (nI i) h = some (hrD D p s, h) := by
  have hF := hR.1
  have n40 := (rb_n hR).2.2
  intro d
  induction d with
  | zero =>
    intro i f hi hf
    obtain ⟨f, rfl⟩ : ∃ k, f = k + 1 := ⟨f - 1, by omega⟩
    rw [fx_s]
    simp only [bX11_heard_9, fk_43 hF, gk_s, fr_43_10 hF, bd_s, fk_53 hF, fl_53 hF, gd_e (ix_nI (p := p) (N := 40) (by omega) (by decide)), nI_clamp (n := p) (by omega), rb_ess hR 53 p (by decide) rfl, hs]
    rw [show i = s by omega, if_pos (nI_le (Nat.le_refl _) (by omega))]
    simp only [fr_43_3 hF, bd_s, fk_46 hF, gk_s, fl_46 hF, gd_e (ix_nI (p := p) (N := 40) (by omega) (by decide)), rb_ess hR 46 p (by decide) rfl]
    unfold hrD
    rw [Int32.mul_comm]
  | succ d ih =>
    intro i f hi hf
    obtain ⟨f, rfl⟩ : ∃ k, f = k + 1 := ⟨f - 1, by omega⟩
    rw [fx_s]
    simp only [bX11_heard_9, fk_43 hF, gk_s, fr_43_10 hF, bd_s, fk_53 hF, fl_53 hF, gd_e (ix_nI (p := p) (N := 40) (by omega) (by decide)), nI_clamp (n := p) (by omega), rb_ess hR 53 p (by decide) rfl, hs, if_neg (nI_ge (show i < s by omega) (by omega)), fr_43_11 hF, fk_54 hF, fl_54 hF, i6, gd_e (ix_nI (p := 6 * p + i) (N := 240) (by omega) (by decide)), nI_clamp (n := 6 * p + i) (by omega), nm_d, rb_ess hR 54 (6 * p + i) (by decide) rfl, nI_1]
    rw [show tlD D p i + D 45 p + D 54 (6 * p + i) = tlD D p (i + 1) + D 45 p by show _ = (tlD D p i + D 54 (6 * p + i)) + D 45 p; rw [Int32.add_assoc, Int32.add_assoc, Int32.add_comm (D 45 p)]]
    exact ih (i + 1) f (by omega) (by omega)
theorem m_heard (hR : RelB z h D n ng pa ba la ca) (hp : p < n) (hs : D 53 p = nI s) (h6 : s ≤ 6) : fX11_heard (z + 43) (nI p) h = some (hrD D p s, h) := by
  have hF := hR.1
  have n40 := (rb_n hR).2.2
  simp only [fX11_heard, fk_43 hF, gk_s, fr_43_2 hF, bd_s, fk_45 hF, fl_45 hF, gd_e (ix_nI (p := p) (N := 40) (by omega) (by decide)), nI_clamp (n := p) (by omega), rb_ess hR 45 p (by decide) rfl, nm_d]
  have := m_heard_l hR hp hs h6 s 0 NF (by omega) (by have := NF_big; omega)
  rw [show tlD D p 0 + D 45 p = D 45 p by show (0 : Int32) + _ = _; rw [Int32.zero_add]] at this
  exact this
/-- the bit of a wish -/
theorem bit01 (x w : Int32) : ((x >>> (w &&& 31)) &&& 1) = 0 ∨ ((x >>> (w &&& 31)) &&& 1) = 1 := by
  obtain ⟨j, hj, e⟩ := pk_andE (x >>> (w &&& 31)) (m := 1) 1 (by decide)
  rw [e]
  rcases (show j = 0 ∨ j = 1 by omega) with r | r <;> subst r
  · exact Or.inl rfl
  · exact Or.inr rfl
abbrev bitD (x w : Int32) : Prop := ((x >>> (w &&& 31)) &&& 1) = 1
theorem bit0 (x w : Int32) : (((x >>> (w &&& 31)) &&& 1) = 0) = ¬ bitD x w := by
  apply propext
  unfold bitD
  rcases bit01 x w with r | r <;> rw [r] <;> decide
theorem bit1 (x w : Int32) : (((x >>> (w &&& 31)) &&& 1) = 1) = bitD x w := rfl
theorem x_serves (hR : RelB z h D n ng pa ba la ca) (hp : p < n) (w : Int32) : fX5_serves (pa p) w h = some (bi (bitD (D 49 p) w), h) := by
  obtain ⟨p1, p2, p3, p5, p6, p7, p8, p9, p10, p11, p12, p13⟩ := x_pl hR hp
  simp only [fX5_serves, p1, gk_s, p7, bit0]
  by_cases q : bitD (D 49 p) w
  · rw [if_neg (not_not_intro q), bi_t q]
  · rw [if_pos q, bi_f q]
theorem m_isServed (hR : RelB z h D n ng pa ba la ca) (hp : p < n) : fX11_isServed (z + 43) (nI p) h = some (bi (bitD (D 49 p) (h.2.2.1 (z + 43) 32)), h) := by
  have hF := hR.1
  have n40 := (rb_n hR).2.2
  simp only [fX11_isServed, fk_43 hF, gk_s, fr_43_6 hF, bd_s, fk_49 hF, fl_49 hF, gd_e (ix_nI (p := p) (N := 40) (by omega) (by decide)), nI_clamp (n := p) (by omega), rb_ess hR 49 p (by decide) rfl, bit1]
  by_cases q : bitD (D 49 p) (h.2.2.1 (z + 43) 32)
  · rw [if_pos q, bi_t q]
  · rw [if_neg q, bi_f q]
/-- the first line for a wish: the class -/
theorem x_firstLine (hR : RelB z h D n ng pa ba la ca) (hp : p < n) (hs : D 53 p = nI s) (h6 : s ≤ 6) (w : Int32) {j : Nat} (hj : j ≤ s) (hl : ∀ k, k < j → ¬ bitD (D 56 (6 * p + k)) w) (ht : j < s → bitD (D 56 (6 * p + j)) w) : fX5_firstLineFor (pa p) w h = some (if j < s then nI j else -1, h) := by
  obtain ⟨p1, p2, p3, p5, p6, p7, p8, p9, p10, p11, p12, p13⟩ := x_pl hR hp
  have key : ∀ (d i f : Nat), i + d = j → d < f → fx bX5_firstLineFor_2 (fun _ _ _ _ => none) f (pa p) w (nI i) h = some (if j < s then nI j else -1, h) := by
    intro d
    induction d with
    | zero =>
      intro i f hi hf
      obtain ⟨f, rfl⟩ : ∃ k, f = k + 1 := ⟨f - 1, by omega⟩
      obtain rfl : i = j := by omega
      rw [fx_s]
      by_cases q : i < s
      · obtain ⟨l0, l1, l2, l3, l4, l5, l6⟩ := x_ln hR hp hs h6 (i := i) (by omega)
        simp only [bX5_firstLineFor_2, p1, gk_s, p10, hs, if_neg (nI_ge q (by omega)), p2, bd_s, p3, l0, gd_e (ix_nI (p := i) (N := 6) (by omega) (by decide)), nI_clamp (n := i) (by omega), l1, l2, fX3_speaksOf, l5, bit0, if_neg (not_not_intro (ht q)), b2_s, if_neg (show ¬ (1 : Int32) = 0 by decide), if_pos q]
      · simp only [bX5_firstLineFor_2, p1, gk_s, p10, hs, if_pos (nI_le (show s ≤ i by omega) (by omega)), if_neg q]
    | succ d ih =>
      intro i f hi hf
      obtain ⟨f, rfl⟩ : ∃ k, f = k + 1 := ⟨f - 1, by omega⟩
      obtain ⟨l0, l1, l2, l3, l4, l5, l6⟩ := x_ln hR hp hs h6 (i := i) (by omega)
      rw [fx_s]
      simp only [bX5_firstLineFor_2, p1, gk_s, p10, hs, if_neg (nI_ge (show i < s by omega) (by omega)), p2, bd_s, p3, l0, gd_e (ix_nI (p := i) (N := 6) (by omega) (by decide)), nI_clamp (n := i) (by omega), l1, l2, fX3_speaksOf, l5, bit0, if_pos (hl i (by omega)), b2_s, if_pos, nm_d, nI_1]
      exact ih (i + 1) f (by omega) (by omega)
  exact key j 0 NF (by omega) (by have := NF_big; omega)
/-- open at an hour -/
abbrev opD (D : Nat → Nat → Int32) (p : Nat) (v : Int32) : Prop := D 50 p = D 51 p ∨ (if D 51 p ≤ D 50 p then D 50 p ≤ v ∨ ¬ D 51 p ≤ v else ¬ v < D 50 p ∧ ¬ D 51 p ≤ v)
def nxH (D : Nat → Nat → Int32) (p : Nat) (v : Int32) : Int32 := if opD D p v then D 47 p else D 48 p
theorem x_nextAtHour (hR : RelB z h D n ng pa ba la ca) (hp : p < n) (h3 : D 44 p = 3) (v : Int32) : fX5_nextAtHour (pa p) v h = some (nxH D p v, h) := by
  obtain ⟨p1, p2, p3, p5, p6, p7, p8, p9, p10, p11, p12, p13⟩ := x_pl hR hp
  obtain ⟨p13, p14⟩ := p13 h3
  simp only [fX5_nextAtHour, p1, gk_s, p13, p14, p8, p9, nxH, opD]
  by_cases c1 : D 51 p ≤ D 50 p <;> by_cases c2 : D 50 p = D 51 p <;> by_cases c3 : D 50 p ≤ v <;> by_cases c4 : D 51 p ≤ v <;> by_cases c5 : v < D 50 p <;> (try (exact absurd (show D 51 p ≤ D 50 p by rw [c2]; exact Int32.le_refl _) c1)) <;> (try (exact absurd c3 (by rw [← i_nlt]; exact fun q => q c5))) <;> simp only [c1, c2, c3, c4, c5, show D 51 p ≤ D 51 p from Int32.le_refl _, if_true, if_false, true_or, or_true, false_or, or_false, not_true, not_false_eq_true, true_and, and_true, false_and, and_false, bi, reduceIte, ite_self]
theorem m_isOpen (hR : RelB z h D n ng pa ba la ca) (hp : p < n) : fX11_isOpen (z + 43) (nI p) h = some (bi (opD D p (h.2.2.1 (z + 43) 35)), h) := by
  have hF := hR.1
  have n40 := (rb_n hR).2.2
  simp only [fX11_isOpen, fk_43 hF, gk_s, fr_43_7 hF, fr_43_8 hF, bd_s, fk_50 hF, fl_50 hF, fk_51 hF, fl_51 hF, gd_e (ix_nI (p := p) (N := 40) (by omega) (by decide)), nI_clamp (n := p) (by omega), rb_ess hR 50 p (by decide) rfl, rb_ess hR 51 p (by decide) rfl, opD]
  generalize h.2.2.1 (z + 43) 35 = v
  by_cases c1 : D 51 p ≤ D 50 p <;> by_cases c2 : D 50 p = D 51 p <;> by_cases c3 : D 50 p ≤ v <;> by_cases c4 : D 51 p ≤ v <;> by_cases c5 : v < D 50 p <;> simp only [c1, c2, c3, c4, c5, show D 51 p ≤ D 51 p from Int32.le_refl _, if_true, if_false, true_or, or_true, false_or, or_false, not_true, not_false_eq_true, true_and, and_true, false_and, and_false, bi, reduceIte, ite_self]
/-- the number's figures: what is left, and the sum -/
def rtD (v : Int32) : Nat → Int32 × Int32
  | 0 => (v, 0)
  | k + 1 => ((rtD v k).1 / 10, (rtD v k).2 + ((rtD v k).1 - (rtD v k).1 / 10 * 10) * (if k % 2 = 0 then 1 else 3))
abbrev rgtD (D : Nat → Nat → Int32) (p : Nat) (v : Int32) : Prop := (rtD v (D 52 p).toNatClampNeg).1 = 0 ∧ (rtD v (D 52 p).toNatClampNeg).2 - (rtD v (D 52 p).toNatClampNeg).2 / 10 * 10 = 0
theorem fig_of (hR : RelB z h D n ng pa ba la ca) (hp : p < n) (h4 : D 44 p = 4) : ∃ f, 1 ≤ f ∧ f ≤ 8 ∧ D 52 p = nI f := by
  obtain ⟨k, h1, h2, h3⟩ := (hR.2.2.1.2.2.2.1 p hp).2.2.2.2.2.2.2.1 h4
  exact ⟨k, h1, h2, h3⟩
theorem x_isRight (hR : RelB z h D n ng pa ba la ca) (hp : p < n) (h4 : D 44 p = 4) (v : Int32) : fX5_isRight (pa p) v h = some (bi (rgtD D p v), h) := by
  obtain ⟨p1, p2, p3, p5, p6, p7, p8, p9, p10, p11, p12, p13⟩ := x_pl hR hp
  obtain ⟨k, k1, k2, k3⟩ := fig_of hR hp h4
  have key : ∀ (d i f : Nat), i + d = k → d < f → fx bX5_isRight_10 (fun _ _ _ _ _ _ => none) f (pa p) (rtD v i).1 (rtD v i).2 (if i % 2 = 0 then 1 else 3) (nI i) h = some (bi (rgtD D p v), h) := by
    intro d
    induction d with
    | zero =>
      intro i f hi hf
      obtain ⟨f, rfl⟩ : ∃ k, f = k + 1 := ⟨f - 1, by omega⟩
      obtain rfl : i = k := by omega
      rw [fx_s]
      simp only [bX5_isRight_10, p1, gk_s, p12 h4, k3, if_pos (nI_le (Nat.le_refl i) (by omega)), rgtD, nI_clamp (n := i) (by omega), bi]
      by_cases c1 : (rtD v i).1 = 0
      · by_cases c2 : (rtD v i).2 - (rtD v i).2 / 10 * 10 = 0 <;> simp only [c1, c2, if_true, if_false, and_self, and_false, true_and]
      · simp only [c1, if_false, false_and]
    | succ d ih =>
      intro i f hi hf
      obtain ⟨f, rfl⟩ : ∃ k, f = k + 1 := ⟨f - 1, by omega⟩
      rw [fx_s]
      simp only [bX5_isRight_10, p1, gk_s, p12 h4, k3, if_neg (nI_ge (show i < k by omega) (by omega)), nm_d, nI_1]
      have := ih (i + 1) f (by omega) (by omega)
      rw [show (4 : Int32) - (if i % 2 = 0 then 1 else 3) = (if (i + 1) % 2 = 0 then 1 else 3) by
        by_cases c : i % 2 = 0
        · rw [if_pos c, if_neg (by omega)]; decide
        · rw [if_neg c, if_pos (by omega)]; decide]
      exact this
  exact key k 0 NF (by omega) (by have := NF_big; omega)
theorem m_isRight (hR : RelB z h D n ng pa ba la ca) (hp : p < n) (h4 : D 44 p = 4) : fX11_isRight (z + 43) (nI p) h = some (bi (rgtD D p (h.2.2.1 (z + 43) 33)), h) := by
  have hF := hR.1
  have n40 := (rb_n hR).2.2
  simp only [fX11_isRight, fk_43 hF, gk_s, nm_d]
  generalize h.2.2.1 (z + 43) 33 = v
  obtain ⟨k, k1, k2, k3⟩ := fig_of hR hp h4
  have key : ∀ (d i f : Nat), i + d = k → d < f → fx bX11_isRight_10 (fun _ _ _ _ _ _ => none) f (z + 43) (nI p) (rtD v i).1 (rtD v i).2 (nI i) h = some (bi (rgtD D p v), h) := by
    intro d
    induction d with
    | zero =>
      intro i f hi hf
      obtain ⟨f, rfl⟩ : ∃ k, f = k + 1 := ⟨f - 1, by omega⟩
      obtain rfl : i = k := by omega
      rw [fx_s]
      simp only [bX11_isRight_10, fk_43 hF, gk_s, fr_43_9 hF, bd_s, fk_52 hF, fl_52 hF, gd_e (ix_nI (p := p) (N := 40) (by omega) (by decide)), nI_clamp (n := p) (by omega), rb_ess hR 52 p (by decide) rfl, k3, if_pos (nI_le (Nat.le_refl i) (by omega)), rgtD, nI_clamp (n := i) (by omega), bi]
      by_cases c1 : (rtD v i).1 = 0
      · by_cases c2 : (rtD v i).2 - (rtD v i).2 / 10 * 10 = 0 <;> simp only [c1, c2, if_true, if_false, and_self, and_false, true_and]
      · simp only [c1, if_false, false_and]
    | succ d ih =>
      intro i f hi hf
      obtain ⟨f, rfl⟩ : ∃ k, f = k + 1 := ⟨f - 1, by omega⟩
      rw [fx_s]
      have e2 : nI i - nI i / 2 * 2 = nI (i % 2) := pk_rem (d := 2) (by omega) (by decide) (by decide)
      simp only [bX11_isRight_10, fk_43 hF, gk_s, fr_43_9 hF, bd_s, fk_52 hF, fl_52 hF, gd_e (ix_nI (p := p) (N := 40) (by omega) (by decide)), nI_clamp (n := p) (by omega), rb_ess hR 52 p (by decide) rfl, k3, if_neg (nI_ge (show i < k by omega) (by omega)), nm_d, nI_1, e2]
      have hi2 := ih (i + 1) f (by omega) (by omega)
      rcases (show i % 2 = 0 ∨ i % 2 = 1 by omega) with c | c
      · rw [c, if_pos (show nI 0 = 0 from rfl)]
        simp only [rtD, c, if_true] at hi2
        exact hi2
      · rw [c, if_neg (show ¬ nI 1 = 0 by decide)]
        simp only [rtD, c, show ¬ (1 = 0) by decide, if_false] at hi2
        exact hi2
  exact key k 0 NF (by omega) (by have := NF_big; omega)
def nxN (D : Nat → Nat → Int32) (p : Nat) (v : Int32) : Int32 := if rgtD D p v then D 47 p else D 48 p
theorem x_nextForNumber (hR : RelB z h D n ng pa ba la ca) (hp : p < n) (h4 : D 44 p = 4) (v : Int32) : fX5_nextForNumber (pa p) v h = some (nxN D p v, h) := by
  obtain ⟨p1, p2, p3, p5, p6, p7, p8, p9, p10, p11, p12, p13⟩ := x_pl hR hp
  simp only [fX5_nextForNumber, p1, gk_s, x_isRight hR hp h4, b2_s, bi_0, p8, p9, nxN]
  by_cases q : rgtD D p v
  · simp only [if_neg (not_not_intro q), if_pos q]
  · simp only [if_pos q, if_neg q]
def trD (D : Nat → Nat → Int32) (p : Nat) (v k : Int32) : Int32 := if rgtD D p v then (if k = 0 then D 45 p + D 52 p else D 52 p) else D 46 p * (if k = 0 then D 45 p + D 52 p else D 52 p)
theorem x_ticksOfTries (hR : RelB z h D n ng pa ba la ca) (hp : p < n) (h4 : D 44 p = 4) (v k : Int32) : fX5_ticksOfTries (pa p) v k h = some (trD D p v k, h) := by
  obtain ⟨p1, p2, p3, p5, p6, p7, p8, p9, p10, p11, p12, p13⟩ := x_pl hR hp
  simp only [fX5_ticksOfTries, fX5_ticksOfTries_20, p1, gk_s, x_isRight hR hp h4, b2_s, bi_0, p6, p12 h4, p11 (Or.inr h4), trD]
  by_cases q : rgtD D p v
  · simp only [if_neg (not_not_intro q), if_pos q]
    by_cases c : k = 0 <;> simp only [c, if_true, if_false]
  · simp only [if_pos q, if_neg q]
    by_cases c : k = 0 <;> simp only [c, if_true, if_false]
end
