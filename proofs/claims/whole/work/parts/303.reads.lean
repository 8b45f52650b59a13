/-! reading: places and lines, on both sides -/
section
variable {z : Nat} {h : Hp} {D : Nat → Nat → Int32} {n ng : Nat} {pa ba : Nat → Nat} {la : Nat → Nat → Nat} {ca : Nat → Nat}
theorem rb_n (hR : RelB z h D n ng pa ba la ca) : h.2.2.1 (z + 1) 1 = nI n ∧ h.2.2.1 (z + 43) 0 = nI n ∧ n ≤ 40 :=
  ⟨(hR.2.1 1 1 (by decide) rfl).trans hR.2.2.1.2.2.1, (hR.2.1 43 0 (by decide) rfl).trans hR.2.2.1.2.1, hR.2.2.1.1⟩
theorem rb_ng (hR : RelB z h D n ng pa ba la ca) : h.2.2.1 (z + 8) 2 = nI ng ∧ h.2.2.1 (z + 43) 15 = nI ng ∧ ng ≤ 12 :=
  ⟨(hR.2.1 8 2 (by decide) rfl).trans hR.2.2.1.2.2.2.2.2.2.1, (hR.2.1 43 15 (by decide) rfl).trans hR.2.2.1.2.2.2.2.2.1, hR.2.2.1.2.2.2.2.1⟩
theorem nI_lt' {a b : Nat} (hb : b < 2 ^ 31) (ha : a < 2 ^ 31) : (nI a < nI b) = (a < b) := propext (nI_ltI ha hb)
theorem nI_le' {a b : Nat} (hb : b < 2 ^ 31) (ha : a < 2 ^ 31) : (nI a ≤ nI b) = (a ≤ b) := propext (nI_leI ha hb)
theorem x_at_t (hR : RelB z h D n ng pa ba la ca) {p : Nat} (hp : p < n) : fX2_at (z + 1) (nI p) h = some (some (pa p), h) := by
  obtain ⟨h1, h2, h3⟩ := rb_n hR
  have hF := hR.1
  have e1 := (hR.2.2.2.1 p hp).1
  simp only [fX2_at, if_neg (nI_pos (n := p) (by omega)), fk_1 hF, gk_s, h1, if_neg (nI_ge (a := p) (b := n) hp (by omega)), fr_1_0 hF, bd_s, fk_2 hF, fl_2 hF, gd_e (ix_nI (p := p) (N := 40) (by omega) (by decide)), nI_clamp (n := p) (by omega), e1]
theorem x_at_f (hR : RelB z h D n ng pa ba la ca) {v : Int32} (hv : ∀ p, p < n → v ≠ nI p) : fX2_at (z + 1) v h = some (none, h) := by
  obtain ⟨h1, h2, h3⟩ := rb_n hR
  unfold fX2_at
  by_cases h0 : v < 0
  · rw [if_pos h0]
  · rw [if_neg h0, fk_1 hR.1, gk_s, h1]
    rcases pk_ix v (n := n) (by omega) with q | q | ⟨j, hj, rfl⟩
    · exact absurd q h0
    · rw [if_pos q]
    · exact absurd rfl (hv j hj)
theorem x_menuAt_t (hR : RelB z h D n ng pa ba la ca) {p : Nat} (hp : p < n) : fX2_menuAt (z + 1) (nI p) h = some (if D 44 p = 0 then some (pa p) else none, h) := by
  have hP := (hR.2.2.2.1 p hp).2.1
  simp only [fX2_menuAt, fk_1 hR.1, gk_s, x_at_t hR hp, b2_s, rn, hP.1, hP.2.2.2.2.1]
  split <;> rfl
theorem x_menuAt_f (hR : RelB z h D n ng pa ba la ca) {v : Int32} (hv : ∀ p, p < n → v ≠ nI p) : fX2_menuAt (z + 1) v h = some (none, h) := by
  simp only [fX2_menuAt, fk_1 hR.1, gk_s, x_at_f hR hv, b2_s, rn]
theorem sz_of (hR : RelB z h D n ng pa ba la ca) {p : Nat} (hp : p < n) : ∃ s, s ≤ 6 ∧ D 53 p = nI s := by
  obtain ⟨s, -, h2, h3⟩ := (hR.2.2.1.2.2.2.1 p hp).2.2.2.2.2.2.2.2.1
  exact ⟨s, h2, h3⟩
theorem x_lineAt_t (hR : RelB z h D n ng pa ba la ca) {p i : Nat} (hp : p < n) (h0 : D 44 p = 0) (hi : i < 6) (hs : nI i < D 53 p) : fX2_lineAt (z + 1) (nI p) (nI i) h = some (some (la p i), h) := by
  have hP := (hR.2.2.2.1 p hp).2.1
  obtain ⟨p1, p2, p3, p4, p5, p6, p7, p8, p9, p10, p11, p12, p13, p14⟩ := hP
  rw [if_pos h0] at p4
  simp only [fX2_lineAt, fk_1 hR.1, gk_s, x_menuAt_t hR hp, if_pos h0, b2_s, rn, if_neg (nI_pos (n := i) (by omega)), p1, p10, if_neg (show ¬ D 53 p ≤ nI i by rw [← i_nlt]; exact fun q => q hs), p2, bd_s, p3, p4, gd_e (ix_nI (p := i) (N := 6) hi (by decide)), nI_clamp (n := i) (by omega), (p14 i hi hs).1]
theorem x_lineAt_f (hR : RelB z h D n ng pa ba la ca) {v w : Int32} (hv : ∀ p i, p < n → D 44 p = 0 → i < 6 → nI i < D 53 p → v = nI p → w ≠ nI i) : fX2_lineAt (z + 1) v w h = some (none, h) := by
  by_cases hq : ∃ p, p < n ∧ v = nI p
  · obtain ⟨p, hp, rfl⟩ := hq
    obtain ⟨s, hs, e⟩ := sz_of hR hp
    have hP := (hR.2.2.2.1 p hp).2.1
    simp only [fX2_lineAt, fk_1 hR.1, gk_s, x_menuAt_t hR hp, b2_s]
    by_cases h0 : D 44 p = 0
    · simp only [if_pos h0, rn]
      by_cases h1 : w < 0
      · rw [if_pos h1]
      · rw [if_neg h1, hP.1, gk_s, hP.2.2.2.2.2.2.2.2.2.1, e]
        rcases pk_ix w (n := s) (by omega) with q | q | ⟨j, hj, rfl⟩
        · exact absurd q h1
        · rw [if_pos q]
        · exact absurd rfl (hv p j hp h0 (by omega) (by rw [e]; exact nI_lt hj (by omega)) rfl)
    · simp only [if_neg h0, rn]
  · simp only [fX2_lineAt, fk_1 hR.1, gk_s, x_menuAt_f hR (fun p hp e => hq ⟨p, hp, e⟩), b2_s, rn]
/-! the model -/
theorem m_isPlace_t (hF : fxd z h) (hn : h.2.2.1 (z + 43) 0 = nI n) (h40 : n ≤ 40) {p : Nat} (hp : p < n) : fX11_isPlace (z + 43) (nI p) h = some (1, h) := by
  simp only [fX11_isPlace, fk_43 hF, gk_s, hn, l_in, b2_s, gd_e bi_zb, bi_t ((isP_iff h40 _).mpr ⟨p, hp, rfl⟩)]
  rfl
theorem m_isPlace_f (hF : fxd z h) (hn : h.2.2.1 (z + 43) 0 = nI n) (h40 : n ≤ 40) {v : Int32} (hv : ∀ p, p < n → v ≠ nI p) : fX11_isPlace (z + 43) v h = some (0, h) := by
  simp only [fX11_isPlace, fk_43 hF, gk_s, hn, l_in, b2_s, gd_e bi_zb, bi_f (fun q => by obtain ⟨p, hp, e⟩ := (isP_iff h40 v).mp q; exact hv p hp e)]
  rfl
theorem m_isMenu_t (hF : fxd z h) (hn : h.2.2.1 (z + 43) 0 = nI n) (h40 : n ≤ 40) {p : Nat} (hp : p < n) : fX11_isMenu (z + 43) (nI p) h = some (bi (h.2.2.1 (z + 44) p = 0), h) := by
  simp only [fX11_isMenu, fk_43 hF, gk_s, m_isPlace_t hF hn h40 hp, b2_s, if_neg (show ¬ (1 : Int32) = 0 by decide), fr_43_1 hF, bd_s, fk_44 hF, fl_44 hF, gd_e (ix_nI (p := p) (N := 40) (by omega) (by decide)), nI_clamp (n := p) (by omega), bi]
  split <;> rfl
theorem m_isMenu_f (hF : fxd z h) (hn : h.2.2.1 (z + 43) 0 = nI n) (h40 : n ≤ 40) {v : Int32} (hv : ∀ p, p < n → v ≠ nI p) : fX11_isMenu (z + 43) v h = some (0, h) := by
  simp only [fX11_isMenu, fk_43 hF, gk_s, m_isPlace_f hF hn h40 hv, b2_s, if_pos]
theorem m_isLine_t (hF : fxd z h) (hn : h.2.2.1 (z + 43) 0 = nI n) (h40 : n ≤ 40) {p i s : Nat} (hp : p < n) (h0 : h.2.2.1 (z + 44) p = 0) (hs : h.2.2.1 (z + 53) p = nI s) (h6 : s ≤ 6) (hi : i < s) : fX11_isLine (z + 43) (nI p) (nI i) h = some (1, h) := by
  simp only [fX11_isLine, fk_43 hF, gk_s, m_isMenu_t hF hn h40 hp, b2_s, bi_t h0, if_neg (show ¬ (1 : Int32) = 0 by decide), fr_43_10 hF, bd_s, fk_53 hF, fl_53 hF, gd_e (ix_nI (p := p) (N := 40) (by omega) (by decide)), nI_clamp (n := p) (by omega), hs, l_in, bi_t ((isP_iff (n := s) (by omega) (nI i)).mpr ⟨i, hi, rfl⟩)]
theorem m_isLine_f (hF : fxd z h) (hn : h.2.2.1 (z + 43) 0 = nI n) (h40 : n ≤ 40) {v w : Int32} (hsz : ∀ p, p < n → ∃ s, s ≤ 6 ∧ h.2.2.1 (z + 53) p = nI s) (hv : ∀ p i, p < n → h.2.2.1 (z + 44) p = 0 → nI i < h.2.2.1 (z + 53) p → i < 6 → v = nI p → w ≠ nI i) : fX11_isLine (z + 43) v w h = some (0, h) := by
  by_cases hq : ∃ p, p < n ∧ v = nI p
  · obtain ⟨p, hp, rfl⟩ := hq
    obtain ⟨s, h6, hs⟩ := hsz p hp
    by_cases h0 : h.2.2.1 (z + 44) p = 0
    · simp only [fX11_isLine, fk_43 hF, gk_s, m_isMenu_t hF hn h40 hp, b2_s, bi_t h0, if_neg (show ¬ (1 : Int32) = 0 by decide), fr_43_10 hF, bd_s, fk_53 hF, fl_53 hF, gd_e (ix_nI (p := p) (N := 40) (by omega) (by decide)), nI_clamp (n := p) (by omega), hs, l_in, bi_f (show ¬ (0 ≤ w ∧ w ≤ nI s - 1) from fun q => by
        obtain ⟨i, hi, e⟩ := (isP_iff (n := s) (by omega) w).mp q
        exact hv p i hp h0 (by rw [hs]; exact nI_lt hi (by omega)) (by omega) rfl e), if_pos]
    · simp only [fX11_isLine, fk_43 hF, gk_s, m_isMenu_t hF hn h40 hp, b2_s, bi_f h0, if_pos]
  · simp only [fX11_isLine, fk_43 hF, gk_s, m_isMenu_f hF hn h40 (fun p hp e => hq ⟨p, hp, e⟩), b2_s, if_pos]
end
