/-! calls that ask only: place, lineOf, call, came, pressed, count -/
section
variable {z : Nat}
theorem rb_ess {h : Hp} {D : Nat → Nat → Int32} {n ng : Nat} {pa ba : Nat → Nat} {la : Nat → Nat → Nat} {ca : Nat → Nat} (hR : RelB z h D n ng pa ba la ca) (c k : Nat) (hc : c < 82) (he : ess c k = true) : h.2.2.1 (z + c) k = D c k := hR.2.1 c k hc he
theorem ex_p {n : Nat} (v : Int32) : (∃ p, p < n ∧ v = nI p) ∨ ∀ p, p < n → v ≠ nI p := by
  by_cases h : ∃ p, p < n ∧ v = nI p
  · exact Or.inl h
  · exact Or.inr fun p hp e => h ⟨p, hp, e⟩
theorem rg_5 (v : Int32) : (0 ≤ v ∧ v ≤ 5) ↔ (v = 0 ∨ v = 1 ∨ v = 2 ∨ v = 3 ∨ v = 4 ∨ v = 5) := by
  rw [Int32.le_iff_toInt_le, Int32.le_iff_toInt_le, ← Int32.toInt_inj (y := 0), ← Int32.toInt_inj (y := 1), ← Int32.toInt_inj (y := 2), ← Int32.toInt_inj (y := 3), ← Int32.toInt_inj (y := 4), ← Int32.toInt_inj (y := 5)]
  show (0 ≤ v.toInt ∧ v.toInt ≤ 5) ↔ (v.toInt = 0 ∨ v.toInt = 1 ∨ v.toInt = 2 ∨ v.toInt = 3 ∨ v.toInt = 4 ∨ v.toInt = 5)
  omega
theorem rg_3 (v : Int32) : (0 ≤ v ∧ v ≤ 3) ↔ (v = 0 ∨ v = 1 ∨ v = 2 ∨ v = 3) := by
  rw [Int32.le_iff_toInt_le, Int32.le_iff_toInt_le, ← Int32.toInt_inj (y := 0), ← Int32.toInt_inj (y := 1), ← Int32.toInt_inj (y := 2), ← Int32.toInt_inj (y := 3)]
  show (0 ≤ v.toInt ∧ v.toInt ≤ 3) ↔ (v.toInt = 0 ∨ v.toInt = 1 ∨ v.toInt = 2 ∨ v.toInt = 3)
  omega
theorem rg_2 (v : Int32) : (0 ≤ v ∧ v ≤ 2) ↔ (v = 0 ∨ v = 1 ∨ v = 2) := by
  rw [Int32.le_iff_toInt_le, Int32.le_iff_toInt_le, ← Int32.toInt_inj (y := 0), ← Int32.toInt_inj (y := 1), ← Int32.toInt_inj (y := 2)]
  show (0 ≤ v.toInt ∧ v.toInt ≤ 2) ↔ (v.toInt = 0 ∨ v.toInt = 1 ∨ v.toInt = 2)
  omega
theorem sim_place (v1 v2 : Int32) : Sim z (fX10_place z v1 v2) (fX11_place (z + 43) v1 v2) := by
  intro h hRel
  obtain ⟨⟨D, n, ng, pa, ba, la, ca, hR⟩, hT⟩ := id hRel
  obtain ⟨n1, n2, n3⟩ := rb_n hR
  have hF := hR.1
  rcases ex_p (n := n) v1 with ⟨p, hp, rfl⟩ | hv
  · have hP := (hR.2.2.2.1 p hp).2.1
    have q0 : ix (nI p) 40 = true := ix_nI (by omega) (by decide)
    have q1 : (nI p).toNatClampNeg = p := nI_clamp (by omega)
    obtain ⟨p1, p2, p3, p4, p5, p6, p7, p8, p9, p10, -⟩ := hP
    refine ⟨if v2 = 0 then D 44 p else if v2 = 1 then D 45 p else if v2 = 2 then D 53 p else if v2 = 3 then D 47 p else if v2 = 4 then D 48 p else if v2 = 5 then D 49 p else -1000, h, h, ?_, fk_43 hF, ?_, hRel⟩
    · simp only [fX10_place, fk_0 hF, gk_s, fr_0_0 hF, bd_s, fk_1 hF, x_at_t hR hp, b2_s, rn, p1, p5, p6, p7, p8, p9, p10]
      (repeat' split) <;> rfl
    · simp only [fX11_place, fk_43 hF, gk_s, m_isPlace_t hF n2 n3 hp, b2_s, if_neg (show ¬ (1 : Int32) = 0 by decide), l_in, bi_0, fr_43_1 hF, fr_43_2 hF, fr_43_4 hF, fr_43_5 hF, fr_43_6 hF, fr_43_10 hF, bd_s, fk_44 hF, fk_45 hF, fk_47 hF, fk_48 hF, fk_49 hF, fk_53 hF, fl_44 hF, fl_45 hF, fl_47 hF, fl_48 hF, fl_49 hF, fl_53 hF, gd_e q0, q1, rb_ess hR 44 p (by decide) rfl, rb_ess hR 45 p (by decide) rfl, rb_ess hR 47 p (by decide) rfl, rb_ess hR 48 p (by decide) rfl, rb_ess hR 49 p (by decide) rfl, rb_ess hR 53 p (by decide) rfl, rg_5]
      by_cases c0 : v2 = 0
      · simp [c0]
      by_cases c1 : v2 = 1
      · simp [c1]
      by_cases c2 : v2 = 2
      · simp [c2]
      by_cases c3 : v2 = 3
      · simp [c3]
      by_cases c4 : v2 = 4
      · simp [c4]
      by_cases c5 : v2 = 5
      · simp [c5]
      simp [c0, c1, c2, c3, c4, c5]
  · refine ⟨-1000, h, h, ?_, fk_43 hF, ?_, hRel⟩
    · simp only [fX10_place, fk_0 hF, gk_s, fr_0_0 hF, bd_s, fk_1 hF, x_at_f hR hv, b2_s, rn]
    · simp only [fX11_place, fk_43 hF, gk_s, m_isPlace_f hF n2 n3 hv, b2_s, if_pos]
theorem sz_mod {h : Hp} {D : Nat → Nat → Int32} {n ng : Nat} {pa ba : Nat → Nat} {la : Nat → Nat → Nat} {ca : Nat → Nat} (hR : RelB z h D n ng pa ba la ca) : ∀ p, p < n → ∃ s, s ≤ 6 ∧ h.2.2.1 (z + 53) p = nI s := fun p hp => by
  rw [rb_ess hR 53 p (by decide) rfl]
  exact sz_of hR hp
/-- a line is there, or it isn't -/
theorem ex_l {h : Hp} {D : Nat → Nat → Int32} {n ng : Nat} {pa ba : Nat → Nat} {la : Nat → Nat → Nat} {ca : Nat → Nat} (hR : RelB z h D n ng pa ba la ca) (v w : Int32) : (∃ p i s, p < n ∧ D 44 p = 0 ∧ i < s ∧ s ≤ 6 ∧ D 53 p = nI s ∧ v = nI p ∧ w = nI i) ∨ ∀ p i, p < n → D 44 p = 0 → i < 6 → nI i < D 53 p → v = nI p → w ≠ nI i := by
  by_cases hq : ∃ p i, p < n ∧ D 44 p = 0 ∧ i < 6 ∧ nI i < D 53 p ∧ v = nI p ∧ w = nI i
  · obtain ⟨p, i, h1, h2, h3, h4, h5, h6⟩ := hq
    obtain ⟨s, hs, e⟩ := sz_of hR h1
    rw [e, nI_lt' (by omega) (by omega)] at h4
    exact Or.inl ⟨p, i, s, h1, h2, h4, hs, e, h5, h6⟩
  · exact Or.inr fun p i h1 h2 h3 h4 h5 h6 => hq ⟨p, i, h1, h2, h3, h4, h5, h6⟩
theorem m_noLine {h : Hp} {D : Nat → Nat → Int32} {n ng : Nat} {pa ba : Nat → Nat} {la : Nat → Nat → Nat} {ca : Nat → Nat} (hR : RelB z h D n ng pa ba la ca) {v w : Int32} (hv : ∀ p i, p < n → D 44 p = 0 → i < 6 → nI i < D 53 p → v = nI p → w ≠ nI i) : fX11_isLine (z + 43) v w h = some (0, h) :=
  m_isLine_f hR.1 (rb_n hR).2.1 (rb_n hR).2.2 (sz_mod hR) (fun p i hp h0 hs hi => hv p i hp (by rw [← rb_ess hR 44 p (by decide) rfl]; exact h0) hi (by rw [← rb_ess hR 53 p (by decide) rfl]; exact hs))
theorem m_Line {h : Hp} {D : Nat → Nat → Int32} {n ng : Nat} {pa ba : Nat → Nat} {la : Nat → Nat → Nat} {ca : Nat → Nat} (hR : RelB z h D n ng pa ba la ca) {p i s : Nat} (hp : p < n) (h0 : D 44 p = 0) (hi : i < s) (h6 : s ≤ 6) (hs : D 53 p = nI s) : fX11_isLine (z + 43) (nI p) (nI i) h = some (1, h) :=
  m_isLine_t hR.1 (rb_n hR).2.1 (rb_n hR).2.2 hp (by rw [rb_ess hR 44 p (by decide) rfl]; exact h0) (by rw [rb_ess hR 53 p (by decide) rfl]; exact hs) h6 hi
theorem i6 (p i : Nat) : 6 * nI p + nI i = nI (6 * p + i) := by
  rw [show (6 : Int32) = nI 6 from rfl, pk_mul, nI_add]
theorem sim_lineOf (v1 v2 v3 : Int32) : Sim z (fX10_lineOf z v1 v2 v3) (fX11_lineOf (z + 43) v1 v2 v3) := by
  intro h hRel
  obtain ⟨⟨D, n, ng, pa, ba, la, ca, hR⟩, hT⟩ := id hRel
  obtain ⟨n1, n2, n3⟩ := rb_n hR
  have hF := hR.1
  rcases ex_l hR v1 v2 with ⟨p, i, s, hp, h0, hi, h6, hs, rfl, rfl⟩ | hv
  · have hlt : nI i < D 53 p := by rw [hs]; exact nI_lt hi (by omega)
    obtain ⟨-, l0, l1, l2, l3, l4⟩ := (hR.2.2.2.1 p hp).2.1.2.2.2.2.2.2.2.2.2.2.2.2.2 i (by omega) hlt
    have q0 : ix (nI (6 * p + i)) 240 = true := ix_nI (by omega) (by decide)
    have q1 : (nI (6 * p + i)).toNatClampNeg = 6 * p + i := nI_clamp (by omega)
    refine ⟨if v3 = 0 then D 54 (6 * p + i) else if v3 = 1 then D 55 (6 * p + i) else if v3 = 2 then D 56 (6 * p + i) else if v3 = 3 then D 57 (6 * p + i) else -1000, h, h, ?_, fk_43 hF, ?_, hRel⟩
    · simp only [fX10_lineOf, fk_0 hF, gk_s, fr_0_0 hF, bd_s, fk_1 hF, x_lineAt_t hR hp h0 (by omega) hlt, b2_s, rn, l0, l1, l2, l3, l4]
      (repeat' split) <;> rfl
    · simp only [fX11_lineOf, fk_43 hF, gk_s, m_Line hR hp h0 hi h6 hs, b2_s, if_neg (show ¬ (1 : Int32) = 0 by decide), l_in, bi_0, nm_d, i6, fr_43_11 hF, fr_43_12 hF, fr_43_13 hF, fr_43_14 hF, bd_s, fk_54 hF, fk_55 hF, fk_56 hF, fk_57 hF, fl_54 hF, fl_55 hF, fl_56 hF, fl_57 hF, gd_e q0, q1, rb_ess hR 54 (6 * p + i) (by decide) rfl, rb_ess hR 55 (6 * p + i) (by decide) rfl, rb_ess hR 56 (6 * p + i) (by decide) rfl, rb_ess hR 57 (6 * p + i) (by decide) rfl, rg_3]
      by_cases c0 : v3 = 0
      · simp [c0]
      by_cases c1 : v3 = 1
      · simp [c1]
      by_cases c2 : v3 = 2
      · simp [c2]
      by_cases c3 : v3 = 3
      · simp [c3]
      simp [c0, c1, c2, c3]
  · refine ⟨-1000, h, h, ?_, fk_43 hF, ?_, hRel⟩
    · simp only [fX10_lineOf, fk_0 hF, gk_s, fr_0_0 hF, bd_s, fk_1 hF, x_lineAt_f hR hv, b2_s, rn]
    · simp only [fX11_lineOf, fk_43 hF, gk_s, m_noLine hR hv, b2_s, if_pos]
theorem sim_call (v1 : Int32) : Sim z (fX10_call z v1) (fX11_call (z + 43) v1) := by
  intro h hRel
  obtain ⟨⟨D, n, ng, pa, ba, la, ca, hR⟩, hT⟩ := id hRel
  have hF := hR.1
  refine ⟨if ¬ (0 ≤ v1 ∧ v1 ≤ 3) then -1 else if vv z h 35 0 = 0 then -4 else if v1 = 0 then vv z h 35 2 else if v1 = 1 then vv z h 35 3 else if v1 = 2 then vv z h 35 4 else vv z h 35 5, h, h, ?_, fk_43 hF, ?_, hRel⟩
  · simp only [fX10_call, l_within, b2_s, bi_0, fk_0 hF, gk_s, fr_0_6 hF, bd_s, fk_35 hF]
    (repeat' split) <;> rfl
  · simp only [fX11_call, l_in, b2_s, bi_0, fk_43 hF, gk_s]
    obtain ⟨t1, t2⟩ := hT
    have t1' : h.2.2.1 (z + 43) 22 = vv z h 35 0 := t1.symm
    rw [t1']
    by_cases c0 : 0 ≤ v1 ∧ v1 ≤ 3
    · simp only [c0, not_true, if_false, if_neg]
      rcases t2 with ⟨q, -⟩ | ⟨q, q2, q3, q4, q5, -⟩
      · simp [q]
      · have e0 : ¬ vv z h 35 0 = 0 := by rw [q]; decide
        simp only [if_neg e0, q2, q3, q4, q5]
        (repeat' split) <;> simp_all
    · simp [c0]
theorem x_kept {h : Hp} {a : Nat} {m v : Int32} (h13 : h.1 a = 13) (h60 : h.2.1 a = 60) : fX10_keptAt (some a) m v h = some (if 0 ≤ v then (if m ≤ v then -4 else if 60 ≤ v then -4 else h.2.2.1 a v.toNatClampNeg) else -1, h) := by
  simp only [fX10_keptAt, bd_s, h13, gk_s, h60]
  by_cases c0 : 0 ≤ v
  · simp only [if_pos c0]
    by_cases c1 : m ≤ v
    · simp only [if_pos c1]
    · simp only [if_neg c1]
      by_cases c2 : 60 ≤ v
      · simp only [show (Int32.ofNat 60 ≤ v) = (60 ≤ v) from rfl, if_pos c2]
      · simp only [show (Int32.ofNat 60 ≤ v) = (60 ≤ v) from rfl, if_neg c2]
        rcases pk_ix v (n := 60) (by decide) with q | q | ⟨j, hj, rfl⟩
        · exact absurd c0 (by rw [← i_nlt]; exact fun h => h q)
        · exact absurd q c2
        · rw [gd_e (ix_nI hj (by decide))]
  · simp only [if_neg c0]
theorem sim_came (v1 : Int32) : Sim z (fX10_came z v1) (fX11_came (z + 43) v1) := by
  intro h hRel
  obtain ⟨⟨D, n, ng, pa, ba, la, ca, hR⟩, hT⟩ := id hRel
  have hF := hR.1
  refine ⟨if 0 ≤ v1 then (if vv z h 35 4 ≤ v1 then -4 else if 60 ≤ v1 then -4 else vv z h 36 v1.toNatClampNeg) else -1, h, h, ?_, fk_43 hF, ?_, hRel⟩
  · simp only [fX10_came, fk_0 hF, gk_s, fr_0_6 hF, bd_s, fk_35 hF, fr_35_6 hF, x_kept (fk_36 hF) (fl_36 hF), b2_s]
  · simp only [fX11_came, fk_43 hF, gk_s, fr_43_27 hF, bd_s, fk_64 hF, fl_64 hF]
    obtain ⟨t1, t2⟩ := hT
    have t1' : h.2.2.1 (z + 43) 22 = vv z h 35 0 := t1.symm
    rw [t1']
    by_cases c0 : 0 ≤ v1
    · simp only [if_pos c0]
      rcases t2 with ⟨q, q2, -⟩ | ⟨q, q2, q3, q4, q5, q6, -⟩
      · simp only [if_pos q, q2, if_pos c0]
      · have e0 : ¬ vv z h 35 0 = 0 := by rw [q]; decide
        simp only [if_neg e0, q4]
        by_cases c1 : h.2.2.1 (z + 43) 25 ≤ v1
        · simp only [if_pos c1]
        · simp only [if_neg c1]
          by_cases c2 : 60 ≤ v1
          · simp only [if_pos c2]
          · simp only [if_neg c2]
            rcases pk_ix v1 (n := 60) (by decide) with r | r | ⟨j, hj, rfl⟩
            · exact absurd c0 (by rw [← i_nlt]; exact fun h => h r)
            · exact absurd r c2
            · rw [gd_e (ix_nI hj (by decide)), nI_clamp (n := j) (by omega)]
              rw [q6 j hj (by rw [q4, ← i_nlt] at *; exact Classical.not_not.mp c1)]
    · simp only [if_neg c0]
theorem sim_pressed (v1 : Int32) : Sim z (fX10_pressed z v1) (fX11_pressed (z + 43) v1) := by
  intro h hRel
  obtain ⟨⟨D, n, ng, pa, ba, la, ca, hR⟩, hT⟩ := id hRel
  have hF := hR.1
  refine ⟨if 0 ≤ v1 then (if vv z h 35 5 ≤ v1 then -4 else if 60 ≤ v1 then -4 else vv z h 37 v1.toNatClampNeg) else -1, h, h, ?_, fk_43 hF, ?_, hRel⟩
  · simp only [fX10_pressed, fk_0 hF, gk_s, fr_0_6 hF, bd_s, fk_35 hF, fr_35_7 hF, x_kept (fk_37 hF) (fl_37 hF), b2_s]
  · simp only [fX11_pressed, fk_43 hF, gk_s, fr_43_28 hF, bd_s, fk_65 hF, fl_65 hF]
    obtain ⟨t1, t2⟩ := hT
    have t1' : h.2.2.1 (z + 43) 22 = vv z h 35 0 := t1.symm
    rw [t1']
    by_cases c0 : 0 ≤ v1
    · simp only [if_pos c0]
      rcases t2 with ⟨q, -, q2⟩ | ⟨q, q2, q3, q4, q5, -, q6⟩
      · simp only [if_pos q, q2, if_pos c0]
      · have e0 : ¬ vv z h 35 0 = 0 := by rw [q]; decide
        simp only [if_neg e0, q5]
        by_cases c1 : h.2.2.1 (z + 43) 26 ≤ v1
        · simp only [if_pos c1]
        · simp only [if_neg c1]
          by_cases c2 : 60 ≤ v1
          · simp only [if_pos c2]
          · simp only [if_neg c2]
            rcases pk_ix v1 (n := 60) (by decide) with r | r | ⟨j, hj, rfl⟩
            · exact absurd c0 (by rw [← i_nlt]; exact fun h => h r)
            · exact absurd r c2
            · rw [gd_e (ix_nI hj (by decide)), nI_clamp (n := j) (by omega)]
              rw [q6 j hj (by rw [q5, ← i_nlt] at *; exact Classical.not_not.mp c1)]
    · simp only [if_neg c0]
end
