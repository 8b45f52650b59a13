/-! the law's loop -/
section
variable {z : Nat} {h : Hp} {xs : Nat → Int32} {L k : Nat} {rc : Nat → Nat → Int32 → Hp → Option Unit}
theorem lk_0 (hR : Rel z h) (hk : k + 7 ≤ L) (hL : L ≤ 3584) : ∃ h', Rel z h' ∧ lc_0 xs L rc z (z + 43) (nI k) h = rc z (z + 43) (nI (k + 7)) h' := by
  have hF : fxd z h := by obtain ⟨⟨D, n, ng, pa, ba, la, ca, hB⟩, -⟩ := hR; exact hB.1
  obtain ⟨r, h1, h2, e1, k1, e2, hR2⟩ := sim_menu (xs (Int32.toNatClampNeg (nI (k + 1)))) (xs (Int32.toNatClampNeg (nI (k + 2)))) (xs (Int32.toNatClampNeg (nI (k + 3)))) h hR
  refine ⟨h2, hR2, ?_⟩
  have a1 : nI k + 1 = nI (k + 1) := nI_add k 1
  have a2 : nI k + 2 = nI (k + 2) := nI_add k 2
  have a3 : nI k + 3 = nI (k + 3) := nI_add k 3
  have a7 : nI k + 7 = nI (k + 7) := nI_add k 7
  have gd1 : decide True = true := rfl
  have k0 : h.1 z = 11 := fk_0 hF
  simp only [lc_0, a1, gd_e (ix_nI (p := k + 1) (N := L) (by omega) (by omega)), a2, gd_e (ix_nI (p := k + 2) (N := L) (by omega) (by omega)), a3, gd_e (ix_nI (p := k + 3) (N := L) (by omega) (by omega)), k0, gk_s, e1, b2_s, k1, e2, gd_e gd1, nm_d, a7]
theorem lk_1 (hR : Rel z h) (hk : k + 7 ≤ L) (hL : L ≤ 3584) : ∃ h', Rel z h' ∧ lc_1 xs L rc z (z + 43) (nI k) h = rc z (z + 43) (nI (k + 7)) h' := by
  have hF : fxd z h := by obtain ⟨⟨D, n, ng, pa, ba, la, ca, hB⟩, -⟩ := hR; exact hB.1
  obtain ⟨r, h1, h2, e1, k1, e2, hR2⟩ := sim_line (xs (Int32.toNatClampNeg (nI (k + 1)))) (xs (Int32.toNatClampNeg (nI (k + 2)))) (xs (Int32.toNatClampNeg (nI (k + 3)))) (xs (Int32.toNatClampNeg (nI (k + 4)))) (xs (Int32.toNatClampNeg (nI (k + 5)))) h hR
  refine ⟨h2, hR2, ?_⟩
  have a1 : nI k + 1 = nI (k + 1) := nI_add k 1
  have a2 : nI k + 2 = nI (k + 2) := nI_add k 2
  have a3 : nI k + 3 = nI (k + 3) := nI_add k 3
  have a4 : nI k + 4 = nI (k + 4) := nI_add k 4
  have a5 : nI k + 5 = nI (k + 5) := nI_add k 5
  have a7 : nI k + 7 = nI (k + 7) := nI_add k 7
  have gd1 : decide True = true := rfl
  have k0 : h.1 z = 11 := fk_0 hF
  simp only [lc_1, a1, gd_e (ix_nI (p := k + 1) (N := L) (by omega) (by omega)), a2, gd_e (ix_nI (p := k + 2) (N := L) (by omega) (by omega)), a3, gd_e (ix_nI (p := k + 3) (N := L) (by omega) (by omega)), a4, gd_e (ix_nI (p := k + 4) (N := L) (by omega) (by omega)), a5, gd_e (ix_nI (p := k + 5) (N := L) (by omega) (by omega)), k0, gk_s, e1, b2_s, k1, e2, gd_e gd1, nm_d, a7]
theorem lk_2 (hR : Rel z h) (hk : k + 7 ≤ L) (hL : L ≤ 3584) : ∃ h', Rel z h' ∧ lc_2 xs L rc z (z + 43) (nI k) h = rc z (z + 43) (nI (k + 7)) h' := by
  have hF : fxd z h := by obtain ⟨⟨D, n, ng, pa, ba, la, ca, hB⟩, -⟩ := hR; exact hB.1
  obtain ⟨r, h1, h2, e1, k1, e2, hR2⟩ := sim_desk (xs (Int32.toNatClampNeg (nI (k + 1)))) (xs (Int32.toNatClampNeg (nI (k + 2)))) h hR
  refine ⟨h2, hR2, ?_⟩
  have a1 : nI k + 1 = nI (k + 1) := nI_add k 1
  have a2 : nI k + 2 = nI (k + 2) := nI_add k 2
  have a7 : nI k + 7 = nI (k + 7) := nI_add k 7
  have gd1 : decide True = true := rfl
  have k0 : h.1 z = 11 := fk_0 hF
  simp only [lc_2, a1, gd_e (ix_nI (p := k + 1) (N := L) (by omega) (by omega)), a2, gd_e (ix_nI (p := k + 2) (N := L) (by omega) (by omega)), k0, gk_s, e1, b2_s, k1, e2, gd_e gd1, nm_d, a7]
theorem lk_3 (hR : Rel z h) (hk : k + 7 ≤ L) (hL : L ≤ 3584) : ∃ h', Rel z h' ∧ lc_3 xs L rc z (z + 43) (nI k) h = rc z (z + 43) (nI (k + 7)) h' := by
  have hF : fxd z h := by obtain ⟨⟨D, n, ng, pa, ba, la, ca, hB⟩, -⟩ := hR; exact hB.1
  obtain ⟨r, h1, h2, e1, k1, e2, hR2⟩ := sim_leaf (xs (Int32.toNatClampNeg (nI (k + 1)))) (xs (Int32.toNatClampNeg (nI (k + 2)))) (xs (Int32.toNatClampNeg (nI (k + 3)))) h hR
  refine ⟨h2, hR2, ?_⟩
  have a1 : nI k + 1 = nI (k + 1) := nI_add k 1
  have a2 : nI k + 2 = nI (k + 2) := nI_add k 2
  have a3 : nI k + 3 = nI (k + 3) := nI_add k 3
  have a7 : nI k + 7 = nI (k + 7) := nI_add k 7
  have gd1 : decide True = true := rfl
  have k0 : h.1 z = 11 := fk_0 hF
  simp only [lc_3, a1, gd_e (ix_nI (p := k + 1) (N := L) (by omega) (by omega)), a2, gd_e (ix_nI (p := k + 2) (N := L) (by omega) (by omega)), a3, gd_e (ix_nI (p := k + 3) (N := L) (by omega) (by omega)), k0, gk_s, e1, b2_s, k1, e2, gd_e gd1, nm_d, a7]
theorem lk_4 (hR : Rel z h) (hk : k + 7 ≤ L) (hL : L ≤ 3584) : ∃ h', Rel z h' ∧ lc_4 xs L rc z (z + 43) (nI k) h = rc z (z + 43) (nI (k + 7)) h' := by
  have hF : fxd z h := by obtain ⟨⟨D, n, ng, pa, ba, la, ca, hB⟩, -⟩ := hR; exact hB.1
  obtain ⟨r, h1, h2, e1, k1, e2, hR2⟩ := sim_clock (xs (Int32.toNatClampNeg (nI (k + 1)))) (xs (Int32.toNatClampNeg (nI (k + 2)))) (xs (Int32.toNatClampNeg (nI (k + 3)))) (xs (Int32.toNatClampNeg (nI (k + 4)))) h hR
  refine ⟨h2, hR2, ?_⟩
  have a1 : nI k + 1 = nI (k + 1) := nI_add k 1
  have a2 : nI k + 2 = nI (k + 2) := nI_add k 2
  have a3 : nI k + 3 = nI (k + 3) := nI_add k 3
  have a4 : nI k + 4 = nI (k + 4) := nI_add k 4
  have a7 : nI k + 7 = nI (k + 7) := nI_add k 7
  have gd1 : decide True = true := rfl
  have k0 : h.1 z = 11 := fk_0 hF
  simp only [lc_4, a1, gd_e (ix_nI (p := k + 1) (N := L) (by omega) (by omega)), a2, gd_e (ix_nI (p := k + 2) (N := L) (by omega) (by omega)), a3, gd_e (ix_nI (p := k + 3) (N := L) (by omega) (by omega)), a4, gd_e (ix_nI (p := k + 4) (N := L) (by omega) (by omega)), k0, gk_s, e1, b2_s, k1, e2, gd_e gd1, nm_d, a7]
theorem lk_5 (hR : Rel z h) (hk : k + 7 ≤ L) (hL : L ≤ 3584) : ∃ h', Rel z h' ∧ lc_5 xs L rc z (z + 43) (nI k) h = rc z (z + 43) (nI (k + 7)) h' := by
  have hF : fxd z h := by obtain ⟨⟨D, n, ng, pa, ba, la, ca, hB⟩, -⟩ := hR; exact hB.1
  obtain ⟨r, h1, h2, e1, k1, e2, hR2⟩ := sim_asked (xs (Int32.toNatClampNeg (nI (k + 1)))) (xs (Int32.toNatClampNeg (nI (k + 2)))) (xs (Int32.toNatClampNeg (nI (k + 3)))) (xs (Int32.toNatClampNeg (nI (k + 4)))) (xs (Int32.toNatClampNeg (nI (k + 5)))) h hR
  refine ⟨h2, hR2, ?_⟩
  have a1 : nI k + 1 = nI (k + 1) := nI_add k 1
  have a2 : nI k + 2 = nI (k + 2) := nI_add k 2
  have a3 : nI k + 3 = nI (k + 3) := nI_add k 3
  have a4 : nI k + 4 = nI (k + 4) := nI_add k 4
  have a5 : nI k + 5 = nI (k + 5) := nI_add k 5
  have a7 : nI k + 7 = nI (k + 7) := nI_add k 7
  have gd1 : decide True = true := rfl
  have k0 : h.1 z = 11 := fk_0 hF
  simp only [lc_5, a1, gd_e (ix_nI (p := k + 1) (N := L) (by omega) (by omega)), a2, gd_e (ix_nI (p := k + 2) (N := L) (by omega) (by omega)), a3, gd_e (ix_nI (p := k + 3) (N := L) (by omega) (by omega)), a4, gd_e (ix_nI (p := k + 4) (N := L) (by omega) (by omega)), a5, gd_e (ix_nI (p := k + 5) (N := L) (by omega) (by omega)), k0, gk_s, e1, b2_s, k1, e2, gd_e gd1, nm_d, a7]
theorem lk_6 (hR : Rel z h) (hk : k + 7 ≤ L) (hL : L ≤ 3584) : ∃ h', Rel z h' ∧ lc_6 xs L rc z (z + 43) (nI k) h = rc z (z + 43) (nI (k + 7)) h' := by
  have hF : fxd z h := by obtain ⟨⟨D, n, ng, pa, ba, la, ca, hB⟩, -⟩ := hR; exact hB.1
  obtain ⟨r, h1, h2, e1, k1, e2, hR2⟩ := sim_change (xs (Int32.toNatClampNeg (nI (k + 1)))) (xs (Int32.toNatClampNeg (nI (k + 2)))) (xs (Int32.toNatClampNeg (nI (k + 3)))) (xs (Int32.toNatClampNeg (nI (k + 4)))) h hR
  refine ⟨h2, hR2, ?_⟩
  have a1 : nI k + 1 = nI (k + 1) := nI_add k 1
  have a2 : nI k + 2 = nI (k + 2) := nI_add k 2
  have a3 : nI k + 3 = nI (k + 3) := nI_add k 3
  have a4 : nI k + 4 = nI (k + 4) := nI_add k 4
  have a7 : nI k + 7 = nI (k + 7) := nI_add k 7
  have gd1 : decide True = true := rfl
  have k0 : h.1 z = 11 := fk_0 hF
  simp only [lc_6, a1, gd_e (ix_nI (p := k + 1) (N := L) (by omega) (by omega)), a2, gd_e (ix_nI (p := k + 2) (N := L) (by omega) (by omega)), a3, gd_e (ix_nI (p := k + 3) (N := L) (by omega) (by omega)), a4, gd_e (ix_nI (p := k + 4) (N := L) (by omega) (by omega)), k0, gk_s, e1, b2_s, k1, e2, gd_e gd1, nm_d, a7]
theorem lk_7 (hR : Rel z h) (hk : k + 7 ≤ L) (hL : L ≤ 3584) : ∃ h', Rel z h' ∧ lc_7 xs L rc z (z + 43) (nI k) h = rc z (z + 43) (nI (k + 7)) h' := by
  have hF : fxd z h := by obtain ⟨⟨D, n, ng, pa, ba, la, ca, hB⟩, -⟩ := hR; exact hB.1
  obtain ⟨r, h1, h2, e1, k1, e2, hR2⟩ := sim_swap (xs (Int32.toNatClampNeg (nI (k + 1)))) (xs (Int32.toNatClampNeg (nI (k + 2)))) (xs (Int32.toNatClampNeg (nI (k + 3)))) h hR
  refine ⟨h2, hR2, ?_⟩
  have a1 : nI k + 1 = nI (k + 1) := nI_add k 1
  have a2 : nI k + 2 = nI (k + 2) := nI_add k 2
  have a3 : nI k + 3 = nI (k + 3) := nI_add k 3
  have a7 : nI k + 7 = nI (k + 7) := nI_add k 7
  have gd1 : decide True = true := rfl
  have k0 : h.1 z = 11 := fk_0 hF
  simp only [lc_7, a1, gd_e (ix_nI (p := k + 1) (N := L) (by omega) (by omega)), a2, gd_e (ix_nI (p := k + 2) (N := L) (by omega) (by omega)), a3, gd_e (ix_nI (p := k + 3) (N := L) (by omega) (by omega)), k0, gk_s, e1, b2_s, k1, e2, gd_e gd1, nm_d, a7]
theorem lk_8 (hR : Rel z h) (hk : k + 7 ≤ L) (hL : L ≤ 3584) : ∃ h', Rel z h' ∧ lc_8 xs L rc z (z + 43) (nI k) h = rc z (z + 43) (nI (k + 7)) h' := by
  have hF : fxd z h := by obtain ⟨⟨D, n, ng, pa, ba, la, ca, hB⟩, -⟩ := hR; exact hB.1
  obtain ⟨r, h1, h2, e1, k1, e2, hR2⟩ := sim_place (xs (Int32.toNatClampNeg (nI (k + 1)))) (xs (Int32.toNatClampNeg (nI (k + 2)))) h hR
  refine ⟨h2, hR2, ?_⟩
  have a1 : nI k + 1 = nI (k + 1) := nI_add k 1
  have a2 : nI k + 2 = nI (k + 2) := nI_add k 2
  have a7 : nI k + 7 = nI (k + 7) := nI_add k 7
  have gd1 : decide True = true := rfl
  have k0 : h.1 z = 11 := fk_0 hF
  simp only [lc_8, a1, gd_e (ix_nI (p := k + 1) (N := L) (by omega) (by omega)), a2, gd_e (ix_nI (p := k + 2) (N := L) (by omega) (by omega)), k0, gk_s, e1, b2_s, k1, e2, gd_e gd1, nm_d, a7]
theorem lk_9 (hR : Rel z h) (hk : k + 7 ≤ L) (hL : L ≤ 3584) : ∃ h', Rel z h' ∧ lc_9 xs L rc z (z + 43) (nI k) h = rc z (z + 43) (nI (k + 7)) h' := by
  have hF : fxd z h := by obtain ⟨⟨D, n, ng, pa, ba, la, ca, hB⟩, -⟩ := hR; exact hB.1
  obtain ⟨r, h1, h2, e1, k1, e2, hR2⟩ := sim_lineOf (xs (Int32.toNatClampNeg (nI (k + 1)))) (xs (Int32.toNatClampNeg (nI (k + 2)))) (xs (Int32.toNatClampNeg (nI (k + 3)))) h hR
  refine ⟨h2, hR2, ?_⟩
  have a1 : nI k + 1 = nI (k + 1) := nI_add k 1
  have a2 : nI k + 2 = nI (k + 2) := nI_add k 2
  have a3 : nI k + 3 = nI (k + 3) := nI_add k 3
  have a7 : nI k + 7 = nI (k + 7) := nI_add k 7
  have gd1 : decide True = true := rfl
  have k0 : h.1 z = 11 := fk_0 hF
  simp only [lc_9, a1, gd_e (ix_nI (p := k + 1) (N := L) (by omega) (by omega)), a2, gd_e (ix_nI (p := k + 2) (N := L) (by omega) (by omega)), a3, gd_e (ix_nI (p := k + 3) (N := L) (by omega) (by omega)), k0, gk_s, e1, b2_s, k1, e2, gd_e gd1, nm_d, a7]
theorem lk_10 (hR : Rel z h) (hk : k + 7 ≤ L) (hL : L ≤ 3584) : ∃ h', Rel z h' ∧ lc_10 xs L rc z (z + 43) (nI k) h = rc z (z + 43) (nI (k + 7)) h' := by
  have hF : fxd z h := by obtain ⟨⟨D, n, ng, pa, ba, la, ca, hB⟩, -⟩ := hR; exact hB.1
  obtain ⟨r, h1, h2, e1, k1, e2, hR2⟩ := sim_ring (xs (Int32.toNatClampNeg (nI (k + 1)))) (xs (Int32.toNatClampNeg (nI (k + 2)))) (xs (Int32.toNatClampNeg (nI (k + 3)))) (xs (Int32.toNatClampNeg (nI (k + 4)))) (xs (Int32.toNatClampNeg (nI (k + 5)))) h hR
  refine ⟨h2, hR2, ?_⟩
  have a1 : nI k + 1 = nI (k + 1) := nI_add k 1
  have a2 : nI k + 2 = nI (k + 2) := nI_add k 2
  have a3 : nI k + 3 = nI (k + 3) := nI_add k 3
  have a4 : nI k + 4 = nI (k + 4) := nI_add k 4
  have a5 : nI k + 5 = nI (k + 5) := nI_add k 5
  have a7 : nI k + 7 = nI (k + 7) := nI_add k 7
  have gd1 : decide True = true := rfl
  have k0 : h.1 z = 11 := fk_0 hF
  simp only [lc_10, a1, gd_e (ix_nI (p := k + 1) (N := L) (by omega) (by omega)), a2, gd_e (ix_nI (p := k + 2) (N := L) (by omega) (by omega)), a3, gd_e (ix_nI (p := k + 3) (N := L) (by omega) (by omega)), a4, gd_e (ix_nI (p := k + 4) (N := L) (by omega) (by omega)), a5, gd_e (ix_nI (p := k + 5) (N := L) (by omega) (by omega)), k0, gk_s, e1, b2_s, k1, e2, gd_e gd1, nm_d, a7]
theorem lk_11 (hR : Rel z h) (hk : k + 7 ≤ L) (hL : L ≤ 3584) : ∃ h', Rel z h' ∧ lc_11 xs L rc z (z + 43) (nI k) h = rc z (z + 43) (nI (k + 7)) h' := by
  have hF : fxd z h := by obtain ⟨⟨D, n, ng, pa, ba, la, ca, hB⟩, -⟩ := hR; exact hB.1
  obtain ⟨r, h1, h2, e1, k1, e2, hR2⟩ := sim_call (xs (Int32.toNatClampNeg (nI (k + 1)))) h hR
  refine ⟨h2, hR2, ?_⟩
  have a1 : nI k + 1 = nI (k + 1) := nI_add k 1
  have a7 : nI k + 7 = nI (k + 7) := nI_add k 7
  have gd1 : decide True = true := rfl
  have k0 : h.1 z = 11 := fk_0 hF
  simp only [lc_11, a1, gd_e (ix_nI (p := k + 1) (N := L) (by omega) (by omega)), k0, gk_s, e1, b2_s, k1, e2, gd_e gd1, nm_d, a7]
theorem lk_12 (hR : Rel z h) (hk : k + 7 ≤ L) (hL : L ≤ 3584) : ∃ h', Rel z h' ∧ lc_12 xs L rc z (z + 43) (nI k) h = rc z (z + 43) (nI (k + 7)) h' := by
  have hF : fxd z h := by obtain ⟨⟨D, n, ng, pa, ba, la, ca, hB⟩, -⟩ := hR; exact hB.1
  obtain ⟨r, h1, h2, e1, k1, e2, hR2⟩ := sim_came (xs (Int32.toNatClampNeg (nI (k + 1)))) h hR
  refine ⟨h2, hR2, ?_⟩
  have a1 : nI k + 1 = nI (k + 1) := nI_add k 1
  have a7 : nI k + 7 = nI (k + 7) := nI_add k 7
  have gd1 : decide True = true := rfl
  have k0 : h.1 z = 11 := fk_0 hF
  simp only [lc_12, a1, gd_e (ix_nI (p := k + 1) (N := L) (by omega) (by omega)), k0, gk_s, e1, b2_s, k1, e2, gd_e gd1, nm_d, a7]
theorem lk_13 (hR : Rel z h) (hk : k + 7 ≤ L) (hL : L ≤ 3584) : ∃ h', Rel z h' ∧ lc_13 xs L rc z (z + 43) (nI k) h = rc z (z + 43) (nI (k + 7)) h' := by
  have hF : fxd z h := by obtain ⟨⟨D, n, ng, pa, ba, la, ca, hB⟩, -⟩ := hR; exact hB.1
  obtain ⟨r, h1, h2, e1, k1, e2, hR2⟩ := sim_pressed (xs (Int32.toNatClampNeg (nI (k + 1)))) h hR
  refine ⟨h2, hR2, ?_⟩
  have a1 : nI k + 1 = nI (k + 1) := nI_add k 1
  have a7 : nI k + 7 = nI (k + 7) := nI_add k 7
  have gd1 : decide True = true := rfl
  have k0 : h.1 z = 11 := fk_0 hF
  simp only [lc_13, a1, gd_e (ix_nI (p := k + 1) (N := L) (by omega) (by omega)), k0, gk_s, e1, b2_s, k1, e2, gd_e gd1, nm_d, a7]
theorem lk_14 (hR : Rel z h) (hk : k + 7 ≤ L) (hL : L ≤ 3584) : ∃ h', Rel z h' ∧ lc_14 xs L rc z (z + 43) (nI k) h = rc z (z + 43) (nI (k + 7)) h' := by
  have hF : fxd z h := by obtain ⟨⟨D, n, ng, pa, ba, la, ca, hB⟩, -⟩ := hR; exact hB.1
  obtain ⟨r, h1, h2, e1, k1, e2, hR2⟩ := sim_fewest (xs (Int32.toNatClampNeg (nI (k + 1)))) (xs (Int32.toNatClampNeg (nI (k + 2)))) (xs (Int32.toNatClampNeg (nI (k + 3)))) (xs (Int32.toNatClampNeg (nI (k + 4)))) h hR
  refine ⟨h2, hR2, ?_⟩
  have a1 : nI k + 1 = nI (k + 1) := nI_add k 1
  have a2 : nI k + 2 = nI (k + 2) := nI_add k 2
  have a3 : nI k + 3 = nI (k + 3) := nI_add k 3
  have a4 : nI k + 4 = nI (k + 4) := nI_add k 4
  have a7 : nI k + 7 = nI (k + 7) := nI_add k 7
  have gd1 : decide True = true := rfl
  have k0 : h.1 z = 11 := fk_0 hF
  simp only [lc_14, a1, gd_e (ix_nI (p := k + 1) (N := L) (by omega) (by omega)), a2, gd_e (ix_nI (p := k + 2) (N := L) (by omega) (by omega)), a3, gd_e (ix_nI (p := k + 3) (N := L) (by omega) (by omega)), a4, gd_e (ix_nI (p := k + 4) (N := L) (by omega) (by omega)), k0, gk_s, e1, b2_s, k1, e2, gd_e gd1, nm_d, a7]
theorem lk_15 (hR : Rel z h) (hk : k + 7 ≤ L) (hL : L ≤ 3584) : ∃ h', Rel z h' ∧ lc_15 xs L rc z (z + 43) (nI k) h = rc z (z + 43) (nI (k + 7)) h' := by
  have hF : fxd z h := by obtain ⟨⟨D, n, ng, pa, ba, la, ca, hB⟩, -⟩ := hR; exact hB.1
  obtain ⟨r, h1, h2, e1, k1, e2, hR2⟩ := sim_trap (xs (Int32.toNatClampNeg (nI (k + 1)))) (xs (Int32.toNatClampNeg (nI (k + 2)))) h hR
  refine ⟨h2, hR2, ?_⟩
  have a1 : nI k + 1 = nI (k + 1) := nI_add k 1
  have a2 : nI k + 2 = nI (k + 2) := nI_add k 2
  have a7 : nI k + 7 = nI (k + 7) := nI_add k 7
  have gd1 : decide True = true := rfl
  have k0 : h.1 z = 11 := fk_0 hF
  simp only [lc_15, a1, gd_e (ix_nI (p := k + 1) (N := L) (by omega) (by omega)), a2, gd_e (ix_nI (p := k + 2) (N := L) (by omega) (by omega)), k0, gk_s, e1, b2_s, k1, e2, gd_e gd1, nm_d, a7]
theorem lk_16 (hR : Rel z h) (hk : k + 7 ≤ L) (hL : L ≤ 3584) : ∃ h', Rel z h' ∧ lc_16 xs L rc z (z + 43) (nI k) h = rc z (z + 43) (nI (k + 7)) h' := by
  have hF : fxd z h := by obtain ⟨⟨D, n, ng, pa, ba, la, ca, hB⟩, -⟩ := hR; exact hB.1
  obtain ⟨r, h1, h2, e1, k1, e2, hR2⟩ := sim_group (xs (Int32.toNatClampNeg (nI (k + 1)))) (xs (Int32.toNatClampNeg (nI (k + 2)))) (xs (Int32.toNatClampNeg (nI (k + 3)))) (xs (Int32.toNatClampNeg (nI (k + 4)))) (xs (Int32.toNatClampNeg (nI (k + 5)))) (xs (Int32.toNatClampNeg (nI (k + 6)))) h hR
  refine ⟨h2, hR2, ?_⟩
  have a1 : nI k + 1 = nI (k + 1) := nI_add k 1
  have a2 : nI k + 2 = nI (k + 2) := nI_add k 2
  have a3 : nI k + 3 = nI (k + 3) := nI_add k 3
  have a4 : nI k + 4 = nI (k + 4) := nI_add k 4
  have a5 : nI k + 5 = nI (k + 5) := nI_add k 5
  have a6 : nI k + 6 = nI (k + 6) := nI_add k 6
  have a7 : nI k + 7 = nI (k + 7) := nI_add k 7
  have gd1 : decide True = true := rfl
  have k0 : h.1 z = 11 := fk_0 hF
  simp only [lc_16, a1, gd_e (ix_nI (p := k + 1) (N := L) (by omega) (by omega)), a2, gd_e (ix_nI (p := k + 2) (N := L) (by omega) (by omega)), a3, gd_e (ix_nI (p := k + 3) (N := L) (by omega) (by omega)), a4, gd_e (ix_nI (p := k + 4) (N := L) (by omega) (by omega)), a5, gd_e (ix_nI (p := k + 5) (N := L) (by omega) (by omega)), a6, gd_e (ix_nI (p := k + 6) (N := L) (by omega) (by omega)), k0, gk_s, e1, b2_s, k1, e2, gd_e gd1, nm_d, a7]
theorem lk_17 (hR : Rel z h) (hk : k + 7 ≤ L) (hL : L ≤ 3584) : ∃ h', Rel z h' ∧ lc_17 xs L rc z (z + 43) (nI k) h = rc z (z + 43) (nI (k + 7)) h' := by
  have hF : fxd z h := by obtain ⟨⟨D, n, ng, pa, ba, la, ca, hB⟩, -⟩ := hR; exact hB.1
  obtain ⟨r, h1, h2, e1, k1, e2, hR2⟩ := sim_noGroups  h hR
  refine ⟨h2, hR2, ?_⟩
  have a7 : nI k + 7 = nI (k + 7) := nI_add k 7
  have gd1 : decide True = true := rfl
  have k0 : h.1 z = 11 := fk_0 hF
  simp only [lc_17, k0, gk_s, e1, b2_s, k1, e2, gd_e gd1, nm_d, a7]
theorem lk_18 (hR : Rel z h) (hk : k + 7 ≤ L) (hL : L ≤ 3584) : ∃ h', Rel z h' ∧ lc_18 xs L rc z (z + 43) (nI k) h = rc z (z + 43) (nI (k + 7)) h' := by
  have hF : fxd z h := by obtain ⟨⟨D, n, ng, pa, ba, la, ca, hB⟩, -⟩ := hR; exact hB.1
  obtain ⟨r, h1, h2, e1, k1, e2, hR2⟩ := sim_sum (xs (Int32.toNatClampNeg (nI (k + 1)))) h hR
  refine ⟨h2, hR2, ?_⟩
  have a1 : nI k + 1 = nI (k + 1) := nI_add k 1
  have a7 : nI k + 7 = nI (k + 7) := nI_add k 7
  have gd1 : decide True = true := rfl
  have k0 : h.1 z = 11 := fk_0 hF
  simp only [lc_18, a1, gd_e (ix_nI (p := k + 1) (N := L) (by omega) (by omega)), k0, gk_s, e1, b2_s, k1, e2, gd_e gd1, nm_d, a7]
theorem lk_19 (hR : Rel z h) (hk : k + 7 ≤ L) (hL : L ≤ 3584) : ∃ h', Rel z h' ∧ lc_19 xs L rc z (z + 43) (nI k) h = rc z (z + 43) (nI (k + 7)) h' := by
  have hF : fxd z h := by obtain ⟨⟨D, n, ng, pa, ba, la, ca, hB⟩, -⟩ := hR; exact hB.1
  obtain ⟨r, h1, h2, e1, k1, e2, hR2⟩ := sim_hung (xs (Int32.toNatClampNeg (nI (k + 1)))) h hR
  refine ⟨h2, hR2, ?_⟩
  have a1 : nI k + 1 = nI (k + 1) := nI_add k 1
  have a7 : nI k + 7 = nI (k + 7) := nI_add k 7
  have gd1 : decide True = true := rfl
  have k0 : h.1 z = 11 := fk_0 hF
  simp only [lc_19, a1, gd_e (ix_nI (p := k + 1) (N := L) (by omega) (by omega)), k0, gk_s, e1, b2_s, k1, e2, gd_e gd1, nm_d, a7]
theorem lk_20 (hR : Rel z h) (hk : k + 7 ≤ L) (hL : L ≤ 3584) : ∃ h', Rel z h' ∧ lc_20 xs L rc z (z + 43) (nI k) h = rc z (z + 43) (nI (k + 7)) h' := by
  have hF : fxd z h := by obtain ⟨⟨D, n, ng, pa, ba, la, ca, hB⟩, -⟩ := hR; exact hB.1
  obtain ⟨r, h1, h2, e1, k1, e2, hR2⟩ := sim_order (xs (Int32.toNatClampNeg (nI (k + 1)))) (xs (Int32.toNatClampNeg (nI (k + 2)))) h hR
  refine ⟨h2, hR2, ?_⟩
  have a1 : nI k + 1 = nI (k + 1) := nI_add k 1
  have a2 : nI k + 2 = nI (k + 2) := nI_add k 2
  have a7 : nI k + 7 = nI (k + 7) := nI_add k 7
  have gd1 : decide True = true := rfl
  have k0 : h.1 z = 11 := fk_0 hF
  simp only [lc_20, a1, gd_e (ix_nI (p := k + 1) (N := L) (by omega) (by omega)), a2, gd_e (ix_nI (p := k + 2) (N := L) (by omega) (by omega)), k0, gk_s, e1, b2_s, k1, e2, gd_e gd1, nm_d, a7]
theorem lk_21 (hR : Rel z h) (hk : k + 7 ≤ L) (hL : L ≤ 3584) : ∃ h', Rel z h' ∧ lc_21 xs L rc z (z + 43) (nI k) h = rc z (z + 43) (nI (k + 7)) h' := by
  have hF : fxd z h := by obtain ⟨⟨D, n, ng, pa, ba, la, ca, hB⟩, -⟩ := hR; exact hB.1
  obtain ⟨r, h1, h2, e1, k1, e2, hR2⟩ := sim_arrange (xs (Int32.toNatClampNeg (nI (k + 1)))) h hR
  refine ⟨h2, hR2, ?_⟩
  have a1 : nI k + 1 = nI (k + 1) := nI_add k 1
  have a7 : nI k + 7 = nI (k + 7) := nI_add k 7
  have gd1 : decide True = true := rfl
  have k0 : h.1 z = 11 := fk_0 hF
  simp only [lc_21, a1, gd_e (ix_nI (p := k + 1) (N := L) (by omega) (by omega)), k0, gk_s, e1, b2_s, k1, e2, gd_e gd1, nm_d, a7]
theorem lk_22 (hR : Rel z h) (hk : k + 7 ≤ L) (hL : L ≤ 3584) : ∃ h', Rel z h' ∧ lc_22 xs L rc z (z + 43) (nI k) h = rc z (z + 43) (nI (k + 7)) h' := by
  have hF : fxd z h := by obtain ⟨⟨D, n, ng, pa, ba, la, ca, hB⟩, -⟩ := hR; exact hB.1
  obtain ⟨r, h1, h2, e1, k1, e2, hR2⟩ := sim_wish (xs (Int32.toNatClampNeg (nI (k + 1)))) (xs (Int32.toNatClampNeg (nI (k + 2)))) (xs (Int32.toNatClampNeg (nI (k + 3)))) h hR
  refine ⟨h2, hR2, ?_⟩
  have a1 : nI k + 1 = nI (k + 1) := nI_add k 1
  have a2 : nI k + 2 = nI (k + 2) := nI_add k 2
  have a3 : nI k + 3 = nI (k + 3) := nI_add k 3
  have a7 : nI k + 7 = nI (k + 7) := nI_add k 7
  have gd1 : decide True = true := rfl
  have k0 : h.1 z = 11 := fk_0 hF
  simp only [lc_22, a1, gd_e (ix_nI (p := k + 1) (N := L) (by omega) (by omega)), a2, gd_e (ix_nI (p := k + 2) (N := L) (by omega) (by omega)), a3, gd_e (ix_nI (p := k + 3) (N := L) (by omega) (by omega)), k0, gk_s, e1, b2_s, k1, e2, gd_e gd1, nm_d, a7]
theorem lk_23 (hR : Rel z h) (hk : k + 7 ≤ L) (hL : L ≤ 3584) : ∃ h', Rel z h' ∧ lc_23 xs L rc z (z + 43) (nI k) h = rc z (z + 43) (nI (k + 7)) h' := by
  have hF : fxd z h := by obtain ⟨⟨D, n, ng, pa, ba, la, ca, hB⟩, -⟩ := hR; exact hB.1
  obtain ⟨r, h1, h2, e1, k1, e2, hR2⟩ := sim_plan (xs (Int32.toNatClampNeg (nI (k + 1)))) (xs (Int32.toNatClampNeg (nI (k + 2)))) (xs (Int32.toNatClampNeg (nI (k + 3)))) h hR
  refine ⟨h2, hR2, ?_⟩
  have a1 : nI k + 1 = nI (k + 1) := nI_add k 1
  have a2 : nI k + 2 = nI (k + 2) := nI_add k 2
  have a3 : nI k + 3 = nI (k + 3) := nI_add k 3
  have a7 : nI k + 7 = nI (k + 7) := nI_add k 7
  have gd1 : decide True = true := rfl
  have k0 : h.1 z = 11 := fk_0 hF
  simp only [lc_23, a1, gd_e (ix_nI (p := k + 1) (N := L) (by omega) (by omega)), a2, gd_e (ix_nI (p := k + 2) (N := L) (by omega) (by omega)), a3, gd_e (ix_nI (p := k + 3) (N := L) (by omega) (by omega)), k0, gk_s, e1, b2_s, k1, e2, gd_e gd1, nm_d, a7]
theorem lk_24 (hR : Rel z h) (hk : k + 7 ≤ L) (hL : L ≤ 3584) : ∃ h', Rel z h' ∧ lc_24 xs L rc z (z + 43) (nI k) h = rc z (z + 43) (nI (k + 7)) h' := by
  have hF : fxd z h := by obtain ⟨⟨D, n, ng, pa, ba, la, ca, hB⟩, -⟩ := hR; exact hB.1
  obtain ⟨r, h1, h2, e1, k1, e2, hR2⟩ := sim_planned (xs (Int32.toNatClampNeg (nI (k + 1)))) (xs (Int32.toNatClampNeg (nI (k + 2)))) h hR
  refine ⟨h2, hR2, ?_⟩
  have a1 : nI k + 1 = nI (k + 1) := nI_add k 1
  have a2 : nI k + 2 = nI (k + 2) := nI_add k 2
  have a7 : nI k + 7 = nI (k + 7) := nI_add k 7
  have gd1 : decide True = true := rfl
  have k0 : h.1 z = 11 := fk_0 hF
  simp only [lc_24, a1, gd_e (ix_nI (p := k + 1) (N := L) (by omega) (by omega)), a2, gd_e (ix_nI (p := k + 2) (N := L) (by omega) (by omega)), k0, gk_s, e1, b2_s, k1, e2, gd_e gd1, nm_d, a7]
theorem lk_25 (hR : Rel z h) (hk : k + 7 ≤ L) (hL : L ≤ 3584) : ∃ h', Rel z h' ∧ lc_25 xs L rc z (z + 43) (nI k) h = rc z (z + 43) (nI (k + 7)) h' := by
  have hF : fxd z h := by obtain ⟨⟨D, n, ng, pa, ba, la, ca, hB⟩, -⟩ := hR; exact hB.1
  obtain ⟨r, h1, h2, e1, k1, e2, hR2⟩ := sim_count (xs (Int32.toNatClampNeg (nI (k + 1)))) h hR
  refine ⟨h2, hR2, ?_⟩
  have a1 : nI k + 1 = nI (k + 1) := nI_add k 1
  have a7 : nI k + 7 = nI (k + 7) := nI_add k 7
  have gd1 : decide True = true := rfl
  have k0 : h.1 z = 11 := fk_0 hF
  simp only [lc_25, a1, gd_e (ix_nI (p := k + 1) (N := L) (by omega) (by omega)), k0, gk_s, e1, b2_s, k1, e2, gd_e gd1, nm_d, a7]
theorem lk_x (hR : Rel z h) (hk : k + 7 ≤ L) (hL : L ≤ 3584) (x : Int32) : ∃ h', Rel z h' ∧ (if x = 0 then (lc_0 xs L rc z (z + 43) (nI k) h) else if x = 1 then (lc_1 xs L rc z (z + 43) (nI k) h) else if x = 2 then (lc_2 xs L rc z (z + 43) (nI k) h) else if x = 3 then (lc_3 xs L rc z (z + 43) (nI k) h) else if x = 4 then (lc_4 xs L rc z (z + 43) (nI k) h) else if x = 5 then (lc_5 xs L rc z (z + 43) (nI k) h) else if x = 6 then (lc_6 xs L rc z (z + 43) (nI k) h) else if x = 7 then (lc_7 xs L rc z (z + 43) (nI k) h) else if x = 8 then (lc_8 xs L rc z (z + 43) (nI k) h) else if x = 9 then (lc_9 xs L rc z (z + 43) (nI k) h) else if x = 10 then (lc_10 xs L rc z (z + 43) (nI k) h) else if x = 11 then (lc_11 xs L rc z (z + 43) (nI k) h) else if x = 12 then (lc_12 xs L rc z (z + 43) (nI k) h) else if x = 13 then (lc_13 xs L rc z (z + 43) (nI k) h) else if x = 14 then (lc_14 xs L rc z (z + 43) (nI k) h) else if x = 15 then (lc_15 xs L rc z (z + 43) (nI k) h) else if x = 16 then (lc_16 xs L rc z (z + 43) (nI k) h) else if x = 17 then (lc_17 xs L rc z (z + 43) (nI k) h) else if x = 18 then (lc_18 xs L rc z (z + 43) (nI k) h) else if x = 19 then (lc_19 xs L rc z (z + 43) (nI k) h) else if x = 20 then (lc_20 xs L rc z (z + 43) (nI k) h) else if x = 21 then (lc_21 xs L rc z (z + 43) (nI k) h) else if x = 22 then (lc_22 xs L rc z (z + 43) (nI k) h) else if x = 23 then (lc_23 xs L rc z (z + 43) (nI k) h) else if x = 24 then (lc_24 xs L rc z (z + 43) (nI k) h) else if x = 25 then (lc_25 xs L rc z (z + 43) (nI k) h) else (lc_26 xs L rc z (z + 43) (nI k) h)) = rc z (z + 43) (nI (k + 7)) h' := by
  by_cases c0 : x = 0
  · rw [if_pos c0]; exact lk_0 hR hk hL
  rw [if_neg c0]
  by_cases c1 : x = 1
  · rw [if_pos c1]; exact lk_1 hR hk hL
  rw [if_neg c1]
  by_cases c2 : x = 2
  · rw [if_pos c2]; exact lk_2 hR hk hL
  rw [if_neg c2]
  by_cases c3 : x = 3
  · rw [if_pos c3]; exact lk_3 hR hk hL
  rw [if_neg c3]
  by_cases c4 : x = 4
  · rw [if_pos c4]; exact lk_4 hR hk hL
  rw [if_neg c4]
  by_cases c5 : x = 5
  · rw [if_pos c5]; exact lk_5 hR hk hL
  rw [if_neg c5]
  by_cases c6 : x = 6
  · rw [if_pos c6]; exact lk_6 hR hk hL
  rw [if_neg c6]
  by_cases c7 : x = 7
  · rw [if_pos c7]; exact lk_7 hR hk hL
  rw [if_neg c7]
  by_cases c8 : x = 8
  · rw [if_pos c8]; exact lk_8 hR hk hL
  rw [if_neg c8]
  by_cases c9 : x = 9
  · rw [if_pos c9]; exact lk_9 hR hk hL
  rw [if_neg c9]
  by_cases c10 : x = 10
  · rw [if_pos c10]; exact lk_10 hR hk hL
  rw [if_neg c10]
  by_cases c11 : x = 11
  · rw [if_pos c11]; exact lk_11 hR hk hL
  rw [if_neg c11]
  by_cases c12 : x = 12
  · rw [if_pos c12]; exact lk_12 hR hk hL
  rw [if_neg c12]
  by_cases c13 : x = 13
  · rw [if_pos c13]; exact lk_13 hR hk hL
  rw [if_neg c13]
  by_cases c14 : x = 14
  · rw [if_pos c14]; exact lk_14 hR hk hL
  rw [if_neg c14]
  by_cases c15 : x = 15
  · rw [if_pos c15]; exact lk_15 hR hk hL
  rw [if_neg c15]
  by_cases c16 : x = 16
  · rw [if_pos c16]; exact lk_16 hR hk hL
  rw [if_neg c16]
  by_cases c17 : x = 17
  · rw [if_pos c17]; exact lk_17 hR hk hL
  rw [if_neg c17]
  by_cases c18 : x = 18
  · rw [if_pos c18]; exact lk_18 hR hk hL
  rw [if_neg c18]
  by_cases c19 : x = 19
  · rw [if_pos c19]; exact lk_19 hR hk hL
  rw [if_neg c19]
  by_cases c20 : x = 20
  · rw [if_pos c20]; exact lk_20 hR hk hL
  rw [if_neg c20]
  by_cases c21 : x = 21
  · rw [if_pos c21]; exact lk_21 hR hk hL
  rw [if_neg c21]
  by_cases c22 : x = 22
  · rw [if_pos c22]; exact lk_22 hR hk hL
  rw [if_neg c22]
  by_cases c23 : x = 23
  · rw [if_pos c23]; exact lk_23 hR hk hL
  rw [if_neg c23]
  by_cases c24 : x = 24
  · rw [if_pos c24]; exact lk_24 hR hk hL
  rw [if_neg c24]
  by_cases c25 : x = 25
  · rw [if_pos c25]; exact lk_25 hR hk hL
  rw [if_neg c25]
  exact ⟨h, hR, by simp only [lc_26, nm_d]; rw [show nI k + 7 = nI (k + 7) from nI_add k 7]⟩
theorem L7 (hL : L ≤ 3584) (hk : k ≤ 3584) : (Int32.ofNat L - 7 < nI k) = (L < k + 7) := by
  by_cases q : 7 ≤ L
  · have e : Int32.ofNat L - 7 = nI (L - 7) := nI_sub (a := L) (b := 7) q
    rw [e, nI_lt' (by omega) (by omega)]
    apply propext
    omega
  · apply propext
    refine ⟨fun _ => by omega, fun _ => ?_⟩
    have h0 : Int32.ofNat L - 7 < 0 := by
      rcases (show L = 0 ∨ L = 1 ∨ L = 2 ∨ L = 3 ∨ L = 4 ∨ L = 5 ∨ L = 6 by omega) with rfl | rfl | rfl | rfl | rfl | rfl | rfl <;> decide
    exact Int32.lt_of_lt_of_le h0 (nI_pos' (by omega))
theorem l_loop (hL : L ≤ 3584) : ∀ (f k : Nat) (h : Hp), Rel z h → k ≤ 3584 → L < k + 7 * (f + 1) → fx (lb xs L) (fun _ _ _ _ => none) (f + 1) z (z + 43) (nI k) h = some () := by
  intro f
  induction f with
  | zero =>
    intro k h hR hk hlt
    rw [fx_s]
    simp only [lb, L7 hL hk, if_pos (show L < k + 7 by omega)]
  | succ f ih =>
    intro k h hR hk hlt
    by_cases q : L < k + 7
    · rw [fx_s]
      simp only [lb, L7 hL hk, if_pos q]
    · obtain ⟨h', hR', e⟩ := lk_x (rc := fx (lb xs L) (fun _ _ _ _ => none) (f + 1)) (xs := xs) hR (show k + 7 ≤ L by omega) hL ((xs (Int32.toNatClampNeg (nI k))) &&& 31)
      rw [fx_s]
      simp only [lb, L7 hL hk, if_neg q, gd_e (ix_nI (p := k) (N := L) (by omega) (by omega)), nm_d]
      rw [e]
      exact ih (k + 7) h' hR' (by omega) (by omega)
theorem fL_ok (xs : Nat → Int32) (L : Nat) (hL : L ≤ 3584) (z : Nat) : fL xs L (hp_0 z) = some () := by
  have S0 : Sh z tb_0 (hp_0 z) := ⟨rfl, fun c hc => absurd hc (by rw [tz_0]; exact Nat.not_lt_zero c)⟩
  have S1 : Sh z tb_1 (hp_nw (hp_0 z) 11 0) := S0.nw 11 0
  obtain ⟨h1, e1, S2⟩ := in_X10 S1
  have z1 : h1.2.2.2.2 = z + 43 := S2.sz tz_83
  obtain ⟨h2, e2, S3⟩ := in_X11 (S2.nwm tz_83 12 0)
  have hR := rel_0 S3
  have e1' : fX10_init z (hp_nw (hp_0 z) 11 0) = some ((), h1) := e1
  have zz : (hp_0 z).2.2.2.2 = z := rfl
  simp only [fL, nm_d, zz, e1', b2_s, z1, e2]
  exact l_loop hL 513 0 h2 hR (by omega) (by omega)
end
