/-! the order of a menu's lines: the model; order -/
section
variable {z b : Nat} {h : Hp} {D : Nat → Nat → Int32} {n ng : Nat} {pa ba : Nat → Nat} {la : Nat → Nat → Nat} {ca : Nat → Nat} {g p s : Nat} {C : Nat → Int32}
theorem m_23_l (hp : p < n) : ∀ (d i f : Nat) (h : Hp), RelB z h D n ng pa ba la ca → i + d = ng → d < f → (∀ j, j < 6 → h.2.2.1 (z + 75) j = CL D n p i j) → ∃ h', fx bX11_layOrder_23 (fun _ _ _ _ => none) f (z + 43) (nI p) (nI i) h = fX11_layOrder_139 (z + 43) (nI p) 0 h' ∧ Fr z SO h h' ∧ ∀ j, j < 6 → h'.2.2.1 (z + 75) j = CL D n p ng j := by
  intro d
  induction d with
  | zero =>
    intro i f h hR hi hf hrow
    obtain ⟨f, rfl⟩ : ∃ k, f = k + 1 := ⟨f - 1, by omega⟩
    obtain rfl : i = ng := by omega
    have hF := hR.1
    obtain ⟨g1, g2, g3⟩ := rb_ng hR
    refine ⟨h, ?_, Fr.rf, hrow⟩
    rw [fx_s]
    simp only [bX11_layOrder_23, fk_43 hF, gk_s, g2, if_pos (nI_le (Nat.le_refl i) (by omega))]
  | succ d ih =>
    intro i f h hR hi hf hrow
    obtain ⟨f, rfl⟩ : ∃ k, f = k + 1 := ⟨f - 1, by omega⟩
    have hF := hR.1
    obtain ⟨g1, g2, g3⟩ := rb_ng hR
    have n40 := (rb_n hR).2.2
    obtain ⟨hs, h6⟩ := sz_toN hR hp
    have nfb := NF_big
    obtain ⟨r, h1, hw, e1, f1, c1⟩ := m_callOf hR (by omega) (g := i) (by omega)
    have hR1 := f1.relB SM_ess hR
    have hF1 := hR1.1
    obtain ⟨cl, -, -, -, -, -, bse, -⟩ := c1
    have bsp : h1.2.2.1 (z + 69) p = r.2.2.2.2.2.1 p := bse p (by omega)
    have m1 : ∀ c k, SO c k = false → SM c k = false := fun c k q => by
      unfold SO at q
      rw [Bool.or_eq_false_iff, Bool.or_eq_false_iff] at q
      exact q.1.1
    have row1 : ∀ j, j < 6 → h1.2.2.1 (z + 75) j = CL D n p i j := fun j hj => by rw [f1.2.2.2.2.1 75 j (by decide) rfl]; exact hrow j hj
    obtain ⟨F, eF⟩ : ∃ F, NF = F + 1 := ⟨NF - 1, by omega⟩
    have hgo : fx bX11_layOrder_23 (fun _ _ _ _ => none) (f + 1) (z + 43) (nI p) (nI i) h = fx (bX11_layOrder_65 (fx bX11_layOrder_23 (fun _ _ _ _ => none) f)) (fun _ _ _ _ _ _ => none) (F + 1) (z + 43) (nI p) (nI i) (if D 63 i = 0 ∧ ¬ r.2.2.2.2.2.1 p = 0 then 1 else 0) (nI 0) h1 := by
      rw [fx_s]
      simp only [bX11_layOrder_23, fk_43 hF, gk_s, g2, if_neg (nI_ge (show i < ng by omega) (by omega)), e1, b2_s, fk_43 hF1, fr_43_42 hF1, bd_s, fk_69 hF1, fl_69 hF1, gd_e (ix_nI (p := p) (N := 40) (by omega) (by decide)), nI_clamp (n := p) (by omega), bsp, fr_43_21 hF1, fk_63 hF1, fl_63 hF1, gd_e (ix_nI (p := i) (N := 12) (by omega) (by decide)), nI_clamp (n := i) (by omega), rb_ess hR1 63 i (by decide) rfl, fX11_layOrder_65, eF]
      by_cases q1 : r.2.2.2.2.2.1 p = 0
      · rw [if_pos q1, if_neg (fun x => x.2 q1)]; rfl
      · rw [if_neg q1]
        by_cases q2 : D 63 i = 0
        · rw [if_pos q2, if_pos ⟨q2, q1⟩]; rfl
        · rw [if_neg q2, if_neg (fun x => q2 x.1)]; rfl
    by_cases q : D 63 i = 0 ∧ ¬ r.2.2.2.2.2.1 p = 0
    · rw [if_pos q, m_65 hR1 hp hs h6 (by omega) rfl (flD D (D 59 i) p) 0 F (by omega) (by
        have : flD D (D 59 i) p ≤ toN (D 53 p) := fa_first_le _ _
        omega)] at hgo
      by_cases qj : flD D (D 59 i) p < toN (D 53 p)
      · have hcl : CL D n p (i + 1) = va_up (CL D n p i) (flD D (D 59 i) p) (CL D n p i (flD D (D 59 i) p) + D 58 i) := by
          show (match wkG D n i with | none => _ | some r => _) = _
          rw [hw]
          simp only [q.1, q.2, qj, not_false_eq_true, and_self, if_true]
        rw [if_pos qj] at hgo
        obtain ⟨j, ej⟩ : ∃ j, j = flD D (D 59 i) p := ⟨_, rfl⟩
        rw [← ej] at hcl hgo qj
        have f5 : Fr z SO h1 (hp_si h1 (z + 75) j (h1.2.2.1 (z + 75) j + D 58 i)) := Fr.si (by decide) rfl
        obtain ⟨h', e2, f2, c2⟩ := ih (i + 1) f _ (f5.relB SO_ess hR1) (by omega) (by omega) (fun j2 hj2 => by
          rw [hcl, si_3, u2_at]
          by_cases r : j2 = j
          · rw [if_pos ⟨rfl, r⟩, r, va_up_self, row1 j (by omega)]
          · rw [if_neg (fun x => r x.2), va_up_ne _ _ r]; exact row1 j2 hj2)
        exact ⟨h', hgo.trans e2, ((f1.mono m1).tr f5).tr f2, c2⟩
      · have hcl : CL D n p (i + 1) = CL D n p i := by
          show (match wkG D n i with | none => _ | some r => _) = _
          rw [hw]
          simp only [qj, and_false, if_false]
        rw [if_neg qj] at hgo
        obtain ⟨h', e2, f2, c2⟩ := ih (i + 1) f h1 hR1 (by omega) (by omega) (fun j hj => by rw [hcl]; exact row1 j hj)
        exact ⟨h', hgo.trans e2, (f1.mono m1).tr f2, c2⟩
    · have hcl : CL D n p (i + 1) = CL D n p i := by
        show (match wkG D n i with | none => _ | some r => _) = _
        rw [hw]
        exact if_neg (fun x => q ⟨x.1, x.2.1⟩)
      rw [if_neg q, m_65_0 hR1 hp] at hgo
      obtain ⟨h', e2, f2, c2⟩ := ih (i + 1) f h1 hR1 (by omega) (by omega) (fun j hj => by rw [hcl]; exact row1 j hj)
      exact ⟨h', hgo.trans e2, (f1.mono m1).tr f2, c2⟩
theorem m_ins {rc : Nat → Int32 → Int32 → Hp → Option (Unit × Hp)} (hp : p < n) (hs : D 53 p = nI s) (h6 : s ≤ 6) {i : Nat} (hi : i < s) : ∀ (k : Nat) (o : Nat → Nat) (f : Nat) (h : Hp), RelB z h D n ng pa ba la ca → (∀ j, j < 6 → h.2.2.1 (z + 75) j = C j) → k ≤ i → k < f → (∀ a, a ≤ i → a ≠ k → h.2.2.1 (z + 76) a = nI (o a) ∧ o a < i) →
    ∃ h', fx (bX11_layOrder_151 rc) (fun _ _ _ _ _ => none) f (z + 43) (nI p) (nI i) (nI k) h = rc (z + 43) (nI p) (nI (i + 1)) h' ∧ Fr z S76 h h' ∧ ∀ a, a ≤ i → h'.2.2.1 (z + 76) a = nI (ins (ahD D p C) i k o a) := by
  have put : ∀ (k : Nat) (o : Nat → Nat) (h : Hp), k ≤ i → (∀ a, a ≤ i → a ≠ k → h.2.2.1 (z + 76) a = nI (o a) ∧ o a < i) → ∀ a, a ≤ i → (hp_si h (z + 76) k (nI i)).2.2.1 (z + 76) a = nI (upn o k i a) := by
    intro k o h hk hro a ha
    rw [si_3, u2_at]
    unfold upn
    by_cases q : a = k
    · rw [if_pos ⟨rfl, q⟩, if_pos q]
    · rw [if_neg (fun r => q r.2), if_neg q]; exact (hro a ha q).1
  intro k
  induction k with
  | zero =>
    intro o f h hR hC hk hf hro
    obtain ⟨f, rfl⟩ : ∃ k, f = k + 1 := ⟨f - 1, by omega⟩
    have hF := hR.1
    refine ⟨hp_si h (z + 76) 0 (nI i), ?_, Fr.si (by decide) rfl, put 0 o h hk hro⟩
    rw [fx_s]
    simp only [bX11_layOrder_151, if_pos (show nI 0 ≤ 0 by decide), fk_43 hF, gk_s, fr_43_49 hF, bd_s, fk_76 hF, fl_76 hF, gd_e (ix_nI (p := 0) (N := 6) (by omega) (by decide)), nI_clamp (n := 0) (by omega), nm_d, nI_1]
  | succ k ih =>
    intro o f h hR hC hk hf hro
    obtain ⟨f, rfl⟩ : ∃ k, f = k + 1 := ⟨f - 1, by omega⟩
    have hF := hR.1
    have n40 := (rb_n hR).2.2
    obtain ⟨rk, ok⟩ := hro k (by omega) (by omega)
    have nle : ¬ nI (k + 1) ≤ 0 := nI_nle (by omega) (by omega)
    have hm : nI (k + 1) + (-1) = nI k := by rw [← Int32.sub_eq_add_neg, nI_pred]
    by_cases q : ahD D p C i (o k) = true
    · have q' : ¬ D 54 (6 * p + o k) * C i ≤ D 54 (6 * p + i) * C (o k) := of_decide_eq_true q
      have e1 : Fr z S76 h (hp_si h (z + 76) (k + 1) (nI (o k))) := Fr.si (by decide) rfl
      obtain ⟨h', e2, f2, c2⟩ := ih (upn o (k + 1) (o k)) f _ (e1.relB S76_ess hR) (fun j hj => by rw [si_3, u2_at, if_neg (by omega)]; exact hC j hj) (by omega) (by omega) (fun a ha hak => by
        rw [si_3, u2_at]
        unfold upn
        by_cases q2 : a = k + 1
        · rw [if_pos ⟨rfl, q2⟩, if_pos q2]; exact ⟨rfl, ok⟩
        · rw [if_neg (fun r => q2 r.2), if_neg q2]; exact hro a ha q2)
      refine ⟨h', ?_, e1.tr f2, ?_⟩
      · rw [fx_s]
        simp only [bX11_layOrder_151, if_neg nle, fk_43 hF, gk_s, fr_43_11 hF, bd_s, fk_54 hF, fl_54 hF, i6, gd_e (ix_nI (p := 6 * p + i) (N := 240) (by omega) (by decide)), nI_clamp (n := 6 * p + i) (by omega), rb_ess hR 54 (6 * p + i) (by decide) rfl, fr_43_48 hF, fr_43_49 hF, fk_76 hF, fl_76 hF, nI_pred, gd_e (ix_nI (p := k) (N := 6) (by omega) (by decide)), nI_clamp (n := k) (by omega), rk, fk_75 hF, fl_75 hF, gd_e (ix_nI (p := o k) (N := 6) (by omega) (by decide)), nI_clamp (n := o k) (by omega), gd_e (ix_nI (p := 6 * p + o k) (N := 240) (by omega) (by decide)), nI_clamp (n := 6 * p + o k) (by omega), rb_ess hR 54 (6 * p + o k) (by decide) rfl, gd_e (ix_nI (p := i) (N := 6) (by omega) (by decide)), nI_clamp (n := i) (by omega), hC i (by omega), hC (o k) (by omega), if_neg q', gd_e (ix_nI (p := k + 1) (N := 6) (by omega) (by decide)), nI_clamp (n := k + 1) (by omega), nm_d, hm]
        exact e2
      · intro a ha
        rw [c2 a ha]
        show _ = nI ((if _ then _ else _ : Nat → Nat) a)
        rw [if_pos q]
    · have q' : D 54 (6 * p + o k) * C i ≤ D 54 (6 * p + i) * C (o k) := Classical.byContradiction fun x => q (decide_eq_true x)
      refine ⟨hp_si h (z + 76) (k + 1) (nI i), ?_, Fr.si (by decide) rfl, ?_⟩
      · rw [fx_s]
        simp only [bX11_layOrder_151, if_neg nle, fk_43 hF, gk_s, fr_43_11 hF, bd_s, fk_54 hF, fl_54 hF, i6, gd_e (ix_nI (p := 6 * p + i) (N := 240) (by omega) (by decide)), nI_clamp (n := 6 * p + i) (by omega), rb_ess hR 54 (6 * p + i) (by decide) rfl, fr_43_48 hF, fr_43_49 hF, fk_76 hF, fl_76 hF, nI_pred, gd_e (ix_nI (p := k) (N := 6) (by omega) (by decide)), nI_clamp (n := k) (by omega), rk, fk_75 hF, fl_75 hF, gd_e (ix_nI (p := o k) (N := 6) (by omega) (by decide)), nI_clamp (n := o k) (by omega), gd_e (ix_nI (p := 6 * p + o k) (N := 240) (by omega) (by decide)), nI_clamp (n := 6 * p + o k) (by omega), rb_ess hR 54 (6 * p + o k) (by decide) rfl, gd_e (ix_nI (p := i) (N := 6) (by omega) (by decide)), nI_clamp (n := i) (by omega), hC i (by omega), hC (o k) (by omega), if_pos q', gd_e (ix_nI (p := k + 1) (N := 6) (by omega) (by decide)), nI_clamp (n := k + 1) (by omega), nm_d, nI_1]
      · intro a ha
        rw [put (k + 1) o h hk hro a ha]
        show _ = nI ((if _ then _ else _ : Nat → Nat) a)
        rw [if_neg q]
theorem m_sort_l (hp : p < n) (hs : D 53 p = nI s) (h6 : s ≤ 6) : ∀ (d i f : Nat) (h : Hp), RelB z h D n ng pa ba la ca → (∀ j, j < 6 → h.2.2.1 (z + 75) j = C j) → i + d = s → d < f → (∀ a, a < i → h.2.2.1 (z + 76) a = nI (srt (ahD D p C) i a)) →
    ∃ h', fx bX11_layOrder_139 (fun _ _ _ _ => none) f (z + 43) (nI p) (nI i) h = some ((), h') ∧ Fr z S76 h h' ∧ ∀ a, a < s → h'.2.2.1 (z + 76) a = nI (srt (ahD D p C) s a) := by
  intro d
  induction d with
  | zero =>
    intro i f h hR hC hi hf hro
    obtain ⟨f, rfl⟩ : ∃ k, f = k + 1 := ⟨f - 1, by omega⟩
    obtain rfl : i = s := by omega
    have hF := hR.1
    have n40 := (rb_n hR).2.2
    refine ⟨h, ?_, Fr.rf, hro⟩
    rw [fx_s]
    simp only [bX11_layOrder_139, fk_43 hF, gk_s, fr_43_10 hF, bd_s, fk_53 hF, fl_53 hF, gd_e (ix_nI (p := p) (N := 40) (by omega) (by decide)), nI_clamp (n := p) (by omega), rb_ess hR 53 p (by decide) rfl, hs, if_pos (nI_le (Nat.le_refl i) (by omega))]
  | succ d ih =>
    intro i f h hR hC hi hf hro
    obtain ⟨f, rfl⟩ : ∃ k, f = k + 1 := ⟨f - 1, by omega⟩
    have hF := hR.1
    have n40 := (rb_n hR).2.2
    have nfb := NF_big
    obtain ⟨h1, e1, f1, c1⟩ := m_ins (rc := fx bX11_layOrder_139 (fun _ _ _ _ => none) f) hp hs h6 (i := i) (by omega) i (srt (ahD D p C) i) NF h hR hC (Nat.le_refl i) (by omega) (fun a ha hak => ⟨hro a (by omega), (srt_ok i).1 a (by omega)⟩)
    obtain ⟨h', e2, f2, c2⟩ := ih (i + 1) f h1 (f1.relB S76_ess hR) (fun j hj => by rw [f1.2.2.2.2.1 75 j (by decide) rfl]; exact hC j hj) (by omega) (by omega) (fun a ha => c1 a (by omega))
    refine ⟨h', ?_, f1.tr f2, c2⟩
    rw [fx_s]
    simp only [bX11_layOrder_139, fk_43 hF, gk_s, fr_43_10 hF, bd_s, fk_53 hF, fl_53 hF, gd_e (ix_nI (p := p) (N := 40) (by omega) (by decide)), nI_clamp (n := p) (by omega), rb_ess hR 53 p (by decide) rfl, hs, if_neg (nI_ge (show i < s by omega) (by omega)), fX11_layOrder_151]
    rw [e1]
    exact e2
theorem m_2_l (v : Int32) : ∀ (d i f : Nat) (h : Hp), fxd z h → i + d = 6 → d < f → (∀ j, j < i → h.2.2.1 (z + 75) j = 0) → ∃ h', fx bX11_layOrder_2 (fun _ _ _ _ => none) f (z + 43) v (nI i) h = fX11_layOrder_23 (z + 43) v 0 h' ∧ Fr z SO h h' ∧ ∀ j, j < 6 → h'.2.2.1 (z + 75) j = 0 := by
  intro d
  induction d with
  | zero =>
    intro i f h hF hi hf hro
    obtain ⟨f, rfl⟩ : ∃ k, f = k + 1 := ⟨f - 1, by omega⟩
    obtain rfl : i = 6 := by omega
    refine ⟨h, ?_, Fr.rf, hro⟩
    rw [fx_s]
    simp only [bX11_layOrder_2, if_pos (show (6 : Int32) ≤ nI 6 by decide)]
  | succ d ih =>
    intro i f h hF hi hf hro
    obtain ⟨f, rfl⟩ : ∃ k, f = k + 1 := ⟨f - 1, by omega⟩
    have f1 : Fr z SO h (hp_si h (z + 75) i 0) := Fr.si (by decide) rfl
    obtain ⟨h', e2, f2, c2⟩ := ih (i + 1) f (hp_si h (z + 75) i 0) hF (by omega) (by omega) (fun j hj => by
      rw [si_3, u2_at]
      by_cases q : j = i
      · rw [if_pos ⟨rfl, q⟩]
      · rw [if_neg (fun r => q r.2)]; exact hro j (by omega))
    refine ⟨h', ?_, f1.tr f2, c2⟩
    rw [fx_s]
    simp only [bX11_layOrder_2, if_neg (show ¬ (6 : Int32) ≤ nI i from nI_ge (b := 6) (by omega) (by decide)), fk_43 hF, gk_s, fr_43_48 hF, bd_s, fk_75 hF, fl_75 hF, gd_e (ix_nI (p := i) (N := 6) (by omega) (by decide)), nI_clamp (n := i) (by omega), nm_d, nI_1]
    exact e2
/-- the order that the model lays -/
theorem m_layOrder (hR : RelB z h D n ng pa ba la ca) (hp : p < n) (hs : D 53 p = nI s) (h6 : s ≤ 6) : ∃ h', fX11_layOrder (z + 43) (nI p) h = some ((), h') ∧ Fr z SO h h' ∧ (∀ j, j < 6 → h'.2.2.1 (z + 75) j = CL D n p ng j) ∧ ∀ a, a < s → h'.2.2.1 (z + 76) a = nI (srt (ahD D p (CL D n p ng)) s a) := by
  have nfb := NF_big
  have g3 := (rb_ng hR).2.2
  obtain ⟨h1, e1, f1, c1⟩ := m_2_l (nI p) 6 0 NF h hR.1 (by omega) (by omega) (fun j hj => absurd hj (Nat.not_lt_zero j))
  have hR1 := f1.relB SO_ess hR
  obtain ⟨h2, e2, f2, c2⟩ := m_23_l hp ng 0 NF h1 hR1 (by omega) (by omega) (fun j hj => c1 j hj)
  have hR2 := f2.relB SO_ess hR1
  obtain ⟨h3, e3, f3, c3⟩ := m_sort_l hp hs h6 s 0 NF h2 hR2 c2 (by omega) (by omega) (fun a ha => absurd ha (Nat.not_lt_zero a))
  refine ⟨h3, ?_, (f1.tr f2).tr (f3.mono S76_SO), fun j hj => by rw [f3.2.2.2.2.1 75 j (by decide) rfl]; exact c2 j hj, c3⟩
  exact (e1.trans e2).trans e3
/-- the class's order -/
theorem x_order (hR : RelB z h D n ng pa ba la ca) (hp : p < n) (hs : D 53 p = nI s) (h6 : s ≤ 6) : ∃ h1 h2, fX10_countListeners z (nI p) (some (pa p)) h = some ((), h1) ∧ Fr z So h h1 ∧ (∀ j, j < 6 → h1.2.2.1 (z + 12) j = CL D n p ng j) ∧ fX4_sort (z + 11) (some (pa p)) h1 = some ((), h2) ∧ Fr z So h1 h2 ∧ (∀ j, j < 6 → h2.2.2.1 (z + 12) j = CL D n p ng j) ∧ ∀ a, a < s → h2.2.2.1 (z + 13) a = nI (srt (ahD D p (CL D n p ng)) s a) := by
  have nfb := NF_big
  obtain ⟨h1, e1, f1, c1⟩ := x_count hR hp
  have hR1 := f1.relB So_ess hR
  obtain ⟨h2, e2, f2, c2⟩ := x_sort_l hp hs h6 s 0 NF h1 hR1 c1 (by omega) (by omega) (fun a ha => absurd ha (Nat.not_lt_zero a))
  exact ⟨h1, h2, e1, f1, c1, e2, f2.mono S13_So, fun j hj => by rw [f2.2.2.2.2.1 12 j (by decide) rfl]; exact c1 j hj, c2⟩
theorem m_cost (hR : RelB z h D n ng pa ba la ca) (hp : p < n) (hs : D 53 p = nI s) (h6 : s ≤ 6) (hC : ∀ j, j < 6 → h.2.2.1 (z + 75) j = C j) {o : Nat → Nat} {x : Int32} (hx : (x = -1 ∧ o = fun i => i) ∨ (¬ x = -1 ∧ ∀ a, a < s → h.2.2.1 (z + 76) a = nI (o a))) (ho : ∀ a, a < s → o a < s) : ∀ (d i f : Nat), i + d = s → d < f → fx bX11_order_55 (fun _ _ _ _ _ _ _ => none) f (z + 43) (nI p) x (cst (fun i => D 54 (6 * p + o i)) (fun i => C (o i)) i).2 (cst (fun i => D 54 (6 * p + o i)) (fun i => C (o i)) i).1 (nI i) h = some ((cst (fun i => D 54 (6 * p + o i)) (fun i => C (o i)) s).2, h) := by
  have hF := hR.1
  have n40 := (rb_n hR).2.2
  have q0 : ix (nI p) 40 = true := ix_nI (by omega) (by decide)
  have q1 : (nI p).toNatClampNeg = p := nI_clamp (by omega)
  intro d
  induction d with
  | zero =>
    intro i f hi hf
    obtain ⟨f, rfl⟩ : ∃ k, f = k + 1 := ⟨f - 1, by omega⟩
    obtain rfl : i = s := by omega
    rw [fx_s]
    simp only [bX11_order_55, fk_43 hF, gk_s, fr_43_10 hF, bd_s, fk_53 hF, fl_53 hF, gd_e q0, q1, rb_ess hR 53 p (by decide) rfl, hs, if_pos (nI_le (Nat.le_refl i) (by omega))]
  | succ d ih =>
    intro i f hi hf
    obtain ⟨f, rfl⟩ : ∃ k, f = k + 1 := ⟨f - 1, by omega⟩
    have o2 := ho i (by omega)
    have hst := ih (i + 1) f (by omega) (by omega)
    have tail : fX11_order_83 (fx bX11_order_55 (fun _ _ _ _ _ _ _ => none) f) (z + 43) (nI p) x (cst (fun i => D 54 (6 * p + o i)) (fun i => C (o i)) i).2 (cst (fun i => D 54 (6 * p + o i)) (fun i => C (o i)) i).1 (nI i) (nI (o i)) h = some ((cst (fun i => D 54 (6 * p + o i)) (fun i => C (o i)) s).2, h) := by
      simp only [fX11_order_83, fk_43 hF, gk_s, fr_43_11 hF, bd_s, fk_54 hF, fl_54 hF, i6, gd_e (ix_nI (p := 6 * p + o i) (N := 240) (by omega) (by decide)), nI_clamp (n := 6 * p + o i) (by omega), rb_ess hR 54 (6 * p + o i) (by decide) rfl, nm_d, fr_43_48 hF, fk_75 hF, fl_75 hF, gd_e (ix_nI (p := o i) (N := 6) (by omega) (by decide)), nI_clamp (n := o i) (by omega), hC (o i) (by omega), nI_1]
      rw [Int32.mul_comm _ (C (o i))]
      exact hst
    rw [fx_s]
    simp only [bX11_order_55, fk_43 hF, gk_s, fr_43_10 hF, bd_s, fk_53 hF, fl_53 hF, gd_e q0, q1, rb_ess hR 53 p (by decide) rfl, hs, if_neg (nI_ge (show i < s by omega) (by omega))]
    rcases hx with ⟨hx1, hx2⟩ | ⟨hx1, hx2⟩
    · rw [if_pos hx1]
      have : o i = i := by rw [hx2]
      rw [this] at tail
      exact tail
    · rw [if_neg hx1]
      simp only [fr_43_49 hF, bd_s, fk_76 hF, gk_s, fl_76 hF, gd_e (ix_nI (p := i) (N := 6) (by omega) (by decide)), nI_clamp (n := i) (by omega), hx2 i (by omega)]
      exact tail
theorem sim_order (v1 v2 : Int32) : Sim z (fX10_order z v1 v2) (fX11_order (z + 43) v1 v2) := by
  intro h hRel
  obtain ⟨⟨D, n, ng, pa, ba, la, ca, hR⟩, hT⟩ := id hRel
  obtain ⟨n1, n2, n3⟩ := rb_n hR
  have hF := hR.1
  rcases (ex_p (n := n) v1).symm with hv | ⟨p, hp, rfl⟩
  · exact ⟨-1, h, h, by simp only [fX10_order, fk_0 hF, gk_s, fr_0_0 hF, bd_s, fk_1 hF, x_menuAt_f hR hv, b2_s, rn], fk_43 hF, by simp only [fX11_order, fk_43 hF, gk_s, m_isMenu_f hF n2 n3 hv, b2_s, if_true], hRel⟩
  have e44 := rb_ess hR 44 p (by decide) rfl
  by_cases h0 : D 44 p = 0
  · obtain ⟨hs, h6⟩ := sz_toN hR hp
    obtain ⟨s, es⟩ : ∃ s, s = toN (D 53 p) := ⟨_, rfl⟩
    rw [← es] at hs h6
    have xm := x_menuAt_t hR hp
    rw [if_pos h0] at xm
    have mm := m_isMenu_t hF n2 n3 hp
    rw [e44] at mm
    obtain ⟨p1, -, -, -, -, -, -, -, p10, -⟩ := x_pl hR hp
    by_cases c1 : (-2) ≤ v2
    · obtain ⟨h1, h2, e1, f1, c1', e2, f2, c2, c3⟩ := x_order hR hp hs h6
      have hR1 := f1.relB So_ess hR
      have hF1 := hR1.1
      have hR2 := f2.relB So_ess hR1
      have hF2 := hR2.1
      have nfb := NF_big
      have e10 : ¬ (1 : Int32) = 0 := by decide
      -- the model, from any heap that is related
      have mod : ∀ g, RelB z g D n ng pa ba la ca → ∃ g', fX11_layOrder (z + 43) (nI p) g = some ((), g') ∧ Fr z SO g g' ∧ (∀ j, j < 6 → g'.2.2.1 (z + 75) j = CL D n p ng j) ∧ ∀ a, a < s → g'.2.2.1 (z + 76) a = nI (srt (ahD D p (CL D n p ng)) s a) := fun g hg => m_layOrder hg hp hs h6
      have mmg : ∀ g, RelB z g D n ng pa ba la ca → fX11_isMenu (z + 43) (nI p) g = some (1, g) := fun g hg => by
        have := m_isMenu_t hg.1 (rb_n hg).2.1 n3 hp
        rw [rb_ess hg 44 p (by decide) rfl] at this
        rw [this]
        unfold bi
        rw [if_pos h0]
      have so := (srt_ok (ah := ahD D p (CL D n p ng)) s).1
      rcases (show (v2 < nI s ∨ ¬ v2 < nI s) from Classical.em _) with c4 | c4
      · by_cases c5 : v2 = -1
        · -- as they stand
          obtain ⟨g', m1, m2, m3, m4⟩ := mod h1 hR1
          have hRg := m2.relB SO_ess hR1
          refine ⟨(cst (fun i => D 54 (6 * p + i)) (CL D n p ng) s).2, h1, g', ?_, fk_43 hF1, ?_, ⟨D, n, ng, pa, ba, la, ca, hRg⟩, Told_scr hT ((f1.scT So_sc).tr (m2.scT SO_sc))⟩
          · simp only [fX10_order, fk_0 hF, gk_s, fr_0_0 hF, bd_s, fk_1 hF, xm, b2_s, rn, if_pos c1, p1, p10, hs, if_pos c4, e1, if_pos c5, fk_0 hF1, fr_0_4 hF1, fk_11 hF1]
            have := x_costA hR1 hp hs h6 c1' s 0 NF (by omega) (by omega)
            have e : fX4_costAsTheyStand (z + 11) (some (pa p)) h1 = _ := this
            rw [e, b2_s]
          · simp only [fX11_order, fk_43 hF1, gk_s, mmg h1 hR1, b2_s, if_neg e10, if_pos c1, m1, if_pos (show v2 < 0 by rw [c5]; decide)]
            exact m_cost (o := fun i => i) hRg hp hs h6 m3 (Or.inl ⟨c5, rfl⟩) (fun a ha => ha) s 0 NF (by omega) (by omega)
        · by_cases c6 : v2 = -2
          · obtain ⟨g', m1, m2, m3, m4⟩ := mod h2 hR2
            have hRg := m2.relB SO_ess hR2
            refine ⟨(cst (fun i => D 54 (6 * p + srt (ahD D p (CL D n p ng)) s i)) (fun i => CL D n p ng (srt (ahD D p (CL D n p ng)) s i)) s).2, h2, g', ?_, fk_43 hF2, ?_, ⟨D, n, ng, pa, ba, la, ca, hRg⟩, Told_scr hT (((f1.scT So_sc).tr (f2.scT So_sc)).tr (m2.scT SO_sc))⟩
            · simp only [fX10_order, fk_0 hF, gk_s, fr_0_0 hF, bd_s, fk_1 hF, xm, b2_s, rn, if_pos c1, p1, p10, hs, if_pos c4, e1, if_neg c5, fk_0 hF1, fr_0_4 hF1, fk_11 hF1, e2, if_pos c6, fk_0 hF2, fr_0_4 hF2, fk_11 hF2]
              have := x_costS hR2 hp hs h6 c2 (fun a ha => ⟨c3 a ha, so a ha⟩) s 0 NF (by omega) (by omega)
              have e : fX4_costSorted (z + 11) (some (pa p)) h2 = _ := this
              rw [e, b2_s]
            · simp only [fX11_order, fk_43 hF2, gk_s, mmg h2 hR2, b2_s, if_neg e10, if_pos c1, m1, if_pos (show v2 < 0 by rw [c6]; decide)]
              exact m_cost hRg hp hs h6 m3 (Or.inr ⟨c5, m4⟩) so s 0 NF (by omega) (by omega)
          · -- a line of the order
            have c7 : ¬ v2 < 0 := fun x => by
              have h1 : v2.toInt < 0 := by simpa using (Int32.lt_iff_toInt_lt.mp x)
              have h2 : (-2 : Int32).toInt ≤ v2.toInt := Int32.le_iff_toInt_le.mp c1
              have h3 : (-2 : Int32).toInt = -2 := by decide
              rw [h3] at h2
              rcases (show v2.toInt = -2 ∨ v2.toInt = -1 by omega) with r | r
              · exact c6 (Int32.toInt_inj.mp (by rw [r]; decide))
              · exact c5 (Int32.toInt_inj.mp (by rw [r]; decide))
            obtain ⟨i, hi, rfl⟩ := nI_of c7
            have hi2 : i < s := (nI_ltI hi (by omega)).mp c4
            obtain ⟨g', m1, m2, m3, m4⟩ := mod h2 hR2
            have hRg := m2.relB SO_ess hR2
            have hFg := hRg.1
            refine ⟨nI (srt (ahD D p (CL D n p ng)) s i), h2, g', ?_, fk_43 hF2, ?_, ⟨D, n, ng, pa, ba, la, ca, hRg⟩, Told_scr hT (((f1.scT So_sc).tr (f2.scT So_sc)).tr (m2.scT SO_sc))⟩
            · simp only [fX10_order, fk_0 hF, gk_s, fr_0_0 hF, bd_s, fk_1 hF, xm, b2_s, rn, if_pos c1, p1, p10, hs, if_pos c4, e1, if_neg c5, fk_0 hF1, fr_0_4 hF1, fk_11 hF1, e2, if_neg c6, fk_0 hF2, fr_0_4 hF2, fk_11 hF2, fr_11_1 hF2, fk_13 hF2, fl_13 hF2, gd_e (ix_nI (p := i) (N := 6) (by omega) (by decide)), nI_clamp (n := i) (by omega), c3 i hi2]
            · simp only [fX11_order, fk_43 hF2, gk_s, mmg h2 hR2, b2_s, if_neg e10, if_pos c1, m1, if_neg c7, fk_43 hFg, fr_43_10 hFg, bd_s, fk_53 hFg, fl_53 hFg, gd_e (ix_nI (p := p) (N := 40) (by omega) (by decide)), nI_clamp (n := p) (by omega), rb_ess hRg 53 p (by decide) rfl, hs, if_neg (nI_ge hi2 (by omega)), fr_43_49 hFg, fk_76 hFg, fl_76 hFg, gd_e (ix_nI (p := i) (N := 6) (by omega) (by decide)), nI_clamp (n := i) (by omega), m4 i hi2]
      · -- too far
        have c7 : ¬ v2 < 0 := fun x => c4 (by
          have h1 : v2.toInt < 0 := by simpa using (Int32.lt_iff_toInt_lt.mp x)
          rw [Int32.lt_iff_toInt_lt, nI_toInt (by omega)]
          omega)
        obtain ⟨i, hi, rfl⟩ := nI_of c7
        have hi2 : s ≤ i := Nat.le_of_not_lt fun x => c4 (nI_lt x (by omega))
        obtain ⟨g', m1, m2, m3, m4⟩ := mod h hR
        have hRg := m2.relB SO_ess hR
        have hFg := hRg.1
        refine ⟨-4, h, g', ?_, fk_43 hF, ?_, ⟨D, n, ng, pa, ba, la, ca, hRg⟩, Told_scr hT (m2.scT SO_sc)⟩
        · simp only [fX10_order, fk_0 hF, gk_s, fr_0_0 hF, bd_s, fk_1 hF, xm, b2_s, rn, if_pos c1, p1, p10, hs, if_neg c4]
        · simp only [fX11_order, fk_43 hF, gk_s, mmg h hR, b2_s, if_neg e10, if_pos c1, m1, if_neg c7, fk_43 hFg, fr_43_10 hFg, bd_s, fk_53 hFg, fl_53 hFg, gd_e (ix_nI (p := p) (N := 40) (by omega) (by decide)), nI_clamp (n := p) (by omega), rb_ess hRg 53 p (by decide) rfl, hs, if_pos (nI_le hi2 hi)]
    · exact ⟨-1, h, h, by simp only [fX10_order, fk_0 hF, gk_s, fr_0_0 hF, bd_s, fk_1 hF, xm, b2_s, rn, if_neg c1], fk_43 hF, by simp only [fX11_order, fk_43 hF, gk_s, mm, b2_s, bi_0, if_neg (not_not_intro h0), if_neg c1], hRel⟩
  · have xm := x_menuAt_t hR hp
    rw [if_neg h0] at xm
    have mm := m_isMenu_t hF n2 n3 hp
    rw [e44] at mm
    exact ⟨-1, h, h, by simp only [fX10_order, fk_0 hF, gk_s, fr_0_0 hF, bd_s, fk_1 hF, xm, b2_s, rn], fk_43 hF, by simp only [fX11_order, fk_43 hF, gk_s, mm, b2_s, bi_0, if_pos h0], hRel⟩
end
