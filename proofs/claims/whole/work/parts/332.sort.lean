/-! the order of a menu's lines: class and model -/
section
variable {z b : Nat} {h : Hp} {D : Nat → Nat → Int32} {n ng : Nat} {pa ba : Nat → Nat} {la : Nat → Nat → Nat} {ca : Nat → Nat} {g p s : Nat} {C : Nat → Int32}
def S13 : Nat → Nat → Bool := fun c _ => c == 13
theorem S13_So : ∀ c k, So c k = false → S13 c k = false := by
  intro c k q
  unfold So at q
  rw [Bool.or_eq_false_iff] at q
  exact q.2
theorem S13_ess : ∀ c k, S13 c k = true → ess c k = false := by
  intro c k q
  have : c = 13 := by simpa [S13] using q
  subst this
  rfl
def S76 : Nat → Nat → Bool := fun c _ => c == 76
theorem S76_SO : ∀ c k, SO c k = false → S76 c k = false := by
  intro c k q
  unfold SO at q
  rw [Bool.or_eq_false_iff] at q
  exact q.2
theorem S76_ess : ∀ c k, S76 c k = true → ess c k = false := by
  intro c k q
  have : c = 76 := by simpa [S76] using q
  subst this
  rfl
theorem x_ahead (hR : RelB z h D n ng pa ba la ca) (hp : p < n) (hs : D 53 p = nI s) (h6 : s ≤ 6) (hC : ∀ j, j < 6 → h.2.2.1 (z + 12) j = C j) {i j : Nat} (hi : i < s) (hj : j < s) : fX4_goesAhead (z + 11) (some (pa p)) (nI i) (nI j) h = some (if ahD D p C i j = true then 1 else 0, h) := by
  have hF := hR.1
  obtain ⟨p1, p2, p3, -⟩ := x_pl hR hp
  obtain ⟨i1, i2, i3, i4, -⟩ := x_ln hR hp hs h6 hi
  obtain ⟨-, j2, j3, j4, -⟩ := x_ln hR hp hs h6 hj
  simp only [fX4_goesAhead, bd_s, p1, gk_s, p2, p3, i1, gd_e (ix_nI (p := i) (N := 6) (by omega) (by decide)), nI_clamp (n := i) (by omega), i2, i3, fk_11 hF, fr_11_0 hF, fk_12 hF, fl_12 hF, gd_e (ix_nI (p := j) (N := 6) (by omega) (by decide)), nI_clamp (n := j) (by omega), j2, j3, i4, j4, hC i (by omega), hC j (by omega)]
  by_cases q : D 54 (6 * p + j) * C i ≤ D 54 (6 * p + i) * C j
  · have e : ahD D p C i j = false := decide_eq_false (not_not_intro q)
    rw [if_pos q, e, if_neg (by decide)]
  · have e : ahD D p C i j = true := decide_eq_true q
    rw [if_neg q, e, if_pos rfl]
theorem x_ins {rc : Nat → Option Nat → Int32 → Hp → Option (Unit × Hp)} (hp : p < n) (hs : D 53 p = nI s) (h6 : s ≤ 6) {i : Nat} (hi : i < s) : ∀ (k : Nat) (o : Nat → Nat) (f : Nat) (h : Hp), RelB z h D n ng pa ba la ca → (∀ j, j < 6 → h.2.2.1 (z + 12) j = C j) → k ≤ i → k < f → (∀ a, a ≤ i → a ≠ k → h.2.2.1 (z + 13) a = nI (o a) ∧ o a < i) →
    ∃ h', fx (bX4_sort_12 rc) (fun _ _ _ _ _ => none) f (z + 11) (pa p) (nI i) (nI k) h = rc (z + 11) (some (pa p)) (nI (i + 1)) h' ∧ Fr z S13 h h' ∧ ∀ a, a ≤ i → h'.2.2.1 (z + 13) a = nI (ins (ahD D p C) i k o a) := by
  have put : ∀ (k : Nat) (o : Nat → Nat) (h : Hp), k ≤ i → (∀ a, a ≤ i → a ≠ k → h.2.2.1 (z + 13) a = nI (o a) ∧ o a < i) → ∀ a, a ≤ i → (hp_si h (z + 13) k (nI i)).2.2.1 (z + 13) a = nI (upn o k i a) := by
    intro k o h hk hro a ha
    rw [si_3, u2_at]
    unfold upn
    by_cases q : a = k
    · rw [if_pos ⟨rfl, q⟩, if_pos q]
    · rw [if_neg (fun r => q r.2), if_neg q]; exact (hro a ha q).1
  intro k
  induction k with
  | zero =>
    intro o f h hR hC hk hf hro
    obtain ⟨f, rfl⟩ : ∃ k, f = k + 1 := ⟨f - 1, by omega⟩
    have hF := hR.1
    refine ⟨hp_si h (z + 13) 0 (nI i), ?_, Fr.si (by decide) rfl, put 0 o h hk hro⟩
    rw [fx_s]
    simp only [bX4_sort_12, if_pos (show nI 0 ≤ 0 by decide), fk_11 hF, gk_s, fr_11_1 hF, bd_s, fk_13 hF, fl_13 hF, gd_e (ix_nI (p := 0) (N := 6) (by omega) (by decide)), nI_clamp (n := 0) (by omega), nm_d, nI_1]
  | succ k ih =>
    intro o f h hR hC hk hf hro
    obtain ⟨f, rfl⟩ : ∃ k, f = k + 1 := ⟨f - 1, by omega⟩
    have hF := hR.1
    obtain ⟨rk, ok⟩ := hro k (by omega) (by omega)
    have hah := x_ahead hR hp hs h6 hC (i := i) (j := o k) hi (by omega)
    have nle : ¬ nI (k + 1) ≤ 0 := nI_nle (by omega) (by omega)
    have hm : nI (k + 1) + (-1) = nI k := by rw [← Int32.sub_eq_add_neg, nI_pred]
    by_cases q : ahD D p C i (o k) = true
    · have e1 : Fr z S13 h (hp_si h (z + 13) (k + 1) (nI (o k))) := Fr.si (by decide) rfl
      obtain ⟨h', e2, f2, c2⟩ := ih (upn o (k + 1) (o k)) f _ (e1.relB S13_ess hR) (fun j hj => by rw [si_3, u2_at, if_neg (by omega)]; exact hC j hj) (by omega) (by omega) (fun a ha hak => by
        rw [si_3, u2_at]
        unfold upn
        by_cases q2 : a = k + 1
        · rw [if_pos ⟨rfl, q2⟩, if_pos q2]; exact ⟨rfl, ok⟩
        · rw [if_neg (fun r => q2 r.2), if_neg q2]; exact hro a ha q2)
      refine ⟨h', ?_, e1.tr f2, ?_⟩
      · rw [q] at hah
        simp only [if_true] at hah
        rw [fx_s]
        simp only [bX4_sort_12, if_neg nle, fk_11 hF, gk_s, fr_11_1 hF, bd_s, fk_13 hF, fl_13 hF, nI_pred, gd_e (ix_nI (p := k) (N := 6) (by omega) (by decide)), nI_clamp (n := k) (by omega), rk, hah, b2_s, if_neg (show ¬ (1 : Int32) = 0 by decide), gd_e (ix_nI (p := k + 1) (N := 6) (by omega) (by decide)), nI_clamp (n := k + 1) (by omega), nm_d, hm]
        exact e2
      · intro a ha
        rw [c2 a ha]
        show _ = nI ((if _ then _ else _ : Nat → Nat) a)
        rw [if_pos q]
    · refine ⟨hp_si h (z + 13) (k + 1) (nI i), ?_, Fr.si (by decide) rfl, ?_⟩
      · rw [if_neg q] at hah
        rw [fx_s]
        simp only [bX4_sort_12, if_neg nle, fk_11 hF, gk_s, fr_11_1 hF, bd_s, fk_13 hF, fl_13 hF, nI_pred, gd_e (ix_nI (p := k) (N := 6) (by omega) (by decide)), nI_clamp (n := k) (by omega), rk, hah, b2_s, if_true, gd_e (ix_nI (p := k + 1) (N := 6) (by omega) (by decide)), nI_clamp (n := k + 1) (by omega), nm_d, nI_1]
      · intro a ha
        rw [put (k + 1) o h hk hro a ha]
        show _ = nI ((if _ then _ else _ : Nat → Nat) a)
        rw [if_neg q]
theorem x_sort_l (hp : p < n) (hs : D 53 p = nI s) (h6 : s ≤ 6) : ∀ (d i f : Nat) (h : Hp), RelB z h D n ng pa ba la ca → (∀ j, j < 6 → h.2.2.1 (z + 12) j = C j) → i + d = s → d < f → (∀ a, a < i → h.2.2.1 (z + 13) a = nI (srt (ahD D p C) i a)) →
    ∃ h', fx bX4_sort_2 (fun _ _ _ _ => none) f (z + 11) (some (pa p)) (nI i) h = some ((), h') ∧ Fr z S13 h h' ∧ ∀ a, a < s → h'.2.2.1 (z + 13) a = nI (srt (ahD D p C) s a) := by
  intro d
  induction d with
  | zero =>
    intro i f h hR hC hi hf hro
    obtain ⟨f, rfl⟩ : ∃ k, f = k + 1 := ⟨f - 1, by omega⟩
    obtain rfl : i = s := by omega
    obtain ⟨p1, -, -, -, -, -, -, -, p10, -⟩ := x_pl hR hp
    refine ⟨h, ?_, Fr.rf, hro⟩
    rw [fx_s]
    simp only [bX4_sort_2, bd_s, p1, gk_s, p10, hs, if_pos (nI_le (Nat.le_refl i) (by omega))]
  | succ d ih =>
    intro i f h hR hC hi hf hro
    obtain ⟨f, rfl⟩ : ∃ k, f = k + 1 := ⟨f - 1, by omega⟩
    obtain ⟨p1, -, -, -, -, -, -, -, p10, -⟩ := x_pl hR hp
    have nfb := NF_big
    obtain ⟨h1, e1, f1, c1⟩ := x_ins (rc := fx bX4_sort_2 (fun _ _ _ _ => none) f) hp hs h6 (i := i) (by omega) i (srt (ahD D p C) i) NF h hR hC (Nat.le_refl i) (by omega) (fun a ha hak => ⟨hro a (by omega), (srt_ok i).1 a (by omega)⟩)
    obtain ⟨h', e2, f2, c2⟩ := ih (i + 1) f h1 (f1.relB S13_ess hR) (fun j hj => by rw [f1.2.2.2.2.1 12 j (by decide) rfl]; exact hC j hj) (by omega) (by omega) (fun a ha => c1 a (by omega))
    refine ⟨h', ?_, f1.tr f2, c2⟩
    rw [fx_s]
    simp only [bX4_sort_2, bd_s, p1, gk_s, p10, hs, if_neg (nI_ge (show i < s by omega) (by omega)), fX4_sort_12]
    rw [e1]
    exact e2
theorem x_costA (hR : RelB z h D n ng pa ba la ca) (hp : p < n) (hs : D 53 p = nI s) (h6 : s ≤ 6) (hC : ∀ j, j < 6 → h.2.2.1 (z + 12) j = C j) : ∀ (d i f : Nat), i + d = s → d < f → fx bX4_costAsTheyStand_7 (fun _ _ _ _ _ _ => none) f (z + 11) (some (pa p)) (cst (fun i => D 54 (6 * p + i)) C i).1 (cst (fun i => D 54 (6 * p + i)) C i).2 (nI i) h = some ((cst (fun i => D 54 (6 * p + i)) C s).2, h) := by
  have hF := hR.1
  obtain ⟨p1, p2, p3, -, -, -, -, -, p10, -⟩ := x_pl hR hp
  intro d
  induction d with
  | zero =>
    intro i f hi hf
    obtain ⟨f, rfl⟩ : ∃ k, f = k + 1 := ⟨f - 1, by omega⟩
    obtain rfl : i = s := by omega
    rw [fx_s]
    simp only [bX4_costAsTheyStand_7, bd_s, p1, gk_s, p10, hs, if_pos (nI_le (Nat.le_refl i) (by omega))]
  | succ d ih =>
    intro i f hi hf
    obtain ⟨f, rfl⟩ : ∃ k, f = k + 1 := ⟨f - 1, by omega⟩
    obtain ⟨i1, i2, i3, i4, -⟩ := x_ln hR hp hs h6 (i := i) (by omega)
    rw [fx_s]
    simp only [bX4_costAsTheyStand_7, bd_s, p1, gk_s, p10, hs, if_neg (nI_ge (show i < s by omega) (by omega)), p2, p3, i1, gd_e (ix_nI (p := i) (N := 6) (by omega) (by decide)), nI_clamp (n := i) (by omega), i2, i3, i4, nm_d, fk_11 hF, fr_11_0 hF, fk_12 hF, fl_12 hF, hC i (by omega), nI_1]
    exact ih (i + 1) f (by omega) (by omega)
theorem x_costS (hR : RelB z h D n ng pa ba la ca) (hp : p < n) (hs : D 53 p = nI s) (h6 : s ≤ 6) (hC : ∀ j, j < 6 → h.2.2.1 (z + 12) j = C j) {o : Nat → Nat} (ho : ∀ a, a < s → h.2.2.1 (z + 13) a = nI (o a) ∧ o a < s) : ∀ (d i f : Nat), i + d = s → d < f → fx bX4_costSorted_7 (fun _ _ _ _ _ _ => none) f (z + 11) (some (pa p)) (cst (fun i => D 54 (6 * p + o i)) (fun i => C (o i)) i).1 (cst (fun i => D 54 (6 * p + o i)) (fun i => C (o i)) i).2 (nI i) h = some ((cst (fun i => D 54 (6 * p + o i)) (fun i => C (o i)) s).2, h) := by
  have hF := hR.1
  obtain ⟨p1, p2, p3, -, -, -, -, -, p10, -⟩ := x_pl hR hp
  intro d
  induction d with
  | zero =>
    intro i f hi hf
    obtain ⟨f, rfl⟩ : ∃ k, f = k + 1 := ⟨f - 1, by omega⟩
    obtain rfl : i = s := by omega
    rw [fx_s]
    simp only [bX4_costSorted_7, bd_s, p1, gk_s, p10, hs, if_pos (nI_le (Nat.le_refl i) (by omega))]
  | succ d ih =>
    intro i f hi hf
    obtain ⟨f, rfl⟩ : ∃ k, f = k + 1 := ⟨f - 1, by omega⟩
    obtain ⟨o1, o2⟩ := ho i (by omega)
    obtain ⟨i1, i2, i3, i4, -⟩ := x_ln hR hp hs h6 (i := o i) o2
    rw [fx_s]
    simp only [bX4_costSorted_7, bd_s, p1, gk_s, p10, hs, if_neg (nI_ge (show i < s by omega) (by omega)), p2, p3, i1, gd_e (ix_nI (p := i) (N := 6) (by omega) (by decide)), nI_clamp (n := i) (by omega), fk_11 hF, fr_11_1 hF, fk_13 hF, fl_13 hF, o1, gd_e (ix_nI (p := o i) (N := 6) (by omega) (by decide)), nI_clamp (n := o i) (by omega), i2, i3, i4, nm_d, fr_11_0 hF, fk_12 hF, fl_12 hF, hC (o i) (by omega), nI_1]
    exact ih (i + 1) f (by omega) (by omega)
/-- the model: one caller of a group at the menu's lines -/
theorem m_65 {rc : Nat → Int32 → Int32 → Hp → Option (Unit × Hp)} (hR : RelB z h D n ng pa ba la ca) (hp : p < n) (hs : D 53 p = nI s) (h6 : s ≤ 6) (hg : g < ng) {j : Nat} (ej : j = flD D (D 59 g) p) : ∀ (d i f : Nat), i + d = j → d < f → fx (bX11_layOrder_65 rc) (fun _ _ _ _ _ _ => none) (f + 1) (z + 43) (nI p) (nI g) 1 (nI i) h = rc (z + 43) (nI p) (nI (g + 1)) (if j < s then hp_si h (z + 75) j (h.2.2.1 (z + 75) j + D 58 g) else h) := by
  have hF := hR.1
  have n40 := (rb_n hR).2.2
  have g12 := (rb_ng hR).2.2
  have es : toN (D 53 p) = s := by rw [hs, toN_nI (by omega)]
  have j1 : j ≤ s := by rw [ej, ← es]; exact fa_first_le _ _
  have j2 : ∀ i, i < j → ¬ bitD (D 56 (6 * p + i)) (D 59 g) := fun i hi => by
    have := fa_first_no _ (toN (D 53 p)) i (by rw [ej] at hi; exact hi)
    simp only [Bool.false_eq_true, if_false] at this
    exact of_decide_eq_false this
  have j3 : j < s → bitD (D 56 (6 * p + j)) (D 59 g) := fun hj => by
    have := fa_first_yes _ (toN (D 53 p)) (by rw [ej, ← es] at hj; exact hj)
    simp only [Bool.false_eq_true, if_false] at this
    rw [ej]
    simp only [flD, jD, Bool.false_eq_true, if_false]
    exact of_decide_eq_true this
  have e53 : h.2.2.1 (z + 53) p = nI s := by rw [rb_ess hR 53 p (by decide) rfl]; exact hs
  have q0 : ix (nI p) 40 = true := ix_nI (by omega) (by decide)
  have q1 : (nI p).toNatClampNeg = p := nI_clamp (by omega)
  have e10 : ¬ (1 : Int32) = 0 := by decide
  intro d
  induction d with
  | zero =>
    intro i f hi hf
    obtain ⟨f, rfl⟩ : ∃ k, f = k + 1 := ⟨f - 1, by omega⟩
    obtain rfl : i = j := by omega
    by_cases q : i < s
    · rw [if_pos q, fx_s]
      obtain ⟨g2, eg2⟩ : ∃ g2, g2 = hp_si h (z + 75) i (h.2.2.1 (z + 75) i + D 58 g) := ⟨_, rfl⟩
      have hF2 : fxd z g2 := by rw [eg2]; exact hF
      have e532 : g2.2.2.1 (z + 53) p = nI s := by rw [eg2, si_3, u2_at, if_neg (by omega)]; exact e53
      simp only [bX11_layOrder_65, fk_43 hF, gk_s, fr_43_10 hF, bd_s, fk_53 hF, fl_53 hF, gd_e q0, q1, e53, if_neg (nI_ge q (by omega)), if_neg e10, fr_43_13 hF, fk_56 hF, fl_56 hF, i6, gd_e (ix_nI (p := 6 * p + i) (N := 240) (by omega) (by decide)), nI_clamp (n := 6 * p + i) (by omega), rb_ess hR 56 (6 * p + i) (by decide) rfl, fr_43_17 hF, fk_59 hF, fl_59 hF, gd_e (ix_nI (p := g) (N := 12) (by omega) (by decide)), nI_clamp (n := g) (by omega), rb_ess hR 59 g (by decide) rfl, bit1, if_pos (j3 q), fr_43_48 hF, fk_75 hF, fl_75 hF, gd_e (ix_nI (p := i) (N := 6) (by omega) (by decide)), nI_clamp (n := i) (by omega), fr_43_16 hF, fk_58 hF, fl_58 hF, rb_ess hR 58 g (by decide) rfl, nm_d, ← eg2, nI_1]
      rw [fx_s]
      simp only [bX11_layOrder_65, fk_43 hF2, gk_s, fr_43_10 hF2, bd_s, fk_53 hF2, fl_53 hF2, gd_e q0, q1, e532, if_true, nm_d, nI_1, ite_self]
    · rw [if_neg q, fx_s]
      simp only [bX11_layOrder_65, fk_43 hF, gk_s, fr_43_10 hF, bd_s, fk_53 hF, fl_53 hF, gd_e q0, q1, e53, if_pos (nI_le (show s ≤ i by omega) (by omega)), nm_d, nI_1]
  | succ d ih =>
    intro i f hi hf
    obtain ⟨f, rfl⟩ : ∃ k, f = k + 1 := ⟨f - 1, by omega⟩
    have q : i < s := by omega
    rw [fx_s]
    simp only [bX11_layOrder_65, fk_43 hF, gk_s, fr_43_10 hF, bd_s, fk_53 hF, fl_53 hF, gd_e q0, q1, e53, if_neg (nI_ge q (by omega)), if_neg e10, fr_43_13 hF, fk_56 hF, fl_56 hF, i6, gd_e (ix_nI (p := 6 * p + i) (N := 240) (by omega) (by decide)), nI_clamp (n := 6 * p + i) (by omega), rb_ess hR 56 (6 * p + i) (by decide) rfl, fr_43_17 hF, fk_59 hF, fl_59 hF, gd_e (ix_nI (p := g) (N := 12) (by omega) (by decide)), nI_clamp (n := g) (by omega), rb_ess hR 59 g (by decide) rfl, bit1, if_neg (j2 i (by omega)), nm_d, nI_1]
    exact ih (i + 1) f (by omega) (by omega)
theorem m_65_0 {rc : Nat → Int32 → Int32 → Hp → Option (Unit × Hp)} (hR : RelB z h D n ng pa ba la ca) (hp : p < n) (f : Nat) (x : Int32) : fx (bX11_layOrder_65 rc) (fun _ _ _ _ _ _ => none) (f + 1) (z + 43) (nI p) (nI g) 0 x h = rc (z + 43) (nI p) (nI (g + 1)) h := by
  have hF := hR.1
  have n40 := (rb_n hR).2.2
  rw [fx_s]
  simp only [bX11_layOrder_65, fk_43 hF, gk_s, fr_43_10 hF, bd_s, fk_53 hF, fl_53 hF, gd_e (ix_nI (p := p) (N := 40) (by omega) (by decide)), if_true, nm_d, nI_1, ite_self]
end
