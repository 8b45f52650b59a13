/-! the model: one place of a call -/
section
variable {z : Nat} {h : Hp} {D : Nat → Nat → Int32} {n ng : Nat} {pa ba : Nat → Nat} {la : Nat → Nat → Nat} {ca : Nat → Nat} {p s : Nat} {w v u : Int32} {kn : Bool} {T U : Nat → Nat} {P : Nat} {l : Int32} {t c k cl m : Nat} {se cm ks : Nat → Int32}
/-- the two marks for 'no way' choose the same line -/
theorem same_line {a b : Nat} (hn : n ≤ 40) (hTU : ∀ q, (T q = 1000000 ∧ U q = 100000000) ∨ (T q = U q ∧ T q ≤ 4200 * n)) (hb : T b < 1000000) : thr 100000000 1 (U a) = U b ↔ 1 + T a = T b := by
  have ha := hTU a
  have hb2 := hTU b
  unfold thr
  split <;> omega
theorem m_goOn_k (hX : MoX z h D n ng pa ba la ca kn T U w v u P) (hk1 : kn = true) (hp : p < n) (h0 : D 44 p = 0) (hTp : T p < 1000000) (ht : t ≤ P) (hk : k < 1000000) (hS : MS z h t l c k cl se cm ks) :
    ∃ h', fX11_goOn (z + 43) (nI p) 1 h = some (nxD D w v u kn T p, h') ∧ Fr z Sm h h' ∧ MS z h' (t2D D w v kn T P p t) l c (k2D D w v kn T P p t k) cl se cm (ksD D w v kn T P p t k ks) := by
  have hR := hX.1
  have hF := hR.1
  have hP := pv_of hR hp
  have n40 := (rb_n hR).2.2
  obtain ⟨hs, h6⟩ := sz_toN hR hp
  obtain ⟨hU, hTU⟩ := hX.2.2.2.2 hk1
  have P5 := hX.2.2.2.1
  have h34 := hX.2.2.1
  obtain ⟨j, ej⟩ : ∃ j, j = jD D w kn T p := ⟨_, rfl⟩
  have j1 : j ≤ toN (D 53 p) := by rw [ej]; exact fa_first_le _ _
  have j2 : ∀ i, i < j → ¬ 1 + T (tg (D 57 (6 * p + i))) = T p := fun i hi => by
    have := fa_first_no _ (toN (D 53 p)) i (by rw [ej] at hi; exact hi)
    simp only [hk1, if_true] at this
    exact of_decide_eq_false this
  have j3 : j < toN (D 53 p) → 1 + T (tg (D 57 (6 * p + j))) = T p := fun hj => by
    have := fa_first_yes _ (toN (D 53 p)) (by rw [ej] at hj; exact hj)
    simp only [hk1, if_true] at this
    rw [ej]
    simp only [jD, hk1, if_true]
    exact of_decide_eq_true this
  obtain ⟨t', k', b', -, -, -, -, -, -, -, -, ehr, g1, g2⟩ := hr_rg hP h0 hs h6
  have e53 : h.2.2.1 (z + 53) p = nI (toN (D 53 p)) := by rw [rb_ess hR 53 p (by decide) rfl]; exact hs
  have q0 : ix (nI p) 40 = true := ix_nI (by omega) (by decide)
  have q1 : (nI p).toNatClampNeg = p := nI_clamp (by omega)
  have u68 : h.2.2.1 (z + 68) p = nI (U p) := hU.1 p (by omega)
  have hUW := hU.2.2.2.1
  have key : ∀ (d i f : Nat), i + d = j → d < f → ∃ h', fx bX11_goOn_13 (fun _ _ _ _ _ => none) f (z + 43) (nI p) (hrD D p (toN (D 53 p))) (nI i) h = some (nxD D w v u kn T p, h') ∧ Fr z Sm h h' ∧ MS z h' (t2D D w v kn T P p t) l c (k2D D w v kn T P p t k) cl se cm (ksD D w v kn T P p t k ks) := by
    intro d
    induction d with
    | zero =>
      intro i f hi hf
      obtain ⟨f, rfl⟩ : ∃ k, f = k + 1 := ⟨f - 1, by omega⟩
      obtain rfl : i = j := by omega
      by_cases q : i < toN (D 53 p)
      · have hhk : hkD D w kn T p = true := by unfold hkD; rw [← ej]; simp [h0, q]
        have hnx : nxD D w v u kn T p = D 57 (6 * p + i) := by unfold nxD; rw [if_pos h0, ← ej, if_pos q]
        have hd : dtD D w v kn T p = 0 := by unfold dtD; rw [if_pos h0, ← ej, if_pos q, if_pos hk1]
        obtain ⟨h', e1, f1, c1⟩ := m_press hF h34 P5 (by omega) hk (D 55 (6 * p + i)) hS
        have hR' := f1.relB Sm_ess hR
        have hF' := hR'.1
        have x1 : t2D D w v kn T P p t = t + 1 := by unfold t2D; rw [hd, if_pos ⟨hhk, by omega⟩]
        have x2 : k2D D w v kn T P p t k = k + 1 := by unfold k2D; rw [hd, if_pos ⟨hhk, by omega⟩]
        have x3 : ksD D w v kn T P p t k ks = va_up ks k (D 55 (6 * p + i)) := by unfold ksD; rw [hd, if_pos ⟨hhk, by omega⟩, ← ej]
        simp only [if_pos ht] at c1
        refine ⟨h', ?_, f1, by rw [x1, x2, x3]; exact c1⟩
        have hth := m_through hR hU rfl (ln_nxt hP hs h6 q) 1
        have heq : nI (thr 100000000 1 (U (tg (D 57 (6 * p + i))))) = nI (U p) := by rw [(same_line n40 hTU hTp).mpr (j3 q)]
        rw [heq] at hth
        rw [fx_s]
        simp only [bX11_goOn_13, fk_43 hF, gk_s, fr_43_10 hF, bd_s, fk_53 hF, fl_53 hF, gd_e q0, q1, e53, if_neg (nI_ge q (by omega)), fr_43_14 hF, fk_57 hF, fl_57 hF, i6, gd_e (ix_nI (p := 6 * p + i) (N := 240) (by omega) (by decide)), nI_clamp (n := 6 * p + i) (by omega), rb_ess hR 57 (6 * p + i) (by decide) rfl, one_nI, hth, b2_s, fr_43_36 hF, fk_68 hF, fl_68 hF, u68, if_pos, fr_43_12 hF, fk_55 hF, fl_55 hF, rb_ess hR 55 (6 * p + i) (by decide) rfl, e1, fk_43 hF', fr_43_14 hF', fk_57 hF', fl_57 hF', rb_ess hR' 57 (6 * p + i) (by decide) rfl, hnx]
      · have hhk : hkD D w kn T p = false := by unfold hkD; rw [← ej]; simp [q]
        have hnx : nxD D w v u kn T p = D 47 p := by unfold nxD; rw [if_pos h0, ← ej, if_neg q]
        have hd : dtD D w v kn T p = t' * (k' + b') := by unfold dtD; rw [if_pos h0, ← ej, if_neg q, ehr, toN_nI (by omega)]
        have x1 : t2D D w v kn T P p t = t + t' * (k' + b') := by unfold t2D; rw [hd, hhk, if_neg (by simp)]
        have x2 : k2D D w v kn T P p t k = k := by unfold k2D; rw [hhk, if_neg (by simp)]
        have x3 : ksD D w v kn T P p t k ks = ks := by unfold ksD; rw [hhk, if_neg (by simp)]
        have r47 : (hp_si h (z + 43) 37 (nI (t + t' * (k' + b')))).2.2.1 (z + 47) p = D 47 p := by rw [si_3, u2_at, if_neg (by omega)]; exact rb_ess hR 47 p (by decide) rfl
        refine ⟨hp_si h (z + 43) 37 (nI (t + t' * (k' + b'))), ?_, Fr.si (by decide) rfl, by rw [x1, x2, x3]; exact hS.tk⟩
        rw [fx_s]
        simp only [bX11_goOn_13, fk_43 hF, gk_s, fr_43_10 hF, bd_s, fk_53 hF, fl_53 hF, gd_e q0, q1, e53, if_pos (nI_le (show toN (D 53 p) ≤ i by omega) (by omega)), hS.1, ehr, nI_add, nm_d, si_4, si_1, si_2, fr_43_4 hF, fk_47 hF, fl_47 hF, r47, hnx]
    | succ d ih =>
      intro i f hi hf
      obtain ⟨f, rfl⟩ : ∃ k, f = k + 1 := ⟨f - 1, by omega⟩
      have q : i < toN (D 53 p) := by omega
      have hth := m_through hR hU rfl (ln_nxt hP hs h6 q) 1
      have tu := hUW (tg (D 57 (6 * p + i)))
      have tp := hUW p
      have hne : ¬ nI (thr 100000000 1 (U (tg (D 57 (6 * p + i))))) = nI (U p) := fun r => by
        have := (nI_eq (by unfold thr; split <;> omega) (by omega)).mp r
        exact j2 i (by omega) ((same_line n40 hTU hTp).mp this)
      obtain ⟨h', e1, f1, c1⟩ := ih (i + 1) f (by omega) (by omega)
      refine ⟨h', ?_, f1, c1⟩
      rw [fx_s]
      simp only [bX11_goOn_13, fk_43 hF, gk_s, fr_43_10 hF, bd_s, fk_53 hF, fl_53 hF, gd_e q0, q1, e53, if_neg (nI_ge q (by omega)), fr_43_14 hF, fk_57 hF, fl_57 hF, i6, gd_e (ix_nI (p := 6 * p + i) (N := 240) (by omega) (by decide)), nI_clamp (n := 6 * p + i) (by omega), rb_ess hR 57 (6 * p + i) (by decide) rfl, one_nI, hth, b2_s, fr_43_36 hF, fk_68 hF, fl_68 hF, u68, if_neg hne, nm_d, nI_add]
      exact e1
  obtain ⟨h', e1, f1, c1⟩ := key j 0 NF (by omega) (by have := NF_big; omega)
  refine ⟨h', ?_, f1, c1⟩
  simp only [fX11_goOn, if_neg (show ¬ (1 : Int32) = 0 by decide), fk_43 hF, gk_s, m_heard hR hp hs h6, b2_s]
  exact e1
theorem m_goOn_l (hk1 : kn = false) (hp : p < n) (h0 : D 44 p = 0) (ht : t ≤ P) (hk : k < 1000000) (P5 : P ≤ 5000) {j : Nat} (ej : j = jD D w kn T p) : ∀ (d i f : Nat) (h : Hp), MoX z h D n ng pa ba la ca kn T U w v u P → i + d = j → d < f → (∃ x, x ≤ 200 * i ∧ tlD D p i = nI x ∧ MS z h (t + x) l c k cl se cm ks) →
    ∃ h', fx bX11_goOn_104 (fun _ _ _ _ => none) f (z + 43) (nI p) (nI i) h = some (nxD D w v u kn T p, h') ∧ Fr z Sm h h' ∧ MS z h' (t2D D w v kn T P p t) l c (k2D D w v kn T P p t k) cl se cm (ksD D w v kn T P p t k ks) := by
  have j2 : ∀ i, i < j → ¬ bitD (D 56 (6 * p + i)) w := fun i hi => by
    have := fa_first_no _ (toN (D 53 p)) i (by rw [ej] at hi; exact hi)
    simp only [hk1, Bool.false_eq_true, if_false] at this
    exact of_decide_eq_false this
  have j3 : j < toN (D 53 p) → bitD (D 56 (6 * p + j)) w := fun hj => by
    have := fa_first_yes _ (toN (D 53 p)) (by rw [ej] at hj; exact hj)
    simp only [hk1, Bool.false_eq_true, if_false] at this
    rw [ej]
    simp only [jD, hk1, Bool.false_eq_true, if_false]
    exact of_decide_eq_true this
  have j1 : j ≤ toN (D 53 p) := by rw [ej]; exact fa_first_le _ _
  intro d
  induction d with
  | zero =>
    intro i f h hX hi hf hx
    obtain ⟨f, rfl⟩ : ∃ k, f = k + 1 := ⟨f - 1, by omega⟩
    obtain rfl : i = j := by omega
    obtain ⟨x, xb, ex, hS⟩ := hx
    have hR := hX.1
    have hF := hR.1
    have hP := pv_of hR hp
    have n40 := (rb_n hR).2.2
    obtain ⟨hs, h6⟩ := sz_toN hR hp
    have e53 : h.2.2.1 (z + 53) p = nI (toN (D 53 p)) := by rw [rb_ess hR 53 p (by decide) rfl]; exact hs
    have q0 : ix (nI p) 40 = true := ix_nI (by omega) (by decide)
    have q1 : (nI p).toNatClampNeg = p := nI_clamp (by omega)
    have h34 := hX.2.2.1
    by_cases q : i < toN (D 53 p)
    · have hhk : hkD D w kn T p = true := by unfold hkD; rw [← ej]; simp [h0, q]
      have hnx : nxD D w v u kn T p = D 57 (6 * p + i) := by unfold nxD; rw [if_pos h0, ← ej, if_pos q]
      obtain ⟨y, y1, y2, y3⟩ := tl_rg hP hs h6 (i + 1) (by omega)
      obtain ⟨⟨m, m1, m2, m3⟩, -⟩ := hP.2.2.2.2.2.2.2.2.2.2.2 i (by omega) (by rw [hs]; exact nI_lt (by omega) (by omega))
      have hy : y = x + m := by
        have e : tlD D p (i + 1) = tlD D p i + D 54 (6 * p + i) := rfl
        rw [ex, m3, nI_add, y3] at e
        exact (nI_eq (by omega) (by omega)).mp e
      have hd : dtD D w v kn T p = y := by unfold dtD; rw [if_pos h0, ← ej, if_pos q, if_neg (by rw [hk1]; decide), y3, toN_nI (by omega)]
      obtain ⟨g, eg⟩ : ∃ g, g = hp_si h (z + 43) 37 (nI (t + y)) := ⟨_, rfl⟩
      have fg : Fr z Sm h g := by rw [eg]; exact Fr.si (by decide) rfl
      have hXg := hX.fr fg
      have hFg := hXg.1.1
      have hSg : MS z g (t + y) l c k cl se cm ks := by rw [eg]; exact hS.tk
      obtain ⟨h', e1, f1, c1⟩ := m_press hFg hXg.2.2.1 P5 (by omega) hk (D 55 (6 * p + i)) hSg
      have hR' := f1.relB Sm_ess hXg.1
      have hF' := hR'.1
      refine ⟨h', ?_, fg.tr f1, ?_⟩
      · have e37 : nI (t + x) + D 54 (6 * p + i) = nI (t + y) := by rw [m3, nI_add, hy, Nat.add_assoc]
        have g32 : g.2.2.1 (z + 43) 32 = w := hXg.2.1.1
        rw [fx_s]
        simp only [bX11_goOn_104, fk_43 hF, gk_s, fr_43_10 hF, bd_s, fk_53 hF, fl_53 hF, gd_e q0, q1, e53, if_neg (nI_ge q (by omega)), fr_43_11 hF, fk_54 hF, fl_54 hF, i6, gd_e (ix_nI (p := 6 * p + i) (N := 240) (by omega) (by decide)), nI_clamp (n := 6 * p + i) (by omega), rb_ess hR 54 (6 * p + i) (by decide) rfl, nm_d, hS.1, e37, ← eg, fr_43_13 hFg, fk_56 hFg, fl_56 hFg, rb_ess hXg.1 56 (6 * p + i) (by decide) rfl, g32, bit1, if_pos (j3 q), fr_43_12 hFg, fk_55 hFg, fl_55 hFg, rb_ess hXg.1 55 (6 * p + i) (by decide) rfl, e1, b2_s, fk_43 hF', fr_43_14 hF', fk_57 hF', fl_57 hF', rb_ess hR' 57 (6 * p + i) (by decide) rfl, hnx]
      · by_cases qq : t + y ≤ P
        · simp only [if_pos qq] at c1
          have x1 : t2D D w v kn T P p t = t + y + 1 := by unfold t2D; rw [hd, if_pos ⟨hhk, qq⟩]
          have x2 : k2D D w v kn T P p t k = k + 1 := by unfold k2D; rw [hd, if_pos ⟨hhk, qq⟩]
          have x3 : ksD D w v kn T P p t k ks = va_up ks k (D 55 (6 * p + i)) := by unfold ksD; rw [hd, if_pos ⟨hhk, qq⟩, ← ej]
          rw [x1, x2, x3]
          exact c1
        · simp only [if_neg qq] at c1
          have x1 : t2D D w v kn T P p t = t + y := by unfold t2D; rw [hd, if_neg (fun r => qq r.2)]
          have x2 : k2D D w v kn T P p t k = k := by unfold k2D; rw [hd, if_neg (fun r => qq r.2)]
          have x3 : ksD D w v kn T P p t k ks = ks := by unfold ksD; rw [hd, if_neg (fun r => qq r.2)]
          rw [x1, x2, x3]
          exact c1
    · have hhk : hkD D w kn T p = false := by unfold hkD; rw [← ej]; simp [q]
      have hnx : nxD D w v u kn T p = D 47 p := by unfold nxD; rw [if_pos h0, ← ej, if_neg q]
      obtain ⟨t', k', b', t1, t2, e46, ek, k1, b1, b2, e45, ehr, g1, g2⟩ := hr_rg hP h0 hs h6
      have hd : dtD D w v kn T p = t' * (k' + b') := by unfold dtD; rw [if_pos h0, ← ej, if_neg q, ehr, toN_nI (by omega)]
      have x1 : t2D D w v kn T P p t = t + t' * (k' + b') := by unfold t2D; rw [hd, hhk, if_neg (by simp)]
      have x2 : k2D D w v kn T P p t k = k := by unfold k2D; rw [hhk, if_neg (by simp)]
      have x3 : ksD D w v kn T P p t k ks = ks := by unfold ksD; rw [hhk, if_neg (by simp)]
      have hxk : x = k' := by
        rw [show i = toN (D 53 p) by omega, ek] at ex
        exact ((nI_eq (by omega) (by omega)).mp ex).symm
      have hdiv : nI (t' * (k' + b')) / nI t' = nI (k' + b') := by
        rw [pk_div (by omega) (by omega) (by omega), Nat.mul_div_cancel_left _ (by omega)]
      have hg : nI (t + x) - nI (t' * (k' + b')) / nI t' + nI b' + nI (t' * (k' + b')) = nI (t + t' * (k' + b')) := by
        rw [hdiv, hxk, ← nI_add t k', ← nI_add k' b', i_alg, nI_add]
      have hz46 : decide (¬ nI t' = 0) = true := decide_eq_true (nI_ne0 (by omega) (by omega))
      have r47 : (hp_si h (z + 43) 37 (nI (t + t' * (k' + b')))).2.2.1 (z + 47) p = D 47 p := by rw [si_3, u2_at, if_neg (by omega)]; exact rb_ess hR 47 p (by decide) rfl
      refine ⟨hp_si h (z + 43) 37 (nI (t + t' * (k' + b'))), ?_, Fr.si (by decide) rfl, by rw [x1, x2, x3]; exact hS.tk⟩
      rw [fx_s]
      simp only [bX11_goOn_104, fk_43 hF, gk_s, fr_43_10 hF, bd_s, fk_53 hF, fl_53 hF, gd_e q0, q1, e53, if_pos (nI_le (show toN (D 53 p) ≤ i by omega) (by omega)), m_heard hR hp hs h6, b2_s, fr_43_3 hF, fk_46 hF, fl_46 hF, rb_ess hR 46 p (by decide) rfl, e46, gd_e hz46, fr_43_2 hF, fk_45 hF, fl_45 hF, rb_ess hR 45 p (by decide) rfl, e45, hS.1, ehr, hg, nm_d, si_4, si_1, si_2, fr_43_4 hF, fk_47 hF, fl_47 hF, r47, hnx]
  | succ d ih =>
    intro i f h hX hi hf hx
    obtain ⟨f, rfl⟩ : ∃ k, f = k + 1 := ⟨f - 1, by omega⟩
    obtain ⟨x, xb, ex, hS⟩ := hx
    have hR := hX.1
    have hF := hR.1
    have hP := pv_of hR hp
    have n40 := (rb_n hR).2.2
    obtain ⟨hs, h6⟩ := sz_toN hR hp
    have q : i < toN (D 53 p) := by omega
    have e53 : h.2.2.1 (z + 53) p = nI (toN (D 53 p)) := by rw [rb_ess hR 53 p (by decide) rfl]; exact hs
    have q0 : ix (nI p) 40 = true := ix_nI (by omega) (by decide)
    have q1 : (nI p).toNatClampNeg = p := nI_clamp (by omega)
    obtain ⟨⟨m, m1, m2, m3⟩, -⟩ := hP.2.2.2.2.2.2.2.2.2.2.2 i (by omega) (by rw [hs]; exact nI_lt (by omega) (by omega))
    have e37 : nI (t + x) + D 54 (6 * p + i) = nI (t + (x + m)) := by rw [m3, nI_add, Nat.add_assoc]
    obtain ⟨g, eg⟩ : ∃ g, g = hp_si h (z + 43) 37 (nI (t + (x + m))) := ⟨_, rfl⟩
    have fg : Fr z Sm h g := by rw [eg]; exact Fr.si (by decide) rfl
    have hXg := hX.fr fg
    have hFg := hXg.1.1
    have hSg : MS z g (t + (x + m)) l c k cl se cm ks := by rw [eg]; exact hS.tk
    have g32 : g.2.2.1 (z + 43) 32 = w := hXg.2.1.1
    obtain ⟨h', e1, f1, c1⟩ := ih (i + 1) f g hXg (by omega) (by omega) ⟨x + m, by omega, by show tlD D p i + D 54 (6 * p + i) = _; rw [ex, m3, nI_add], hSg⟩
    refine ⟨h', ?_, fg.tr f1, c1⟩
    rw [fx_s]
    simp only [bX11_goOn_104, fk_43 hF, gk_s, fr_43_10 hF, bd_s, fk_53 hF, fl_53 hF, gd_e q0, q1, e53, if_neg (nI_ge q (by omega)), fr_43_11 hF, fk_54 hF, fl_54 hF, i6, gd_e (ix_nI (p := 6 * p + i) (N := 240) (by omega) (by decide)), nI_clamp (n := 6 * p + i) (by omega), rb_ess hR 54 (6 * p + i) (by decide) rfl, nm_d, hS.1, e37, ← eg, fr_43_13 hFg, fk_56 hFg, fl_56 hFg, rb_ess hXg.1 56 (6 * p + i) (by decide) rfl, g32, bit1, if_neg (j2 i (by omega)), nI_1]
    exact e1
theorem m_goOn (hX : MoX z h D n ng pa ba la ca kn T U w v u P) (hp : p < n) (h0 : D 44 p = 0) (hTp : kn = true → T p < 1000000) (ht : t ≤ P) (hk : k < 1000000) (hS : MS z h t l c k cl se cm ks) :
    ∃ h', fX11_goOn (z + 43) (nI p) (if kn = true then 1 else 0) h = some (nxD D w v u kn T p, h') ∧ Fr z Sm h h' ∧ MS z h' (t2D D w v kn T P p t) l c (k2D D w v kn T P p t k) cl se cm (ksD D w v kn T P p t k ks) := by
  cases hkn : kn
  · obtain ⟨h', e1, f1, c1⟩ := m_goOn_l (v := v) (u := u) (U := U) hkn hp h0 ht hk hX.2.2.2.1 rfl (jD D w kn T p) 0 NF h hX (by omega) (by
      have h1 := (sz_toN hX.1 hp).2
      have h2 : jD D w kn T p ≤ toN (D 53 p) := fa_first_le _ _
      have := NF_big
      omega) ⟨0, by omega, rfl, hS⟩
    rw [hkn] at e1 c1
    refine ⟨h', ?_, f1, c1⟩
    simp only [fX11_goOn, Bool.false_eq_true, if_false, if_true]
    exact e1
  · obtain ⟨h', e1, f1, c1⟩ := m_goOn_k hX hkn hp h0 (hTp hkn) ht hk hS
    rw [hkn] at e1 c1
    exact ⟨h', by simp only [if_true]; exact e1, f1, c1⟩
end
