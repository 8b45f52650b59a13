/-! arrange -/
section
variable {z : Nat} {h : Hp} {D : Nat → Nat → Int32} {n ng : Nat} {pa ba : Nat → Nat} {la : Nat → Nat → Nat} {ca : Nat → Nat} {p s : Nat} {o : Nat → Nat}
/-- all but some references is as it was -/
def sameI (h h' : Hp) : Prop := h'.1 = h.1 ∧ h'.2.1 = h.2.1 ∧ h'.2.2.1 = h.2.2.1 ∧ h'.2.2.2.2 = h.2.2.2.2
theorem sameI.sr {h h' : Hp} {a k : Nat} {v : Option Nat} (q : sameI h h') : sameI h (hp_sr h' a k v) := ⟨q.1, q.2.1, q.2.2.1, q.2.2.2⟩
theorem x_put1 (hR : RelB z h D n ng pa ba la ca) (hp : p < n) (hs : D 53 p = nI s) (h6 : s ≤ 6) : ∀ (d i f : Nat) (h' : Hp), i + d = s → d < f → sameI h h' → (∀ a, a ≠ z + 14 → h'.2.2.2.1 a = h.2.2.2.1 a) → (∀ j, j < i → h'.2.2.2.1 (z + 14) j = some (la p j)) →
    ∃ h2, fx bX4_putInOrder_2 (fun _ _ _ _ => none) f (z + 11) (some (pa p)) (nI i) h' = fX4_putInOrder_30 (z + 11) (pa p) 0 h2 ∧ sameI h h2 ∧ (∀ a, a ≠ z + 14 → h2.2.2.2.1 a = h.2.2.2.1 a) ∧ ∀ j, j < s → h2.2.2.2.1 (z + 14) j = some (la p j) := by
  have hF := hR.1
  have hz0 := hF.2.2.2
  obtain ⟨p1, p2, p3, -, -, -, -, -, p10, -⟩ := x_pl hR hp
  obtain ⟨-, hpa, hba, -⟩ := pl_facts hR hp
  intro d
  induction d with
  | zero =>
    intro i f h' hi hf q1 q2 q3
    obtain ⟨f, rfl⟩ : ∃ k, f = k + 1 := ⟨f - 1, by omega⟩
    obtain rfl : i = s := by omega
    obtain ⟨t1, t2, t3, t4⟩ := q1
    refine ⟨h', ?_, ⟨t1, t2, t3, t4⟩, q2, q3⟩
    rw [fx_s]
    simp only [bX4_putInOrder_2, bd_s, t1, t3, p1, gk_s, p10, hs, if_pos (nI_le (Nat.le_refl i) (by omega))]
  | succ d ih =>
    intro i f h' hi hf q1 q2 q3
    obtain ⟨f, rfl⟩ : ∃ k, f = k + 1 := ⟨f - 1, by omega⟩
    obtain ⟨i1, i2, i3, -⟩ := x_ln hR hp hs h6 (i := i) (by omega)
    obtain ⟨h2, e1, s1, s2, s3⟩ := ih (i + 1) f (hp_sr h' (z + 14) i (some (la p i))) (by omega) (by omega) q1.sr (fun a ha => by rw [sr_4, u2_ne ha]; exact q2 a ha) (fun j hj => by
      rw [sr_4, u2_at]
      by_cases q : j = i
      · rw [if_pos ⟨rfl, q⟩, q]
      · rw [if_neg (fun r => q r.2)]; exact q3 j (by omega))
    refine ⟨h2, ?_, s1, s2, s3⟩
    obtain ⟨t1, t2, t3, t4⟩ := q1
    rw [fx_s]
    simp only [bX4_putInOrder_2, bd_s, t1, t2, t3, p1, gk_s, p10, hs, if_neg (nI_ge (show i < s by omega) (by omega)), fk_11 hF, q2 (z + 11) (by omega), fr_11_2 hF, q2 (pa p) (by omega), p2, p3, i1, gd_e (ix_nI (p := i) (N := 6) (by omega) (by decide)), nI_clamp (n := i) (by omega), q2 (ba p) (by omega), i2, fk_14 hF, fl_14 hF, i3, nm_d, nI_1]
    exact e1
theorem x_put2 (hR : RelB z h D n ng pa ba la ca) (hp : p < n) (hs : D 53 p = nI s) (h6 : s ≤ 6) (ho : ∀ a, a < s → h.2.2.1 (z + 13) a = nI (o a) ∧ o a < s) : ∀ (d i f : Nat) (h' : Hp), i + d = s → d < f → sameI h h' → (∀ a, a ≠ z + 14 → a ≠ ba p → h'.2.2.2.1 a = h.2.2.2.1 a) → (∀ j, j < s → h'.2.2.2.1 (z + 14) j = some (la p j)) → (∀ j, j < i → h'.2.2.2.1 (ba p) j = some (la p (o j))) →
    ∃ h2, fx bX4_putInOrder_30 (fun _ _ _ _ => none) f (z + 11) (pa p) (nI i) h' = some ((), h2) ∧ sameI h h2 ∧ (∀ a, a ≠ z + 14 → a ≠ ba p → h2.2.2.2.1 a = h.2.2.2.1 a) ∧ ∀ j, j < s → h2.2.2.2.1 (ba p) j = some (la p (o j)) := by
  have hF := hR.1
  have hz0 := hF.2.2.2
  obtain ⟨p1, p2, p3, -, -, -, -, -, p10, -⟩ := x_pl hR hp
  obtain ⟨-, hpa, hba, -⟩ := pl_facts hR hp
  have hne : pa p ≠ ba p := fun e => by rw [e, p3] at p1; exact absurd p1 (by decide)
  intro d
  induction d with
  | zero =>
    intro i f h' hi hf q1 q2 q3 q4
    obtain ⟨f, rfl⟩ : ∃ k, f = k + 1 := ⟨f - 1, by omega⟩
    obtain rfl : i = s := by omega
    obtain ⟨t1, t2, t3, t4⟩ := q1
    refine ⟨h', ?_, ⟨t1, t2, t3, t4⟩, q2, q4⟩
    rw [fx_s]
    simp only [bX4_putInOrder_30, t1, t3, p1, gk_s, p10, hs, if_pos (nI_le (Nat.le_refl i) (by omega))]
  | succ d ih =>
    intro i f h' hi hf q1 q2 q3 q4
    obtain ⟨f, rfl⟩ : ∃ k, f = k + 1 := ⟨f - 1, by omega⟩
    obtain ⟨o1, o2⟩ := ho i (by omega)
    obtain ⟨i1, i2, i3, -⟩ := x_ln hR hp hs h6 (i := o i) o2
    obtain ⟨h2, e1, s1, s2, s3⟩ := ih (i + 1) f (hp_sr h' (ba p) i (some (la p (o i)))) (by omega) (by omega) q1.sr (fun a ha hb => by rw [sr_4, u2_ne hb]; exact q2 a ha hb) (fun j hj => by rw [sr_4, u2_ne (by omega)]; exact q3 j hj) (fun j hj => by
      rw [sr_4, u2_at]
      by_cases q : j = i
      · rw [if_pos ⟨rfl, q⟩, q]
      · rw [if_neg (fun r => q r.2)]; exact q4 j (by omega))
    refine ⟨h2, ?_, s1, s2, s3⟩
    obtain ⟨t1, t2, t3, t4⟩ := q1
    rw [fx_s]
    simp only [bX4_putInOrder_30, t1, t2, t3, p1, gk_s, p10, hs, if_neg (nI_ge (show i < s by omega) (by omega)), q2 (pa p) (by omega) hne, p2, bd_s, fk_11 hF, q2 (z + 11) (by omega) (by omega), fr_11_2 hF, fr_11_1 hF, fk_13 hF, fl_13 hF, gd_e (ix_nI (p := i) (N := 6) (by omega) (by decide)), nI_clamp (n := i) (by omega), o1, fk_14 hF, fl_14 hF, gd_e (ix_nI (p := o i) (N := 6) (by omega) (by decide)), nI_clamp (n := o i) (by omega), q3 (o i) o2, p3, i3, i1, nm_d, nI_1]
    exact e1
def S77 : Nat → Nat → Bool := fun c _ => c == 77
def S54 : Nat → Nat → Bool := fun c _ => c == 54 || c == 55 || c == 56 || c == 57
theorem i_6 (i : Nat) : (6 : Int32) + nI i = nI (6 + i) := nI_add 6 i
theorem i_12 (i : Nat) : (12 : Int32) + nI i = nI (12 + i) := nI_add 12 i
theorem i_18 (i : Nat) : (18 : Int32) + nI i = nI (18 + i) := nI_add 18 i
theorem m_arr1 (hR : RelM z h D n ng pa ba la ca) (hp : p < n) (hs : D 53 p = nI s) (h6 : s ≤ 6) (ho : ∀ a, a < s → h.2.2.1 (z + 76) a = nI (o a) ∧ o a < s) : ∀ (d i f : Nat) (h' : Hp), i + d = s → d < f → Fr z S77 h h' → (∀ j, j < i → h'.2.2.1 (z + 77) j = D 54 (6 * p + o j) ∧ h'.2.2.1 (z + 77) (6 + j) = D 55 (6 * p + o j) ∧ h'.2.2.1 (z + 77) (12 + j) = D 56 (6 * p + o j) ∧ h'.2.2.1 (z + 77) (18 + j) = D 57 (6 * p + o j)) →
    ∃ h2, fx bX11_arrange_17 (fun _ _ _ _ => none) f (z + 43) (nI p) (nI i) h' = fX11_arrange_104 (z + 43) (nI p) 0 h2 ∧ Fr z S77 h h2 ∧ (∀ j, j < s → h2.2.2.1 (z + 77) j = D 54 (6 * p + o j) ∧ h2.2.2.1 (z + 77) (6 + j) = D 55 (6 * p + o j) ∧ h2.2.2.1 (z + 77) (12 + j) = D 56 (6 * p + o j) ∧ h2.2.2.1 (z + 77) (18 + j) = D 57 (6 * p + o j)) := by
  have S77_ess : ∀ c k, S77 c k = true → ess c k = false := by
    intro c k q
    have : c = 77 := by simpa [S77] using q
    subst this
    rfl
  have n40 := (rb_n_M hR).2.2
  have q0 : ix (nI p) 40 = true := ix_nI (by omega) (by decide)
  have q1 : (nI p).toNatClampNeg = p := nI_clamp (by omega)
  intro d
  induction d with
  | zero =>
    intro i f h' hi hf hfr hro
    obtain ⟨f, rfl⟩ : ∃ k, f = k + 1 := ⟨f - 1, by omega⟩
    obtain rfl : i = s := by omega
    have hR' := hfr.relM S77_ess hR
    have hF' := hR'.1
    refine ⟨h', ?_, hfr, hro⟩
    rw [fx_s]
    simp only [bX11_arrange_17, fk_43 hF', gk_s, fr_43_10 hF', bd_s, fk_53 hF', fl_53 hF', gd_e q0, q1, rb_ess_M hR' 53 p (by decide) rfl, hs, if_pos (nI_le (Nat.le_refl i) (by omega))]
  | succ d ih =>
    intro i f h' hi hf hfr hro
    obtain ⟨f, rfl⟩ : ∃ k, f = k + 1 := ⟨f - 1, by omega⟩
    have hR' := hfr.relM S77_ess hR
    have hF' := hR'.1
    obtain ⟨o1, o2⟩ := ho i (by omega)
    have o1' : h'.2.2.1 (z + 76) i = nI (o i) := by rw [hfr.2.2.2.2.1 76 i (by decide) rfl]; exact o1
    obtain ⟨g1, eg1⟩ : ∃ g1, g1 = hp_si h' (z + 77) i (D 54 (6 * p + o i)) := ⟨_, rfl⟩
    obtain ⟨g2, eg2⟩ : ∃ g2, g2 = hp_si g1 (z + 77) (6 + i) (D 55 (6 * p + o i)) := ⟨_, rfl⟩
    obtain ⟨g3, eg3⟩ : ∃ g3, g3 = hp_si g2 (z + 77) (12 + i) (D 56 (6 * p + o i)) := ⟨_, rfl⟩
    obtain ⟨g4, eg4⟩ : ∃ g4, g4 = hp_si g3 (z + 77) (18 + i) (D 57 (6 * p + o i)) := ⟨_, rfl⟩
    have F1 : fxd z g1 := by rw [eg1]; exact hF'
    have F2 : fxd z g2 := by rw [eg2]; exact F1
    have F3 : fxd z g3 := by rw [eg3]; exact F2
    have fr4 : Fr z S77 h' g4 := by rw [eg4, eg3, eg2, eg1]; exact (((Fr.si (by decide) rfl).tr (Fr.si (by decide) rfl)).tr (Fr.si (by decide) rfl)).tr (Fr.si (by decide) rfl)
    have r1 : g1.2.2.1 (z + 55) (6 * p + o i) = D 55 (6 * p + o i) := by rw [eg1, si_3, u2_ne (by omega)]; exact rb_ess_M hR' 55 _ (by decide) rfl
    have r2 : g2.2.2.1 (z + 56) (6 * p + o i) = D 56 (6 * p + o i) := by rw [eg2, si_3, u2_ne (by omega), eg1, si_3, u2_ne (by omega)]; exact rb_ess_M hR' 56 _ (by decide) rfl
    have r3 : g3.2.2.1 (z + 57) (6 * p + o i) = D 57 (6 * p + o i) := by rw [eg3, si_3, u2_ne (by omega), eg2, si_3, u2_ne (by omega), eg1, si_3, u2_ne (by omega)]; exact rb_ess_M hR' 57 _ (by decide) rfl
    have r77 : ∀ j, g4.2.2.1 (z + 77) j = if j = 18 + i then D 57 (6 * p + o i) else if j = 12 + i then D 56 (6 * p + o i) else if j = 6 + i then D 55 (6 * p + o i) else if j = i then D 54 (6 * p + o i) else h'.2.2.1 (z + 77) j := fun j => by
      rw [eg4, eg3, eg2, eg1]; simp only [si_3, u2_at, true_and]
    obtain ⟨h2, e1, f1, c1⟩ := ih (i + 1) f g4 (by omega) (by omega) (hfr.tr fr4) (fun j hj => by
      rw [r77, r77, r77, r77]
      by_cases q : j = i
      · subst q
        refine ⟨?_, ?_, ?_, ?_⟩
        · rw [if_neg (by omega), if_neg (by omega), if_neg (by omega), if_pos rfl]
        · rw [if_neg (by omega), if_neg (by omega), if_pos rfl]
        · rw [if_neg (by omega), if_pos rfl]
        · rw [if_pos rfl]
      · obtain ⟨a1, a2, a3, a4⟩ := hro j (by omega)
        refine ⟨?_, ?_, ?_, ?_⟩ <;> (rw [if_neg (by omega), if_neg (by omega), if_neg (by omega), if_neg (by omega)]; assumption))
    refine ⟨h2, ?_, f1, c1⟩
    rw [fx_s]
    simp only [bX11_arrange_17, fk_43 hF', gk_s, fr_43_10 hF', bd_s, fk_53 hF', fl_53 hF', gd_e q0, q1, rb_ess_M hR' 53 p (by decide) rfl, hs, if_neg (nI_ge (show i < s by omega) (by omega)), fr_43_49 hF', fk_76 hF', fl_76 hF', gd_e (ix_nI (p := i) (N := 6) (by omega) (by decide)), nI_clamp (n := i) (by omega), o1', i6, nm_d, fr_43_50 hF', fr_43_11 hF', fk_54 hF', fl_54 hF', gd_e (ix_nI (p := 6 * p + o i) (N := 240) (by omega) (by decide)), nI_clamp (n := 6 * p + o i) (by omega), rb_ess_M hR' 54 (6 * p + o i) (by decide) rfl, fk_77 hF', fl_77 hF', gd_e (ix_nI (p := i) (N := 24) (by omega) (by decide)), ← eg1, fr_43_12 F1, fk_55 F1, fl_55 F1, r1, i_6, fl_77 F1, gd_e (ix_nI (p := 6 + i) (N := 24) (by omega) (by decide)), nI_clamp (n := 6 + i) (by omega), ← eg2, fr_43_13 F2, fk_56 F2, fl_56 F2, r2, i_12, fl_77 F2, gd_e (ix_nI (p := 12 + i) (N := 24) (by omega) (by decide)), nI_clamp (n := 12 + i) (by omega), ← eg3, fr_43_14 F3, fk_57 F3, fl_57 F3, r3, i_18, fl_77 F3, gd_e (ix_nI (p := 18 + i) (N := 24) (by omega) (by decide)), nI_clamp (n := 18 + i) (by omega), ← eg4, nI_1]
    exact e1
def pmD (D : Nat → Nat → Int32) (p s : Nat) (o : Nat → Nat) : Nat → Nat → Int32 := fun c k => if (54 ≤ c ∧ c ≤ 57) ∧ 6 * p ≤ k ∧ k < 6 * p + s then D c (6 * p + o (k - 6 * p)) else D c k
theorem m_arr2 (hR : RelM z h D n ng pa ba la ca) (hp : p < n) (hs : D 53 p = nI s) (h6 : s ≤ 6) (ho : ∀ j, j < s → h.2.2.1 (z + 77) j = D 54 (6 * p + o j) ∧ h.2.2.1 (z + 77) (6 + j) = D 55 (6 * p + o j) ∧ h.2.2.1 (z + 77) (12 + j) = D 56 (6 * p + o j) ∧ h.2.2.1 (z + 77) (18 + j) = D 57 (6 * p + o j)) : ∀ (d i f : Nat) (h' : Hp), i + d = s → d < f → fxd z h' → Fr z S54 h h' → (∀ c k, 54 ≤ c → c ≤ 57 → h'.2.2.1 (z + c) k = pmD D p i o c k) →
    ∃ h2, fx bX11_arrange_104 (fun _ _ _ _ => none) f (z + 43) (nI p) (nI i) h' = some (0, h2) ∧ Fr z S54 h h2 ∧ (∀ c k, 54 ≤ c → c ≤ 57 → h2.2.2.1 (z + c) k = pmD D p s o c k) := by
  have n40 := (rb_n_M hR).2.2
  have q0 : ix (nI p) 40 = true := ix_nI (by omega) (by decide)
  have q1 : (nI p).toNatClampNeg = p := nI_clamp (by omega)
  intro d
  induction d with
  | zero =>
    intro i f h' hi hf hF' hfr hro
    obtain ⟨f, rfl⟩ : ∃ k, f = k + 1 := ⟨f - 1, by omega⟩
    obtain rfl : i = s := by omega
    have e53 : h'.2.2.1 (z + 53) p = nI i := by rw [hfr.2.2.2.2.1 53 p (by decide) rfl, rb_ess_M hR 53 p (by decide) rfl]; exact hs
    refine ⟨h', ?_, hfr, hro⟩
    rw [fx_s]
    simp only [bX11_arrange_104, fk_43 hF', gk_s, fr_43_10 hF', bd_s, fk_53 hF', fl_53 hF', gd_e q0, q1, e53, if_pos (nI_le (Nat.le_refl i) (by omega))]
  | succ d ih =>
    intro i f h' hi hf hF' hfr hro
    obtain ⟨f, rfl⟩ : ∃ k, f = k + 1 := ⟨f - 1, by omega⟩
    have e53 : h'.2.2.1 (z + 53) p = nI s := by rw [hfr.2.2.2.2.1 53 p (by decide) rfl, rb_ess_M hR 53 p (by decide) rfl]; exact hs
    obtain ⟨a1, a2, a3, a4⟩ := ho i (by omega)
    have b77 : ∀ j, h'.2.2.1 (z + 77) j = h.2.2.1 (z + 77) j := fun j => hfr.2.2.2.2.1 77 j (by decide) rfl
    obtain ⟨g1, eg1⟩ : ∃ g1, g1 = hp_si h' (z + 54) (6 * p + i) (D 54 (6 * p + o i)) := ⟨_, rfl⟩
    obtain ⟨g2, eg2⟩ : ∃ g2, g2 = hp_si g1 (z + 55) (6 * p + i) (D 55 (6 * p + o i)) := ⟨_, rfl⟩
    obtain ⟨g3, eg3⟩ : ∃ g3, g3 = hp_si g2 (z + 56) (6 * p + i) (D 56 (6 * p + o i)) := ⟨_, rfl⟩
    obtain ⟨g4, eg4⟩ : ∃ g4, g4 = hp_si g3 (z + 57) (6 * p + i) (D 57 (6 * p + o i)) := ⟨_, rfl⟩
    have F1 : fxd z g1 := by rw [eg1]; exact hF'
    have F2 : fxd z g2 := by rw [eg2]; exact F1
    have F3 : fxd z g3 := by rw [eg3]; exact F2
    have F4 : fxd z g4 := by rw [eg4]; exact F3
    have fr4 : Fr z S54 h' g4 := by rw [eg4, eg3, eg2, eg1]; exact (((Fr.si (by decide) rfl).tr (Fr.si (by decide) rfl)).tr (Fr.si (by decide) rfl)).tr (Fr.si (by decide) rfl)
    have r1 : g1.2.2.1 (z + 77) (6 + i) = D 55 (6 * p + o i) := by rw [eg1, si_3, u2_ne (by omega), b77]; exact a2
    have r2 : g2.2.2.1 (z + 77) (12 + i) = D 56 (6 * p + o i) := by rw [eg2, si_3, u2_ne (by omega), eg1, si_3, u2_ne (by omega), b77]; exact a3
    have r3 : g3.2.2.1 (z + 77) (18 + i) = D 57 (6 * p + o i) := by rw [eg3, si_3, u2_ne (by omega), eg2, si_3, u2_ne (by omega), eg1, si_3, u2_ne (by omega), b77]; exact a4
    obtain ⟨h2, e1, f1, c1⟩ := ih (i + 1) f g4 (by omega) (by omega) F4 (hfr.tr fr4) (fun c k hc1 hc2 => by
      have hk0 := hro c k hc1 hc2
      by_cases q : k = 6 * p + i
      · subst q
        have : pmD D p (i + 1) o c (6 * p + i) = D c (6 * p + o i) := by
          unfold pmD
          rw [if_pos ⟨⟨hc1, hc2⟩, by omega, by omega⟩, Nat.add_sub_cancel_left]
        rw [this]
        rcases (show c = 54 ∨ c = 55 ∨ c = 56 ∨ c = 57 by omega) with rfl | rfl | rfl | rfl
        · rw [eg4, si_3, u2_ne (by omega), eg3, si_3, u2_ne (by omega), eg2, si_3, u2_ne (by omega), eg1, si_3, u2_at, if_pos ⟨rfl, rfl⟩]
        · rw [eg4, si_3, u2_ne (by omega), eg3, si_3, u2_ne (by omega), eg2, si_3, u2_at, if_pos ⟨rfl, rfl⟩]
        · rw [eg4, si_3, u2_ne (by omega), eg3, si_3, u2_at, if_pos ⟨rfl, rfl⟩]
        · rw [eg4, si_3, u2_at, if_pos ⟨rfl, rfl⟩]
      · have : pmD D p (i + 1) o c k = pmD D p i o c k := by
          unfold pmD
          by_cases q2 : (54 ≤ c ∧ c ≤ 57) ∧ 6 * p ≤ k ∧ k < 6 * p + i
          · rw [if_pos q2, if_pos ⟨q2.1, q2.2.1, by omega⟩]
          · rw [if_neg q2, if_neg (by omega)]
        rw [this, eg4, si_3, u2_at, if_neg (fun r => q r.2), eg3, si_3, u2_at, if_neg (fun r => q r.2), eg2, si_3, u2_at, if_neg (fun r => q r.2), eg1, si_3, u2_at, if_neg (fun r => q r.2)]
        exact hk0)
    refine ⟨h2, ?_, f1, c1⟩
    rw [fx_s]
    simp only [bX11_arrange_104, fk_43 hF', gk_s, fr_43_10 hF', bd_s, fk_53 hF', fl_53 hF', gd_e q0, q1, e53, if_neg (nI_ge (show i < s by omega) (by omega)), fr_43_11 hF', fr_43_50 hF', fk_77 hF', fl_77 hF', gd_e (ix_nI (p := i) (N := 24) (by omega) (by decide)), nI_clamp (n := i) (by omega), b77, a1, fk_54 hF', fl_54 hF', i6, gd_e (ix_nI (p := 6 * p + i) (N := 240) (by omega) (by decide)), nI_clamp (n := 6 * p + i) (by omega), nm_d, ← eg1, fr_43_12 F1, fl_77 F1, i_6, gd_e (ix_nI (p := 6 + i) (N := 24) (by omega) (by decide)), nI_clamp (n := 6 + i) (by omega), fk_55 F1, fl_55 F1, r1, ← eg2, fr_43_13 F2, fl_77 F2, i_12, gd_e (ix_nI (p := 12 + i) (N := 24) (by omega) (by decide)), nI_clamp (n := 12 + i) (by omega), fk_56 F2, fl_56 F2, r2, ← eg3, fr_43_14 F3, fl_77 F3, i_18, gd_e (ix_nI (p := 18 + i) (N := 24) (by omega) (by decide)), nI_clamp (n := 18 + i) (by omega), fk_57 F3, fl_57 F3, r3, ← eg4, nI_1]
    exact e1
end
