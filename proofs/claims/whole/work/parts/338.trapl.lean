/-! traps: the class's rounds -/
def trB (D : Nat → Nat → Int32) (n : Nat) (u : Int32) (p : Nat) : Bool := RD D n u n p && !(WD D n u n p)
def tr2 (t : Nat → Bool) (v : Int32) : Nat → Nat → Nat → Int32
  | 0, _, c => if 0 ≤ v then -4 else nI c
  | d + 1, i, c => if t i = true then (if nI c = v then nI i else tr2 t v d (i + 1) (c + 1)) else tr2 t v d (i + 1) c
section
variable {z : Nat} {h : Hp} {D : Nat → Nat → Int32} {n ng : Nat} {pa ba : Nat → Nat} {la : Nat → Nat → Nat} {ca : Nat → Nat} {p : Nat} {u : Int32}
theorem x_spread (hR : RelB z h D n ng pa ba la ca) (hp : p < n) (hS : Snd z 6 7 h D n u) :
    ∃ c h', fX7_spread (z + 5) (some (pa p)) (nI p) u h = some (c, h') ∧ Fr z S67 h h' ∧ Snd z 6 7 h' D n u ∧ Mn z 6 7 h h' ∧ (∀ q, q < n → eB D u p q = true → Mk z 6 h p → Mk z 6 h' q) ∧ ((D 44 p = 1 ∨ ∃ q, q < n ∧ eB D u p q = true ∧ Mk z 7 h q) → Mk z 7 h' p) ∧ (c = 0 → h' = h) ∧ (c = 0 ∨ c = 1) := by
  obtain ⟨p1, -, -, p5, -⟩ := x_pl hR hp
  have nfb := NF_big
  have h8 : exN D p ≤ 7 := by
    have := (sz_toN hR hp).2
    unfold exN
    split
    · omega
    split
    · omega
    split <;> omega
  obtain ⟨c, h', e1, f1, s1, m1, g1, g2, g3, g4⟩ := x_spread_l (u := u) hp (exN D p) 0 NF h 0 (if D 44 p = 1 then 1 else 0) (by omega) (by omega) hR (Or.inl rfl) (by split; exact Or.inr rfl; exact Or.inl rfl) hS (fun r => by
    by_cases q : D 44 p = 1
    · exact LC_base hp (decide_eq_true q)
    · rw [if_neg q] at r; exact absurd r (by decide))
  refine ⟨c, h', ?_, f1, s1, m1, fun q hq he hm => ?_, fun q => g2 ?_, fun r => (g3 r).2, g4⟩
  · simp only [fX7_spread, bd_s, p1, gk_s, p5]
    by_cases q : D 44 p = 1
    · rw [if_pos q] at e1 ⊢; exact e1
    · rw [if_neg q] at e1 ⊢; exact e1
  · obtain ⟨j, j1, j2⟩ := anyN_iff.mp he
    have j3 := of_decide_eq_true j2
    rw [← j3]
    exact g1 j (Nat.zero_le j) j1 (by omega) hm
  · rcases q with q | ⟨q, hq, he, hm⟩
    · exact Or.inl (if_pos q)
    · obtain ⟨j, j1, j2⟩ := anyN_iff.mp he
      have j3 := of_decide_eq_true j2
      exact Or.inr ⟨j, Nat.zero_le j, j1, by omega, by rw [j3]; exact hm⟩
theorem x_round {rc : Nat → Option Nat → Int32 → Int32 → Int32 → Hp → Option (Unit × Hp)} (v4 : Int32) : ∀ (d i f : Nat) (h : Hp) (v3 : Int32), i + d = n → d < f → RelB z h D n ng pa ba la ca → (v3 = 0 ∨ v3 = 1) → Snd z 6 7 h D n u →
    ∃ c h', fx (bX7_look_44 rc) (fun _ _ _ _ _ _ _ => none) f (z + 5) (z + 1) u v3 v4 (nI i) h = rc (z + 5) (some (z + 1)) u c (v4 + 1) h' ∧ Fr z S67 h h' ∧ Snd z 6 7 h' D n u ∧ Mn z 6 7 h h' ∧ (∀ p, i ≤ p → p < n → ∀ q, q < n → eB D u p q = true → Mk z 6 h p → Mk z 6 h' q) ∧ (∀ p, i ≤ p → p < n → (D 44 p = 1 ∨ ∃ q, q < n ∧ eB D u p q = true ∧ Mk z 7 h q) → Mk z 7 h' p) ∧ (c = 0 → v3 = 0 ∧ h' = h) ∧ (c = 0 ∨ c = 1) := by
  intro d
  induction d with
  | zero =>
    intro i f h v3 hi hf hR h3 hS
    obtain ⟨f, rfl⟩ : ∃ k, f = k + 1 := ⟨f - 1, by omega⟩
    obtain rfl : i = n := by omega
    obtain ⟨n1, n2, n40⟩ := rb_n hR
    have hF := hR.1
    refine ⟨v3, h, ?_, Fr.rf, hS, fun _ => ⟨id, id⟩, fun p h1 h2 => by omega, fun p h1 h2 => by omega, fun q => ⟨q, rfl⟩, h3⟩
    rw [fx_s]
    simp only [bX7_look_44, fk_1 hF, gk_s, n1, if_pos (Int32.le_refl (nI i)), nm_d]
  | succ d ih =>
    intro i f h v3 hi hf hR h3 hS
    obtain ⟨f, rfl⟩ : ∃ k, f = k + 1 := ⟨f - 1, by omega⟩
    obtain ⟨n1, n2, n40⟩ := rb_n hR
    have hF := hR.1
    have hpl := (hR.2.2.2.1 i (by omega)).1
    obtain ⟨c, h1, e1, f1, s1, m1, g1, g2, g3, g4⟩ := x_spread (p := i) hR (by omega) hS
    have hR1 := f1.relB S67_ess hR
    obtain ⟨c', h', e2, f2, s2, m2, k1, k2, k3, k4⟩ := ih (i + 1) f h1 (if c = 0 then v3 else 1) (by omega) (by omega) hR1 (by split; exact h3; exact Or.inr rfl) s1
    refine ⟨c', h', ?_, f1.tr f2, s2, m1.tr m2, fun p h1 h2 q hq he hm => ?_, fun p h1 h2 hq => ?_, fun r => ?_, k4⟩
    · rw [fx_s]
      simp only [bX7_look_44, fk_1 hF, gk_s, n1, if_neg (nI_ge (show i < n by omega) (by omega)), fr_1_0 hF, bd_s, fk_2 hF, fl_2 hF, gd_e (ix_nI (p := i) (N := 40) (by omega) (by decide)), nI_clamp (n := i) (by omega), hpl, fk_5 hF, e1, b2_s, nm_d, nI_1]
      by_cases q : c = 0
      · rw [if_pos q] at e2 ⊢; exact e2
      · rw [if_neg q] at e2 ⊢; exact e2
    · by_cases r : p = i
      · rw [r] at he hm; exact (m2 q).1 (g1 q hq he hm)
      · exact k1 p (by omega) h2 q hq he ((m1 p).1 hm)
    · by_cases r : p = i
      · rw [r] at hq ⊢; exact (m2 i).2 (g2 hq)
      · refine k2 p (by omega) h2 ?_
        rcases hq with x | ⟨q, x1, x2, x3⟩
        · exact Or.inl x
        · exact Or.inr ⟨q, x1, x2, (m1 q).2 x3⟩
    · obtain ⟨r1, r2⟩ := k3 r
      by_cases q : c = 0
      · rw [if_pos q] at r1
        exact ⟨r1, r2.trans (g3 q)⟩
      · rw [if_neg q] at r1; exact absurd r1 (by decide)
theorem x_rounds_t : ∀ (e f r : Nat) (h : Hp) (v3 : Int32), r + e = n + 1 → e < f → RelB z h D n ng pa ba la ca → Snd z 6 7 h D n u → (∀ q, q < n → RD D n u (r + 1) q = true → Mk z 6 h q) → (∀ q, q < n → WD D n u r q = true → Mk z 7 h q) → (v3 = 0 → ∀ k q, q < n → (RD D n u k q = true → Mk z 6 h q) ∧ (WD D n u k q = true → Mk z 7 h q)) →
    ∃ h', fx bX7_look_26 (fun _ _ _ _ _ _ => none) f (z + 5) (some (z + 1)) u v3 (nI r) h = some ((), h') ∧ Fr z S67 h h' ∧ Snd z 6 7 h' D n u ∧ ∀ q, q < n → (RD D n u n q = true → Mk z 6 h' q) ∧ (WD D n u n q = true → Mk z 7 h' q) := by
  intro e
  induction e with
  | zero =>
    intro f r h v3 hr hf hR hS h1 h2 h3
    obtain ⟨f, rfl⟩ : ∃ k, f = k + 1 := ⟨f - 1, by omega⟩
    obtain rfl : r = n + 1 := by omega
    obtain ⟨n1, n2, n40⟩ := rb_n hR
    have hF := hR.1
    refine ⟨h, ?_, Fr.rf, hS, fun q hq => ⟨fun x => h1 q hq (LC_le (by omega) x), fun x => h2 q hq (LC_le (by omega) x)⟩⟩
    rw [fx_s]
    simp only [bX7_look_26, bd_s, fk_1 hF, gk_s, n1, if_pos (nI_lt (show n < n + 1 by omega) (by omega))]
  | succ e ih =>
    intro f r h v3 hr hf hR hS h1 h2 h3
    obtain ⟨f, rfl⟩ : ∃ k, f = k + 1 := ⟨f - 1, by omega⟩
    obtain ⟨n1, n2, n40⟩ := rb_n hR
    have hF := hR.1
    have nfb := NF_big
    have hnl : ¬ nI n < nI r := nI_nlt (by omega) (by omega)
    by_cases c3 : v3 = 0
    · refine ⟨h, ?_, Fr.rf, hS, h3 c3 n⟩
      rw [fx_s]
      simp only [bX7_look_26, bd_s, fk_1 hF, gk_s, n1, if_neg hnl, if_pos c3]
    · obtain ⟨c, g, e1, f1, s1, m1, k1, k2, k3, k4⟩ := x_round (rc := fx bX7_look_26 (fun _ _ _ _ _ _ => none) f) (nI r) n 0 NF h 0 (by omega) (by omega) hR (Or.inl rfl) hS
      have hR1 := f1.relB S67_ess hR
      have b0 : 0 < n → Mk z 6 h 0 := fun hn => h1 0 hn (LC_iff.mpr (Or.inl (by simp)))
      obtain ⟨h', e2, f2, s2, c2⟩ := ih f (r + 1) g c (by omega) (by omega) hR1 s1 (fun q hq hx => by
        rcases LC_iff.mp hx with x | ⟨p, x1, x2, x3⟩
        · have : q = 0 := of_decide_eq_true x
          rw [this]
          exact (m1 0).1 (b0 (by omega))
        · exact k1 p (Nat.zero_le p) x1 q hq x2 (h1 p x1 x3)) (fun q hq hx => by
        rcases LC_iff.mp hx with x | ⟨p, x1, x2, x3⟩
        · exact k2 q (Nat.zero_le q) hq (Or.inl (of_decide_eq_true x))
        · exact k2 q (Nat.zero_le q) hq (Or.inr ⟨p, x1, x2, h2 p x1 x3⟩)) (fun hc k q hq => by
        have hg := (k3 hc).2
        rw [hg] at k1 k2 ⊢
        refine ⟨LC_least (X := fun q => Mk z 6 h q) (fun q hq hb => ?_) (fun p q hp hq he hm => k1 p (Nat.zero_le p) hp q hq he hm) k q hq, LC_least (X := fun q => Mk z 7 h q) (fun q hq hb => k2 q (Nat.zero_le q) hq (Or.inl (of_decide_eq_true hb))) (fun p q hp hq he hm => k2 q (Nat.zero_le q) hq (Or.inr ⟨p, hp, he, hm⟩)) k q hq⟩
        have : q = 0 := of_decide_eq_true hb
        rw [this]
        exact b0 (by omega))
      refine ⟨h', ?_, f1.tr f2, s2, c2⟩
      rw [fx_s]
      simp only [bX7_look_26, bd_s, fk_1 hF, gk_s, n1, if_neg hnl, if_neg c3, fX7_look_44]
      rw [show nI r + 1 = nI (r + 1) from nI_1 r] at e1
      exact e1.trans e2
theorem x_look (hR : RelB z h D n ng pa ba la ca) (hn : 0 < n) : ∃ h', fX7_look (z + 5) (some (z + 1)) u h = some ((), h') ∧ Fr z S67 h h' ∧ ∀ q, q < n → (Mk z 6 h' q ↔ RD D n u n q = true) ∧ (Mk z 7 h' q ↔ WD D n u n q = true) := by
  have hF := hR.1
  have n40 := (rb_n hR).2.2
  have nfb := NF_big
  obtain ⟨h1, e1, a2, a3, a4, a5, a6⟩ := x_clear (a := z + 6) (N := 40) (h := h) (by decide) (fk_6 hF) (fl_6 hF)
  have f1 : Fr z S67 h h1 := fr_of_row (c := 6) (by decide) (fun _ => rfl) a2 a3 a4 a5
  have hF1 := (f1.relB S67_ess hR).1
  obtain ⟨h2, e2, b2', b3, b4, b5, b6⟩ := x_clear (a := z + 7) (N := 40) (h := h1) (by decide) (fk_7 hF1) (fl_7 hF1)
  have f2 : Fr z S67 h1 h2 := fr_of_row (c := 7) (by decide) (fun _ => rfl) b2' b3 b4 b5
  have hF2 := (f2.relB S67_ess (f1.relB S67_ess hR)).1
  have f3 : Fr z S67 h2 (hp_si h2 (z + 6) 0 1) := Fr.si (by decide) rfl
  have r6 : ∀ q, q < 40 → (hp_si h2 (z + 6) 0 1).2.2.1 (z + 6) q = if q = 0 then 1 else 0 := fun q hq => by
    rw [si_3, u2_at]
    by_cases x : q = 0
    · rw [if_pos ⟨rfl, x⟩, if_pos x]
    · rw [if_neg (fun r => x r.2), if_neg x, b5 _ (by omega), a6 q, if_pos hq]
  have r7 : ∀ q, q < 40 → (hp_si h2 (z + 6) 0 1).2.2.1 (z + 7) q = 0 := fun q hq => by
    rw [si_3, u2_at, if_neg (by omega), b6 q, if_pos hq]
  have hR3 := ((f1.tr f2).tr f3).relB S67_ess hR
  have hS : Snd z 6 7 (hp_si h2 (z + 6) 0 1) D n u := by
    refine ⟨fun q hq hm => ?_, fun q hq hm => absurd (r7 q (by omega)) hm, fun q _ h40 hm => absurd (r7 q h40) hm⟩
    by_cases x : q = 0
    · exact LC_base hq (decide_eq_true x)
    · exact absurd (by rw [r6 q (by omega), if_neg x]) hm
  obtain ⟨h', e3, f4, s4, c4⟩ := x_rounds_t (u := u) (n + 1) NF 0 _ 1 (by omega) (by omega) hR3 hS (fun q hq hx => by
    rcases LC_iff.mp hx with x | ⟨p, x1, x2, x3⟩
    · have : q = 0 := of_decide_eq_true x
      unfold Mk
      rw [r6 q (by omega), if_pos this]
      decide
    · exact absurd x3 (by simp [LC])) (fun q hq hx => absurd hx (by simp [WD, LC])) (fun r => absurd r (by decide))
  refine ⟨h', ?_, ((f1.tr f2).tr f3).tr f4, fun q hq => ⟨⟨s4.1 q hq, (c4 q hq).1⟩, ⟨s4.2.1 q hq, (c4 q hq).2⟩⟩⟩
  have i0 : ix (0 : Int32) 40 = true := rfl
  have c0 : (0 : Int32).toNatClampNeg = 0 := rfl
  simp only [fX7_look, fk_5 hF, gk_s, fr_5_0 hF, bd_s, e1, b2_s, fk_5 hF1, fr_5_1 hF1, e2, fk_5 hF2, fr_5_0 hF2, fk_6 hF2, fl_6 hF2, gd_e i0, c0, nm_d]
  exact e3
theorem x_isTrap (hR : RelB z h D n ng pa ba la ca) (hp : p < n) (hM : ∀ q, q < n → (Mk z 6 h q ↔ RD D n u n q = true) ∧ (Mk z 7 h q ↔ WD D n u n q = true)) : fX7_isTrap (z + 5) (nI p) h = some (if trB D n u p = true then 1 else 0, h) := by
  have hF := hR.1
  have n40 := (rb_n hR).2.2
  obtain ⟨m1, m2⟩ := hM p hp
  simp only [fX7_isTrap, fk_5 hF, gk_s, fr_5_0 hF, bd_s, fk_6 hF, fl_6 hF, gd_e (ix_nI (p := p) (N := 40) (by omega) (by decide)), nI_clamp (n := p) (by omega), fr_5_1 hF, fk_7 hF, fl_7 hF]
  unfold trB
  by_cases c6 : h.2.2.1 (z + 6) p = 0
  · have : RD D n u n p = false := by cases q : RD D n u n p; rfl; exact absurd c6 (m1.mpr q)
    rw [if_pos c6, this]; rfl
  · rw [if_neg c6, m1.mp c6]
    by_cases c7 : h.2.2.1 (z + 7) p = 0
    · have : WD D n u n p = false := by cases q : WD D n u n p; rfl; exact absurd c7 (m2.mpr q)
      rw [if_pos c7, this]; rfl
    · rw [if_neg c7, m2.mp c7]; rfl
theorem x_howMany (hR : RelB z h D n ng pa ba la ca) (hM : ∀ q, q < n → (Mk z 6 h q ↔ RD D n u n q = true) ∧ (Mk z 7 h q ↔ WD D n u n q = true)) : ∀ (d i c f : Nat), i + d = n → d < f → c ≤ i → fx bX7_howMany_4 (fun _ _ _ _ _ => none) f (z + 5) (some (z + 1)) (nI c) (nI i) h = some (tr2 (trB D n u) (-1) d i c, h) := by
  have hF := hR.1
  obtain ⟨n1, n2, n40⟩ := rb_n hR
  intro d
  induction d with
  | zero =>
    intro i c f hi hf hc
    obtain ⟨f, rfl⟩ : ∃ k, f = k + 1 := ⟨f - 1, by omega⟩
    obtain rfl : i = n := by omega
    rw [fx_s]
    simp only [bX7_howMany_4, bd_s, fk_1 hF, gk_s, n1, if_pos (Int32.le_refl (nI i)), tr2, if_neg (show ¬ (0 : Int32) ≤ -1 by decide)]
  | succ d ih =>
    intro i c f hi hf hc
    obtain ⟨f, rfl⟩ : ∃ k, f = k + 1 := ⟨f - 1, by omega⟩
    have hne : ¬ nI c = -1 := fun x => by
      have := nI_pos (n := c) (by omega)
      rw [x] at this
      exact this (by decide)
    rw [fx_s]
    simp only [bX7_howMany_4, bd_s, fk_1 hF, gk_s, n1, if_neg (nI_ge (show i < n by omega) (by omega)), fk_5 hF, x_isTrap hR (show i < n by omega) hM, b2_s, nm_d, nI_1, tr2]
    by_cases q : trB D n u i = true
    · simp only [if_pos q, if_neg (show ¬ (1 : Int32) = 0 by decide), if_neg hne]
      exact ih (i + 1) (c + 1) f (by omega) (by omega) (by omega)
    · simp only [if_neg q, if_true]
      exact ih (i + 1) c f (by omega) (by omega) (by omega)
theorem x_numberOf (hR : RelB z h D n ng pa ba la ca) (hM : ∀ q, q < n → (Mk z 6 h q ↔ RD D n u n q = true) ∧ (Mk z 7 h q ↔ WD D n u n q = true)) {v : Int32} (hv : 0 ≤ v) : ∀ (d i c f : Nat), i + d = n → d < f → c ≤ i → fx bX7_numberOf_5 (fun _ _ _ _ _ _ => none) f (z + 5) (some (z + 1)) v (nI c) (nI i) h = some (tr2 (trB D n u) v d i c, h) := by
  have hF := hR.1
  obtain ⟨n1, n2, n40⟩ := rb_n hR
  intro d
  induction d with
  | zero =>
    intro i c f hi hf hc
    obtain ⟨f, rfl⟩ : ∃ k, f = k + 1 := ⟨f - 1, by omega⟩
    obtain rfl : i = n := by omega
    rw [fx_s]
    simp only [bX7_numberOf_5, bd_s, fk_1 hF, gk_s, n1, if_pos (Int32.le_refl (nI i)), tr2, if_pos hv]
  | succ d ih =>
    intro i c f hi hf hc
    obtain ⟨f, rfl⟩ : ∃ k, f = k + 1 := ⟨f - 1, by omega⟩
    rw [fx_s]
    simp only [bX7_numberOf_5, bd_s, fk_1 hF, gk_s, n1, if_neg (nI_ge (show i < n by omega) (by omega)), fk_5 hF, x_isTrap hR (show i < n by omega) hM, b2_s, nm_d, nI_1, tr2]
    by_cases q : trB D n u i = true
    · simp only [if_pos q, if_neg (show ¬ (1 : Int32) = 0 by decide)]
      by_cases q2 : nI c = v
      · rw [if_pos q2, if_pos q2]
      · rw [if_neg q2, if_neg q2]
        exact ih (i + 1) (c + 1) f (by omega) (by omega) (by omega)
    · simp only [if_neg q, if_true]
      exact ih (i + 1) c f (by omega) (by omega) (by omega)
end
