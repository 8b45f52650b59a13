/-! planned -/
/-- the lines of a planned menu behind the first -/
def RS (D : Nat → Nat → Int32) (b : Nat) (v : Int32) : Nat → Nat → Nat → Int32
  | 0, _, _ => -4
  | e + 1, i, r => if r = 0 then -4 else if nI i = v then nI (toN (D (29 + (b - i)) r)) else RS D b v e (i + 1) (r - toN (D (29 + (b - i)) r))
theorem RS_no {D : Nat → Nat → Int32} {b : Nat} {v : Int32} (hb : b ≤ 6) (hv : ∀ i, i < b → nI i ≠ v) : ∀ e i r, i + e = b → RS D b v e i r = -4 := by
  intro e
  induction e with
  | zero => intro i r _; rfl
  | succ e ih =>
    intro i r hi
    show (if r = 0 then _ else _) = _
    split
    · rfl
    · rw [if_neg (hv i (by omega))]
      exact ih (i + 1) _ (by omega)
theorem nI_ex (x : Int32) : ∃ k, x = nI k := ⟨x.toUInt32.toNat, by
  show x = Int32.ofNat x.toUInt32.toNat
  apply Int32.toBitVec_inj.mp
  rw [Int32.toBitVec_ofNat']
  show _ = BitVec.ofNat 32 x.toBitVec.toNat
  rw [BitVec.ofNat_toNat, BitVec.setWidth_eq]⟩
section
variable {z : Nat} {h : Hp} {D : Nat → Nat → Int32} {n0 ng : Nat} {pa ba : Nat → Nat} {la : Nat → Nat → Nat} {ca : Nat → Nat} {n b : Nat}
theorem m_tkD (hR : RelB z h D n0 ng pa ba la ca) {q : Nat} (h1 : 1 ≤ q) (h2 : q < 256) : fX11_ticksOf (z + 43) (nI q) h = some (tkD D q, h) := by
  have hF := hR.1
  obtain ⟨wt, hwt⟩ : ∃ wt : Nat → Nat, ∀ k, D 81 k = nI (wt k) := ⟨fun k => Classical.choose (nI_ex (D 81 k)), fun k => Classical.choose_spec (nI_ex (D 81 k))⟩
  obtain ⟨gt, hgt⟩ := nI_ex (D 43 53)
  obtain ⟨b, hb⟩ := nI_ex (D 43 54)
  have hM : MH z h wt (fun _ => 0) gt b := ⟨hF, fun k hk => by rw [rb_ess hR 81 k (by decide) rfl]; exact hwt k, by rw [rb_ess hR 43 53 (by decide) rfl]; exact hgt, by rw [rb_ess hR 43 54 (by decide) rfl]; exact hb⟩
  rw [m_ticksOf hM h1 h2]
  have := tkD_N (D := fun c k => if c = 81 then D 81 k else if c = 43 then D 43 k else if c = 80 then nI (calN (fun _ => 0) k) else 0) (wt := wt) (wc := fun _ => 0) (gt := gt) (b := 0) (n := 0) (t := fun _ _ => 0) ⟨fun k _ => hwt k, hgt, fun _ _ => rfl, fun s s1 s2 => by have : s < 1 := s2; omega⟩ h1 h2
  have e : tkD (fun c k => if c = 81 then D 81 k else if c = 43 then D 43 k else if c = 80 then nI (calN (fun _ => 0) k) else 0) q = tkD D q := rfl
  rw [← this, e]
theorem m_lcD (hR : RelB z h D n0 ng pa ba la ca) {s q j : Nat} (hs : s < 256) (h1 : 1 ≤ q) (hq : q &&& s = q) (hj : j < 6) : fX11_lineCost (z + 43) (nI s) (nI q) (nI j) h = some (lcD D s q j, h) := by
  have hF := hR.1
  have hle := sub_le hq
  have h2 : q < 256 := by omega
  have p0 : ix (nI q) 256 = true := ix_nI (by omega) (by decide)
  have p1 : (nI q).toNatClampNeg = q := nI_clamp (by omega)
  have st : fX11_lineCost (z + 43) (nI s) (nI q) (nI j) h = fX11_lineCost_17 (z + 43) (nI s) (nI q) (nI j) (if oneB q = true then 0 else D 79 q) h := by
    by_cases o : oneB q = true
    · simp only [fX11_lineCost, m_isAlone h1 h2, b2_s, if_pos o, if_neg (show ¬ (1 : Int32) = 0 by decide)]
    · simp only [fX11_lineCost, m_isAlone h1 h2, b2_s, if_neg o, if_true, fk_43 hF, gk_s, fr_43_52 hF, bd_s, fk_79 hF, fl_79 hF, gd_e p0, p1, rb_ess hR 79 q (by decide) rfl]
  have t51 : ∀ x r : Int32, fX11_lineCost_51 (z + 43) (nI s) (nI q) x r h = some (if r = 100000000 then 100000000 else tkD D q * D 80 s + x + r, h) := fun x r => by
    by_cases e : r = 100000000
    · simp only [fX11_lineCost_51, if_pos e]
    · simp only [fX11_lineCost_51, if_neg e, fk_43 hF, gk_s, m_tkD hR h1 h2, b2_s, fr_43_55 hF, bd_s, fk_80 hF, fl_80 hF, gd_e (ix_nI (p := s) (N := 256) (by omega) (by decide)), nI_clamp (n := s) (by omega), rb_ess hR 80 s (by decide) rfl]
  rw [st]
  unfold lcD
  by_cases e : s = q
  · have es : nI s = nI q := by rw [e]
    simp only [fX11_lineCost_17, if_pos es, t51, if_pos e]
  · have es : ¬ nI s = nI q := fun x => e ((nI_eq (by omega) (by omega)).mp x)
    by_cases j0 : j = 0
    · have ej : nI j = 0 := by rw [j0]; rfl
      simp only [fX11_lineCost_17, if_neg es, if_pos ej, t51, if_neg e, if_pos j0]
    · have ej : ¬ nI j = 0 := nI_ne0 (by omega) (by omega)
      have ei : 256 * nI j + nI s - nI q = nI (256 * j + (s - q)) := by
        rw [show (256 : Int32) = nI 256 from rfl, nI_mul, nI_add, nI_sub (by omega)]
        congr 1
        omega
      simp only [fX11_lineCost_17, if_neg es, if_neg ej, fk_43 hF, gk_s, fr_43_51 hF, bd_s, fk_78 hF, fl_78 hF, ei, gd_e (ix_nI (p := 256 * j + (s - q)) (N := 1792) (by omega) (by decide)), nI_clamp (n := 256 * j + (s - q)) (by omega), rb_ess hR 78 (256 * j + (s - q)) (by decide) rfl, t51, if_neg e, if_neg j0]
/-- the model looks for the first part of the right cost -/
theorem m_104p {rc : Nat → Int32 → Int32 → Int32 → Int32 → Int32 → Hp → Option (Int32 × Hp)} (hR : RelB z h D n0 ng pa ba la ca) {r j i m : Nat} {v v1 X : Int32} (hr1 : 1 ≤ r) (hr : r < 256) (hj1 : 1 ≤ j) (hj : j ≤ 6) (hi : i < 1000) (hm : leastPart (fun q => 1 ≤ q ∧ q &&& r = q ∧ (i = 0 → q = r → oneB r = true) ∧ lcD D r q (j - 1) = X) m) : ∀ (d k f : Nat), k + d = m → 1 ≤ k → d < f →
    fx (bX11_planned_104 rc) (fun _ _ _ _ _ _ _ _ _ => none) f (z + 43) v1 v (nI r) (nI j) (nI i) X (nI k) h = if nI i = v then some (nI m, h) else rc (z + 43) v1 v (nI (r - m)) (nI (j - 1)) (nI (i + 1)) h := by
  have hF := hR.1
  obtain ⟨⟨m1, m2, m3, m4⟩, m5⟩ := hm
  have mr := sub_le m2
  have ej : nI j - 1 = nI (j - 1) := by
    obtain ⟨b', rfl⟩ : ∃ b', j = b' + 1 := ⟨j - 1, by omega⟩
    exact nI_pred b'
  have ej2 : nI j + (-1) = nI (j - 1) := by rw [← Int32.sub_eq_add_neg, ej]
  have ei0 : (nI i = 0) = (i = 0) := propext (nI_eq (b := 0) (by omega) (by decide))
  -- a part that may stand is asked for its cost
  have ask : ∀ (k f : Nat), 1 ≤ k → k ≤ m → k &&& r = k → (i = 0 → k = r → oneB r = true) → fx (bX11_planned_104 rc) (fun _ _ _ _ _ _ _ _ _ => none) (f + 1) (z + 43) v1 v (nI r) (nI j) (nI i) X (nI k) h = fX11_planned_131 rc (fx (bX11_planned_104 rc) (fun _ _ _ _ _ _ _ _ _ => none) f) (z + 43) v1 v (nI r) (nI j) (nI i) X (nI k) h := by
    intro k f k1 km ks ko
    have c0 : (nI k &&& (nI r ^^^ (-1))) = 0 := of_decide_eq_true (by rw [and_not0 r hr k (by omega)]; exact decide_eq_true ks)
    rw [fx_s]
    simp only [bX11_planned_104, if_pos c0, ei0]
    by_cases i0 : i = 0
    · rw [if_pos i0]
      by_cases kr : k = r
      · rw [if_pos (by rw [kr])]
        simp only [m_isAlone hr1 hr, b2_s, if_pos (ko i0 kr), if_neg (show ¬ (1 : Int32) = 0 by decide)]
      · rw [if_neg (fun x => kr ((nI_eq (by omega) (by omega)).mp x))]
    · rw [if_neg i0]
  intro d
  induction d with
  | zero =>
    intro k f hk k1 hf
    obtain ⟨f, rfl⟩ : ∃ x, f = x + 1 := ⟨f - 1, by omega⟩
    obtain rfl : k = m := by omega
    rw [ask k f k1 (Nat.le_refl k) m2 m3]
    simp only [fX11_planned_131, fk_43 hF, gk_s, ej, m_lcD hR hr m1 m2 (show j - 1 < 6 by omega), b2_s, if_pos m4, nI_sub mr, nm_d, ej2, nI_1]
  | succ d ih =>
    intro k f hk k1 hf
    obtain ⟨f, rfl⟩ : ∃ x, f = x + 1 := ⟨f - 1, by omega⟩
    have hn := m5 k (by omega)
    have nx := ih (k + 1) f (by omega) (by omega) (by omega)
    by_cases ks : k &&& r = k
    · by_cases ko : i = 0 → k = r → oneB r = true
      · have hne : ¬ lcD D r k (j - 1) = X := fun x => hn ⟨k1, ks, ko, x⟩
        rw [ask k f k1 (by omega) ks ko]
        simp only [fX11_planned_131, fk_43 hF, gk_s, ej, m_lcD hR hr k1 ks (show j - 1 < 6 by omega), b2_s, if_neg hne, nm_d, nI_1]
        exact nx
      · have hx : i = 0 ∧ k = r ∧ ¬ oneB r = true := by
          refine ⟨Classical.byContradiction fun x => ko fun y => absurd y x, Classical.byContradiction fun x => ko fun _ y => absurd y x, fun x => ko fun _ _ => x⟩
        have c0 : (nI k &&& (nI r ^^^ (-1))) = 0 := of_decide_eq_true (by rw [and_not0 r hr k (by omega)]; exact decide_eq_true ks)
        have ekr : nI k = nI r := by rw [hx.2.1]
        rw [fx_s]
        simp only [bX11_planned_104, if_pos c0, ei0, if_pos hx.1, if_pos ekr, m_isAlone hr1 hr, b2_s, if_neg hx.2.2, if_true, nm_d, nI_1]
        exact nx
    · have c0 : ¬ (nI k &&& (nI r ^^^ (-1))) = 0 := of_decide_eq_false (by rw [and_not0 r hr k (by omega)]; exact decide_eq_false ks)
      rw [fx_s]
      simp only [bX11_planned_104, if_neg c0, nm_d, nI_1]
      exact nx
theorem m_68p (hR : RelB z h D n0 ng pa ba la ca) (hn8 : n ≤ 8) (hb2 : 2 ≤ b) (hb6 : b ≤ 6) (hT : TBL D n b) {v v1 : Int32} : ∀ (e i r f : Nat), i + e = b → 1 ≤ i → e < f → r < 2 ^ n → (e = 0 → r = 0) →
    fx bX11_planned_68 (fun _ _ _ _ _ _ _ => none) f (z + 43) v1 v (nI r) (nI (b - i)) (nI i) h = some (RS D b v e i r, h) := by
  have hp8 : (2 : Nat) ^ n ≤ 256 := by
    have := Nat.pow_le_pow_right (n := 2) (by decide) hn8
    omega
  have hF := hR.1
  have nfb := NF_big
  intro e
  induction e with
  | zero =>
    intro i r f hi hi1 hf hr h0
    obtain ⟨f, rfl⟩ : ∃ x, f = x + 1 := ⟨f - 1, by omega⟩
    rw [h0 rfl, fx_s]
    simp only [bX11_planned_68, if_pos (show nI 0 ≤ 0 by decide), RS]
  | succ e ih =>
    intro i r f hi hi1 hf hr h0
    obtain ⟨f, rfl⟩ : ∃ x, f = x + 1 := ⟨f - 1, by omega⟩
    by_cases r0 : r = 0
    · rw [r0, fx_s]
      simp only [bX11_planned_68, if_pos (show nI 0 ≤ 0 by decide), RS, if_true]
    · obtain ⟨-, x2, x3⟩ := hT r (by omega) hr
      obtain ⟨m, y1, y2⟩ := x2 (b - i) (by omega) (by omega)
      have mr := sub_le y2.1.2.1
      have m1 := y2.1.1
      have em : toN (D (29 + (b - i)) r) = m := by rw [y1, toN_nI (by omega)]
      have ei : 256 * nI (b - i) + nI r = nI (256 * (b - i) + r) := by rw [show (256 : Int32) = nI 256 from rfl, nI_mul, nI_add]
      have hgo : fx bX11_planned_68 (fun _ _ _ _ _ _ _ => none) (f + 1) (z + 43) v1 v (nI r) (nI (b - i)) (nI i) h = fx (bX11_planned_104 (fx bX11_planned_68 (fun _ _ _ _ _ _ _ => none) f)) (fun _ _ _ _ _ _ _ _ _ => none) NF (z + 43) v1 v (nI r) (nI (b - i)) (nI i) (D 78 (256 * (b - i) + r)) (nI 1) h := by
        rw [fx_s]
        simp only [bX11_planned_68, if_neg (show ¬ nI r ≤ 0 from nI_nle (by omega) (by omega)), if_neg (nI_ne0 (show 0 < i by omega) (by omega)), fk_43 hF, gk_s, fr_43_51 hF, bd_s, fk_78 hF, fl_78 hF, ei, gd_e (ix_nI (p := 256 * (b - i) + r) (N := 1792) (by omega) (by decide)), nI_clamp (n := 256 * (b - i) + r) (by omega), rb_ess hR 78 (256 * (b - i) + r) (by decide) rfl, nm_d, fX11_planned_104]
        rfl
      rw [hgo, m_104p hR (by omega) (by omega) (show 1 ≤ b - i by omega) (by omega) (by omega) (leastPart_cg (fun q => ⟨fun w => ⟨w.1, w.2.1, fun x => absurd x (by omega), w.2.2⟩, fun w => ⟨w.1, w.2.1, w.2.2.2⟩⟩) y2) (m - 1) 1 NF (by omega) (Nat.le_refl 1) (by omega)]
      show _ = some ((if r = 0 then _ else _), h)
      rw [if_neg r0, em]
      by_cases q : nI i = v
      · rw [if_pos q, if_pos q]
      · rw [if_neg q, if_neg q, show b - i - 1 = b - (i + 1) by omega]
        refine ih (i + 1) (r - m) f (by omega) (by omega) (by omega) (by omega) (fun e0 => ?_)
        have : b - i = 1 := by omega
        rw [this, x3] at y1
        have := (nI_eq (by omega) (by omega)).mp y1
        omega
theorem x_43p (hR : RelB z h D n0 ng pa ba la ca) (hn8 : n ≤ 8) (hb2 : 2 ≤ b) (hb6 : b ≤ 6) (hT : TBL D n b) (h153 : h.2.2.1 (z + 15) 3 = nI b) {v : Nat} (hv : v < b) : ∀ (e i r p f : Nat), i + e = b → 1 ≤ i → i ≤ v → e < f → r < 2 ^ n → fx bX6_partOf_43 (fun _ _ _ _ _ _ => none) f (z + 15) (nI v) (nI p) (nI r) (nI i) h = some (RS D b (nI v) e i r, h) := by
  have hp8 : (2 : Nat) ^ n ≤ 256 := by
    have := Nat.pow_le_pow_right (n := 2) (by decide) hn8
    omega
  have hF := hR.1
  intro e
  induction e with
  | zero => intro i r p f hi hi1 hiv; omega
  | succ e ih =>
    intro i r p f hi hi1 hiv hf hr
    obtain ⟨f, rfl⟩ : ∃ x, f = x + 1 := ⟨f - 1, by omega⟩
    have nlt : ¬ nI v < nI i := nI_nlt hiv (by omega)
    have v0 : ¬ nI v = 0 := nI_ne0 (by omega) (by omega)
    by_cases r0 : r = 0
    · rw [r0, fx_s]
      simp only [bX6_partOf_43, if_neg nlt, if_pos (show nI 0 = 0 from rfl), if_neg v0, RS, if_true]
    · obtain ⟨-, x2, -⟩ := hT r (by omega) hr
      obtain ⟨m, y1, y2⟩ := x2 (b - i) (by omega) (by omega)
      have ms := y2.1.2.1
      have mr := sub_le ms
      have em : toN (D (29 + (b - i)) r) = m := by rw [y1, toN_nI (by omega)]
      obtain ⟨-, -, -, k4, k5, k6⟩ := c21 hF (j := b - i) (by omega)
      have rv : h.2.2.1 (z + (29 + (b - i))) r = nI m := by rw [rb_ess hR (29 + (b - i)) r (by omega) (by simp [ess]; omega)]; exact y1
      show _ = some ((if r = 0 then _ else _), h)
      rw [if_neg r0, em, fx_s]
      simp only [bX6_partOf_43, if_neg nlt, if_neg (nI_ne0 (show 0 < r by omega) (by omega)), fk_15 hF, gk_s, fr_15_9 hF, bd_s, fk_28 hF, fl_28 hF, h153, nI_sub (show i ≤ b by omega), gd_e (ix_nI (p := b - i) (N := 6) (by omega) (by decide)), nI_clamp (n := b - i) (by omega), k4, k5, k6, gd_e (ix_nI (p := r) (N := 256) (by omega) (by decide)), nI_clamp (n := r) (by omega), rv, nm_d, and_sub r (by omega) m (by omega) ms, nI_1]
      by_cases q : nI i = nI v
      · rw [if_pos q, if_pos q]
      · rw [if_neg q, if_neg q]
        have : i ≠ v := fun x => q (by rw [x])
        exact ih (i + 1) (r - m) m f (by omega) (by omega) (by omega) (by omega) (by omega)
theorem all_one : ∀ n, n ≤ 8 → 1 ≤ n → (oneB (2 ^ n - 1) = true ↔ n = 1) := by decide +kernel
theorem sim_planned (v1 v2 : Int32) : Sim z (fX10_planned z v1 v2) (fX11_planned (z + 43) v1 v2) := by
  intro h hRel
  obtain ⟨⟨D, n0, ng, pa, ba, la, ca, hR⟩, hT⟩ := id hRel
  have hF := hR.1
  have nfb := NF_big
  have e10 : ¬ (1 : Int32) = 0 := by decide
  rcases (Classical.em (1 ≤ v1 ∧ v1 ≤ 255)).symm with c1 | c1
  · exact ⟨-1, h, h, by simp only [fX10_planned, l_within, b2_s, bi_0, if_pos c1], fk_43 hF, by simp only [fX11_planned, l_in, b2_s, bi_0, if_pos c1], hRel⟩
  rcases (Classical.em (0 ≤ v2)).symm with c2 | c2
  · exact ⟨-1, h, h, by simp only [fX10_planned, l_within, b2_s, bi_0, if_neg (not_not_intro c1), if_neg c2], fk_43 hF, by simp only [fX11_planned, l_in, b2_s, bi_0, if_neg (not_not_intro c1), if_neg c2], hRel⟩
  obtain ⟨s, hs1, hs, rfl⟩ : ∃ n, 1 ≤ n ∧ n ≤ 255 ∧ v1 = nI n := rg_of (lo := 1) (hi := 255) rfl rfl (by decide) (by decide) c1
  have e152 := rb_ess hR 15 2 (by decide) rfl
  have e153 := rb_ess hR 15 3 (by decide) rfl
  have e31 := rb_ess hR 43 31 (by decide) rfl
  have e54 := rb_ess hR 43 54 (by decide) rfl
  rcases hR.2.2.1.2.2.2.2.2.2.2.2.2.2.2.2.2.2 with ⟨p1, p2⟩ | ⟨n, b, hn1, hn8, hb2, hb6, p1, p2, p3, p4, p5⟩
  · have q1 : D 43 31 = 0 := p1
    have q2 : D 15 2 = 0 := p2
    rw [q2] at e152
    rw [q1] at e31
    exact ⟨-2, h, h, by simp only [fX10_planned, l_within, b2_s, bi_0, if_neg (not_not_intro c1), if_pos c2, fk_0 hF, gk_s, fr_0_5 hF, bd_s, fk_15 hF, e152, if_true], fk_43 hF, by simp only [fX11_planned, l_in, b2_s, bi_0, if_neg (not_not_intro c1), if_pos c2, fk_43 hF, gk_s, e31, if_true], hRel⟩
  have q1 : D 43 31 = nI n := p1
  have q2 : D 15 2 = nI (2 ^ n - 1) := p2
  have q3 : D 43 54 = nI b := p3
  have q4 : D 15 3 = nI b := p4
  have hTBL : TBL D n b := by
    have e : ∀ c k, (18 ≤ c ∧ c ≤ 34) ∨ (c = 43 ∧ k = 53) ∨ (78 ≤ c ∧ c ≤ 81) → pv D c k = D c k := fun c k hc => by unfold pv; rw [if_pos (by omega)]
    have etk : ∀ q, tkD (pv D) q = tkD D q := fun q => by
      unfold tkD
      rw [e 81 0 (by omega), e 81 1 (by omega), e 81 2 (by omega), e 81 3 (by omega), e 81 4 (by omega), e 81 5 (by omega), e 81 6 (by omega), e 81 7 (by omega), e 43 53 (by omega)]
    have elc : ∀ s q j, lcD (pv D) s q j = lcD D s q j := fun s q j => by
      unfold lcD
      simp only [etk, e 78 _ (show (18 ≤ 78 ∧ 78 ≤ 34) ∨ (78 = 43 ∧ (256 * j + (s - q)) = 53) ∨ (78 ≤ 78 ∧ 78 ≤ 81) by omega), e 80 s (by omega), e 79 q (by omega)]
    intro s s1 s2
    obtain ⟨⟨m, x1, x2⟩, x3, x4⟩ := p5 s s1 s2
    rw [e 20 s (by omega)] at x1
    rw [e 30 s (by omega)] at x4
    refine ⟨⟨m, x1, leastPart_cg (fun q => ?_) x2⟩, fun j j1 j2 => ?_, x4⟩
    · rw [elc, e 79 s (by omega)]
    · obtain ⟨m', y1, y2⟩ := x3 j j1 j2
      rw [e (29 + j) s (by omega)] at y1
      refine ⟨m', y1, leastPart_cg (fun q => ?_) y2⟩
      rw [elc, e 78 _ (by omega)]
  rw [q2] at e152
  rw [q4] at e153
  rw [q1] at e31
  rw [q3] at e54
  have hp2 : 2 ≤ 2 ^ n := by
    have := Nat.pow_le_pow_right (n := 2) (by decide) hn1
    omega
  have hp8 : (2 : Nat) ^ n ≤ 256 := by
    have := Nat.pow_le_pow_right (n := 2) (by decide) hn8
    omega
  have hAne : ¬ nI (2 ^ n - 1) = 0 := nI_ne0 (by omega) (by omega)
  have hnne : ¬ nI n = 0 := nI_ne0 (by omega) (by omega)
  have hin : ((nI s &&& (nI (2 ^ n - 1) ^^^ (-1))) = 0) = (s < 2 ^ n) := by
    have h1 := and_not0 (2 ^ n - 1) (by omega) s (by omega)
    have h2 : (s &&& (2 ^ n - 1) = s) = (s < 2 ^ n) := by
      rw [Nat.and_two_pow_sub_one_eq_mod]
      apply propext
      constructor
      · intro x; rw [← x]; exact Nat.mod_lt _ (by omega)
      · intro x; exact Nat.mod_eq_of_lt x
    apply propext
    rw [← h2]
    constructor
    · intro x; exact of_decide_eq_true (by rw [← h1]; exact decide_eq_true x)
    · intro x; exact of_decide_eq_true (by rw [h1]; exact decide_eq_true x)
  have hin2 : (nI s < (1 : Int32) <<< (nI n &&& 31)) = (s < 2 ^ n) := by rw [shl_n n hn8]; exact nI_lt' (by omega) (by omega)
  by_cases cs : s < 2 ^ n
  · obtain ⟨v, hv, rfl⟩ := nI_of (show ¬ v2 < 0 from Int32.not_lt.mpr c2)
    -- a set of one that isn't all
    by_cases c4 : oneB s = true ∧ ¬ n = 1
    · have hne : ¬ nI s = nI (2 ^ n - 1) := fun x => by
        have := (nI_eq (by omega) (by omega)).mp x
        rw [this] at c4
        exact c4.2 ((all_one n hn8 hn1).mp c4.1)
      refine ⟨-4, h, h, ?_, fk_43 hF, ?_, hRel⟩
      · have : fX6_partOf (z + 15) (nI s) (nI v) h = some (-4, h) := by
          by_cases c5 : nI b ≤ nI v
          · simp only [fX6_partOf, fk_15 hF, gk_s, e153, if_pos c5]
          · simp only [fX6_partOf, fk_15 hF, gk_s, e153, if_neg c5, x_isOne hs1 (show s < 256 by omega), b2_s, if_pos c4.1, if_neg e10, e152, if_neg hne]
        simp only [fX10_planned, l_within, b2_s, bi_0, if_neg (not_not_intro c1), if_pos c2, fk_0 hF, gk_s, fr_0_5 hF, bd_s, fk_15 hF, e152, if_neg hAne, hin, if_pos cs, this]
      · have hn2 : ¬ nI n ≤ 1 := nI_ge (a := 1) (by omega) (by omega)
        simp only [fX11_planned, l_in, b2_s, bi_0, if_neg (not_not_intro c1), if_pos c2, fk_43 hF, gk_s, e31, if_neg hnne, hin2, if_pos cs, m_isAlone hs1 (show s < 256 by omega), if_pos c4.1, if_neg e10, if_neg hn2]
    · obtain ⟨⟨m, x1, x2⟩, x3, x4⟩ := hTBL s hs1 cs
      have ms := x2.1.2.1
      have mr := sub_le ms
      have m1 := x2.1.1
      -- the answer
      obtain ⟨ans, eans⟩ : ∃ ans : Int32, ans = if v = 0 then nI m else RS D b (nI v) (b - 1) 1 (s - m) := ⟨_, rfl⟩
      refine ⟨ans, h, h, ?_, fk_43 hF, ?_, hRel⟩
      · have : fX6_partOf (z + 15) (nI s) (nI v) h = some (ans, h) := by
          by_cases c5 : b ≤ v
          · have : ans = -4 := by
              rw [eans, if_neg (by omega)]
              exact RS_no hb6 (fun i hi x => by have := (nI_eq (by omega) (by omega)).mp x; omega) (b - 1) 1 _ (by omega)
            rw [this]
            simp only [fX6_partOf, fk_15 hF, gk_s, e153, if_pos (nI_le c5 (by omega))]
          · have c5' : ¬ nI b ≤ nI v := nI_ge (by omega) (by omega)
            have r20 := rb_ess hR 20 s (by decide) rfl
            rw [x1] at r20
            have tail : fX6_partOf_43 (z + 15) (nI v) (nI m) (nI (s - m)) 1 h = some (ans, h) := by
              by_cases v0 : v = 0
              · rw [eans, if_pos v0]
                obtain ⟨F, eF⟩ : ∃ F, NF = F + 1 := ⟨NF - 1, by omega⟩
                have ev : nI v = 0 := by rw [v0]; rfl
                simp only [fX6_partOf_43, eF]
                rw [fx_s]
                simp only [bX6_partOf_43, if_pos (show nI v < 1 by rw [ev]; decide), if_pos ev]
              · rw [eans, if_neg v0]
                exact x_43p hR hn8 hb2 hb6 hTBL e153 (show v < b by omega) (b - 1) 1 (s - m) m NF (by omega) (Nat.le_refl 1) (by omega) (by omega) (by omega)
            by_cases o : oneB s = true
            · have n1 : n = 1 := Classical.byContradiction fun x => c4 ⟨o, x⟩
              have ea : nI s = nI (2 ^ n - 1) := by
                have : s = 2 ^ n - 1 := by rw [n1] at cs ⊢; omega
                rw [← this]
              simp only [fX6_partOf, fk_15 hF, gk_s, e153, if_neg c5', x_isOne hs1 (show s < 256 by omega), b2_s, if_pos o, if_neg e10, e152, if_pos ea, fr_15_7 hF, bd_s, fk_20 hF, fl_20 hF, gd_e (ix_nI (p := s) (N := 256) (by omega) (by decide)), nI_clamp (n := s) (by omega), r20, nm_d, and_sub s (by omega) m (by omega) ms]
              exact tail
            · simp only [fX6_partOf, fk_15 hF, gk_s, e153, if_neg c5', x_isOne hs1 (show s < 256 by omega), b2_s, if_neg o, if_true, fr_15_7 hF, bd_s, fk_20 hF, fl_20 hF, gd_e (ix_nI (p := s) (N := 256) (by omega) (by decide)), nI_clamp (n := s) (by omega), r20, nm_d, and_sub s (by omega) m (by omega) ms]
              exact tail
        simp only [fX10_planned, l_within, b2_s, bi_0, if_neg (not_not_intro c1), if_pos c2, fk_0 hF, gk_s, fr_0_5 hF, bd_s, fk_15 hF, e152, if_neg hAne, hin, if_pos cs, this]
      · have m68 : fX11_planned_68 (z + 43) (nI s) (nI v) (nI s) (nI b) 0 h = some (ans, h) := by
          obtain ⟨F, eF⟩ : ∃ F, NF = F + 1 := ⟨NF - 1, by omega⟩
          have r79 := rb_ess hR 79 s (by decide) rfl
          simp only [fX11_planned_68, eF]
          rw [fx_s]
          simp only [bX11_planned_68, if_neg (show ¬ nI s ≤ 0 from nI_nle (by omega) (by omega)), if_true, fk_43 hF, gk_s, fr_43_52 hF, bd_s, fk_79 hF, fl_79 hF, gd_e (ix_nI (p := s) (N := 256) (by omega) (by decide)), nI_clamp (n := s) (by omega), r79, nm_d, fX11_planned_104]
          have := m_104p (rc := fx bX11_planned_68 (fun _ _ _ _ _ _ _ => none) F) (i := 0) (v := nI v) (v1 := nI s) (j := b) hR hs1 (by omega) (by omega) hb6 (by decide) (leastPart_cg (fun q => ⟨fun w => ⟨w.1, w.2.1, fun _ => w.2.2.1, w.2.2.2⟩, fun w => ⟨w.1, w.2.1, w.2.2.1 rfl, w.2.2.2⟩⟩) x2) (m - 1) 1 NF (by omega) (Nat.le_refl 1) (by omega)
          refine this.trans ?_
          rw [eans]
          by_cases v0 : v = 0
          · rw [if_pos v0, if_pos (by rw [v0])]
          · rw [if_neg v0, if_neg (fun x => v0 ((nI_eq (by omega) (by omega)).mp x).symm)]
            exact m_68p hR hn8 hb2 hb6 hTBL (b - 1) 1 (s - m) F (by omega) (Nat.le_refl 1) (by omega) (by omega) (fun x => by omega)
        by_cases o : oneB s = true
        · have n1 : n = 1 := Classical.byContradiction fun x => c4 ⟨o, x⟩
          have hn2 : nI n ≤ 1 := by rw [n1]; decide
          simp only [fX11_planned, l_in, b2_s, bi_0, if_neg (not_not_intro c1), if_pos c2, fk_43 hF, gk_s, e31, if_neg hnne, hin2, if_pos cs, m_isAlone hs1 (show s < 256 by omega), if_pos o, if_neg e10, if_pos hn2, e54, nm_d, m68]
        · simp only [fX11_planned, l_in, b2_s, bi_0, if_neg (not_not_intro c1), if_pos c2, fk_43 hF, gk_s, e31, if_neg hnne, hin2, if_pos cs, m_isAlone hs1 (show s < 256 by omega), if_neg o, if_true, e54, nm_d, m68]
  · exact ⟨-1, h, h, by simp only [fX10_planned, l_within, b2_s, bi_0, if_neg (not_not_intro c1), if_pos c2, fk_0 hF, gk_s, fr_0_5 hF, bd_s, fk_15 hF, e152, if_neg hAne, hin, if_neg cs], fk_43 hF, by simp only [fX11_planned, l_in, b2_s, bi_0, if_neg (not_not_intro c1), if_pos c2, fk_43 hF, gk_s, e31, if_neg hnne, hin2, if_neg cs], hRel⟩
end
