/-! the graph of a house for a caller; the class's and the model's least ticks at a place -/
def toN (x : Int32) : Nat := x.toNatClampNeg
theorem toN_nI {k : Nat} (h : k < 2 ^ 31) : toN (nI k) = k := nI_clamp h
theorem nI_toN {x : Int32} {lo hi : Nat} (h : rgN x lo hi) (h2 : hi < 2 ^ 31) : nI (toN x) = x ∧ lo ≤ toN x ∧ toN x ≤ hi := by
  obtain ⟨k, h1, h3, rfl⟩ := h
  rw [toN_nI (by omega)]
  exact ⟨rfl, h1, h3⟩
def tg (x : Int32) : Nat := if x = -1 then 40 else toN x
def mG (D : Nat → Nat → Int32) (p : Nat) : Nat := if D 44 p = 0 then toN (D 53 p) else 0
def cG (D : Nat → Nat → Int32) (w v : Int32) (p i : Nat) : Nat :=
  if D 44 p = 1 then (if bitD (D 49 p) w then toN (D 45 p) else 0) else if D 44 p = 2 then toN (D 45 p) else if D 44 p = 3 then 0 else if D 44 p = 4 then toN (trD D p v 1) else if i = 0 then toN (hrD D p (toN (D 53 p))) else 1
def tG (D : Nat → Nat → Int32) (w v u : Int32) (p i : Nat) : Nat :=
  if D 44 p = 1 then (if bitD (D 49 p) w then 41 else 40) else if D 44 p = 2 then (if bitD (D 49 p) w then 41 else tg (D 47 p)) else if D 44 p = 3 then tg (nxH D p u) else if D 44 p = 4 then tg (nxN D p v) else if i = 0 then tg (D 47 p) else tg (D 57 (6 * p + (i - 1)))
/-- a row of least ticks -/
def TW (z : Nat) (c : Nat) (h : Hp) (n : Nat) (T : Nat → Nat) (W : Nat) : Prop := (∀ q, q < 40 → h.2.2.1 (z + c) q = nI (T q)) ∧ T 41 = 0 ∧ (∀ q, n ≤ q → q ≠ 41 → T q = W) ∧ (∀ q, T q ≤ W) ∧ W ≤ 100000000 ∧ n ≤ 40
section
variable {z : Nat} {h : Hp} {D : Nat → Nat → Int32} {n ng : Nat} {pa ba : Nat → Nat} {la : Nat → Nat → Nat} {ca : Nat → Nat} {p s W : Nat} {T : Nat → Nat}
theorem tg_in {x : Int32} (hx : nxt x) : tg x ≤ 40 ∧ (tg x < 40 → x = nI (tg x)) ∧ (tg x = 40 → x = -1) := by
  rcases hx with rfl | ⟨q, hq, rfl⟩
  · exact ⟨Nat.le_refl _, fun q => absurd q (by decide), fun _ => rfl⟩
  · have : tg (nI q) = q := by
      unfold tg
      rw [if_neg, toN_nI (by omega)]
      intro e
      have h1 := nI_pos (n := q) (by omega)
      rw [e] at h1
      exact h1 (by decide)
    rw [this]
    exact ⟨by omega, fun _ => rfl, fun e => by omega⟩
theorem x_ticksFrom (hF : fxd z h) (hT : TW z 4 h n T W) (hW : W = 1000000) {x : Int32} (hx : nxt x) : fX9_ticksFrom (z + 3) x h = some (nI (T (tg x)), h) := by
  obtain ⟨t1, t2, t3, t4, t5, t6⟩ := hT
  obtain ⟨a1, a2, a3⟩ := tg_in hx
  by_cases e : tg x = 40
  · have ex := a3 e
    rw [e, t3 40 (by omega) (by decide), hW]
    simp only [fX9_ticksFrom, ex, if_pos (show (-1 : Int32) < 0 by decide)]
    rfl
  · have hl : tg x < 40 := by omega
    have ex := a2 hl
    have h40 : ¬ (40 : Int32) ≤ nI (tg x) := nI_ge (b := 40) hl (by decide)
    rw [ex]
    simp only [fX9_ticksFrom, if_neg (nI_pos (n := tg x) (by omega)), if_neg h40, fk_3 hF, gk_s, fr_3_0 hF, bd_s, fk_4 hF, fl_4 hF, gd_e (ix_nI (p := tg x) (N := 40) (by omega) (by decide)), nI_clamp (n := tg x) (by omega), t1 _ hl]
    rw [← ex]
theorem pv_of (hR : RelB z h D n ng pa ba la ca) (hp : p < n) : PV D p := hR.2.2.1.2.2.2.1 p hp
theorem sz_toN (hR : RelB z h D n ng pa ba la ca) (hp : p < n) : D 53 p = nI (toN (D 53 p)) ∧ toN (D 53 p) ≤ 6 := by
  obtain ⟨s, h6, hs⟩ := sz_of hR hp
  rw [hs, toN_nI (by omega)]
  exact ⟨rfl, h6⟩
theorem tl_rg (hP : PV D p) (hs : D 53 p = nI s) (h6 : s ≤ 6) : ∀ i, i ≤ s → ∃ k, i ≤ k ∧ k ≤ 200 * i ∧ tlD D p i = nI k := by
  intro i
  induction i with
  | zero => intro _; exact ⟨0, by omega, by omega, rfl⟩
  | succ i ih =>
    intro hi
    obtain ⟨k, h1, h2, h3⟩ := ih (by omega)
    obtain ⟨⟨j, j1, j2, j3⟩, -⟩ := hP.2.2.2.2.2.2.2.2.2.2.2 i (by omega) (by rw [hs]; exact nI_lt (by omega) (by omega))
    refine ⟨k + j, by omega, by omega, ?_⟩
    show tlD D p i + D 54 (6 * p + i) = _
    rw [h3, j3, nI_add]
theorem hr_rg (hP : PV D p) (h0 : D 44 p = 0) (hs : D 53 p = nI s) (h6 : s ≤ 6) : ∃ t k b, 1 ≤ t ∧ t ≤ 3 ∧ D 46 p = nI t ∧ tlD D p s = nI k ∧ k ≤ 1200 ∧ 1 ≤ b ∧ b ≤ 200 ∧ D 45 p = nI b ∧ hrD D p s = nI (t * (k + b)) ∧ 1 ≤ t * (k + b) ∧ t * (k + b) ≤ 4200 := by
  obtain ⟨t, t1, t2, t3⟩ := hP.2.2.2.1 (Or.inl h0)
  obtain ⟨k, k1, k2, k3⟩ := tl_rg hP hs h6 s (Nat.le_refl _)
  obtain ⟨b, b1, b2, b3⟩ := hP.2.2.1 (by rw [h0]; decide) (by rw [h0]; decide)
  refine ⟨t, k, b, t1, t2, t3, k3, by omega, b1, b2, b3, ?_, ?_, ?_⟩
  · unfold hrD
    rw [t3, k3, b3, nI_add, pk_mul]
  · exact Nat.mul_pos t1 (by omega)
  · have := Nat.mul_le_mul t2 (show k + b ≤ 1400 by omega)
    omega
theorem tr_rg (hP : PV D p) (h4 : D 44 p = 4) (v k : Int32) : ∃ j, 1 ≤ j ∧ j ≤ 624 ∧ trD D p v k = nI j := by
  obtain ⟨t, t1, t2, t3⟩ := hP.2.2.2.1 (Or.inr h4)
  obtain ⟨b, b1, b2, b3⟩ := hP.2.2.1 (by rw [h4]; decide) (by rw [h4]; decide)
  obtain ⟨f, f1, f2, f3⟩ := hP.2.2.2.2.2.2.2.1 h4
  have e : ∃ j, 1 ≤ j ∧ j ≤ 208 ∧ (if k = 0 then D 45 p + D 52 p else D 52 p) = nI j := by
    by_cases c : k = 0
    · exact ⟨b + f, by omega, by omega, by rw [if_pos c, b3, f3, nI_add]⟩
    · exact ⟨f, by omega, by omega, by rw [if_neg c, f3]⟩
  obtain ⟨j, j1, j2, j3⟩ := e
  unfold trD
  rw [j3]
  by_cases q : rgtD D p v
  · rw [if_pos q]
    exact ⟨j, by omega, by omega, rfl⟩
  · rw [if_neg q, t3, pk_mul]
    have := Nat.mul_le_mul t2 j2
    exact ⟨t * j, Nat.mul_pos t1 j1, by omega, rfl⟩
theorem kd_of (hP : PV D p) : D 44 p = 0 ∨ D 44 p = 1 ∨ D 44 p = 2 ∨ D 44 p = 3 ∨ D 44 p = 4 := by
  obtain ⟨k, h1, h2, h3⟩ := hP.1
  rcases (show k = 0 ∨ k = 1 ∨ k = 2 ∨ k = 3 ∨ k = 4 by omega) with r | r | r | r | r <;> subst r
  · exact Or.inl h3
  · exact Or.inr (Or.inl h3)
  · exact Or.inr (Or.inr (Or.inl h3))
  · exact Or.inr (Or.inr (Or.inr (Or.inl h3)))
  · exact Or.inr (Or.inr (Or.inr (Or.inr h3)))
theorem nxH_nxt (hP : PV D p) (u : Int32) : nxt (nxH D p u) := by
  unfold nxH
  split
  · exact hP.2.2.2.2.1
  · exact hP.2.2.2.2.2.1
theorem nxN_nxt (hP : PV D p) (u : Int32) : nxt (nxN D p u) := by
  unfold nxN
  split
  · exact hP.2.2.2.2.1
  · exact hP.2.2.2.2.2.1
theorem ln_nxt (hP : PV D p) (hs : D 53 p = nI s) (h6 : s ≤ 6) {i : Nat} (hi : i < s) : nxt (D 57 (6 * p + i)) := (hP.2.2.2.2.2.2.2.2.2.2.2 i (by omega) (by rw [hs]; exact nI_lt (by omega) (by omega))).2.2.2
/-- each arc's cost -/
theorem cG_le (hR : RelB z h D n ng pa ba la ca) (w v : Int32) : ∀ p i, p < n → i ≤ mG D p → cG D w v p i ≤ 4200 := by
  intro p i hp hi
  have hP := pv_of hR hp
  unfold cG
  obtain ⟨e45, a1, a2⟩ := nI_toN hP.2.1 (by decide)
  split
  · split <;> omega
  split
  · omega
  split
  · omega
  split
  · rename_i h4
    obtain ⟨j, j1, j2, j3⟩ := tr_rg hP h4 v 1
    rw [j3, toN_nI (by omega)]
    omega
  split
  · obtain ⟨s1, s2⟩ := sz_toN hR hp
    have h0 : D 44 p = 0 := by rcases kd_of hP with r | r | r | r | r <;> first | exact r | contradiction
    obtain ⟨t, k, b, -, -, -, -, -, -, -, -, e, g1, g2⟩ := hr_rg hP h0 s1 s2
    rw [e, toN_nI (by omega)]
    omega
  · omega
theorem nI_min {a b : Nat} (ha : a < 2 ^ 31) (hb : b < 2 ^ 31) : (if nI a < nI b then nI a else nI b) = nI (if a < b then a else b) := by
  by_cases q : a < b
  · rw [if_pos q, if_pos (nI_lt q hb)]
  · rw [if_neg q, if_neg (nI_nlt (by omega) ha)]
theorem one_nI : (1 : Int32) = nI 1 := rfl
theorem x_leastMenu (hR : RelB z h D n ng pa ba la ca) (hp : p < n) (h0 : D 44 p = 0) (hT : TW z 4 h n T W) (hW : W = 1000000) (w v u : Int32) : fX9_leastAtMenu (z + 3) (some (pa p)) h = some (nI (LA (mG D) (cG D w v) (tG D w v u) T p), h) := by
  have hF := hR.1
  have hP := pv_of hR hp
  obtain ⟨hs, h6⟩ := sz_toN hR hp
  obtain ⟨p1, p2, p3, p5, p6, p7, p8, p9, p10, p11, p12, p13⟩ := x_pl hR hp
  obtain ⟨t, k, b, -, -, -, -, -, -, -, -, ehr, g1, g2⟩ := hr_rg hP h0 hs h6
  have c0 : cG D w v p 0 = t * (k + b) := by
    unfold cG
    rw [h0, if_neg (by decide), if_neg (by decide), if_neg (by decide), if_neg (by decide), if_pos rfl, ehr, toN_nI (by omega)]
  have c1 : ∀ i, cG D w v p (i + 1) = 1 := fun i => by
    unfold cG
    rw [h0, if_neg (by decide), if_neg (by decide), if_neg (by decide), if_neg (by decide), if_neg (by omega)]
  have t0 : tG D w v u p 0 = tg (D 47 p) := by
    unfold tG
    rw [h0, if_neg (by decide), if_neg (by decide), if_neg (by decide), if_neg (by decide), if_pos rfl]
  have t1 : ∀ i, tG D w v u p (i + 1) = tg (D 57 (6 * p + i)) := fun i => by
    unfold tG
    rw [h0, if_neg (by decide), if_neg (by decide), if_neg (by decide), if_neg (by decide), if_neg (by omega)]
    rfl
  have hTW : ∀ q, T q ≤ W := hT.2.2.2.1
  have key : ∀ (d i f : Nat), i + d = toN (D 53 p) → d < f → fx bX9_leastAtMenu_16 (fun _ _ _ _ _ => none) f (z + 3) (pa p) (nI (mnA (fun i => cG D w v p i + T (tG D w v u p i)) i)) (nI i) h = some (nI (LA (mG D) (cG D w v) (tG D w v u) T p), h) := by
    intro d
    induction d with
    | zero =>
      intro i f hi hf
      obtain ⟨f, rfl⟩ : ∃ k, f = k + 1 := ⟨f - 1, by omega⟩
      rw [fx_s]
      simp only [bX9_leastAtMenu_16, p1, gk_s, p10]
      rw [hs, if_pos (nI_le (show toN (D 53 p) ≤ i by omega) (by omega))]
      unfold LA mG
      rw [if_pos h0, show i = toN (D 53 p) by omega]
    | succ d ih =>
      intro i f hi hf
      obtain ⟨f, rfl⟩ : ∃ k, f = k + 1 := ⟨f - 1, by omega⟩
      obtain ⟨l0, l1, l2, l3, l4, l5, l6⟩ := x_ln hR hp hs h6 (i := i) (by omega)
      rw [fx_s]
      have e6 : h.2.2.1 (pa p) 6 = nI (toN (D 53 p)) := by rw [p10]; exact hs
      simp only [bX9_leastAtMenu_16, p1, gk_s, e6, if_neg (nI_ge (show i < toN (D 53 p) by omega) (by omega)), p2, bd_s, p3, l0, gd_e (ix_nI (p := i) (N := 6) (by omega) (by decide)), nI_clamp (n := i) (by omega), l1, l2, l6, fk_3 hF, x_ticksFrom hF hT hW (ln_nxt hP hs h6 (i := i) (by omega)), b2_s, nm_d, nI_1, one_nI, nI_add]
      have b1 := hTW (tg (D 57 (6 * p + i)))
      obtain ⟨j, hj, ej⟩ := mnA_ex (fun i => cG D w v p i + T (tG D w v u p i)) i
      have b2 := hTW (tG D w v u p j)
      have b3 : cG D w v p j ≤ 4200 := cG_le hR w v p j hp (by unfold mG; rw [if_pos h0]; omega)
      have em : mnA (fun i => cG D w v p i + T (tG D w v u p i)) i < 2 ^ 31 := by rw [ej]; show cG D w v p j + T (tG D w v u p j) < 2 ^ 31; omega
      have := ih (i + 1) f (by omega) (by omega)
      rw [show (if nI (1 + T (tg (D 57 (6 * p + i)))) < nI (mnA (fun i => cG D w v p i + T (tG D w v u p i)) i) then nI (1 + T (tg (D 57 (6 * p + i)))) else nI (mnA (fun i => cG D w v p i + T (tG D w v u p i)) i)) = nI (mnA (fun i => cG D w v p i + T (tG D w v u p i)) (i + 1)) by
        show _ = nI (if cG D w v p (i + 1) + T (tG D w v u p (i + 1)) < mnA (fun i => cG D w v p i + T (tG D w v u p i)) i then cG D w v p (i + 1) + T (tG D w v u p (i + 1)) else mnA (fun i => cG D w v p i + T (tG D w v u p i)) i)
        rw [c1, t1]
        exact nI_min (by omega) em]
      exact this
  have := key (toN (D 53 p)) 0 NF (by omega) (by have := NF_big; omega)
  simp only [fX9_leastAtMenu, bd_s, p1, gk_s, x_hearing hR hp h0 hs h6, b2_s, fk_3 hF, p8, x_ticksFrom hF hT hW hP.2.2.2.2.1, nm_d]
  rw [ehr, nI_add]
  have e0 : mnA (fun i => cG D w v p i + T (tG D w v u p i)) 0 = t * (k + b) + T (tg (D 47 p)) := by
    show cG D w v p 0 + T (tG D w v u p 0) = _
    rw [c0, t0]
  rw [e0] at this
  exact this
theorem x_leastAt (hR : RelB z h D n ng pa ba la ca) (hp : p < n) (hT : TW z 4 h n T W) (hW : W = 1000000) {c : Nat} {w v u : Int32} (hc : h.1 c = 1) (hw : h.2.2.1 c 0 = w) (hv : h.2.2.1 c 1 = v) (hu : h.2.2.1 c 3 = u) : fX9_leastAt (z + 3) (some (pa p)) (some c) h = some (nI (LA (mG D) (cG D w v) (tG D w v u) T p), h) := by
  have hF := hR.1
  have hP := pv_of hR hp
  obtain ⟨p1, p2, p3, p5, p6, p7, p8, p9, p10, p11, p12, p13⟩ := x_pl hR hp
  obtain ⟨e45, a1, a2⟩ := nI_toN hP.2.1 (by decide)
  have hm : D 44 p ≠ 0 → LA (mG D) (cG D w v) (tG D w v u) T p = cG D w v p 0 + T (tG D w v u p 0) := fun q => by
    unfold LA mG
    rw [if_neg q]
    rfl
  rcases kd_of hP with r | r | r | r | r
  · simp only [fX9_leastAt, bd_s, p1, gk_s, nm_d, p5, r, if_pos, fk_3 hF, x_leastMenu hR hp r hT hW w v u, b2_s]
  · rw [hm (by rw [r]; decide)]
    simp only [fX9_leastAt, bd_s, p1, gk_s, nm_d, p5, r, if_neg (show ¬ (1 : Int32) = 0 by decide), if_pos, hc, hw, x_serves hR hp, b2_s, bi_0, p6, cG, tG]
    by_cases q : bitD (D 49 p) w
    · rw [if_neg (not_not_intro q), if_pos q, if_pos q, hT.2.1, Nat.add_zero, e45]
    · rw [if_pos q, if_neg q, if_neg q, hT.2.2.1 40 hT.2.2.2.2.2 (by decide), hW]
      rfl
  · rw [hm (by rw [r]; decide)]
    simp only [fX9_leastAt, bd_s, p1, gk_s, nm_d, p5, r, if_neg (show ¬ (2 : Int32) = 0 by decide), if_neg (show ¬ (2 : Int32) = 1 by decide), if_pos, hc, hw, x_serves hR hp, b2_s, bi_0, p6, p8, fk_3 hF, x_ticksFrom hF hT hW hP.2.2.2.2.1, cG, tG]
    by_cases q : bitD (D 49 p) w
    · rw [if_neg (not_not_intro q), if_pos q, hT.2.1, Nat.add_zero, e45]
    · rw [if_pos q, if_neg q, ← nI_add, e45]
  · rw [hm (by rw [r]; decide)]
    simp only [fX9_leastAt, bd_s, p1, gk_s, nm_d, p5, r, if_neg (show ¬ (3 : Int32) = 0 by decide), if_neg (show ¬ (3 : Int32) = 1 by decide), if_neg (show ¬ (3 : Int32) = 2 by decide), if_pos, hc, hu, x_nextAtHour hR hp r, b2_s, fk_3 hF, x_ticksFrom hF hT hW (nxH_nxt hP u), cG, tG, Nat.zero_add]
  · rw [hm (by rw [r]; decide)]
    obtain ⟨j, j1, j2, j3⟩ := tr_rg hP r v 1
    simp only [fX9_leastAt, bd_s, p1, gk_s, nm_d, p5, r, if_neg (show ¬ (4 : Int32) = 0 by decide), if_neg (show ¬ (4 : Int32) = 1 by decide), if_neg (show ¬ (4 : Int32) = 2 by decide), if_neg (show ¬ (4 : Int32) = 3 by decide), if_pos, hc, hv, x_ticksOfTries hR hp r, x_nextForNumber hR hp r, b2_s, fk_3 hF, x_ticksFrom hF hT hW (nxN_nxt hP v), cG, tG]
    rw [j3, toN_nI (by omega), nI_add]
end
