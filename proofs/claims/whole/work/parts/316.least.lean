/-! a frame by which cells may change; and the least ticks, as mathematics -/
def Fr (z : Nat) (S : Nat → Nat → Bool) (h h' : Hp) : Prop := h'.1 = h.1 ∧ h'.2.1 = h.2.1 ∧ h'.2.2.2.1 = h.2.2.2.1 ∧ h'.2.2.2.2 = h.2.2.2.2 ∧ (∀ c k, c < 82 → S c k = false → h'.2.2.1 (z + c) k = h.2.2.1 (z + c) k) ∧ (∀ a, z + 82 ≤ a → h'.2.2.1 a = h.2.2.1 a)
section
variable {z : Nat} {S S' : Nat → Nat → Bool} {h h' h2 : Hp} {D : Nat → Nat → Int32} {n ng : Nat} {pa ba : Nat → Nat} {la : Nat → Nat → Nat} {ca : Nat → Nat}
theorem Fr.rf : Fr z S h h := ⟨rfl, rfl, rfl, rfl, fun _ _ _ _ => rfl, fun _ _ => rfl⟩
theorem Fr.tr (a : Fr z S h h') (b : Fr z S h' h2) : Fr z S h h2 := by
  obtain ⟨a1, a2, a3, a4, a5, a6⟩ := a
  obtain ⟨b1, b2, b3, b4, b5, b6⟩ := b
  exact ⟨b1.trans a1, b2.trans a2, b3.trans a3, b4.trans a4, fun c k hc he => (b5 c k hc he).trans (a5 c k hc he), fun x hx => (b6 x hx).trans (a6 x hx)⟩
theorem Fr.mono (hS : ∀ c k, S' c k = false → S c k = false) (a : Fr z S h h') : Fr z S' h h' := by
  obtain ⟨a1, a2, a3, a4, a5, a6⟩ := a
  exact ⟨a1, a2, a3, a4, fun c k hc he => a5 c k hc (hS c k he), a6⟩
theorem Fr.si {c k : Nat} {v : Int32} (hc : c < 82) (hS : S c k = true) : Fr z S h (hp_si h (z + c) k v) := by
  refine ⟨rfl, rfl, rfl, rfl, fun d j hd he => ?_, fun a ha => u2_ne (by omega)⟩
  show u2 _ _ _ _ _ _ = _
  rw [u2_at, if_neg]
  rintro ⟨q1, q2⟩
  rw [show d = c by omega, q2, hS] at he
  exact absurd he (by decide)
theorem Fr.scr (a : Fr z S h h') (hS : ∀ c k, S c k = true → ess c k = false) : Scr z h h' := by
  obtain ⟨a1, a2, a3, a4, a5, a6⟩ := a
  refine ⟨by rw [a4]; exact Nat.le_refl _, fun x _ => ⟨by rw [a1], by rw [a2]⟩, fun x _ _ => by rw [a3], fun x hx _ => a6 x hx, fun c k hc he => a5 c k hc ?_⟩
  cases q : S c k
  · rfl
  · rw [hS c k q] at he
    exact absurd he (by decide)
theorem Fr.scT (a : Fr z S h h') (hS : ∀ c k, S c k = true → c ≠ 35 ∧ c ≠ 36 ∧ c ≠ 37 ∧ c ≠ 64 ∧ c ≠ 65 ∧ (c = 43 → k < 22 ∨ 26 < k)) : ScT z h h' := by
  obtain ⟨a1, a2, a3, a4, a5, a6⟩ := a
  have key : ∀ c k, c < 82 → (c = 35 ∨ c = 36 ∨ c = 37 ∨ c = 64 ∨ c = 65 ∨ (c = 43 ∧ 22 ≤ k ∧ k ≤ 26)) → S c k = false := fun c k hc hq => by
    cases q : S c k
    · rfl
    · have := hS c k q
      omega
  exact ⟨fun k => a5 35 k (by decide) (key _ _ (by decide) (by omega)), fun k => a5 36 k (by decide) (key _ _ (by decide) (by omega)), fun k => a5 37 k (by decide) (key _ _ (by decide) (by omega)), fun k h1 h2 => a5 43 k (by decide) (key _ _ (by decide) (by omega)), fun k => a5 64 k (by decide) (key _ _ (by decide) (by omega)), fun k => a5 65 k (by decide) (key _ _ (by decide) (by omega))⟩
theorem Fr.relB (a : Fr z S h h') (hS : ∀ c k, S c k = true → ess c k = false) (hR : RelB z h D n ng pa ba la ca) : RelB z h' D n ng pa ba la ca := RelB_scr hR (a.scr hS)
end
/-- the least of f 0 .. f k -/
def mnA (f : Nat → Nat) : Nat → Nat
  | 0 => f 0
  | k + 1 => if f (k + 1) < mnA f k then f (k + 1) else mnA f k
theorem mnA_le (f : Nat → Nat) : ∀ k i, i ≤ k → mnA f k ≤ f i := by
  intro k
  induction k with
  | zero => intro i hi; rw [show i = 0 by omega]; exact Nat.le_refl _
  | succ k ih =>
    intro i hi
    unfold mnA
    by_cases e : i = k + 1
    · subst e; split <;> omega
    · have := ih i (by omega)
      split <;> omega
theorem mnA_ex (f : Nat → Nat) : ∀ k, ∃ i, i ≤ k ∧ mnA f k = f i := by
  intro k
  induction k with
  | zero => exact ⟨0, Nat.le_refl _, rfl⟩
  | succ k ih =>
    obtain ⟨i, h1, h2⟩ := ih
    unfold mnA
    split
    · exact ⟨k + 1, Nat.le_refl _, rfl⟩
    · exact ⟨i, by omega, h2⟩
theorem mnA_mono {f g : Nat → Nat} {k : Nat} (h : ∀ i, f i ≤ g i) : mnA f k ≤ mnA g k := by
  obtain ⟨i, h1, h2⟩ := mnA_ex g k
  rw [h2]
  exact Nat.le_trans (mnA_le f k i h1) (h i)
/-- a graph: place p has the arcs 0 .. m p; arc i costs cs p i and leads to tt p i; 41 is the end, all else beyond n is no place -/
def LA (m : Nat → Nat) (cs tt : Nat → Nat → Nat) (T : Nat → Nat) (p : Nat) : Nat := mnA (fun i => cs p i + T (tt p i)) (m p)
def OW (n : Nat) (m : Nat → Nat) (cs tt : Nat → Nat → Nat) (W : Nat) : Nat → Nat → Nat
  | 0, q => if q = 41 then 0 else W
  | k + 1, q => if q < n then (if LA m cs tt (OW n m cs tt W k) q < W then LA m cs tt (OW n m cs tt W k) q else W) else if q = 41 then 0 else W
section
variable {n W : Nat} {m : Nat → Nat} {cs tt : Nat → Nat → Nat}
theorem LA_mono {T U : Nat → Nat} (h : ∀ q, T q ≤ U q) (p : Nat) : LA m cs tt T p ≤ LA m cs tt U p := mnA_mono fun i => Nat.add_le_add_left (h _) _
theorem OW_dec (hn : n ≤ 40) : ∀ k q, OW n m cs tt W (k + 1) q ≤ OW n m cs tt W k q := by
  intro k
  induction k with
  | zero =>
    intro q
    show (if q < n then _ else _) ≤ (if q = 41 then 0 else W)
    by_cases h1 : q < n
    · rw [if_pos h1, if_neg (show ¬ q = 41 by omega)]; exact (fun x => (by split <;> omega : (if x < W then x else W) ≤ W)) _
    · rw [if_neg h1]; exact Nat.le_refl _
  | succ k ih =>
    intro q
    show (if q < n then _ else _) ≤ (if q < n then _ else _)
    by_cases h1 : q < n
    · rw [if_pos h1, if_pos h1]
      have := LA_mono (m := m) (cs := cs) (tt := tt) ih q
      split <;> split <;> omega
    · rw [if_neg h1, if_neg h1]; exact Nat.le_refl _
theorem OW_le (hn : n ≤ 40) {j k : Nat} (h : j ≤ k) (q : Nat) : OW n m cs tt W k q ≤ OW n m cs tt W j q := by
  induction k with
  | zero => rw [show j = 0 by omega]; exact Nat.le_refl _
  | succ k ih =>
    by_cases e : j = k + 1
    · subst e; exact Nat.le_refl _
    · exact Nat.le_trans (OW_dec hn k q) (ih (by omega))
theorem OW_W (hn : n ≤ 40) (k q : Nat) : OW n m cs tt W k q ≤ W := by
  have := OW_le (m := m) (cs := cs) (tt := tt) (W := W) hn (Nat.zero_le k) q
  have h2 : OW n m cs tt W 0 q ≤ W := by show (if q = 41 then 0 else W) ≤ W; split <;> omega
  omega
theorem OW_out {k q : Nat} (h : n ≤ q) : OW n m cs tt W k q = if q = 41 then 0 else W := by
  cases k with
  | zero => rfl
  | succ k => show (if q < n then _ else _) = _; rw [if_neg (by omega)]
/-- once nothing changes, nothing ever does -/
theorem OW_fix {K : Nat} (h : ∀ q, q < n → OW n m cs tt W (K + 1) q = OW n m cs tt W K q) : ∀ d q, OW n m cs tt W (K + d) q = OW n m cs tt W K q := by
  have h0 : OW n m cs tt W (K + 1) = OW n m cs tt W K := funext fun q => by
    by_cases hq : q < n
    · exact h q hq
    · rw [OW_out (by omega), OW_out (by omega)]
  intro d
  induction d with
  | zero => intro q; rfl
  | succ d ih =>
    intro q
    have e : OW n m cs tt W (K + d) = OW n m cs tt W K := funext ih
    show (if q < n then (if LA m cs tt (OW n m cs tt W (K + d)) q < W then LA m cs tt (OW n m cs tt W (K + d)) q else W) else if q = 41 then 0 else W) = _
    rw [e]
    exact congrFun h0 q
theorem OW_lim (hn : n ≤ 40) : ∀ N k, fb_sm (fun q => OW n m cs tt W k q) n ≤ N → ∃ K, k ≤ K ∧ ∀ q, q < n → OW n m cs tt W (K + 1) q = OW n m cs tt W K q := by
  intro N
  induction N with
  | zero =>
    intro k hk
    refine ⟨k, Nat.le_refl _, fun q hq => ?_⟩
    have h1 : OW n m cs tt W k q = 0 := fb_sm_zero (show fb_sm (fun q => OW n m cs tt W k q) n = 0 by omega) q hq
    have h2 := OW_dec (m := m) (cs := cs) (tt := tt) (W := W) hn k q
    omega
  | succ N ih =>
    intro k hk
    by_cases hc : ∀ q, q < n → OW n m cs tt W (k + 1) q = OW n m cs tt W k q
    · exact ⟨k, Nat.le_refl _, hc⟩
    · have hx : ∃ q, q < n ∧ OW n m cs tt W (k + 1) q ≠ OW n m cs tt W k q := Classical.byContradiction fun q => hc fun r hr => Classical.byContradiction fun e => q ⟨r, hr, e⟩
      obtain ⟨r, hr, hne⟩ := hx
      have hlt : OW n m cs tt W (k + 1) r < OW n m cs tt W k r := by have := OW_dec (m := m) (cs := cs) (tt := tt) (W := W) hn k r; omega
      have hs : fb_sm (fun q => OW n m cs tt W (k + 1) q) n < fb_sm (fun q => OW n m cs tt W k q) n := by
        have e1 := fb_sm_upd (fun q => OW n m cs tt W k q) (OW n m cs tt W (k + 1) r) hr
        have e2 : fb_sm (fun q => OW n m cs tt W (k + 1) q) n ≤ fb_sm (fun q => if q = r then OW n m cs tt W (k + 1) r else OW n m cs tt W k q) n := fb_sm_le fun q _ => by
          by_cases e : q = r
          · rw [if_pos e, e]; exact Nat.le_refl _
          · rw [if_neg e]; exact OW_dec hn k q
        omega
      obtain ⟨K, h1, h2⟩ := ih (k + 1) (by omega)
      exact ⟨K, by omega, h2⟩
/-- a last change at step i + 2 comes from a last change at step i + 1 -/
theorem OW_back (hn : n ≤ 40) {i p : Nat} (hp : p < n) (h1 : OW n m cs tt W (i + 2) p < OW n m cs tt W (i + 1) p) (h2 : ∀ d, OW n m cs tt W (i + 2 + d) p = OW n m cs tt W (i + 2) p) : ∃ q, q < n ∧ OW n m cs tt W (i + 1) q < OW n m cs tt W i q ∧ ∀ d, OW n m cs tt W (i + 1 + d) q = OW n m cs tt W (i + 1) q := by
  have e : ∀ k, OW n m cs tt W (k + 1) p = if LA m cs tt (OW n m cs tt W k) p < W then LA m cs tt (OW n m cs tt W k) p else W := fun k => by
    show (if p < n then _ else _) = _; rw [if_pos hp]
  have hlt : LA m cs tt (OW n m cs tt W (i + 1)) p < W := by
    have hw := OW_W (m := m) (cs := cs) (tt := tt) (W := W) hn (i + 1) p
    have h3 : OW n m cs tt W (i + 2) p = _ := e (i + 1)
    split at h3 <;> omega
  have e2 : OW n m cs tt W (i + 2) p = LA m cs tt (OW n m cs tt W (i + 1)) p := by rw [e (i + 1), if_pos hlt]
  obtain ⟨a, ha, ea⟩ := mnA_ex (fun i' => cs p i' + OW n m cs tt W (i + 1) (tt p i')) (m p)
  have e3 : OW n m cs tt W (i + 2) p = cs p a + OW n m cs tt W (i + 1) (tt p a) := by rw [e2]; exact ea
  have g : ∀ k, OW n m cs tt W (k + 1) p ≤ cs p a + OW n m cs tt W k (tt p a) := fun k => by
    have : LA m cs tt (OW n m cs tt W k) p ≤ cs p a + OW n m cs tt W k (tt p a) := mnA_le (fun i' => cs p i' + OW n m cs tt W k (tt p i')) (m p) a ha
    rw [e k]; split <;> omega
  have hq : OW n m cs tt W (i + 1) (tt p a) < OW n m cs tt W i (tt p a) := by
    have := g i
    have := OW_dec (m := m) (cs := cs) (tt := tt) (W := W) hn i (tt p a)
    omega
  refine ⟨tt p a, ?_, hq, fun d => ?_⟩
  · apply Classical.byContradiction
    intro hc
    rw [OW_out (by omega), OW_out (by omega)] at hq
    omega
  · have h3 := g (i + 1 + d)
    have h4 := h2 d
    rw [show i + 2 + d = i + 1 + d + 1 by omega] at h4
    have h5 := OW_le (m := m) (cs := cs) (tt := tt) (W := W) hn (show i + 1 ≤ i + 1 + d by omega) (tt p a)
    omega
/-- so many rounds as places settle all -/
theorem OW_n (hn : n ≤ 40) : ∀ d q, OW n m cs tt W (n + d) q = OW n m cs tt W n q := by
  apply OW_fix
  apply Classical.byContradiction
  intro hc
  have hx : ∃ q, q < n ∧ OW n m cs tt W (n + 1) q ≠ OW n m cs tt W n q := Classical.byContradiction fun q => hc fun r hr => Classical.byContradiction fun e => q ⟨r, hr, e⟩
  obtain ⟨K, hK, hK2⟩ := OW_lim (m := m) (cs := cs) (tt := tt) (W := W) hn (fb_sm (fun q => OW n m cs tt W n q) n) n (Nat.le_refl _)
  obtain ⟨R, hR, hR2, hR3⟩ := pk_least (fun K => ∀ q, q < n → OW n m cs tt W (K + 1) q = OW n m cs tt W K q) ⟨K, hK2⟩ |> fun ⟨R, a, b⟩ => (⟨R, a, b, trivial⟩ : ∃ R, (∀ q, q < n → OW n m cs tt W (R + 1) q = OW n m cs tt W R q) ∧ (∀ j, j < R → ¬ ∀ q, q < n → OW n m cs tt W (j + 1) q = OW n m cs tt W j q) ∧ True)
  have hnR : n < R := by
    apply Classical.byContradiction
    intro q
    obtain ⟨r, hr, hne⟩ := hx
    have := OW_fix hR (n - R) r
    have h2 := OW_fix hR (n + 1 - R) r
    rw [show R + (n - R) = n by omega] at this
    rw [show R + (n + 1 - R) = n + 1 by omega] at h2
    exact hne (h2.trans this.symm)
  have chain : ∀ d i, i + d = R → 1 ≤ i → ∃ q, q < n ∧ OW n m cs tt W i q < OW n m cs tt W (i - 1) q ∧ ∀ d, OW n m cs tt W (i + d) q = OW n m cs tt W i q := by
    intro d
    induction d with
    | zero =>
      intro i hi h1
      obtain rfl : i = R := by omega
      have := hR2 (i - 1) (by omega)
      rw [show i - 1 + 1 = i by omega] at this
      have hx : ∃ q, q < n ∧ OW n m cs tt W i q ≠ OW n m cs tt W (i - 1) q := Classical.byContradiction fun q => this fun r hr => Classical.byContradiction fun e => q ⟨r, hr, e⟩
      obtain ⟨q, hq, hne⟩ := hx
      have hd := OW_dec (m := m) (cs := cs) (tt := tt) (W := W) hn (i - 1) q
      rw [show i - 1 + 1 = i by omega] at hd
      exact ⟨q, hq, by omega, fun d => OW_fix hR d q⟩
    | succ d ih =>
      intro i hi h1
      obtain ⟨p, hp, h2, h3⟩ := ih (i + 1) (by omega) (by omega)
      obtain ⟨i, rfl⟩ : ∃ k, i = k + 1 := ⟨i - 1, by omega⟩
      exact OW_back hn hp h2 h3
  have hch : ∀ i, ∃ q, i < R → q < n ∧ OW n m cs tt W (i + 1) q < OW n m cs tt W i q ∧ ∀ d, OW n m cs tt W (i + 1 + d) q = OW n m cs tt W (i + 1) q := fun i => by
    by_cases h : i < R
    · obtain ⟨q, h1, h2, h3⟩ := chain (R - (i + 1)) (i + 1) (by omega) (by omega)
      exact ⟨q, fun _ => ⟨h1, h2, h3⟩⟩
    · exact ⟨0, fun q => absurd q h⟩
  obtain ⟨f, hf⟩ := Classical.axiomOfChoice hch
  have := fb_holes n R f (fun i hi => (hf i hi).1) (fun i j hij hj e => by
    obtain ⟨-, -, a3⟩ := hf i (by omega)
    obtain ⟨-, b2, -⟩ := hf j hj
    rw [← e] at b2
    have c1 := a3 (j - (i + 1))
    have c2 := a3 (j + 1 - (i + 1))
    rw [show i + 1 + (j - (i + 1)) = j by omega] at c1
    rw [show i + 1 + (j + 1 - (i + 1)) = j + 1 by omega] at c2
    omega)
  omega
/-- the least ticks themselves -/
theorem OW_eq (hn : n ≤ 40) {p : Nat} (hp : p < n) : OW n m cs tt W n p = if LA m cs tt (OW n m cs tt W n) p < W then LA m cs tt (OW n m cs tt W n) p else W := by
  have h := OW_n (m := m) (cs := cs) (tt := tt) (W := W) hn 1 p
  rw [← h]
  show (if p < n then _ else _) = _
  rw [if_pos hp]
/-- rounds of betterings -/
def up1 (m : Nat → Nat) (cs tt : Nat → Nat → Nat) (T : Nat → Nat) (p : Nat) : Nat → Nat := fun q => if q = p then (if LA m cs tt T p < T p then LA m cs tt T p else T p) else T q
theorem up1_le (T : Nat → Nat) (p q : Nat) : up1 m cs tt T p q ≤ T q := by
  unfold up1
  by_cases e : q = p
  · rw [if_pos e, e]; split <;> omega
  · rw [if_neg e]; exact Nat.le_refl _
theorem up1_ge (hn : n ≤ 40) {T : Nat → Nat} {p : Nat} (hp : p < n) (h : ∀ q, OW n m cs tt W n q ≤ T q) (q : Nat) : OW n m cs tt W n q ≤ up1 m cs tt T p q := by
  unfold up1
  by_cases e : q = p
  · rw [if_pos e, e]
    have h1 := OW_eq (m := m) (cs := cs) (tt := tt) (W := W) hn hp
    have h2 := LA_mono (m := m) (cs := cs) (tt := tt) h p
    have h3 := h p
    split
    · split at h1 <;> omega
    · exact h3
  · rw [if_neg e]; exact h q
theorem up1_k {T U : Nat → Nat} {p k : Nat} (hp : p < n) (hU : ∀ q, U q ≤ T q) (hTW : U p ≤ W) (hT : ∀ q, T q ≤ OW n m cs tt W k q) : up1 m cs tt U p p ≤ OW n m cs tt W (k + 1) p := by
  have h1 : LA m cs tt U p ≤ LA m cs tt (OW n m cs tt W k) p := LA_mono (fun q => Nat.le_trans (hU q) (hT q)) p
  show (if p = p then _ else _) ≤ (if p < n then _ else _)
  rw [if_pos rfl, if_pos hp]
  split <;> split <;> omega
theorem still_le (hn : n ≤ 40) {T : Nat → Nat} (h0 : ∀ q, T q ≤ OW n m cs tt W 0 q) (h : ∀ p, p < n → T p ≤ LA m cs tt T p) : ∀ k q, T q ≤ OW n m cs tt W k q := by
  intro k
  induction k with
  | zero => exact h0
  | succ k ih =>
    intro q
    show T q ≤ (if q < n then _ else _)
    by_cases hq : q < n
    · rw [if_pos hq]
      have h1 := h q hq
      have h2 := LA_mono (m := m) (cs := cs) (tt := tt) ih q
      have h3 := h0 q
      have h4 : OW n m cs tt W 0 q = W := by show (if q = 41 then 0 else W) = W; rw [if_neg (by omega)]
      split <;> omega
    · rw [if_neg hq]; exact h0 q
theorem two_ar {W W2 B M ca cb xa ya xb yb : Nat} (h1 : B + M < W) (h2 : B + M < W2) (h3 : ca ≤ M) (h4 : cb ≤ M) (ka : (xa = W ∧ ya = W2) ∨ (xa = ya ∧ xa ≤ B)) (kb : (xb = W ∧ yb = W2) ∨ (xb = yb ∧ xb ≤ B)) (la : ca + xa ≤ cb + xb) (lb : cb + yb ≤ ca + ya) : ((if ca + xa < W then ca + xa else W) = W ∧ (if cb + yb < W2 then cb + yb else W2) = W2) ∨ ((if ca + xa < W then ca + xa else W) = (if cb + yb < W2 then cb + yb else W2) ∧ (if ca + xa < W then ca + xa else W) ≤ B + M) := by
  split <;> split <;> omega
/-- two marks for 'no way' give the same ticks -/
theorem OW_two (hn : n ≤ 40) {W2 M : Nat} (hcs : ∀ p i, p < n → i ≤ m p → cs p i ≤ M) : ∀ k q, M * k < W → M * k < W2 → (OW n m cs tt W k q = W ∧ OW n m cs tt W2 k q = W2 ∧ q ≠ 41) ∨ (OW n m cs tt W k q = OW n m cs tt W2 k q ∧ OW n m cs tt W k q ≤ M * k) := by
  intro k
  induction k with
  | zero =>
    intro q h1 h2
    show ((if q = 41 then 0 else W) = W ∧ (if q = 41 then 0 else W2) = W2 ∧ _) ∨ ((if q = 41 then 0 else W) = (if q = 41 then 0 else W2) ∧ (if q = 41 then 0 else W) ≤ M * 0)
    by_cases e : q = 41
    · simp [e]
    · simp [e]
  | succ k ih =>
    intro q h1 h2
    have hk : M * (k + 1) = M * k + M := Nat.mul_succ M k
    have key := fun r => ih r (by omega) (by omega)
    show ((if q < n then _ else _) = W ∧ (if q < n then _ else _) = W2 ∧ _) ∨ ((if q < n then _ else _) = (if q < n then _ else _) ∧ (if q < n then _ else _) ≤ M * (k + 1))
    by_cases hq : q < n
    · simp only [if_pos hq]
      obtain ⟨a, ha, ea⟩ := mnA_ex (fun i => cs q i + OW n m cs tt W k (tt q i)) (m q)
      obtain ⟨b, hb, eb⟩ := mnA_ex (fun i => cs q i + OW n m cs tt W2 k (tt q i)) (m q)
      have la := mnA_le (fun i => cs q i + OW n m cs tt W k (tt q i)) (m q) b hb
      have lb := mnA_le (fun i => cs q i + OW n m cs tt W2 k (tt q i)) (m q) a ha
      have ca := hcs q a hq ha
      have cb := hcs q b hq hb
      have ka := key (tt q a)
      have kb := key (tt q b)
      have ea : LA m cs tt (OW n m cs tt W k) q = cs q a + OW n m cs tt W k (tt q a) := ea
      have eb : LA m cs tt (OW n m cs tt W2 k) q = cs q b + OW n m cs tt W2 k (tt q b) := eb
      have la : LA m cs tt (OW n m cs tt W k) q ≤ cs q b + OW n m cs tt W k (tt q b) := la
      have lb : LA m cs tt (OW n m cs tt W2 k) q ≤ cs q a + OW n m cs tt W2 k (tt q a) := lb
      rw [ea] at la
      rw [eb] at lb
      rw [ea, eb]
      have := two_ar (W := W) (W2 := W2) (B := M * k) (M := M) (by omega) (by omega) ca cb (ka.imp (fun r => ⟨r.1, r.2.1⟩) id) (kb.imp (fun r => ⟨r.1, r.2.1⟩) id) la lb
      rw [← hk] at this
      exact this.imp (fun r => ⟨r.1, r.2, by omega⟩) id
    · simp only [if_neg hq]
      by_cases e : q = 41
      · simp [e]
      · simp [e]
end
