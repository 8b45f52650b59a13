/-! the plan's tables, as mathematics -/
def pc (s : Nat) : Nat := fb_sm (fun k => if s.testBit k = true then 1 else 0) 8
def calN (wc : Nat → Nat) (s : Nat) : Nat := fb_sm (fun k => if s.testBit k = true then wc k else 0) 8
def tkN (wt : Nat → Nat) (gt q : Nat) : Nat := if oneB q = true then wt (tz q) else gt
def coN (wt wc : Nat → Nat) (gt : Nat) (t : Nat → Nat → Nat) (s q j : Nat) : Nat := tkN wt gt q * calN wc s + (if oneB q = true then 0 else t q 0) + (if q = s then 0 else t (s - q) j)
def IsMin (V : Nat → Prop) (c : Nat → Nat) (m : Nat) : Prop := (∃ q, V q ∧ c q = m) ∧ ∀ q, V q → m ≤ c q
def VM (s q : Nat) : Prop := 1 ≤ q ∧ q &&& s = q ∧ (q = s → oneB s = true)
def VR (s j q : Nat) : Prop := 1 ≤ q ∧ q &&& s = q ∧ (j = 1 → q = s)
def TabR (wt wc : Nat → Nat) (gt b : Nat) (t : Nat → Nat → Nat) (s : Nat) : Prop := IsMin (VM s) (fun q => coN wt wc gt t s q (b - 1)) (t s 0) ∧ ∀ j, 1 ≤ j → j < b → IsMin (VR s j) (fun q => coN wt wc gt t s q (j - 1)) (t s j)
def Tab (wt wc : Nat → Nat) (gt b : Nat) (t : Nat → Nat → Nat) (N : Nat) : Prop := ∀ s, 1 ≤ s → s < N → TabR wt wc gt b t s
theorem IsMin.uq {V : Nat → Prop} {c : Nat → Nat} {m m' : Nat} (a : IsMin V c m) (b : IsMin V c m') : m = m' := by
  obtain ⟨⟨q, q1, q2⟩, a2⟩ := a
  obtain ⟨⟨r, r1, r2⟩, b2⟩ := b
  have h1 := a2 r r1
  have h2 := b2 q q1
  omega
theorem IsMin.cg {V V' : Nat → Prop} {c c' : Nat → Nat} {m : Nat} (hV : ∀ q, V q ↔ V' q) (hc : ∀ q, V q → c q = c' q) (a : IsMin V c m) : IsMin V' c' m := by
  obtain ⟨⟨q, q1, q2⟩, a2⟩ := a
  refine ⟨⟨q, (hV q).mp q1, by rw [← hc q q1]; exact q2⟩, fun r hr => ?_⟩
  have := (hV r).mpr hr
  rw [← hc r this]
  exact a2 r this
theorem sub_le {q s : Nat} (h : q &&& s = q) : q ≤ s := by rw [← h]; exact Nat.and_le_right
section
variable {wt wc : Nat → Nat} {gt b : Nat} {t t' : Nat → Nat → Nat} {N s : Nat}
theorem lowf (f : Nat → Nat) (h1 : 1 ≤ s) (h2 : s < 256) : fb_sm (fun k => if (s &&& (s - 1)).testBit k = true then f k else 0) 8 + f (tz s) = fb_sm (fun k => if s.testBit k = true then f k else 0) 8 := by
  obtain ⟨z1, z2, -⟩ := tz_facts s h2 h1
  have hu := fb_sm_upd (fun k => if s.testBit k = true then f k else 0) 0 (i := tz s) (n := 8) z1
  have hc : fb_sm (fun k => if (s &&& (s - 1)).testBit k = true then f k else 0) 8 = fb_sm (fun k => if k = tz s then 0 else if s.testBit k = true then f k else 0) 8 := fb_sm_cong (fun k hk => by
    rw [tz_bits s h2 h1 k hk]
    by_cases q : k = tz s
    · rw [if_pos q, q]; simp
    · rw [if_neg q]
      have : (k == tz s) = false := by simpa using q
      rw [this]; simp)
  rw [hc]
  simp only [z2, if_true] at hu
  omega
theorem pc_low (h1 : 1 ≤ s) (h2 : s < 256) : pc (s &&& (s - 1)) + 1 = pc s := lowf (fun _ => 1) h1 h2
theorem cal_low (h1 : 1 ≤ s) (h2 : s < 256) : calN wc (s &&& (s - 1)) + wc (tz s) = calN wc s := lowf wc h1 h2
theorem pc_le (s : Nat) : pc s ≤ 8 := by
  have := fb_sm_bound (f := fun k => if s.testBit k = true then 1 else 0) (c := 1) (n := 8) (fun k _ => by split <;> decide)
  unfold pc
  omega
theorem cal_le (hw : ∀ k, k < 8 → wc k ≤ 1000) (s : Nat) : calN wc s ≤ 8000 := by
  have := fb_sm_bound (f := fun k => if s.testBit k = true then wc k else 0) (c := 1000) (n := 8) (fun k hk => by
    split
    · exact hw k hk
    · omega)
  unfold calN
  omega
theorem tk_le (hw : ∀ k, k < 8 → wt k ≤ 200) (hg : gt ≤ 200) {q : Nat} (h1 : 1 ≤ q) (h2 : q < 256) : tkN wt gt q ≤ 200 := by
  unfold tkN
  split
  · exact hw _ (tz_facts q h2 h1).1
  · exact hg
theorem tc_le (hw : ∀ k, k < 8 → wt k ≤ 200) (hg : gt ≤ 200) (hc : ∀ k, k < 8 → wc k ≤ 1000) {q : Nat} (h1 : 1 ≤ q) (h2 : q < 256) (s : Nat) : tkN wt gt q * calN wc s ≤ 1600000 :=
  Nat.mul_le_mul (tk_le hw hg h1 h2) (cal_le hc s)
theorem co_cg (hs : s < N) (h : ∀ a i, 1 ≤ a → a < N → t a i = t' a i) {q j : Nat} (hq1 : 1 ≤ q) (hq : q ≤ s) : coN wt wc gt t s q j = coN wt wc gt t' s q j := by
  unfold coN
  rw [h q 0 hq1 (by omega)]
  by_cases e : q = s
  · rw [if_pos e, if_pos e]
  · rw [if_neg e, if_neg e, h (s - q) j (by omega) (by omega)]
/-- the tables are what they are -/
theorem Tab_uq (hb : 2 ≤ b) (h1 : Tab wt wc gt b t N) (h2 : Tab wt wc gt b t' N) : ∀ s, 1 ≤ s → s < N → ∀ j, j < b → t s j = t' s j := by
  intro s
  induction s using Nat.strongRecOn with
  | ind s ih =>
    intro hs1 hs
    obtain ⟨a1, a2⟩ := h1 s hs1 hs
    obtain ⟨b1, b2⟩ := h2 s hs1 hs
    have e0 : t s 0 = t' s 0 := by
      refine IsMin.uq (IsMin.cg (fun _ => Iff.rfl) (fun q hq => ?_) a1) b1
      obtain ⟨v1, v2, v3⟩ := hq
      have hle := sub_le v2
      show coN _ _ _ _ _ _ _ = coN _ _ _ _ _ _ _
      unfold coN
      have x1 : (if oneB q = true then 0 else t q 0) = (if oneB q = true then 0 else t' q 0) := by
        by_cases o : oneB q = true
        · rw [if_pos o, if_pos o]
        · rw [if_neg o, if_neg o]
          have : q ≠ s := fun e => o (by rw [e]; exact v3 e)
          exact ih q (by omega) v1 (by omega) 0 (by omega)
      rw [x1]
      by_cases e : q = s
      · rw [if_pos e, if_pos e]
      · rw [if_neg e, if_neg e, ih (s - q) (by omega) (by omega) (by omega) (b - 1) (by omega)]
    intro j hj
    by_cases j0 : j = 0
    · rw [j0]; exact e0
    · refine IsMin.uq (IsMin.cg (fun _ => Iff.rfl) (fun q hq => ?_) (a2 j (by omega) hj)) (b2 j (by omega) hj)
      obtain ⟨v1, v2, v3⟩ := hq
      have hle := sub_le v2
      show coN _ _ _ _ _ _ _ = coN _ _ _ _ _ _ _
      unfold coN
      by_cases e : q = s
      · rw [if_pos e, if_pos e, e, e0]
      · rw [if_neg e, if_neg e, ih (s - q) (by omega) (by omega) (by omega) (j - 1) (by omega), ih q (by omega) v1 (by omega) 0 (by omega)]
/-- the tables' numbers are small -/
theorem Tab_bd (hb : 2 ≤ b) (hw : ∀ k, k < 8 → wt k ≤ 200) (hg : gt ≤ 200) (hc : ∀ k, k < 8 → wc k ≤ 1000) (hN : N ≤ 256) (h1 : Tab wt wc gt b t N) : ∀ s, 1 ≤ s → s < N → t s 0 ≤ 3200000 * pc s ∧ ∀ j, 1 ≤ j → j < b → t s j ≤ 1600000 + 3200000 * pc s := by
  intro s
  induction s using Nat.strongRecOn with
  | ind s ih =>
    intro hs1 hs
    obtain ⟨a1, a2⟩ := h1 s hs1 hs
    obtain ⟨z1, z2, z3, z4, z5, z6⟩ := tz_facts s (by omega) hs1
    have hp := pc_low hs1 (by omega : s < 256)
    have e0 : t s 0 ≤ 3200000 * pc s := by
      by_cases o : oneB s = true
      · have := a1.2 s ⟨hs1, Nat.and_self s, fun _ => o⟩
        have h2 : coN wt wc gt t s s (b - 1) = tkN wt gt s * calN wc s := by unfold coN; rw [if_pos o, if_pos rfl]; omega
        have h3 := tc_le hw hg hc hs1 (by omega : s < 256) s
        dsimp only at this
        rw [h2] at this
        omega
      · have hq1 : 1 ≤ 2 ^ tz s := Nat.one_le_two_pow
        have hne : 2 ^ tz s ≠ s := fun e => o (by rw [← e]; exact z6)
        have hlt : 2 ^ tz s < s := by have := sub_le z4; omega
        have hr : s - 2 ^ tz s = s &&& (s - 1) := by omega
        have := a1.2 (2 ^ tz s) ⟨hq1, z4, fun e => absurd e hne⟩
        have h2 : coN wt wc gt t s (2 ^ tz s) (b - 1) = tkN wt gt (2 ^ tz s) * calN wc s + t (s - 2 ^ tz s) (b - 1) := by unfold coN; rw [if_pos z6, if_neg hne]; omega
        have h3 := tc_le hw hg hc hq1 (by omega : 2 ^ tz s < 256) s
        obtain ⟨-, i2⟩ := ih (s - 2 ^ tz s) (by omega) (by omega) (by omega)
        have i3 := i2 (b - 1) (by omega) (by omega)
        rw [hr] at i3
        dsimp only at this
        rw [h2, hr] at this
        omega
    refine ⟨e0, fun j hj1 hj => ?_⟩
    have := (a2 j hj1 hj).2 s ⟨hs1, Nat.and_self s, fun _ => rfl⟩
    have h2 : coN wt wc gt t s s (j - 1) ≤ 1600000 + t s 0 := by
      have h3 := tc_le hw hg hc hs1 (by omega : s < 256) s
      unfold coN
      rw [if_pos rfl]
      by_cases o : oneB s = true
      · rw [if_pos o]; omega
      · rw [if_neg o]; omega
    dsimp only at this
    omega
/-- of smaller sets' tables, a set's costs are small -/
theorem co_bd (hb : 2 ≤ b) (hw : ∀ k, k < 8 → wt k ≤ 200) (hg : gt ≤ 200) (hc : ∀ k, k < 8 → wc k ≤ 1000) (hN : N ≤ 256) (h1 : Tab wt wc gt b t N) {q j : Nat} (hs : s ≤ N) (hs2 : s < 256) (hq1 : 1 ≤ q) (hq : q ≤ s) (hqs : q = s → oneB s = true ∨ t s 0 ≤ 25600000) (hj : q = s ∨ (1 ≤ j ∧ j < b)) : coN wt wc gt t s q j ≤ 56000000 := by
  have h3 := tc_le hw hg hc hq1 (by omega : q < 256) s
  have hp := pc_le
  unfold coN
  have x1 : (if oneB q = true then 0 else t q 0) ≤ 25600000 := by
    by_cases o : oneB q = true
    · rw [if_pos o]; omega
    · rw [if_neg o]
      by_cases e : q = s
      · rcases hqs e with r | r
        · rw [e] at o; exact absurd r o
        · rw [e]; exact r
      · have := (Tab_bd hb hw hg hc hN h1 q hq1 (by omega)).1
        have := hp q
        omega
  by_cases e : q = s
  · rw [if_pos e]; omega
  · rw [if_neg e]
    have hj2 : 1 ≤ j ∧ j < b := by omega
    have := (Tab_bd hb hw hg hc hN h1 (s - q) (by omega) (by omega)).2 j hj2.1 hj2.2
    have := hp (s - q)
    omega
end
/-- the class's way down through the parts -/
def DnI (V : Nat → Prop) (c : Nat → Nat) (lo m f : Nat) : Prop := (∀ r, V r → lo < r → m ≤ c r) ∧ ((m = 500000000 ∧ ∀ r, V r → ¬ lo < r) ∨ (V f ∧ lo < f ∧ c f = m ∧ ∀ r, V r → lo < r → r < f → m < c r))
theorem DnI.st {V : Nat → Prop} {c : Nat → Nat} {p lo m f : Nat} (h : DnI V c p m f) (hp : V p) (hlo : lo < p) (hn : ∀ r, V r → lo < r → p ≤ r) (hmax : (∀ r, V r → ¬ p < r) → c p ≤ 500000000) : if m < c p then DnI V c lo m f else DnI V c lo (c p) p := by
  obtain ⟨h1, h2⟩ := h
  by_cases q : m < c p
  · rw [if_pos q]
    refine ⟨fun r hr hl => ?_, ?_⟩
    · have := hn r hr hl
      by_cases e : r = p
      · rw [e]; omega
      · exact h1 r hr (by omega)
    · rcases h2 with ⟨a, b⟩ | ⟨a, b, c', d⟩
      · have := hmax b
        omega
      · refine Or.inr ⟨a, by omega, c', fun r hr hl hlt => ?_⟩
        have := hn r hr hl
        by_cases e : r = p
        · rw [e]; exact q
        · exact d r hr (by omega) hlt
  · rw [if_neg q]
    refine ⟨fun r hr hl => ?_, Or.inr ⟨hp, hlo, rfl, fun r hr hl hlt => ?_⟩⟩
    · have := hn r hr hl
      by_cases e : r = p
      · rw [e]; exact Nat.le_refl _
      · have := h1 r hr (by omega)
        omega
    · have := hn r hr hl
      omega
theorem DnI.fin {V : Nat → Prop} {c : Nat → Nat} {m f q : Nat} (h : DnI V c 0 m f) (hq : V q) (hV : ∀ r, V r → 1 ≤ r) : IsMin V c m ∧ leastPart (fun q => V q ∧ c q = m) f := by
  obtain ⟨h1, h2⟩ := h
  rcases h2 with ⟨a, b⟩ | ⟨a, b, c', d⟩
  · exact absurd (hV q hq) (b q hq)
  · refine ⟨⟨⟨f, a, c'⟩, fun r hr => h1 r hr (hV r hr)⟩, ⟨a, c'⟩, fun r hr ⟨x, y⟩ => ?_⟩
    have := d r x (hV r x) hr
    omega
