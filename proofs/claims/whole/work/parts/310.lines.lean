/-! the lines of one menu change -/
section
variable {z : Nat} {h h2 : Hp} {D D2 : Nat → Nat → Int32} {n ng p : Nat} {pa ba : Nat → Nat} {la : Nat → Nat → Nat} {ca : Nat → Nat}
def sameButL (D D2 : Nat → Nat → Int32) (p : Nat) : Prop :=
  (∀ c k, (c < 53 ∨ 57 < c) → D2 c k = D c k) ∧ (∀ k, k ≠ p → D2 53 k = D 53 k) ∧ (∀ c k, 54 ≤ c → c ≤ 57 → (k < 6 * p ∨ 6 * p + 6 ≤ k) → D2 c k = D c k)
theorem VD_lines (hs : sameButL D D2 p) (hP : PV D2 p) (hV : VD D n ng) : VD D2 n ng := by
  obtain ⟨s1, s2, s3⟩ := hs
  obtain ⟨w1, w2, w3, w4, w5, w6, w7, w8, w9, w10, w11⟩ := hV
  refine ⟨w1, by rw [s1 43 0 (by decide)]; exact w2, by rw [s1 1 1 (by decide)]; exact w3, fun q hq => ?_, w5, by rw [s1 43 15 (by decide)]; exact w6, by rw [s1 8 2 (by decide)]; exact w7, fun g hg => ?_, fun k hk => ?_, fun k => by rw [s1 74 k (by decide)]; exact w10 k, ?_⟩
  · by_cases e : q = p
    · rw [e]; exact hP
    · have := w4 q hq
      unfold PV at this ⊢
      simp only [s1 44 q (by decide), s1 45 q (by decide), s1 46 q (by decide), s1 47 q (by decide), s1 48 q (by decide), s1 49 q (by decide), s1 52 q (by decide), s2 q e]
      obtain ⟨a1, a2, a3, a4, a5, a6, a7, a8, a9, a10, a11, a12⟩ := this
      refine ⟨a1, a2, a3, a4, a5, a6, a7, a8, a9, a10, a11, fun i hi h3 => ?_⟩
      rw [s3 54 _ (by decide) (by decide) (by omega), s3 55 _ (by decide) (by decide) (by omega), s3 56 _ (by decide) (by decide) (by omega), s3 57 _ (by decide) (by decide) (by omega)]
      exact a12 i hi h3
  · have := w8 g hg
    unfold GV at this ⊢
    simp only [s1 10 _ (by decide), s1 58 _ (by decide), s1 59 _ (by decide), s1 60 _ (by decide), s1 61 _ (by decide), s1 62 _ (by decide), s1 63 _ (by decide)]
    exact this
  · have := w9 k hk
    simp only [s1 66 _ (by decide), s1 67 _ (by decide), s1 16 _ (by decide), s1 17 _ (by decide)]
    exact this
  · have e : pv D2 = pv D := by
      funext c k
      unfold pv
      split
      · exact s1 c k (by omega)
      · rfl
    rw [e]
    exact w11
theorem RelB_lines {l' : Nat → Nat} (hR : RelB z h D n ng pa ba la ca) (hp : p < n) (hF2 : fxd z h2) (he2 : ∀ c k, c < 82 → ess c k = true → h2.2.2.1 (z + c) k = D2 c k) (hs : sameButL D D2 p) (hP : PV D2 p)
    (hz : h.2.2.2.2 ≤ h2.2.2.2.2) (hk : ∀ a, a < h.2.2.2.2 → h2.1 a = h.1 a ∧ h2.2.1 a = h.2.1 a)
    (hi : ∀ a, z + 82 ≤ a → a < h.2.2.2.2 → a ≠ pa p → (∀ i, i < 6 → nI i < D 53 p → a ≠ la p i) → h2.2.2.1 a = h.2.2.1 a) (hr : ∀ a, z + 82 ≤ a → a < h.2.2.2.2 → a ≠ ba p → h2.2.2.2.1 a = h.2.2.2.1 a) (hr2 : h2.2.2.2.1 (z + 2) = h.2.2.2.1 (z + 2)) (hr9 : h2.2.2.2.1 (z + 9) = h.2.2.2.1 (z + 9))
    (hO : PlO h2 D2 p (pa p) (ba p) l') (hl : ∀ i, i < 6 → nI i < D2 53 p → (∃ j, j < 6 ∧ nI j < D 53 p ∧ l' i = la p j) ∨ (h.2.2.2.2 ≤ l' i ∧ l' i < h2.2.2.2.2)) (hinj : ∀ i j, i < 6 → nI i < D2 53 p → j < 6 → nI j < D2 53 p → l' i = l' j → i = j) :
    RelB z h2 D2 n ng pa ba (fun q => if q = p then l' else la q) ca := by
  have hF := hR.1
  have hz0 := hF.2.2.2
  obtain ⟨d1, d2, d3, d4, d5⟩ := hR.2.2.2
  obtain ⟨s1, s2, s3⟩ := id hs
  have kl : ∀ q i, q < n → i < 6 → nI i < D 53 q → h.1 (la q i) = 4 := fun q i hq h6 h3 => ((d1 q hq).2.1.2.2.2.2.2.2.2.2.2.2.2.2.2 i h6 h3).2.1
  have kp : ∀ q, q < n → h.1 (pa q) = 6 := fun q hq => (d1 q hq).2.1.1
  have kb : ∀ q, q < n → h.1 (ba q) = 16 := fun q hq => (d1 q hq).2.1.2.2.1
  have ne_k : ∀ {a b x y : Nat}, h.1 a = x → h.1 b = y → x ≠ y → a ≠ b := fun ha hb hxy e => hxy (by rw [← ha, ← hb, e])
  refine ⟨hF2, he2, VD_lines hs hP hR.2.2.1, fun q hq => ?_, d2, d3, ?_, fun g hg => ?_⟩
  · by_cases e : q = p
    · subst e
      obtain ⟨e1, e2, e3, e4, e5⟩ := d1 q hq
      simp only [if_pos]
      refine ⟨by rw [hr2]; exact e1, hO, ⟨e3.1, by omega⟩, ⟨e4.1, by omega⟩, fun i hi6 h3 => ?_⟩
      rcases hl i hi6 h3 with ⟨j, j1, j2, j3⟩ | ⟨j1, j2⟩
      · rw [j3]; exact ⟨(e5 j j1 j2).1, by have := (e5 j j1 j2).2; omega⟩
      · exact ⟨by omega, j2⟩
    · simp only [if_neg e]
      obtain ⟨e1, e2, e3, e4, e5⟩ := d1 q hq
      have e53 := s2 q e
      refine ⟨by rw [hr2]; exact e1, ?_, ⟨e3.1, by omega⟩, ⟨e4.1, by omega⟩, fun i hi6 h3 => by rw [e53] at h3; exact ⟨(e5 i hi6 h3).1, by have := (e5 i hi6 h3).2; omega⟩⟩
      have i1 : h2.2.2.1 (pa q) = h.2.2.1 (pa q) := hi _ e3.1 e3.2 (fun x => e (d2 q p hq hp x)) (fun i h6 h3 => ne_k (kp q hq) (kl p i hp h6 h3) (by decide))
      have r1 : h2.2.2.2.1 (pa q) = h.2.2.2.1 (pa q) := hr _ e3.1 e3.2 (ne_k (kp q hq) (kb p hp) (by decide))
      have r2 : h2.2.2.2.1 (ba q) = h.2.2.2.1 (ba q) := hr _ e4.1 e4.2 (fun x => e (d3 q p hq hp x))
      unfold PlO at e2 ⊢
      rw [(hk _ e3.2).1, r1, (hk _ e4.2).1, (hk _ e4.2).2, i1]
      simp only [s1 44 q (by decide), s1 45 q (by decide), s1 46 q (by decide), s1 47 q (by decide), s1 48 q (by decide), s1 49 q (by decide), s1 50 q (by decide), s1 51 q (by decide), s1 52 q (by decide), e53]
      obtain ⟨p1, p2, p3, p4, p5, p6, p7, p8, p9, p10, p11, p12, p13, p14⟩ := e2
      refine ⟨p1, p2, p3, p4, p5, p6, p7, p8, p9, p10, p11, p12, p13, fun i hi6 h3 => ?_⟩
      obtain ⟨q1, q2⟩ := p14 i hi6 h3
      obtain ⟨t1, t2⟩ := e5 i hi6 h3
      refine ⟨by rw [r2]; exact q1, ?_⟩
      rw [s3 54 _ (by decide) (by decide) (by omega), s3 55 _ (by decide) (by decide) (by omega), s3 56 _ (by decide) (by decide) (by omega), s3 57 _ (by decide) (by decide) (by omega)]
      have i2 : h2.2.2.1 (la q i) = h.2.2.1 (la q i) := hi _ t1 t2 (ne_k (kl q i hq hi6 h3) (kp p hp) (by decide)) (fun j j6 j3 x => e (d4 q p i j hq hp hi6 h3 j6 j3 x).1)
      unfold LnO at q2 ⊢
      rw [(hk _ t2).1, i2]
      exact q2
  · intro q r i j hq hrn hi6 h3 hj6 h4 e
    by_cases e1 : q = p <;> by_cases e2 : r = p
    · subst e1; subst e2
      simp only [if_pos] at e
      exact ⟨rfl, hinj i j hi6 h3 hj6 h4 e⟩
    · subst e1
      simp only [if_pos, if_neg e2] at e
      rw [s2 r e2] at h4
      rcases hl i hi6 h3 with ⟨x, x1, x2, x3⟩ | ⟨x1, x2⟩
      · rw [x3] at e
        exact absurd (d4 q r x j hq hrn x1 x2 hj6 h4 e).1.symm e2
      · have := ((d1 r hrn).2.2.2.2 j hj6 h4).2
        omega
    · subst e2
      simp only [if_pos, if_neg e1] at e
      rw [s2 q e1] at h3
      rcases hl j hj6 h4 with ⟨x, x1, x2, x3⟩ | ⟨x1, x2⟩
      · rw [x3] at e
        exact absurd (d4 q r i x hq hrn hi6 h3 x1 x2 e).1 e1
      · have := ((d1 q hq).2.2.2.2 i hi6 h3).2
        omega
    · simp only [if_neg e1, if_neg e2] at e
      rw [s2 q e1] at h3
      rw [s2 r e2] at h4
      exact d4 q r i j hq hrn hi6 h3 hj6 h4 e
  · obtain ⟨e1, e2, e3, e4⟩ := d5 g hg
    refine ⟨by rw [hr9]; exact e1, ?_, e3, by omega⟩
    have i1 : h2.2.2.1 (ca g) = h.2.2.1 (ca g) := hi _ e3 e4 (ne_k e2.1 (kp p hp) (by decide)) (fun i h6 h3 => ne_k e2.1 (kl p i hp h6 h3) (by decide))
    unfold CaO at e2 ⊢
    rw [(hk _ e4).1, i1, s1 59 g (by decide), s1 60 g (by decide), s1 61 g (by decide), s1 62 g (by decide), s1 63 g (by decide)]
    exact e2
end
