/-! a place comes -/
section
variable {z : Nat} {h h2 : Hp} {D D2 : Nat → Nat → Int32} {n ng : Nat} {pa ba : Nat → Nat} {la : Nat → Nat → Nat} {ca : Nat → Nat}
/-- all but what a place is made of stays -/
def sameButP (D D2 : Nat → Nat → Int32) (n : Nat) : Prop :=
  (∀ c k, 44 ≤ c → c ≤ 53 → k ≠ n → D2 c k = D c k) ∧ (∀ c k, 54 ≤ c → c ≤ 63 → D2 c k = D c k) ∧ (∀ c k, c ≠ 1 → c ≠ 43 → (c < 44 ∨ 63 < c) → D2 c k = D c k) ∧ (∀ k, k ≠ 0 → D2 43 k = D 43 k)
theorem VD_add (hs : sameButP D D2 n) (hn : n < 40) (h1 : D2 43 0 = nI (n + 1)) (h2 : D2 1 1 = nI (n + 1)) (hP : PV D2 n) (hV : VD D n ng) : VD D2 (n + 1) ng := by
  obtain ⟨s1, s2, s3, s4⟩ := hs
  obtain ⟨w1, w2, w3, w4, w5, w6, w7, w8, w9, w10, w11⟩ := hV
  refine ⟨by omega, h1, h2, fun p hp => ?_, w5, by rw [s4 15 (by decide)]; exact w6, by rw [s3 8 2 (by decide) (by decide) (by decide)]; exact w7, fun g hg => ?_, fun k hk => ?_, fun k => by rw [s3 74 k (by decide) (by decide) (by decide)]; exact w10 k, ?_⟩
  · by_cases e : p = n
    · rw [e]; exact hP
    · have hp' : p < n := by omega
      have := w4 p hp'
      unfold PV at this ⊢
      simp only [s1 44 p (by decide) (by decide) e, s1 45 p (by decide) (by decide) e, s1 46 p (by decide) (by decide) e, s1 47 p (by decide) (by decide) e, s1 48 p (by decide) (by decide) e, s1 49 p (by decide) (by decide) e, s1 52 p (by decide) (by decide) e, s1 53 p (by decide) (by decide) e, s2 54 _ (by decide) (by decide), s2 55 _ (by decide) (by decide), s2 56 _ (by decide) (by decide), s2 57 _ (by decide) (by decide)]
      exact this
  · have := w8 g hg
    unfold GV at this ⊢
    simp only [s3 10 _ (by decide) (by decide) (by decide), s2 58 _ (by decide) (by decide), s2 59 _ (by decide) (by decide), s2 60 _ (by decide) (by decide), s2 61 _ (by decide) (by decide), s2 62 _ (by decide) (by decide), s2 63 _ (by decide) (by decide)]
    exact this
  · have := w9 k hk
    simp only [s3 66 _ (by decide) (by decide) (by decide), s3 67 _ (by decide) (by decide) (by decide), s3 16 _ (by decide) (by decide) (by decide), s3 17 _ (by decide) (by decide) (by decide)]
    exact this
  · have e : pv D2 = pv D := by
      funext c k
      unfold pv
      split
      · rename_i q
        by_cases c43 : c = 43
        · subst c43
          exact s4 k (by omega)
        · exact s3 c k (by omega) c43 (by omega)
      · rfl
    rw [e]
    exact w11
theorem RelB_add (hR : RelB z h D n ng pa ba la ca) (hn : n < 40) (hF2 : fxd z h2) (he2 : ∀ c k, c < 82 → ess c k = true → h2.2.2.1 (z + c) k = D2 c k) (hs : sameButP D D2 n) (h1 : D2 43 0 = nI (n + 1)) (h11 : D2 1 1 = nI (n + 1)) (hP : PV D2 n) (h53 : D2 53 n = 0)
    (hz : h2.2.2.2.2 = h.2.2.2.2 + 2) (hk : ∀ a, a < h.2.2.2.2 → h2.1 a = h.1 a ∧ h2.2.1 a = h.2.1 a) (hi : ∀ a, z + 82 ≤ a → a < h.2.2.2.2 → h2.2.2.1 a = h.2.2.1 a ∧ h2.2.2.2.1 a = h.2.2.2.1 a) (hr2 : ∀ p, p ≠ n → h2.2.2.2.1 (z + 2) p = h.2.2.2.1 (z + 2) p) (hrn : h2.2.2.2.1 (z + 2) n = some h.2.2.2.2) (hr9 : ∀ k, h2.2.2.2.1 (z + 9) k = h.2.2.2.1 (z + 9) k)
    (hO : PlO h2 D2 n h.2.2.2.2 (h.2.2.2.2 + 1) (la n)) : ∃ pa' ba', RelB z h2 D2 (n + 1) ng pa' ba' la ca := by
  have hF := hR.1
  have hz0 := hF.2.2.2
  obtain ⟨d1, d2, d3, d4, d5⟩ := hR.2.2.2
  have s1 := hs.1
  have s2 := hs.2.1
  have n0 : ∀ i, i < 6 → ¬ nI i < D2 53 n := fun i hi => by rw [h53]; exact nI_pos (by omega)
  refine ⟨fun p => if p = n then h.2.2.2.2 else pa p, fun p => if p = n then h.2.2.2.2 + 1 else ba p, hF2, he2, VD_add hs hn h1 h11 hP hR.2.2.1, fun p hp => ?_, ?_, ?_, ?_, fun g hg => ?_⟩
  · by_cases e : p = n
    · subst e
      simp only [if_pos]
      exact ⟨hrn, hO, ⟨by omega, by omega⟩, ⟨by omega, by omega⟩, fun i hi h3 => absurd h3 (n0 i hi)⟩
    · simp only [if_neg e]
      have hp' : p < n := by omega
      obtain ⟨e1, e2, e3, e4, e5⟩ := d1 p hp'
      have e53 : D2 53 p = D 53 p := s1 53 p (by decide) (by decide) e
      refine ⟨by rw [hr2 p e]; exact e1, ?_, ⟨e3.1, by omega⟩, ⟨e4.1, by omega⟩, fun i hi h3 => by rw [e53] at h3; exact ⟨(e5 i hi h3).1, by have := (e5 i hi h3).2; omega⟩⟩
      unfold PlO at e2 ⊢
      rw [(hk _ e3.2).1, (hi _ e3.1 e3.2).2, (hk _ e4.2).1, (hk _ e4.2).2, (hi _ e3.1 e3.2).1]
      simp only [s1 44 p (by decide) (by decide) e, s1 45 p (by decide) (by decide) e, s1 46 p (by decide) (by decide) e, s1 47 p (by decide) (by decide) e, s1 48 p (by decide) (by decide) e, s1 49 p (by decide) (by decide) e, s1 50 p (by decide) (by decide) e, s1 51 p (by decide) (by decide) e, s1 52 p (by decide) (by decide) e, e53, s2 54 _ (by decide) (by decide), s2 55 _ (by decide) (by decide), s2 56 _ (by decide) (by decide), s2 57 _ (by decide) (by decide)]
      obtain ⟨p1, p2, p3, p4, p5, p6, p7, p8, p9, p10, p11, p12, p13, p14⟩ := e2
      refine ⟨p1, p2, p3, p4, p5, p6, p7, p8, p9, p10, p11, p12, p13, fun i hi6 h3 => ?_⟩
      obtain ⟨q1, q2⟩ := p14 i hi6 h3
      obtain ⟨r1, r2⟩ := e5 i hi6 h3
      refine ⟨by rw [(hi _ e4.1 e4.2).2]; exact q1, ?_⟩
      unfold LnO at q2 ⊢
      rw [(hk _ r2).1, (hi _ r1 r2).1]
      exact q2
  · intro p q hp hq e
    by_cases e1 : p = n <;> by_cases e2 : q = n
    · omega
    · simp only [if_pos e1, if_neg e2] at e
      have := (d1 q (by omega)).2.2.1.2
      omega
    · simp only [if_neg e1, if_pos e2] at e
      have := (d1 p (by omega)).2.2.1.2
      omega
    · simp only [if_neg e1, if_neg e2] at e
      exact d2 p q (by omega) (by omega) e
  · intro p q hp hq e
    by_cases e1 : p = n <;> by_cases e2 : q = n
    · omega
    · simp only [if_pos e1, if_neg e2] at e
      have := (d1 q (by omega)).2.2.2.1.2
      omega
    · simp only [if_neg e1, if_pos e2] at e
      have := (d1 p (by omega)).2.2.2.1.2
      omega
    · simp only [if_neg e1, if_neg e2] at e
      exact d3 p q (by omega) (by omega) e
  · intro p q i j hp hq hi6 h3 hj6 h4 e
    by_cases e1 : p = n
    · rw [e1] at h3; exact absurd h3 (n0 i hi6)
    by_cases e2 : q = n
    · rw [e2] at h4; exact absurd h4 (n0 j hj6)
    rw [s1 53 p (by decide) (by decide) e1] at h3
    rw [s1 53 q (by decide) (by decide) e2] at h4
    exact d4 p q i j (by omega) (by omega) hi6 h3 hj6 h4 e
  · obtain ⟨e1, e2, e3, e4⟩ := d5 g hg
    refine ⟨by rw [hr9]; exact e1, ?_, e3, by omega⟩
    unfold CaO at e2 ⊢
    rw [(hk _ e4).1, (hi _ e3 e4).1, s2 59 g (by decide) (by decide), s2 60 g (by decide) (by decide), s2 61 g (by decide) (by decide), s2 62 g (by decide) (by decide), s2 63 g (by decide) (by decide)]
    exact e2
/-- a heap with a new place object in it -/
def NewP (h g : Hp) (F : Nat → Int32) (L : Nat) : Prop :=
  g.2.2.2.2 = h.2.2.2.2 + 2 ∧ (∀ b, b < h.2.2.2.2 → g.1 b = h.1 b ∧ g.2.1 b = h.2.1 b ∧ g.2.2.1 b = h.2.2.1 b ∧ g.2.2.2.1 b = h.2.2.2.1 b) ∧ g.1 h.2.2.2.2 = 6 ∧ g.1 (h.2.2.2.2 + 1) = 16 ∧ g.2.1 (h.2.2.2.2 + 1) = L ∧ g.2.2.2.1 h.2.2.2.2 5 = some (h.2.2.2.2 + 1) ∧ ∀ k, k ≠ 5 → k < 11 → g.2.2.1 h.2.2.2.2 k = F k
def placeF (kd t sv nx ox tm fg fr to_ : Int32) : Nat → Int32 := fun k => if k = 0 then kd else if k = 1 then t else if k = 2 then sv else if k = 3 then nx else if k = 4 then ox else if k = 7 then tm else if k = 8 then fg else if k = 9 then fr else if k = 10 then to_ else 0
theorem x_init5 (h : Hp) (kd t sv nx ox : Int32) : ∃ g, fX5_init h.2.2.2.2 kd t sv nx ox (hp_nw h 6 0) = some ((), g) ∧ NewP h g (placeF kd t sv nx ox 0 0 0 0) (if kd = 0 then 6 else 0) := by
  have k0 : (hp_nw h 6 0).1 h.2.2.2.2 = 6 := va_up_self _ _ _
  by_cases e : kd = 0
  · refine ⟨hp_sr (hp_nw (hp_si (hp_si (hp_si (hp_si (hp_si (hp_si (hp_si (hp_si (hp_si (hp_si (hp_nw h 6 0) h.2.2.2.2 6 0) h.2.2.2.2 7 0) h.2.2.2.2 8 0) h.2.2.2.2 9 0) h.2.2.2.2 10 0) h.2.2.2.2 0 kd) h.2.2.2.2 1 t) h.2.2.2.2 2 sv) h.2.2.2.2 3 nx) h.2.2.2.2 4 ox) 16 6) h.2.2.2.2 5 (some (h.2.2.2.2 + 1)), ?_, ?_⟩
    · simp only [fX5_init, k0, gk_s, nm_d, if_pos e, si_1, si_5]
      rw [gk_e (by show va_up _ _ _ _ = _; rw [va_up_ne _ _ (by show _ ≠ _ + 1; omega)]; exact k0)]
      rfl
    · refine ⟨rfl, fun b hb => ⟨?_, ?_, ?_, ?_⟩, ?_, ?_, ?_, ?_, fun k h5 h11 => ?_⟩
      · show va_up (va_up h.1 _ _) _ _ _ = _
        rw [va_up_ne _ _ (by show _ ≠ _ + 1; omega), va_up_ne _ _ (by omega)]
      · show va_up (va_up h.2.1 _ _) _ _ _ = _
        rw [va_up_ne _ _ (by show _ ≠ _ + 1; omega), va_up_ne _ _ (by omega)]
      · show va_up (u2 _ _ _ _) _ _ _ = _
        rw [va_up_ne _ _ (by show _ ≠ _ + 1; omega)]
        simp only [si_3]
        rw [u2_ne (by omega), u2_ne (by omega), u2_ne (by omega), u2_ne (by omega), u2_ne (by omega), u2_ne (by omega), u2_ne (by omega), u2_ne (by omega), u2_ne (by omega), u2_ne (by omega)]
        exact va_up_ne _ _ (by omega)
      · show u2 (va_up _ _ _) _ _ _ _ = _
        rw [u2_ne (by omega), va_up_ne _ _ (by show _ ≠ _ + 1; omega)]
        exact va_up_ne _ _ (by omega)
      · show va_up (va_up h.1 _ _) _ _ _ = _
        rw [va_up_ne _ _ (by show _ ≠ _ + 1; omega), va_up_self]
      · exact va_up_self _ _ _
      · rw [if_pos e]
        exact va_up_self _ _ _
      · show u2 _ _ _ _ _ _ = _
        rw [u2_at, if_pos ⟨rfl, rfl⟩]
      · show va_up (u2 _ _ _ _) _ _ _ _ = _
        rw [va_up_ne _ _ (by show _ ≠ _ + 1; omega)]
        simp only [si_3, u2_at, true_and, placeF]
        have hn : (hp_nw h 6 0).2.2.1 h.2.2.2.2 k = 0 := by show (va_up h.2.2.1 h.2.2.2.2 (fun _ => 0)) h.2.2.2.2 k = 0; rw [va_up_self]
        rw [hn]
        rcases (show k = 0 ∨ k = 1 ∨ k = 2 ∨ k = 3 ∨ k = 4 ∨ k = 6 ∨ k = 7 ∨ k = 8 ∨ k = 9 ∨ k = 10 by omega) with rfl | rfl | rfl | rfl | rfl | rfl | rfl | rfl | rfl | rfl <;> rfl
  · refine ⟨hp_sr (hp_nw (hp_si (hp_si (hp_si (hp_si (hp_si (hp_si (hp_si (hp_si (hp_si (hp_si (hp_nw h 6 0) h.2.2.2.2 6 0) h.2.2.2.2 7 0) h.2.2.2.2 8 0) h.2.2.2.2 9 0) h.2.2.2.2 10 0) h.2.2.2.2 0 kd) h.2.2.2.2 1 t) h.2.2.2.2 2 sv) h.2.2.2.2 3 nx) h.2.2.2.2 4 ox) 16 0) h.2.2.2.2 5 (some (h.2.2.2.2 + 1)), ?_, ?_⟩
    · simp only [fX5_init, k0, gk_s, nm_d, if_neg e, si_1, si_5]
      rw [gk_e (by show va_up _ _ _ _ = _; rw [va_up_ne _ _ (by show _ ≠ _ + 1; omega)]; exact k0)]
      rfl
    · refine ⟨rfl, fun b hb => ⟨?_, ?_, ?_, ?_⟩, ?_, ?_, ?_, ?_, fun k h5 h11 => ?_⟩
      · show va_up (va_up h.1 _ _) _ _ _ = _
        rw [va_up_ne _ _ (by show _ ≠ _ + 1; omega), va_up_ne _ _ (by omega)]
      · show va_up (va_up h.2.1 _ _) _ _ _ = _
        rw [va_up_ne _ _ (by show _ ≠ _ + 1; omega), va_up_ne _ _ (by omega)]
      · show va_up (u2 _ _ _ _) _ _ _ = _
        rw [va_up_ne _ _ (by show _ ≠ _ + 1; omega)]
        simp only [si_3]
        rw [u2_ne (by omega), u2_ne (by omega), u2_ne (by omega), u2_ne (by omega), u2_ne (by omega), u2_ne (by omega), u2_ne (by omega), u2_ne (by omega), u2_ne (by omega), u2_ne (by omega)]
        exact va_up_ne _ _ (by omega)
      · show u2 (va_up _ _ _) _ _ _ _ = _
        rw [u2_ne (by omega), va_up_ne _ _ (by show _ ≠ _ + 1; omega)]
        exact va_up_ne _ _ (by omega)
      · show va_up (va_up h.1 _ _) _ _ _ = _
        rw [va_up_ne _ _ (by show _ ≠ _ + 1; omega), va_up_self]
      · exact va_up_self _ _ _
      · rw [if_neg e]
        exact va_up_self _ _ _
      · show u2 _ _ _ _ _ _ = _
        rw [u2_at, if_pos ⟨rfl, rfl⟩]
      · show va_up (u2 _ _ _ _) _ _ _ _ = _
        rw [va_up_ne _ _ (by show _ ≠ _ + 1; omega)]
        simp only [si_3, u2_at, true_and, placeF]
        have hn : (hp_nw h 6 0).2.2.1 h.2.2.2.2 k = 0 := by show (va_up h.2.2.1 h.2.2.2.2 (fun _ => 0)) h.2.2.2.2 k = 0; rw [va_up_self]
        rw [hn]
        rcases (show k = 0 ∨ k = 1 ∨ k = 2 ∨ k = 3 ∨ k = 4 ∨ k = 6 ∨ k = 7 ∨ k = 8 ∨ k = 9 ∨ k = 10 by omega) with rfl | rfl | rfl | rfl | rfl | rfl | rfl | rfl | rfl | rfl <;> rfl
theorem NewP.si {h g : Hp} {F F' : Nat → Int32} {L k : Nat} {v : Int32} (hN : NewP h g F L) (hF : ∀ j, j < 11 → F' j = if j = k then v else F j) : NewP h (hp_si g h.2.2.2.2 k v) F' L := by
  obtain ⟨a1, a2, a3, a4, a5, a6, a7⟩ := hN
  refine ⟨a1, fun b hb => ⟨(a2 b hb).1, (a2 b hb).2.1, (u2_ne (by omega)).trans (a2 b hb).2.2.1, (a2 b hb).2.2.2⟩, a3, a4, a5, a6, fun j h5 h11 => ?_⟩
  rw [si_3, u2_at, hF j h11]
  by_cases e : j = k
  · rw [if_pos ⟨rfl, e⟩, if_pos e]
  · rw [if_neg (fun q => e q.2), if_neg e]
    exact a7 j h5 h11
theorem fxd_new {g : Hp} {F : Nat → Int32} {L : Nat} (hF : fxd z h) (hN : NewP h g F L) : fxd z g := by
  obtain ⟨f1, f2, f3, f4⟩ := hF
  obtain ⟨a1, a2, -⟩ := hN
  refine ⟨fun c hc => (a2 _ (by omega)).1.trans (f1 c hc), fun c hc => (a2 _ (by omega)).2.1.trans (f2 c hc), fun c k o ho => ?_, by omega⟩
  have := (RT_lt c k o ho).1
  rw [(a2 _ (by omega)).2.2.2]
  exact f3 c k o ho
theorem RT_2 : ∀ c k o, RT c k = some o → c ≠ 2 ∧ c ≠ 9 := by
  intro c k o h
  unfold RT at h
  split at h <;> first | (cases h; done) | exact ⟨by decide, by decide⟩
theorem fxd_sr {c0 k0 : Nat} {v : Option Nat} (hc : c0 = 2 ∨ c0 = 9 ∨ c0 = 14) (hF : fxd z h) : fxd z (hp_sr h (z + c0) k0 v) := by
  obtain ⟨f1, f2, f3, f4⟩ := hF
  refine ⟨f1, f2, fun c k o ho => ?_, f4⟩
  have h1 := RT_2 c k o ho
  have h2 := (RT_lt c k o ho).2
  rw [sr_4, u2_ne (by omega)]
  exact f3 c k o ho
/-- the class's half: the object is added -/
theorem x_add {g : Hp} {F : Nat → Int32} {L : Nat} (hR : RelB z h D n ng pa ba la ca) (hn : n < 40) (hN : NewP h g F L) : fX2_add (z + 1) (some h.2.2.2.2) g = some (nI n, hp_si (hp_sr g (z + 2) n (some h.2.2.2.2)) (z + 1) 1 (nI (n + 1))) := by
  have hF := fxd_new hR.1 hN
  have hz := hR.1.2.2.2
  have e1 : g.2.2.1 (z + 1) 1 = nI n := by rw [(hN.2.1 _ (by omega)).2.2.1]; exact (rb_n hR).1
  have hlt : nI n < 40 := nI_lt (b := 40) hn (by decide)
  simp only [fX2_add, fk_1 hF, gk_s, fX2_isFull, e1, if_pos hlt, b2_s, if_pos, fr_1_0 hF, bd_s, fk_2 hF, hN.2.2.1, fl_2 hF, gd_e (ix_nI (p := n) (N := 40) hn (by decide)), nI_clamp (n := n) (by omega), nm_d, sr_3, si_3, u2_at, and_self, nI_1]
  rw [show nI (n + 1) - 1 = nI n from nI_pred n]
theorem x_isFull (hR : RelB z h D n ng pa ba la ca) : fX2_isFull (z + 1) h = some (bi (n = 40), h) := by
  obtain ⟨h1, h2, h3⟩ := rb_n hR
  simp only [fX2_isFull, fk_1 hR.1, gk_s, h1]
  by_cases e : n = 40
  · rw [bi_t e, e, if_neg (show ¬ nI 40 < 40 by decide)]
  · have q : nI n < 40 := nI_lt (b := 40) (by omega) (by decide)
    rw [bi_f e, if_pos q]
theorem m_full (hn : n ≤ 40) : (nI n = 40) = (n = 40) := propext (nI_eq (a := n) (b := 40) (by omega) (by decide))
end
