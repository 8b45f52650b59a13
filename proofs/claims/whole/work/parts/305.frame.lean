/-! frames: what a write to a fixed cell leaves -/
section
variable {z : Nat} {h h' : Hp} {D D' : Nat → Nat → Int32} {n ng : Nat} {pa ba : Nat → Nat} {la : Nat → Nat → Nat} {ca : Nat → Nat}
def Dyn (z : Nat) (h h' : Hp) : Prop :=
  h.2.2.2.2 ≤ h'.2.2.2.2 ∧ (∀ a, a < h.2.2.2.2 → h'.1 a = h.1 a ∧ h'.2.1 a = h.2.1 a) ∧ (∀ a, a < h.2.2.2.2 → a ≠ z + 14 → h'.2.2.2.1 a = h.2.2.2.1 a) ∧ (∀ a, z + 82 ≤ a → a < h.2.2.2.2 → h'.2.2.1 a = h.2.2.1 a)
theorem Dyn.rf : Dyn z h h := ⟨Nat.le_refl _, fun _ _ => ⟨rfl, rfl⟩, fun _ _ _ => rfl, fun _ _ _ => rfl⟩
theorem Dyn.tr {h1 h2 : Hp} (a : Dyn z h h1) (b : Dyn z h1 h2) : Dyn z h h2 := by
  obtain ⟨a1, a2, a3, a4⟩ := a
  obtain ⟨b1, b2, b3, b4⟩ := b
  exact ⟨Nat.le_trans a1 b1, fun x hx => ⟨(b2 x (Nat.lt_of_lt_of_le hx a1)).1.trans (a2 x hx).1, (b2 x (Nat.lt_of_lt_of_le hx a1)).2.trans (a2 x hx).2⟩, fun x hx h4 => (b3 x (Nat.lt_of_lt_of_le hx a1) h4).trans (a3 x hx h4), fun x h1 hx => (b4 x h1 (Nat.lt_of_lt_of_le hx a1)).trans (a4 x h1 hx)⟩
theorem Dyn.si {c k : Nat} {v : Int32} (hc : c < 82) : Dyn z h (hp_si h (z + c) k v) :=
  ⟨Nat.le_refl _, fun _ _ => ⟨rfl, rfl⟩, fun _ _ _ => rfl, fun a ha _ => u2_ne (by omega)⟩
theorem Dyn.nw {kd m : Nat} : Dyn z h (hp_nw h kd m) :=
  ⟨Nat.le_succ _, fun a ha => ⟨va_up_ne _ _ (by omega), va_up_ne _ _ (by omega)⟩, fun a ha _ => va_up_ne _ _ (by omega), fun a _ ha => va_up_ne _ _ (by omega)⟩
/-- a write to a cell that was made since -/
theorem Dyn.siN {h0 : Hp} {a k : Nat} {v : Int32} (hD : Dyn z h0 h) (ha : h0.2.2.2.2 ≤ a) : Dyn z h0 (hp_si h a k v) :=
  ⟨hD.1, hD.2.1, hD.2.2.1, fun x h1 h2 => (u2_ne (by omega)).trans (hD.2.2.2 x h1 h2)⟩
theorem Dyn.srN {h0 : Hp} {a k : Nat} {v : Option Nat} (hD : Dyn z h0 h) (ha : h0.2.2.2.2 ≤ a) : Dyn z h0 (hp_sr h a k v) :=
  ⟨hD.1, hD.2.1, fun x h1 h2 => (u2_ne (by omega)).trans (hD.2.2.1 x h1 h2), hD.2.2.2⟩
theorem Scr.dyn (hS : Scr z h h') : Dyn z h h' := ⟨hS.1, hS.2.1, hS.2.2.1, hS.2.2.2.1⟩
theorem fxd_dyn (hF : fxd z h) (hS : Dyn z h h') : fxd z h' := by
  obtain ⟨f1, f2, f3, f4⟩ := hF
  obtain ⟨s1, s2, s3, s4⟩ := hS
  refine ⟨fun c hc => (s2 _ (by omega)).1.trans (f1 c hc), fun c hc => (s2 _ (by omega)).2.trans (f2 c hc), fun c k o ho => ?_, by omega⟩
  obtain ⟨h1, h2⟩ := RT_lt c k o ho
  rw [s3 _ (by omega) (by omega)]
  exact f3 c k o ho
theorem PlO_dyn {p a b : Nat} {l : Nat → Nat} (hS : Dyn z h h') (ha : z + 82 ≤ a ∧ a < h.2.2.2.2) (hb : z + 82 ≤ b ∧ b < h.2.2.2.2) (hl : ∀ i, i < 6 → nI i < D 53 p → z + 82 ≤ l i ∧ l i < h.2.2.2.2) (hP : PlO h D p a b l) : PlO h' D p a b l := by
  obtain ⟨s1, s2, s3, s4⟩ := hS
  unfold PlO at hP ⊢
  rw [(s2 a ha.2).1, s3 a ha.2 (by omega), (s2 b hb.2).1, (s2 b hb.2).2, s4 a ha.1 ha.2]
  obtain ⟨p1, p2, p3, p4, p5, p6, p7, p8, p9, p10, p11, p12, p13, p14⟩ := hP
  refine ⟨p1, p2, p3, p4, p5, p6, p7, p8, p9, p10, p11, p12, p13, fun i hi h2 => ?_⟩
  obtain ⟨q1, q2⟩ := p14 i hi h2
  obtain ⟨r1, r2⟩ := hl i hi h2
  refine ⟨by rw [s3 b hb.2 (by omega)]; exact q1, ?_⟩
  unfold LnO at q2 ⊢
  rw [(s2 _ r2).1, s4 _ r1 r2]
  exact q2
theorem CaO_dyn {g a : Nat} (hS : Dyn z h h') (ha : z + 82 ≤ a ∧ a < h.2.2.2.2) (hP : CaO h D g a) : CaO h' D g a := by
  obtain ⟨s1, s2, s3, s4⟩ := hS
  unfold CaO at hP ⊢
  rw [(s2 _ ha.2).1, s4 _ ha.1 ha.2]
  exact hP
theorem DY_dyn (hF : fxd z h) (hS : Dyn z h h') (hD : DY z h D n ng pa ba la ca) : DY z h' D n ng pa ba la ca := by
  obtain ⟨d1, d2, d3, d4, d5⟩ := hD
  have hz := hF.2.2.2
  have hS0 := hS
  obtain ⟨s1, s2, s3, s4⟩ := hS
  refine ⟨fun p hp => ?_, d2, d3, d4, fun g hg => ?_⟩
  · obtain ⟨e1, e2, e3, e4, e5⟩ := d1 p hp
    exact ⟨by rw [s3 _ (by omega) (by omega)]; exact e1, PlO_dyn hS0 e3 e4 e5 e2, ⟨e3.1, by omega⟩, ⟨e4.1, by omega⟩, fun i hi h2 => ⟨(e5 i hi h2).1, by have := (e5 i hi h2).2; omega⟩⟩
  · obtain ⟨e1, e2, e3, e4⟩ := d5 g hg
    exact ⟨by rw [s3 _ (by omega) (by omega)]; exact e1, CaO_dyn hS0 ⟨e3, e4⟩ e2, e3, by omega⟩
theorem PV_cong {p : Nat} (hc : ∀ c k, 44 ≤ c → c ≤ 57 → D' c k = D c k) (hP : PV D p) : PV D' p := by
  unfold PV at hP ⊢
  simp only [hc 44 _ (by decide) (by decide), hc 45 _ (by decide) (by decide), hc 46 _ (by decide) (by decide), hc 47 _ (by decide) (by decide), hc 48 _ (by decide) (by decide), hc 49 _ (by decide) (by decide), hc 52 _ (by decide) (by decide), hc 53 _ (by decide) (by decide), hc 54 _ (by decide) (by decide), hc 55 _ (by decide) (by decide), hc 56 _ (by decide) (by decide), hc 57 _ (by decide) (by decide)]
  exact hP
theorem PlO_cong {p a b : Nat} {l : Nat → Nat} (hc : ∀ c k, 44 ≤ c → c ≤ 57 → D' c k = D c k) (hP : PlO h D p a b l) : PlO h D' p a b l := by
  unfold PlO at hP ⊢
  simp only [hc 44 _ (by decide) (by decide), hc 45 _ (by decide) (by decide), hc 46 _ (by decide) (by decide), hc 47 _ (by decide) (by decide), hc 48 _ (by decide) (by decide), hc 49 _ (by decide) (by decide), hc 50 _ (by decide) (by decide), hc 51 _ (by decide) (by decide), hc 52 _ (by decide) (by decide), hc 53 _ (by decide) (by decide), hc 54 _ (by decide) (by decide), hc 55 _ (by decide) (by decide), hc 56 _ (by decide) (by decide), hc 57 _ (by decide) (by decide)]
  exact hP
theorem DY_cong (hc : ∀ c k, 44 ≤ c → c ≤ 57 → D' c k = D c k) (hg : ∀ c k, 59 ≤ c → c ≤ 63 → k < ng → D' c k = D c k) (hD : DY z h D n ng pa ba la ca) : DY z h D' n ng pa ba la ca := by
  obtain ⟨d1, d2, d3, d4, d5⟩ := hD
  have e53 : ∀ p, D' 53 p = D 53 p := fun p => hc 53 p (by decide) (by decide)
  refine ⟨fun p hp => ?_, d2, d3, ?_, fun g hgg => ?_⟩
  · obtain ⟨e1, e2, e3, e4, e5⟩ := d1 p hp
    exact ⟨e1, PlO_cong hc e2, e3, e4, fun i hi h2 => e5 i hi (by rw [← e53]; exact h2)⟩
  · intro p q i j hp hq hi h1 hj h2 e
    exact d4 p q i j hp hq hi (by rw [← e53]; exact h1) hj (by rw [← e53]; exact h2) e
  · obtain ⟨e1, e2, e3⟩ := d5 g hgg
    refine ⟨e1, ?_, e3⟩
    unfold CaO at e2 ⊢
    rw [hg 59 g (by decide) (by decide) hgg, hg 60 g (by decide) (by decide) hgg, hg 61 g (by decide) (by decide) hgg, hg 62 g (by decide) (by decide) hgg, hg 63 g (by decide) (by decide) hgg]
    exact e2
theorem ess_si {c0 k0 : Nat} {v : Int32} (he : ∀ c k, c < 82 → ess c k = true → h.2.2.1 (z + c) k = D c k) : ∀ c k, c < 82 → ess c k = true → (hp_si h (z + c0) k0 v).2.2.1 (z + c) k = u2 D c0 k0 v c k := by
  intro c k hc h1
  rw [si_3, u2_at, u2_at]
  by_cases q : c = c0 ∧ k = k0
  · rw [if_pos ⟨by omega, q.2⟩, if_pos q]
  · rw [if_neg (fun r => q ⟨by omega, r.2⟩), if_neg q]
    exact he c k hc h1
/-- an int of a cell that the latest call doesn't read -/
theorem ScT.si {c k : Nat} {v : Int32} (hc : c ≠ 35 ∧ c ≠ 36 ∧ c ≠ 37 ∧ c ≠ 64 ∧ c ≠ 65) (h43 : c = 43 → k < 22 ∨ 26 < k) : ScT z h (hp_si h (z + c) k v) := by
  refine ⟨fun j => ?_, fun j => ?_, fun j => ?_, fun j h1 h2 => ?_, fun j => ?_, fun j => ?_⟩ <;> (show u2 _ _ _ _ _ _ = _; rw [u2_at, if_neg (by intro q; omega)])
end
