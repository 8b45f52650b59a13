/-! THE RELATION between the class's cells and the model's. D c k: what the fixed cell c holds at k. -/
def rgN (x : Int32) (lo hi : Nat) : Prop := ∃ k, lo ≤ k ∧ k ≤ hi ∧ x = nI k
def nxt (x : Int32) : Prop := x = -1 ∨ ∃ q, q < 40 ∧ x = nI q
/-- which ints of the fixed cells count from call to call -/
def ess (c k : Nat) : Bool :=
  (c == 1 && k == 1) || (c == 8 && k == 2) || c == 10 || (c == 15 && (k == 2 || k == 3 || k == 4)) || (16 ≤ c && c ≤ 20) || (22 ≤ c && c ≤ 27) || (29 ≤ c && c ≤ 34)
  || (c == 43 && (k == 0 || k == 15 || k == 31 || k == 53 || k == 54)) || (44 ≤ c && c ≤ 63) || c == 66 || c == 67 || c == 74 || (78 ≤ c && c ≤ 81)
/-- a place's numbers -/
def PV (D : Nat → Nat → Int32) (p : Nat) : Prop :=
  rgN (D 44 p) 0 4 ∧ rgN (D 45 p) 0 500 ∧ (D 44 p ≠ 1 → D 44 p ≠ 3 → rgN (D 45 p) 1 200) ∧ (D 44 p = 0 ∨ D 44 p = 4 → rgN (D 46 p) 1 3) ∧ nxt (D 47 p) ∧ nxt (D 48 p) ∧ rgN (D 49 p) 0 65535
  ∧ (D 44 p = 4 → rgN (D 52 p) 1 8) ∧ rgN (D 53 p) 0 6 ∧ (D 44 p ≠ 0 → D 53 p = 0) ∧ (D 44 p = 1 → D 47 p = -1)
  ∧ ∀ i, i < 6 → nI i < D 53 p → rgN (D 54 (6 * p + i)) 1 200 ∧ rgN (D 55 (6 * p + i)) 0 11 ∧ rgN (D 56 (6 * p + i)) 0 65535 ∧ nxt (D 57 (6 * p + i))
/-- a group's numbers -/
def GV (D : Nat → Nat → Int32) (g : Nat) : Prop :=
  rgN (D 58 g) 1 1000 ∧ D 10 g = D 58 g ∧ rgN (D 59 g) 0 15 ∧ rgN (D 60 g) 0 99999999 ∧ rgN (D 61 g) 1 5000 ∧ rgN (D 62 g) 0 23 ∧ rgN (D 63 g) 0 1
/-- sets as bits -/
def oneB (s : Nat) : Bool := s &&& (s - 1) == 0
/-- the model's cost of a line, by its tables; 100000000: none -/
def tkD (D : Nat → Nat → Int32) (part : Nat) : Int32 := if oneB part = true then (if part = 1 then D 81 0 else if part = 2 then D 81 1 else if part = 4 then D 81 2 else if part = 8 then D 81 3 else if part = 16 then D 81 4 else if part = 32 then D 81 5 else if part = 64 then D 81 6 else if part = 128 then D 81 7 else D 43 53) else D 43 53
def lcD (D : Nat → Nat → Int32) (left part more : Nat) : Int32 :=
  let rest : Int32 := if left = part then 0 else if more = 0 then 100000000 else D 78 (256 * more + (left - part))
  if rest = 100000000 then 100000000 else tkD D part * D 80 left + (if oneB part = true then 0 else D 79 part) + rest
def leastPart (ok : Nat → Prop) (m : Nat) : Prop := ok m ∧ ∀ q, q < m → ¬ ok q
/-- the plan's tables -/
def TBL (D : Nat → Nat → Int32) (n b : Nat) : Prop :=
  ∀ s, 1 ≤ s → s < 2 ^ n →
    (∃ m, D 20 s = nI m ∧ leastPart (fun q => 1 ≤ q ∧ q &&& s = q ∧ (q = s → oneB s = true) ∧ lcD D s q (b - 1) = D 79 s) m)
    ∧ (∀ j, 1 ≤ j → j < b → ∃ m, D (29 + j) s = nI m ∧ leastPart (fun q => 1 ≤ q ∧ q &&& s = q ∧ lcD D s q (j - 1) = D 78 (256 * j + s)) m) ∧ D 30 s = nI s
def PLN (D : Nat → Nat → Int32) : Prop :=
  D 22 0 = 0 ∧ (∀ s, 1 ≤ s → s < 256 → D 22 s = 500000000) ∧ (∀ j, 1 ≤ j → j < 6 → D (22 + j) 0 = 0) ∧ D 18 0 = 0
  ∧ ((D 43 31 = 0 ∧ D 15 2 = 0) ∨ ∃ n b, 1 ≤ n ∧ n ≤ 8 ∧ 2 ≤ b ∧ b ≤ 6 ∧ D 43 31 = nI n ∧ D 15 2 = nI (2 ^ n - 1) ∧ D 43 54 = nI b ∧ D 15 3 = nI b ∧ TBL D n b)
/-- what of D the plan's tables are -/
def pv (D : Nat → Nat → Int32) : Nat → Nat → Int32 := fun c k => if (c = 15 ∧ (k = 2 ∨ k = 3)) ∨ (18 ≤ c ∧ c ≤ 34) ∨ (c = 43 ∧ (k = 31 ∨ k = 53 ∨ k = 54)) ∨ (78 ≤ c ∧ c ≤ 81) then D c k else 0
def VD (D : Nat → Nat → Int32) (n ng : Nat) : Prop :=
  n ≤ 40 ∧ D 43 0 = nI n ∧ D 1 1 = nI n ∧ (∀ p, p < n → PV D p)
  ∧ ng ≤ 12 ∧ D 43 15 = nI ng ∧ D 8 2 = nI ng ∧ (∀ g, g < ng → GV D g)
  ∧ (∀ k, k < 8 → rgN (D 66 k) 1 200 ∧ rgN (D 67 k) 0 1000 ∧ D 16 k = D 66 k ∧ D 17 k = D 67 k)
  ∧ (∀ k, D 74 k = 0) ∧ PLN (pv D)
/-- a line object -/
def LnO (h : Hp) (a : Nat) (t k w x : Int32) : Prop := h.1 a = 4 ∧ h.2.2.1 a 0 = t ∧ h.2.2.1 a 1 = k ∧ h.2.2.1 a 2 = w ∧ h.2.2.1 a 3 = x
/-- a place object a with its row b of lines -/
def PlO (h : Hp) (D : Nat → Nat → Int32) (p a b : Nat) (l : Nat → Nat) : Prop :=
  h.1 a = 6 ∧ h.2.2.2.1 a 5 = some b ∧ h.1 b = 16 ∧ h.2.1 b = (if D 44 p = 0 then 6 else 0)
  ∧ h.2.2.1 a 0 = D 44 p ∧ h.2.2.1 a 1 = D 45 p ∧ h.2.2.1 a 2 = D 49 p ∧ h.2.2.1 a 3 = D 47 p ∧ h.2.2.1 a 4 = D 48 p ∧ h.2.2.1 a 6 = D 53 p
  ∧ (D 44 p = 0 ∨ D 44 p = 4 → h.2.2.1 a 7 = D 46 p) ∧ (D 44 p = 4 → h.2.2.1 a 8 = D 52 p) ∧ (D 44 p = 3 → h.2.2.1 a 9 = D 50 p ∧ h.2.2.1 a 10 = D 51 p)
  ∧ ∀ i, i < 6 → nI i < D 53 p → h.2.2.2.1 b i = some (l i) ∧ LnO h (l i) (D 54 (6 * p + i)) (D 55 (6 * p + i)) (D 56 (6 * p + i)) (D 57 (6 * p + i))
def CaO (h : Hp) (D : Nat → Nat → Int32) (g a : Nat) : Prop :=
  h.1 a = 1 ∧ h.2.2.1 a 0 = D 59 g ∧ h.2.2.1 a 1 = D 60 g ∧ h.2.2.1 a 2 = D 61 g ∧ h.2.2.1 a 3 = D 62 g ∧ h.2.2.1 a 4 = D 63 g
/-- the cells that come and go: where they are, and that they are apart -/
def DY (z : Nat) (h : Hp) (D : Nat → Nat → Int32) (n ng : Nat) (pa ba : Nat → Nat) (la : Nat → Nat → Nat) (ca : Nat → Nat) : Prop :=
  (∀ p, p < n → h.2.2.2.1 (z + 2) p = some (pa p) ∧ PlO h D p (pa p) (ba p) (la p) ∧ (z + 82 ≤ pa p ∧ pa p < h.2.2.2.2) ∧ (z + 82 ≤ ba p ∧ ba p < h.2.2.2.2) ∧ ∀ i, i < 6 → nI i < D 53 p → z + 82 ≤ la p i ∧ la p i < h.2.2.2.2)
  ∧ (∀ p q, p < n → q < n → pa p = pa q → p = q) ∧ (∀ p q, p < n → q < n → ba p = ba q → p = q)
  ∧ (∀ p q i j, p < n → q < n → i < 6 → nI i < D 53 p → j < 6 → nI j < D 53 q → la p i = la q j → p = q ∧ i = j)
  ∧ (∀ g, g < ng → h.2.2.2.1 (z + 9) g = some (ca g) ∧ CaO h D g (ca g) ∧ z + 82 ≤ ca g ∧ ca g < h.2.2.2.2)
def RelB (z : Nat) (h : Hp) (D : Nat → Nat → Int32) (n ng : Nat) (pa ba : Nat → Nat) (la : Nat → Nat → Nat) (ca : Nat → Nat) : Prop :=
  fxd z h ∧ (∀ c k, c < 82 → ess c k = true → h.2.2.1 (z + c) k = D c k) ∧ VD D n ng ∧ DY z h D n ng pa ba la ca
/-- what the latest call left -/
def Told (z : Nat) (h : Hp) : Prop :=
  (vv z h 35 0 = vv z h 43 22) ∧ ((vv z h 35 0 = 0 ∧ vv z h 35 4 = 0 ∧ vv z h 35 5 = 0) ∨ (vv z h 35 0 = 1 ∧ vv z h 35 2 = vv z h 43 23 ∧ vv z h 35 3 = vv z h 43 24 ∧ vv z h 35 4 = vv z h 43 25 ∧ vv z h 35 5 = vv z h 43 26
    ∧ (∀ k, k < 60 → nI k < vv z h 35 4 → vv z h 36 k = vv z h 64 k) ∧ (∀ k, k < 60 → nI k < vv z h 35 5 → vv z h 37 k = vv z h 65 k)))
def Rel (z : Nat) (h : Hp) : Prop := (∃ D n ng pa ba la ca, RelB z h D n ng pa ba la ca) ∧ Told z h
/-- what a call that asks leaves as it was: all that counts -/
def Scr (z : Nat) (h h' : Hp) : Prop :=
  h.2.2.2.2 ≤ h'.2.2.2.2 ∧ (∀ a, a < h.2.2.2.2 → h'.1 a = h.1 a ∧ h'.2.1 a = h.2.1 a) ∧ (∀ a, a < h.2.2.2.2 → a ≠ z + 14 → h'.2.2.2.1 a = h.2.2.2.1 a) ∧ (∀ a, z + 82 ≤ a → a < h.2.2.2.2 → h'.2.2.1 a = h.2.2.1 a)
  ∧ (∀ c k, c < 82 → ess c k = true → h'.2.2.1 (z + c) k = h.2.2.1 (z + c) k)
/-- and the latest call as it was -/
def ScT (z : Nat) (h h' : Hp) : Prop := (∀ k, vv z h' 35 k = vv z h 35 k) ∧ (∀ k, vv z h' 36 k = vv z h 36 k) ∧ (∀ k, vv z h' 37 k = vv z h 37 k) ∧ (∀ k, 22 ≤ k → k ≤ 26 → vv z h' 43 k = vv z h 43 k) ∧ (∀ k, vv z h' 64 k = vv z h 64 k) ∧ (∀ k, vv z h' 65 k = vv z h 65 k)
theorem Scr.rf {z : Nat} {h : Hp} : Scr z h h := ⟨Nat.le_refl _, fun _ _ => ⟨rfl, rfl⟩, fun _ _ _ => rfl, fun _ _ _ => rfl, fun _ _ _ _ => rfl⟩
theorem Scr.tr {z : Nat} {h h1 h2 : Hp} (a : Scr z h h1) (b : Scr z h1 h2) : Scr z h h2 := by
  obtain ⟨a1, a2, a3, a4, a5⟩ := a
  obtain ⟨b1, b2, b3, b4, b5⟩ := b
  exact ⟨Nat.le_trans a1 b1, fun x hx => ⟨(b2 x (Nat.lt_of_lt_of_le hx a1)).1.trans (a2 x hx).1, (b2 x (Nat.lt_of_lt_of_le hx a1)).2.trans (a2 x hx).2⟩, fun x hx h4 => (b3 x (Nat.lt_of_lt_of_le hx a1) h4).trans (a3 x hx h4), fun x h1 hx => (b4 x h1 (Nat.lt_of_lt_of_le hx a1)).trans (a4 x h1 hx), fun c k hc he => (b5 c k hc he).trans (a5 c k hc he)⟩
theorem ScT.rf {z : Nat} {h : Hp} : ScT z h h := ⟨fun _ => rfl, fun _ => rfl, fun _ => rfl, fun _ _ _ => rfl, fun _ => rfl, fun _ => rfl⟩
theorem ScT.tr {z : Nat} {h h1 h2 : Hp} (a : ScT z h h1) (b : ScT z h1 h2) : ScT z h h2 := by
  obtain ⟨a1, a2, a3, a4, a5, a6⟩ := a
  obtain ⟨b1, b2, b3, b4, b5, b6⟩ := b
  exact ⟨fun k => (b1 k).trans (a1 k), fun k => (b2 k).trans (a2 k), fun k => (b3 k).trans (a3 k), fun k h1 h2 => (b4 k h1 h2).trans (a4 k h1 h2), fun k => (b5 k).trans (a5 k), fun k => (b6 k).trans (a6 k)⟩
theorem RT_lt : ∀ c k o, RT c k = some o → c < 82 ∧ c ≠ 14 := by
  intro c k o h
  unfold RT at h
  split at h <;> first | (cases h; done) | exact ⟨by decide, by decide⟩
theorem fxd_scr {z : Nat} {h h' : Hp} (hF : fxd z h) (hS : Scr z h h') : fxd z h' := by
  obtain ⟨f1, f2, f3, f4⟩ := hF
  obtain ⟨s1, s2, s3, s4, s5⟩ := hS
  refine ⟨fun c hc => (s2 _ (by omega)).1.trans (f1 c hc), fun c hc => (s2 _ (by omega)).2.trans (f2 c hc), fun c k o ho => ?_, by omega⟩
  obtain ⟨h1, h2⟩ := RT_lt c k o ho
  rw [s3 _ (by omega) (by omega)]
  exact f3 c k o ho
theorem PlO_scr {z : Nat} {h h' : Hp} {D : Nat → Nat → Int32} {p a b : Nat} {l : Nat → Nat} (hS : Scr z h h') (ha : z + 82 ≤ a ∧ a < h.2.2.2.2) (hb : z + 82 ≤ b ∧ b < h.2.2.2.2) (hl : ∀ i, i < 6 → nI i < D 53 p → z + 82 ≤ l i ∧ l i < h.2.2.2.2) (hP : PlO h D p a b l) : PlO h' D p a b l := by
  obtain ⟨s1, s2, s3, s4, s5⟩ := hS
  unfold PlO at hP ⊢
  rw [(s2 a ha.2).1, s3 a ha.2 (by omega), (s2 b hb.2).1, (s2 b hb.2).2, s4 a ha.1 ha.2]
  obtain ⟨p1, p2, p3, p4, p5, p6, p7, p8, p9, p10, p11, p12, p13, p14⟩ := hP
  refine ⟨p1, p2, p3, p4, p5, p6, p7, p8, p9, p10, p11, p12, p13, fun i hi h2 => ?_⟩
  obtain ⟨q1, q2⟩ := p14 i hi h2
  obtain ⟨r1, r2⟩ := hl i hi h2
  refine ⟨by rw [s3 b hb.2 (by omega)]; exact q1, ?_⟩
  unfold LnO at q2 ⊢
  rw [(s2 _ r2).1, s4 _ r1 r2]
  exact q2
theorem DY_scr {z : Nat} {h h' : Hp} {D : Nat → Nat → Int32} {n ng : Nat} {pa ba : Nat → Nat} {la : Nat → Nat → Nat} {ca : Nat → Nat} (hF : fxd z h) (hS : Scr z h h') (hD : DY z h D n ng pa ba la ca) : DY z h' D n ng pa ba la ca := by
  obtain ⟨d1, d2, d3, d4, d5⟩ := hD
  have hz := hF.2.2.2
  have hS0 := hS
  obtain ⟨s1, s2, s3, s4, s5⟩ := hS
  refine ⟨fun p hp => ?_, d2, d3, d4, fun g hg => ?_⟩
  · obtain ⟨e1, e2, e3, e4, e5⟩ := d1 p hp
    exact ⟨by rw [s3 _ (by omega) (by omega)]; exact e1, PlO_scr hS0 e3 e4 e5 e2, ⟨e3.1, by omega⟩, ⟨e4.1, by omega⟩, fun i hi h2 => ⟨(e5 i hi h2).1, by have := (e5 i hi h2).2; omega⟩⟩
  · obtain ⟨e1, e2, e3, e4⟩ := d5 g hg
    refine ⟨by rw [s3 _ (by omega) (by omega)]; exact e1, ?_, e3, by omega⟩
    unfold CaO at e2 ⊢
    rw [(s2 _ e4).1, s4 _ e3 e4]
    exact e2
theorem RelB_scr {z : Nat} {h h' : Hp} {D : Nat → Nat → Int32} {n ng : Nat} {pa ba : Nat → Nat} {la : Nat → Nat → Nat} {ca : Nat → Nat} (hR : RelB z h D n ng pa ba la ca) (hS : Scr z h h') : RelB z h' D n ng pa ba la ca :=
  ⟨fxd_scr hR.1 hS, fun c k hc he => (hS.2.2.2.2 c k hc he).trans (hR.2.1 c k hc he), hR.2.2.1, DY_scr hR.1 hS hR.2.2.2⟩
theorem Told_scr {z : Nat} {h h' : Hp} (hT : Told z h) (hS : ScT z h h') : Told z h' := by
  obtain ⟨s1, s2, s3, s4, s5, s6⟩ := hS
  unfold Told at hT ⊢
  rw [s1 0, s1 2, s1 3, s1 4, s1 5, s4 22 (by decide) (by decide), s4 23 (by decide) (by decide), s4 24 (by decide) (by decide), s4 25 (by decide) (by decide), s4 26 (by decide) (by decide)]
  refine ⟨hT.1, ?_⟩
  rcases hT.2 with q | ⟨q1, q2, q3, q4, q5, q6, q7⟩
  · exact Or.inl q
  · exact Or.inr ⟨q1, q2, q3, q4, q5, fun k h1 h2 => by rw [s2, s5]; exact q6 k h1 h2, fun k h1 h2 => by rw [s3, s6]; exact q7 k h1 h2⟩
/-- a case of the law: class and model answer alike, and stay related -/
def Sim (z : Nat) (fa fb : Hp → Option (Int32 × Hp)) : Prop := ∀ h, Rel z h → ∃ r h1 h2, fa h = some (r, h1) ∧ h1.1 (z + 43) = 12 ∧ fb h1 = some (r, h2) ∧ Rel z h2
