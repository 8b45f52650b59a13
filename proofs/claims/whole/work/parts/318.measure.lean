/-! the class's measuring -/
section
variable {z : Nat} {h : Hp} {D : Nat → Nat → Int32} {n ng : Nat} {pa ba : Nat → Nat} {la : Nat → Nat → Nat} {ca : Nat → Nat} {p s W : Nat} {T : Nat → Nat}
def S4 : Nat → Nat → Bool := fun c _ => c == 4
theorem S4_ess : ∀ c k, S4 c k = true → ess c k = false := by
  intro c k hc
  have : c = 4 := by simpa [S4] using hc
  subst this
  rfl
/-- one row is filled -/
theorem x_fill_l {a N : Nat} {v : Int32} (hN : N < 2 ^ 31) : ∀ (d i f : Nat) (h : Hp), h.1 a = 13 → h.2.1 a = N → i + d = N → d < f → ∃ h', fx bJ7_fill_53178_5 (fun _ _ _ _ _ => none) f a v (nI i) (nI N) h = some ((), h') ∧ h'.1 = h.1 ∧ h'.2.1 = h.2.1 ∧ h'.2.2.2 = h.2.2.2 ∧ (∀ b, b ≠ a → h'.2.2.1 b = h.2.2.1 b) ∧ (∀ k, h'.2.2.1 a k = if i ≤ k ∧ k < N then v else h.2.2.1 a k) := by
  intro d
  induction d with
  | zero =>
    intro i f h h1 h2 hi hf
    obtain ⟨f, rfl⟩ : ∃ k, f = k + 1 := ⟨f - 1, by omega⟩
    refine ⟨h, ?_, rfl, rfl, rfl, fun _ _ => rfl, fun k => by rw [if_neg (by omega)]⟩
    rw [fx_s]
    simp only [bJ7_fill_53178_5, if_pos (nI_le (show N ≤ i by omega) (by omega))]
  | succ d ih =>
    intro i f h h1 h2 hi hf
    obtain ⟨f, rfl⟩ : ∃ k, f = k + 1 := ⟨f - 1, by omega⟩
    obtain ⟨h', e1, e2, e3, e4, e5, e6⟩ := ih (i + 1) f (hp_si h a i v) h1 h2 (by omega) (by omega)
    refine ⟨h', ?_, e2, e3, e4, fun b hb => (e5 b hb).trans (u2_ne hb), fun k => ?_⟩
    · rw [fx_s]
      simp only [bJ7_fill_53178_5, if_neg (nI_ge (show i < N by omega) (by omega)), h1, gk_s, h2, gd_e (ix_nI (p := i) (N := N) (by omega) hN), nI_clamp (n := i) (by omega), nm_d, nI_1]
      exact e1
    · rw [e6 k]
      show (if _ then _ else u2 _ _ _ _ _ _) = _
      rw [u2_at]
      by_cases q : i = k
      · subst q
        rw [if_neg (by omega), if_pos ⟨rfl, rfl⟩, if_pos (by omega)]
      · by_cases q2 : i + 1 ≤ k ∧ k < N
        · rw [if_pos q2, if_pos (by omega)]
        · rw [if_neg q2, if_neg (by omega), if_neg (by omega)]
theorem x_fill {a N : Nat} {v : Int32} {h : Hp} (hN : N < 2000000) (h1 : h.1 a = 13) (h2 : h.2.1 a = N) : ∃ h', fJ7_fill_53178 (some a) v h = some ((), h') ∧ h'.1 = h.1 ∧ h'.2.1 = h.2.1 ∧ h'.2.2.2 = h.2.2.2 ∧ (∀ b, b ≠ a → h'.2.2.1 b = h.2.2.1 b) ∧ (∀ k, h'.2.2.1 a k = if k < N then v else h.2.2.1 a k) := by
  obtain ⟨h', e1, e2, e3, e4, e5, e6⟩ := x_fill_l (a := a) (N := N) (v := v) (by omega) N 0 NF h h1 h2 (by omega) (by have := NF_big; omega)
  refine ⟨h', ?_, e2, e3, e4, e5, fun k => by rw [e6 k]; simp only [Nat.zero_le, true_and]⟩
  simp only [fJ7_fill_53178, bd_s, h1, gk_s, nm_d, h2]
  exact e1
theorem fr_of_row {S : Nat → Nat → Bool} {h' : Hp} {c : Nat} (hc : c < 82) (hS : ∀ k, S c k = true) (e2 : h'.1 = h.1) (e3 : h'.2.1 = h.2.1) (e4 : h'.2.2.2 = h.2.2.2) (e5 : ∀ b, b ≠ z + c → h'.2.2.1 b = h.2.2.1 b) : Fr z S h h' := by
  refine ⟨e2, e3, by rw [e4], by rw [e4], fun d k hd he => ?_, fun a ha => e5 a (by omega)⟩
  rw [e5]
  intro q
  rw [show d = c by omega, hS] at he
  exact absurd he (by decide)
def CaV (z : Nat) (h : Hp) (c : Nat) (w v u : Int32) : Prop := z + 82 ≤ c ∧ h.1 c = 1 ∧ h.2.2.1 c 0 = w ∧ h.2.2.1 c 1 = v ∧ h.2.2.1 c 3 = u
theorem CaV.fr {S : Nat → Nat → Bool} {h h' : Hp} {c : Nat} {w v u : Int32} (hC : CaV z h c w v u) (hS : Fr z S h h') : CaV z h' c w v u := by
  obtain ⟨c1, c2, c3, c4, c5⟩ := hC
  obtain ⟨s1, s2, s3, s4, s5, s6⟩ := hS
  refine ⟨c1, by rw [s1]; exact c2, ?_, ?_, ?_⟩ <;> rw [s6 c c1] <;> assumption
/-- one write of the row -/
theorem TW.si {c : Nat} {h : Hp} {W x p : Nat} (hT : TW z c h n T W) (hp : p < n) (hx : x ≤ T p) : TW z c (hp_si h (z + c) p (nI x)) n (fun q => if q = p then x else T q) W := by
  obtain ⟨t1, t2, t3, t4, t5, t6⟩ := hT
  refine ⟨fun q hq => ?_, by show (if 41 = p then x else T 41) = 0; rw [if_neg (by omega)]; exact t2, fun q h1 h2 => by show (if q = p then x else T q) = W; rw [if_neg (by omega)]; exact t3 q h1 h2, fun q => ?_, t5, t6⟩
  · show u2 _ _ _ _ _ _ = nI (if q = p then x else T q)
    rw [u2_at]
    by_cases e : q = p
    · rw [if_pos ⟨rfl, e⟩, if_pos e]
    · rw [if_neg (fun r => e r.2), if_neg e]
      exact t1 q hq
  · show (if q = p then x else T q) ≤ W
    by_cases e : q = p
    · rw [if_pos e]; have := t4 p; omega
    · rw [if_neg e]; exact t4 q
/-- a round of the class: from the last place down -/
theorem x_sweep {rc : Nat → Option Nat → Option Nat → Int32 → Int32 → Hp → Option (Unit × Hp)} {c : Nat} {w v u v4 : Int32} (hW : W = 1000000) : ∀ (d f : Nat) (h : Hp) (T : Nat → Nat) (v3 : Int32), d ≤ n → d < f → RelB z h D n ng pa ba la ca → TW z 4 h n T W → CaV z h c w v u →
    ∃ T' h' v3', fx (bX9_measure_37 rc) (fun _ _ _ _ _ _ _ => none) f (z + 3) (z + 1) (some c) v3 v4 (nI d + (-1)) h = rc (z + 3) (some (z + 1)) (some c) v3' (v4 + 1) h' ∧ Fr z S4 h h' ∧ TW z 4 h' n T' W ∧ (∀ q, T' q ≤ T q)
      ∧ ((∀ q, OW n (mG D) (cG D w v) (tG D w v u) W n q ≤ T q) → ∀ q, OW n (mG D) (cG D w v) (tG D w v u) W n q ≤ T' q)
      ∧ (∀ k, (∀ q, T q ≤ OW n (mG D) (cG D w v) (tG D w v u) W k q) → ∀ p, p < d → T' p ≤ OW n (mG D) (cG D w v) (tG D w v u) W (k + 1) p)
      ∧ (v3' = 1 ∨ (v3' = v3 ∧ T' = T ∧ ∀ p, p < d → T p ≤ LA (mG D) (cG D w v) (tG D w v u) T p)) := by
  intro d
  induction d with
  | zero =>
    intro f h T v3 hd hf hR hT hC
    obtain ⟨f, rfl⟩ : ∃ k, f = k + 1 := ⟨f - 1, by omega⟩
    refine ⟨T, h, v3, ?_, Fr.rf, hT, fun _ => Nat.le_refl _, fun q => q, fun k hk p hp => absurd hp (Nat.not_lt_zero p), Or.inr ⟨rfl, rfl, fun p hp => absurd hp (Nat.not_lt_zero p)⟩⟩
    rw [fx_s]
    simp only [bX9_measure_37, if_pos (show nI 0 + (-1) < 0 by decide), nm_d]
  | succ d ih =>
    intro f h T v3 hd hf hR hT hC
    obtain ⟨f, rfl⟩ : ∃ k, f = k + 1 := ⟨f - 1, by omega⟩
    have hF := hR.1
    have hn : n ≤ 40 := hT.2.2.2.2.2
    have hla := x_leastAt hR (p := d) (by omega) hT hW hC.2.1 hC.2.2.1 hC.2.2.2.1 hC.2.2.2.2
    have e2 := (hR.2.2.2.1 d (by omega)).1
    obtain ⟨x, hx⟩ : ∃ x, x = LA (mG D) (cG D w v) (tG D w v u) T d := ⟨_, rfl⟩
    have hxb : x < 2 ^ 31 := by
      obtain ⟨j, hj, ej⟩ := mnA_ex (fun i => cG D w v d i + T (tG D w v u d i)) (mG D d)
      have b1 := cG_le hR w v d j (by omega) hj
      have b2 := hT.2.2.2.1 (tG D w v u d j)
      have : x = cG D w v d j + T (tG D w v u d j) := by rw [hx]; exact ej
      omega
    rw [← hx] at hla
    have td := hT.2.2.2.1 d
    have e4 : h.2.2.1 (z + 4) d = nI (T d) := hT.1 d (by omega)
    rw [fx_s]
    simp only [bX9_measure_37, pk_m1, if_neg (nI_pos (n := d) (by omega)), fk_1 hF, gk_s, fr_1_0 hF, bd_s, fk_2 hF, fl_2 hF, gd_e (ix_nI (p := d) (N := 40) (by omega) (by decide)), nI_clamp (n := d) (by omega), e2, fk_3 hF, hla, b2_s, fr_3_0 hF, fk_4 hF, fl_4 hF, e4, nm_d]
    by_cases cc : T d ≤ x
    · obtain ⟨T', h', v3', i1, i2, i3, i4, i5, i6, i7⟩ := ih f h T v3 (by omega) (by omega) hR hT hC
      rw [if_pos (nI_le cc (by omega))]
      refine ⟨T', h', v3', i1, i2, i3, i4, i5, fun k hk p hp => ?_, ?_⟩
      · by_cases e : p = d
        · subst e
          have := up1_k (n := n) (W := W) (m := mG D) (cs := cG D w v) (tt := tG D w v u) (T := T) (U := T) (p := p) (k := k) (by omega) (fun _ => Nat.le_refl _) (hT.2.2.2.1 p) hk
          unfold up1 at this
          rw [if_pos rfl, if_neg (by rw [← hx]; omega)] at this
          exact Nat.le_trans (i4 p) this
        · exact i6 k hk p (by omega)
      · rcases i7 with r | ⟨r1, r2, r3⟩
        · exact Or.inl r
        · refine Or.inr ⟨r1, r2, fun p hp => ?_⟩
          by_cases e : p = d
          · rw [e, ← hx]; exact cc
          · exact r3 p (by omega)
    · have hT1 := TW.si (T := T) hT (show d < n by omega) (show x ≤ T d by omega)
      obtain ⟨T1, eT1⟩ : ∃ T1, T1 = (fun q => if q = d then x else T q) := ⟨_, rfl⟩
      rw [← eT1] at hT1
      have f1 : Fr z S4 h (hp_si h (z + 4) d (nI x)) := Fr.si (by decide) rfl
      obtain ⟨T', h', v3', i1, i2, i3, i4, i5, i6, i7⟩ := ih f (hp_si h (z + 4) d (nI x)) T1 1 (by omega) (by omega) (f1.relB S4_ess hR) hT1 (hC.fr f1)
      have hup : T1 = up1 (mG D) (cG D w v) (tG D w v u) T d := by
        rw [eT1]
        funext q
        unfold up1
        by_cases e : q = d
        · rw [if_pos e, if_pos e, ← hx, if_pos (by omega)]
        · rw [if_neg e, if_neg e]
      have hle : ∀ q, T1 q ≤ T q := fun q => by rw [hup]; exact up1_le T d q
      rw [if_neg (nI_ge (show x < T d by omega) (by omega))]
      refine ⟨T', h', v3', i1, f1.tr i2, i3, fun q => Nat.le_trans (i4 q) (hle q), fun hq => i5 (by rw [hup]; exact up1_ge hn (by omega) hq), fun k hk p hp => ?_, ?_⟩
      · by_cases e : p = d
        · subst e
          have := up1_k (n := n) (W := W) (m := mG D) (cs := cG D w v) (tt := tG D w v u) (T := T) (U := T) (p := p) (k := k) (by omega) (fun _ => Nat.le_refl _) (hT.2.2.2.1 p) hk
          rw [← hup] at this
          exact Nat.le_trans (i4 p) this
        · exact i6 k (fun q => Nat.le_trans (hle q) (hk q)) p (by omega)
      · rcases i7 with r | ⟨r1, -, -⟩
        · exact Or.inl r
        · exact Or.inl r1
theorem TW_eq {c W : Nat} {h : Hp} {O : Nat → Nat} (hT : TW z c h n T W) (h1 : ∀ q, T q ≤ O q) (h2 : ∀ q, O q ≤ T q) : TW z c h n O W := by
  rw [show O = T from funext fun q => Nat.le_antisymm (h2 q) (h1 q)]
  exact hT
/-- the rounds of the class -/
theorem x_rounds {c : Nat} {w v u : Int32} (hW : W = 1000000) : ∀ (e f r : Nat) (h : Hp) (T : Nat → Nat) (v3 : Int32), r + e = n → e < f → RelB z h D n ng pa ba la ca → TW z 4 h n T W → CaV z h c w v u →
    (∀ q, OW n (mG D) (cG D w v) (tG D w v u) W n q ≤ T q) → (∀ q, T q ≤ OW n (mG D) (cG D w v) (tG D w v u) W r q) → (v3 = 1 ∨ v3 = 0 ∧ ∀ p, p < n → T p ≤ LA (mG D) (cG D w v) (tG D w v u) T p) →
    ∃ h', fx bX9_measure_14 (fun _ _ _ _ _ _ => none) f (z + 3) (some (z + 1)) (some c) v3 (nI r) h = some ((), h') ∧ Fr z S4 h h' ∧ TW z 4 h' n (OW n (mG D) (cG D w v) (tG D w v u) W n) W := by
  intro e
  induction e with
  | zero =>
    intro f r h T v3 hr hf hR hT hC h1 h2 h3
    obtain ⟨f, rfl⟩ : ∃ k, f = k + 1 := ⟨f - 1, by omega⟩
    have hF := hR.1
    have hn : n ≤ 40 := hT.2.2.2.2.2
    obtain rfl : r = n := by omega
    refine ⟨h, ?_, Fr.rf, TW_eq hT h2 h1⟩
    rw [fx_s]
    simp only [bX9_measure_14, bd_s, fk_1 hF, gk_s, (rb_n hR).1, if_pos (nI_le (Nat.le_refl r) (by omega))]
  | succ e ih =>
    intro f r h T v3 hr hf hR hT hC h1 h2 h3
    obtain ⟨f, rfl⟩ : ∃ k, f = k + 1 := ⟨f - 1, by omega⟩
    have hF := hR.1
    have hn : n ≤ 40 := hT.2.2.2.2.2
    rw [fx_s]
    simp only [bX9_measure_14, bd_s, fk_1 hF, gk_s, (rb_n hR).1, if_neg (nI_ge (show r < n by omega) (by omega))]
    rcases h3 with rfl | ⟨rfl, h3⟩
    · rw [if_neg (by decide)]
      obtain ⟨T', h', v3', i1, i2, i3, i4, i5, i6, i7⟩ := x_sweep (rc := fx bX9_measure_14 (fun _ _ _ _ _ _ => none) f) (v4 := nI r) hW n NF h T 0 (Nat.le_refl n) (by have := NF_big; omega) hR hT hC
      have h0 : ∀ q, T' q ≤ OW n (mG D) (cG D w v) (tG D w v u) W (r + 1) q := fun q => by
        by_cases hq : q < n
        · exact i6 r h2 q hq
        · have := Nat.le_trans (i4 q) (h2 q)
          rw [OW_out (by omega)] at this
          rw [OW_out (by omega)]
          exact this
      obtain ⟨h'', j1, j2, j3⟩ := ih f (r + 1) h' T' v3' (by omega) (by omega) (i2.relB S4_ess hR) i3 (hC.fr i2) (i5 h1) h0 (by
        rcases i7 with q | ⟨q1, q2, q3⟩
        · exact Or.inl q
        · refine Or.inr ⟨q1, ?_⟩
          rw [q2]
          exact q3)
      refine ⟨h'', ?_, i2.tr j2, j3⟩
      have e0 : nI n - 1 = nI n + (-1) := by
        obtain ⟨m, rfl⟩ : ∃ m, n = m + 1 := ⟨n - 1, by omega⟩
        rw [nI_pred, pk_m1]
      rw [nm_d, e0]
      refine Eq.trans i1 ?_
      rw [nI_1]
      exact j1
    · rw [if_pos rfl]
      refine ⟨h, rfl, Fr.rf, TW_eq hT (still_le hn (fun q => ?_) h3 n) h1⟩
      exact Nat.le_trans (h2 q) (OW_le hn (Nat.zero_le r) q)
theorem x_measure (hR : RelB z h D n ng pa ba la ca) {c : Nat} {w v u : Int32} (hC : CaV z h c w v u) : ∃ h', fX9_measure (z + 3) (some (z + 1)) (some c) h = some ((), h') ∧ Fr z S4 h h' ∧ TW z 4 h' n (OW n (mG D) (cG D w v) (tG D w v u) 1000000 n) 1000000 := by
  have hF := hR.1
  have hn : n ≤ 40 := (rb_n hR).2.2
  obtain ⟨h1, e1, e2, e3, e4, e5, e6⟩ := x_fill (v := 1000000) (h := h) (show 40 < 2000000 by decide) (fk_4 hF) (fl_4 hF)
  have f1 : Fr z S4 h h1 := fr_of_row (by decide) (fun _ => rfl) e2 e3 e4 e5
  have hT0 : TW z 4 h1 n (OW n (mG D) (cG D w v) (tG D w v u) 1000000 0) 1000000 := by
    refine ⟨fun q hq => ?_, rfl, fun q h1 h2 => ?_, fun q => OW_W hn 0 q, by decide, hn⟩
    · rw [e6 q, if_pos hq]
      show (1000000 : Int32) = nI (if q = 41 then 0 else 1000000)
      rw [if_neg (by omega)]
      rfl
    · show (if q = 41 then 0 else 1000000) = 1000000
      rw [if_neg h2]
  obtain ⟨h', j1, j2, j3⟩ := x_rounds (w := w) (v := v) (u := u) (c := c) rfl n NF 0 h1 (OW n (mG D) (cG D w v) (tG D w v u) 1000000 0) 1 (by omega) (by have := NF_big; omega) (f1.relB S4_ess hR) hT0 (hC.fr f1) (fun q => OW_le hn (Nat.zero_le n) q) (fun q => Nat.le_refl _) (Or.inl rfl)
  refine ⟨h', ?_, f1.tr j2, j3⟩
  simp only [fX9_measure, fk_3 hF, gk_s, fr_3_0 hF, bd_s, e1, b2_s]
  exact j1
end
