/-! who listens at a menu; the order of its lines -/
def flD (D : Nat → Nat → Int32) (w : Int32) (p : Nat) : Nat := jD D w false (fun _ => 0) p
def CL (D : Nat → Nat → Int32) (n p : Nat) : Nat → Nat → Int32
  | 0 => fun _ => 0
  | g + 1 => match wkG D n g with
    | none => CL D n p g
    | some r => if D 63 g = 0 ∧ ¬ r.2.2.2.2.2.1 p = 0 ∧ flD D (D 59 g) p < toN (D 53 p) then va_up (CL D n p g) (flD D (D 59 g) p) (CL D n p g (flD D (D 59 g) p) + D 58 g) else CL D n p g
def upn (s : Nat → Nat) (k i : Nat) : Nat → Nat := fun q => if q = k then i else s q
def ins (ah : Nat → Nat → Bool) (i : Nat) : Nat → (Nat → Nat) → Nat → Nat
  | 0, s => upn s 0 i
  | k + 1, s => if ah i (s k) = true then ins ah i k (upn s (k + 1) (s k)) else upn s (k + 1) i
def srt (ah : Nat → Nat → Bool) : Nat → Nat → Nat
  | 0 => fun _ => 0
  | i + 1 => ins ah i i (srt ah i)
def ahD (D : Nat → Nat → Int32) (p : Nat) (C : Nat → Int32) (i j : Nat) : Bool := decide (¬ D 54 (6 * p + j) * C i ≤ D 54 (6 * p + i) * C j)
def cst (t c : Nat → Int32) : Nat → Int32 × Int32
  | 0 => (0, 0)
  | i + 1 => ((cst t c i).1 + t i, (cst t c i).2 + c i * ((cst t c i).1 + t i))
theorem ins_ok {ah : Nat → Nat → Bool} {i : Nat} : ∀ (k : Nat) (s : Nat → Nat), k ≤ i → (∀ a, a ≤ i → a ≠ k → s a < i) → (∀ a b, a ≤ i → b ≤ i → a ≠ k → b ≠ k → s a = s b → a = b) → (∀ a, a ≤ i → ins ah i k s a < i + 1) ∧ (∀ a b, a ≤ i → b ≤ i → ins ah i k s a = ins ah i k s b → a = b) := by
  have base : ∀ (k : Nat) (s : Nat → Nat), k ≤ i → (∀ a, a ≤ i → a ≠ k → s a < i) → (∀ a b, a ≤ i → b ≤ i → a ≠ k → b ≠ k → s a = s b → a = b) → (∀ a, a ≤ i → upn s k i a < i + 1) ∧ (∀ a b, a ≤ i → b ≤ i → upn s k i a = upn s k i b → a = b) := by
    intro k s hk h1 h2
    refine ⟨fun a ha => ?_, fun a b ha hb e => ?_⟩
    · unfold upn
      split
      · omega
      · rename_i q; have := h1 a ha q; omega
    · unfold upn at e
      by_cases q1 : a = k <;> by_cases q2 : b = k
      · omega
      · rw [if_pos q1, if_neg q2] at e; have := h1 b hb q2; omega
      · rw [if_neg q1, if_pos q2] at e; have := h1 a ha q1; omega
      · rw [if_neg q1, if_neg q2] at e; exact h2 a b ha hb q1 q2 e
  intro k
  induction k with
  | zero => intro s hk h1 h2; exact base 0 s hk h1 h2
  | succ k ih =>
    intro s hk h1 h2
    unfold ins
    split
    · refine ih _ (by omega) (fun a ha hak => ?_) (fun a b ha hb hak hbk e => ?_)
      · unfold upn
        split
        · exact h1 k (by omega) (by omega)
        · rename_i q; exact h1 a ha q
      · unfold upn at e
        by_cases q1 : a = k + 1 <;> by_cases q2 : b = k + 1
        · omega
        · rw [if_pos q1, if_neg q2] at e
          exact absurd (h2 k b (by omega) hb (by omega) q2 e).symm hbk
        · rw [if_neg q1, if_pos q2] at e
          exact absurd (h2 a k ha (by omega) q1 (by omega) e) hak
        · rw [if_neg q1, if_neg q2] at e
          exact h2 a b ha hb q1 q2 e
    · exact base (k + 1) s hk h1 h2
theorem srt_ok {ah : Nat → Nat → Bool} : ∀ i, (∀ a, a < i → srt ah i a < i) ∧ (∀ a b, a < i → b < i → srt ah i a = srt ah i b → a = b) := by
  intro i
  induction i with
  | zero => exact ⟨fun a h => absurd h (Nat.not_lt_zero a), fun a b h => absurd h (Nat.not_lt_zero a)⟩
  | succ i ih =>
    obtain ⟨h1, h2⟩ := ins_ok (ah := ah) i (srt ah i) (Nat.le_refl i) (fun a ha hk => ih.1 a (by omega)) (fun a b ha hb hak hbk e => ih.2 a b (by omega) (by omega) e)
    exact ⟨fun a ha => h1 a (by omega), fun a b ha hb e => h2 a b (by omega) (by omega) e⟩
section
variable {z b : Nat} {h : Hp} {D : Nat → Nat → Int32} {n ng : Nat} {pa ba : Nat → Nat} {la : Nat → Nat → Nat} {ca : Nat → Nat} {g p : Nat} {C : Nat → Int32}
def So : Nat → Nat → Bool := fun c k => Sx 39 c k || c == 12 || c == 13
theorem So_ess : ∀ c k, So c k = true → ess c k = false := by
  intro c k hc
  simp only [So, Bool.or_eq_true, beq_iff_eq] at hc
  rcases hc with (q | rfl) | rfl
  · exact Sx_ess (Or.inr rfl) c k q
  · rfl
  · rfl
theorem So_sc : ∀ c k, So c k = true → c ≠ 35 ∧ c ≠ 36 ∧ c ≠ 37 ∧ c ≠ 64 ∧ c ≠ 65 ∧ (c = 43 → k < 22 ∨ 26 < k) := by
  intro c k hq
  simp only [So, Sx, Sw, Bool.or_eq_true, beq_iff_eq] at hq
  omega
def SO : Nat → Nat → Bool := fun c k => SM c k || c == 75 || c == 76
theorem SO_ess : ∀ c k, SO c k = true → ess c k = false := by
  intro c k hc
  simp only [SO, Bool.or_eq_true, beq_iff_eq] at hc
  rcases hc with (q | rfl) | rfl
  · exact SM_ess c k q
  · rfl
  · rfl
theorem SO_sc : ∀ c k, SO c k = true → c ≠ 35 ∧ c ≠ 36 ∧ c ≠ 37 ∧ c ≠ 64 ∧ c ≠ 65 ∧ (c = 43 → k < 22 ∨ 26 < k) := by
  intro c k hq
  simp only [SO, SM, Sm, Bool.or_eq_true, Bool.and_eq_true, beq_iff_eq] at hq
  omega
theorem x_cl_l (hp : p < n) : ∀ (d i f : Nat) (h : Hp), RelB z h D n ng pa ba la ca → i + d = ng → d < f → (∀ j, j < 6 → h.2.2.1 (z + 12) j = CL D n p i j) → ∃ h', fx bX10_countListeners_9 (fun _ _ _ _ _ => none) f z (nI p) (some (pa p)) (nI i) h = some ((), h') ∧ Fr z So h h' ∧ ∀ j, j < 6 → h'.2.2.1 (z + 12) j = CL D n p ng j := by
  intro d
  induction d with
  | zero =>
    intro i f h hR hi hf hrow
    obtain ⟨f, rfl⟩ : ∃ k, f = k + 1 := ⟨f - 1, by omega⟩
    obtain rfl : i = ng := by omega
    have hF := hR.1
    obtain ⟨g1, g2, g3⟩ := rb_ng hR
    refine ⟨h, ?_, Fr.rf, hrow⟩
    rw [fx_s]
    simp only [bX10_countListeners_9, fk_0 hF, gk_s, fr_0_3 hF, bd_s, fk_8 hF, g1, if_pos (nI_le (Nat.le_refl i) (by omega))]
  | succ d ih =>
    intro i f h hR hi hf hrow
    obtain ⟨f, rfl⟩ : ∃ k, f = k + 1 := ⟨f - 1, by omega⟩
    have hF := hR.1
    obtain ⟨g1, g2, g3⟩ := rb_ng hR
    have n40 := (rb_n hR).2.2
    obtain ⟨a1, a2, a3, a4, a5⟩ := x_gca hR (g := i) (by omega)
    have q0 : ix (nI i) 12 = true := ix_nI (by omega) (by decide)
    have q1 : (nI i).toNatClampNeg = i := nI_clamp (by omega)
    have hc1 := a2.2.1
    have m1 : ∀ c k, So c k = false → Sw 39 c k = false := fun c k q => by
      unfold So Sx at q
      rw [Bool.or_eq_false_iff, Bool.or_eq_false_iff, Bool.or_eq_false_iff] at q
      exact q.1.1.1
    rcases kn_of hR (show i < ng by omega) with ⟨k0, k1⟩ | ⟨k0, k1⟩
    · obtain ⟨r, h1, hw, e1, f1, c1⟩ := x_through (T := TO D n (D 59 i) (D 60 i) (D 62 i) 1000000) (b := 39) (wo := none) (Or.inr rfl) ⟨hR, Or.inr ⟨rfl, rfl⟩, a2, a3⟩ (by omega)
      have hwG : wkG D n i = some r := by unfold wkG wkO; rw [k1]; exact hw
      have hR1 := f1.relB (Sw_ess (Or.inr rfl)) hR
      have hF1 := hR1.1
      obtain ⟨cl, -, -, -, -, -, -, -, bse, -⟩ := c1
      have bsp : h1.2.2.1 (z + 42) p = r.2.2.2.2.2.1 p := bse p (by omega)
      have hse : fX8_hasSeen (z + 39) (nI p) h1 = some (if r.2.2.2.2.2.1 p = 0 then 0 else 1, h1) := by
        simp only [fX8_hasSeen, if_neg (nI_pos (n := p) (by omega)), if_neg (show ¬ (40 : Int32) ≤ nI p from nI_ge (b := 40) (by omega) (by decide)), fk_39 hF1, gk_s, fr_39_8 hF1, bd_s, fk_42 hF1, fl_42 hF1, gd_e (ix_nI (p := p) (N := 40) (by omega) (by decide)), nI_clamp (n := p) (by omega), bsp]
        by_cases q : r.2.2.2.2.2.1 p = 0
        · rw [if_pos q, if_pos q]
        · rw [if_neg q, if_neg q]
      have row1 : ∀ j, j < 6 → h1.2.2.1 (z + 12) j = CL D n p i j := fun j hj => by rw [f1.2.2.2.2.1 12 j (by decide) rfl]; exact hrow j hj
      have hgo : fx bX10_countListeners_9 (fun _ _ _ _ _ => none) (f + 1) z (nI p) (some (pa p)) (nI i) h = if r.2.2.2.2.2.1 p = 0 then fx bX10_countListeners_9 (fun _ _ _ _ _ => none) f z (nI p) (some (pa p)) (nI (i + 1)) h1 else
          (gk (h1.1 z) 11 <| bd (h1.2.2.2.1 z 4) fun a34 => gk (h1.1 (ca i)) 1 <| bd (some (pa p)) fun a37 => gk (h1.1 a37) 6 <| b2 (fX5_firstLineFor a37 (h1.2.2.1 (ca i) 0) h1) fun r41 g39 =>
            gk (g39.1 z) 11 <| bd (g39.2.2.2.1 z 3) fun a44 => gk (g39.1 a44) 2 <| bd (g39.2.2.2.1 a44 1) fun a47 => gk (g39.1 a47) 13 <| gd (ix (nI i) (g39.2.1 a47)) <| gk (g39.1 a34) 5 <|
            b2 (fX4_addCallers a34 r41 (g39.2.2.1 a47 (Int32.toNatClampNeg (nI i))) g39) fun _ g52 => nm (nI i + 1) fun x56 => fx bX10_countListeners_9 (fun _ _ _ _ _ => none) f z (nI p) (some a37) x56 g52) := by
        rw [fx_s]
        simp only [bX10_countListeners_9, fk_0 hF, gk_s, fr_0_3 hF, bd_s, fk_8 hF, g1, if_neg (nI_ge (show i < ng by omega) (by omega)), fr_8_0 hF, fk_9 hF, fl_9 hF, gd_e q0, q1, a1, hc1, a5, k0, if_true, fr_0_7 hF, fr_0_0 hF, fk_39 hF, e1, b2_s, fk_0 hF1, fr_0_7 hF1, fk_39 hF1, hse, nm_d, nI_1]
        by_cases q : r.2.2.2.2.2.1 p = 0
        · simp only [if_pos q, if_true]
        · simp only [if_neg q, if_neg (show ¬ (1 : Int32) = 0 by decide)]
      by_cases q : r.2.2.2.2.2.1 p = 0
      · have hcl : CL D n p (i + 1) = CL D n p i := by
          show (match wkG D n i with | none => _ | some r => _) = _
          rw [hwG]
          simp only [q, not_true, false_and, and_false, if_false]
        obtain ⟨h', e2, f2, c2⟩ := ih (i + 1) f h1 hR1 (by omega) (by omega) (fun j hj => by rw [hcl]; exact row1 j hj)
        refine ⟨h', ?_, (f1.mono m1).tr f2, c2⟩
        rw [hgo, if_pos q]
        exact e2
      · have x1 : h1.2.2.1 (ca i) 0 = D 59 i := by rw [f1.2.2.2.2.2 _ a2.1]; exact a2.2.2.1
        have xk : h1.1 (ca i) = 1 := by rw [f1.1]; exact hc1
        obtain ⟨p1, -⟩ := x_pl hR1 hp
        have hfl := x_first (w := D 59 i) (T := fun _ => 0) hR1 hp
        have h6 := (sz_toN hR hp).2
        have e10 : h1.2.2.1 (z + 10) i = D 58 i := by rw [rb_ess hR1 10 i (by decide) rfl]; exact (gv_of hR (by omega)).2.1
        by_cases qj : flD D (D 59 i) p < toN (D 53 p)
        · have hcl : CL D n p (i + 1) = va_up (CL D n p i) (flD D (D 59 i) p) (CL D n p i (flD D (D 59 i) p) + D 58 i) := by
            show (match wkG D n i with | none => _ | some r => _) = _
            rw [hwG]
            simp only [k0, q, qj, not_false_eq_true, and_self, if_true]
          have hfl' : fX5_firstLineFor (pa p) (D 59 i) h1 = some (nI (flD D (D 59 i) p), h1) := by
            rw [hfl]
            have : jD D (D 59 i) false (fun _ => 0) p = flD D (D 59 i) p := rfl
            rw [this, if_pos qj]
          obtain ⟨j, ej⟩ : ∃ j, j = flD D (D 59 i) p := ⟨_, rfl⟩
          rw [← ej] at hcl hfl' qj
          obtain ⟨g5, eg5⟩ : ∃ g5, g5 = hp_si h1 (z + 12) j (CL D n p i j + D 58 i) := ⟨_, rfl⟩
          have f5 : Fr z So h1 g5 := by rw [eg5]; exact Fr.si (by decide) rfl
          have hR5 := f5.relB So_ess hR1
          have hadd : fX4_addCallers (z + 11) (nI j) (D 58 i) h1 = some ((), g5) := by
            simp only [fX4_addCallers, if_neg (nI_pos (n := j) (by omega)), if_neg (show ¬ (6 : Int32) ≤ nI j from nI_ge (b := 6) (by omega) (by decide)), fk_11 hF1, gk_s, fr_11_0 hF1, bd_s, fk_12 hF1, fl_12 hF1, gd_e (ix_nI (p := j) (N := 6) (by omega) (by decide)), nI_clamp (n := j) (by omega), row1 j (by omega), nm_d, ← eg5]
          obtain ⟨h', e2, f2, c2⟩ := ih (i + 1) f g5 hR5 (by omega) (by omega) (fun j2 hj2 => by
            rw [hcl, eg5, si_3, u2_at]
            by_cases r : j2 = j
            · rw [if_pos ⟨rfl, r⟩, r, va_up_self]
            · rw [if_neg (fun x => r x.2), va_up_ne _ _ r]; exact row1 j2 hj2)
          refine ⟨h', ?_, ((f1.mono m1).tr f5).tr f2, c2⟩
          rw [hgo, if_neg q]
          simp only [fk_0 hF1, gk_s, fr_0_4 hF1, bd_s, xk, p1, x1, hfl', b2_s, fr_0_3 hF1, fk_8 hF1, fr_8_1 hF1, fk_10 hF1, fl_10 hF1, gd_e q0, q1, e10, fk_11 hF1, hadd, nm_d, nI_1]
          exact e2
        · have hcl : CL D n p (i + 1) = CL D n p i := by
            show (match wkG D n i with | none => _ | some r => _) = _
            rw [hwG]
            simp only [qj, and_false, if_false]
          have hfl' : fX5_firstLineFor (pa p) (D 59 i) h1 = some (-1, h1) := by
            rw [hfl]
            have : jD D (D 59 i) false (fun _ => 0) p = flD D (D 59 i) p := rfl
            rw [this, if_neg qj]
          have hadd : fX4_addCallers (z + 11) (-1) (D 58 i) h1 = some ((), h1) := by
            simp only [fX4_addCallers, if_pos (show (-1 : Int32) < 0 by decide)]
          obtain ⟨h', e2, f2, c2⟩ := ih (i + 1) f h1 hR1 (by omega) (by omega) (fun j hj => by rw [hcl]; exact row1 j hj)
          refine ⟨h', ?_, (f1.mono m1).tr f2, c2⟩
          rw [hgo, if_neg q]
          simp only [fk_0 hF1, gk_s, fr_0_4 hF1, bd_s, xk, p1, x1, hfl', b2_s, fr_0_3 hF1, fk_8 hF1, fr_8_1 hF1, fk_10 hF1, fl_10 hF1, gd_e q0, q1, e10, fk_11 hF1, hadd, nm_d, nI_1]
          exact e2
    · have hcl : CL D n p (i + 1) = CL D n p i := by
        show (match wkG D n i with | none => _ | some r => _) = _
        cases wkG D n i with
        | none => rfl
        | some r => simp only [k0, show ¬ (1 : Int32) = 0 by decide, false_and, if_false]
      obtain ⟨h', e2, f2, c2⟩ := ih (i + 1) f h hR (by omega) (by omega) (fun j hj => by rw [hcl]; exact hrow j hj)
      refine ⟨h', ?_, f2, c2⟩
      rw [fx_s]
      simp only [bX10_countListeners_9, fk_0 hF, gk_s, fr_0_3 hF, bd_s, fk_8 hF, g1, if_neg (nI_ge (show i < ng by omega) (by omega)), fr_8_0 hF, fk_9 hF, fl_9 hF, gd_e q0, q1, a1, hc1, a5, k0, if_neg (show ¬ (1 : Int32) = 0 by decide), nm_d, nI_1]
      exact e2
theorem x_count (hR : RelB z h D n ng pa ba la ca) (hp : p < n) : ∃ h', fX10_countListeners z (nI p) (some (pa p)) h = some ((), h') ∧ Fr z So h h' ∧ ∀ j, j < 6 → h'.2.2.1 (z + 12) j = CL D n p ng j := by
  have hF := hR.1
  have nfb := NF_big
  have g3 := (rb_ng hR).2.2
  obtain ⟨h1, e1, e2, e3, e4, e5, e6⟩ := x_fill (a := z + 12) (N := 6) (v := 0) (h := h) (by decide) (fk_12 hF) (fl_12 hF)
  have f1 : Fr z So h h1 := fr_of_row (c := 12) (by decide) (fun _ => rfl) e2 e3 e4 e5
  obtain ⟨h', e7, f2, c2⟩ := x_cl_l hp ng 0 NF h1 (f1.relB So_ess hR) (by omega) (by omega) (fun j hj => by rw [e6 j, if_pos hj]; rfl)
  refine ⟨h', ?_, f1.tr f2, c2⟩
  simp only [fX10_countListeners, fk_0 hF, gk_s, fr_0_4 hF, bd_s, fk_11 hF, fX4_forget, fr_11_0 hF, e1, b2_s]
  exact e7
end
