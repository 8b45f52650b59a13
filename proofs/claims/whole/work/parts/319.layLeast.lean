/-! the model's least ticks -/
def thr (W c t : Nat) : Nat := if t = W then W else c + t
section
variable {z : Nat} {h : Hp} {D : Nat → Nat → Int32} {n ng : Nat} {pa ba : Nat → Nat} {la : Nat → Nat → Nat} {ca : Nat → Nat} {p s W : Nat} {T : Nat → Nat}
def S68 : Nat → Nat → Bool := fun c _ => c == 68
theorem S68_ess : ∀ c k, S68 c k = true → ess c k = false := by
  intro c k hc
  have : c = 68 := by simpa [S68] using hc
  subst this
  rfl
theorem nI_ne {a b : Nat} (ha : a < 2 ^ 31) (hb : b < 2 ^ 31) : (nI a = nI b) = (a = b) := propext (nI_eq ha hb)
theorem m_leastOf (hR : RelB z h D n ng pa ba la ca) (hT : TW z 68 h n T W) (hW : W = 100000000) {x : Int32} (hx : nxt x) : fX11_leastOf (z + 43) x h = some (nI (T (tg x)), h) := by
  have hF := hR.1
  obtain ⟨n1, n2, n3⟩ := rb_n hR
  obtain ⟨t1, t2, t3, t4, t5, t6⟩ := hT
  obtain ⟨a1, a2, a3⟩ := tg_in hx
  by_cases e : tg x < n
  · have ex := a2 (by omega)
    have hp := m_isPlace_t hF n2 n3 e
    rw [← ex] at hp
    have hix : ix x 40 = true := by rw [ex]; exact ix_nI (p := tg x) (N := 40) (by omega) (by decide)
    have hcl : x.toNatClampNeg = tg x := by
      have := nI_clamp (n := tg x) (by omega)
      rw [← ex] at this
      exact this
    simp only [fX11_leastOf, fk_43 hF, gk_s, hp, b2_s, if_neg (show ¬ (1 : Int32) = 0 by decide), fr_43_36 hF, bd_s, fk_68 hF, fl_68 hF, gd_e hix, hcl, t1 (tg x) (by omega)]
  · have hp : fX11_isPlace (z + 43) x h = some (0, h) := m_isPlace_f hF n2 n3 (fun q hq ex => by
      apply e
      have : tg x = q := by
        rw [ex]
        unfold tg
        rw [if_neg, toN_nI (by omega)]
        intro e2
        have h1 := nI_pos (n := q) (by omega)
        rw [e2] at h1
        exact h1 (by decide)
      omega)
    simp only [fX11_leastOf, fk_43 hF, gk_s, hp, b2_s, if_pos]
    rw [t3 (tg x) (by omega) (by omega), hW]
    rfl
theorem m_through (hR : RelB z h D n ng pa ba la ca) (hT : TW z 68 h n T W) (hW : W = 100000000) {x : Int32} (hx : nxt x) (c : Nat) : fX11_through (z + 43) (nI c) x h = some (nI (thr W c (T (tg x))), h) := by
  have hF := hR.1
  simp only [fX11_through, fk_43 hF, gk_s, m_leastOf hR hT hW hx, b2_s]
  have b := hT.2.2.2.1 (tg x)
  have e1 : (100000000 : Int32) = nI W := by rw [hW]; rfl
  rw [e1]
  unfold thr
  by_cases e : T (tg x) = W
  · rw [if_pos (by rw [e]), if_pos e]
  · rw [if_neg (fun q => e ((nI_eq (by omega) (by omega)).mp q)), if_neg e, nI_add]
def LM (W : Nat) (m : Nat → Nat) (cs tt : Nat → Nat → Nat) (T : Nat → Nat) (p : Nat) : Nat := mnA (fun i => thr W (cs p i) (T (tt p i))) (m p)
theorem LM_le {m : Nat → Nat} {cs tt : Nat → Nat → Nat} (hT : ∀ q, T q ≤ W) (p : Nat) {x : Nat} (hx : x ≤ W) : (x ≤ LM W m cs tt T p ∧ x ≤ LA m cs tt T p) ∨ (LM W m cs tt T p = LA m cs tt T p ∧ LA m cs tt T p < x) := by
  obtain ⟨a, ha, ea⟩ := mnA_ex (fun i => cs p i + T (tt p i)) (m p)
  obtain ⟨b, hb, eb⟩ := mnA_ex (fun i => thr W (cs p i) (T (tt p i))) (m p)
  have la : LA m cs tt T p ≤ cs p b + T (tt p b) := mnA_le (fun i => cs p i + T (tt p i)) (m p) b hb
  have lb : LM W m cs tt T p ≤ thr W (cs p a) (T (tt p a)) := mnA_le (fun i => thr W (cs p i) (T (tt p i))) (m p) a ha
  have ea : LA m cs tt T p = cs p a + T (tt p a) := ea
  have eb : LM W m cs tt T p = thr W (cs p b) (T (tt p b)) := eb
  have ta := hT (tt p a)
  have tb := hT (tt p b)
  unfold thr at lb eb
  split at lb <;> split at eb <;> omega
theorem m_leastMenu (hR : RelB z h D n ng pa ba la ca) (hp : p < n) (h0 : D 44 p = 0) (hT : TW z 68 h n T W) (hW : W = 100000000) (w v u : Int32) : ∀ (d i f : Nat), i + d = toN (D 53 p) → d < f → fx bX11_leastAt_192 (fun _ _ _ _ _ => none) f (z + 43) (nI p) (nI (mnA (fun i => thr W (cG D w v p i) (T (tG D w v u p i))) i)) (nI i) h = some (nI (LM W (mG D) (cG D w v) (tG D w v u) T p), h) := by
  have hF := hR.1
  have n40 := (rb_n hR).2.2
  have hP := pv_of hR hp
  obtain ⟨hs, h6⟩ := sz_toN hR hp
  have c1 : ∀ i, cG D w v p (i + 1) = 1 := fun i => by
    unfold cG
    rw [h0, if_neg (by decide), if_neg (by decide), if_neg (by decide), if_neg (by decide), if_neg (by omega)]
  have t1 : ∀ i, tG D w v u p (i + 1) = tg (D 57 (6 * p + i)) := fun i => by
    unfold tG
    rw [h0, if_neg (by decide), if_neg (by decide), if_neg (by decide), if_neg (by decide), if_neg (by omega)]
    rfl
  have hTW : ∀ q, T q ≤ W := hT.2.2.2.1
  intro d
  induction d with
  | zero =>
    intro i f hi hf
    obtain ⟨f, rfl⟩ : ∃ k, f = k + 1 := ⟨f - 1, by omega⟩
    rw [fx_s]
    simp only [bX11_leastAt_192, fk_43 hF, gk_s, fr_43_10 hF, bd_s, fk_53 hF, fl_53 hF, gd_e (ix_nI (p := p) (N := 40) (by omega) (by decide)), nI_clamp (n := p) (by omega), rb_ess hR 53 p (by decide) rfl]
    rw [hs, if_pos (nI_le (show toN (D 53 p) ≤ i by omega) (by omega))]
    unfold LM mG
    rw [if_pos h0, show i = toN (D 53 p) by omega]
  | succ d ih =>
    intro i f hi hf
    obtain ⟨f, rfl⟩ : ∃ k, f = k + 1 := ⟨f - 1, by omega⟩
    have e53 : h.2.2.1 (z + 53) p = nI (toN (D 53 p)) := by rw [rb_ess hR 53 p (by decide) rfl]; exact hs
    have hth := m_through hR hT hW (ln_nxt hP hs h6 (i := i) (by omega)) 1
    have b1 := hTW (tg (D 57 (6 * p + i)))
    obtain ⟨j, hj, ej⟩ := mnA_ex (fun i => thr W (cG D w v p i) (T (tG D w v u p i))) i
    have b2 := hTW (tG D w v u p j)
    have b3 : cG D w v p j ≤ 4200 := cG_le hR w v p j hp (by unfold mG; rw [if_pos h0]; omega)
    have em : mnA (fun i => thr W (cG D w v p i) (T (tG D w v u p i))) i < 2 ^ 31 := by rw [ej]; show thr W (cG D w v p j) (T (tG D w v u p j)) < 2 ^ 31; unfold thr; split <;> omega
    have et : thr W 1 (T (tg (D 57 (6 * p + i)))) < 2 ^ 31 := by unfold thr; split <;> omega
    have hi2 := ih (i + 1) f (by omega) (by omega)
    rw [fx_s]
    simp only [bX11_leastAt_192, fk_43 hF, gk_s, fr_43_10 hF, bd_s, fk_53 hF, fl_53 hF, gd_e (ix_nI (p := p) (N := 40) (by omega) (by decide)), nI_clamp (n := p) (by omega), e53, if_neg (nI_ge (show i < toN (D 53 p) by omega) (by omega)), fr_43_14 hF, fk_57 hF, fl_57 hF, i6, gd_e (ix_nI (p := 6 * p + i) (N := 240) (by omega) (by decide)), nI_clamp (n := 6 * p + i) (by omega), rb_ess hR 57 (6 * p + i) (by decide) rfl, one_nI, hth, b2_s, nm_d, nI_add]
    have em2 : mnA (fun i => thr W (cG D w v p i) (T (tG D w v u p i))) (i + 1) = if thr W 1 (T (tg (D 57 (6 * p + i)))) < mnA (fun i => thr W (cG D w v p i) (T (tG D w v u p i))) i then thr W 1 (T (tg (D 57 (6 * p + i)))) else mnA (fun i => thr W (cG D w v p i) (T (tG D w v u p i))) i := by
      show (if thr W (cG D w v p (i + 1)) (T (tG D w v u p (i + 1))) < _ then thr W (cG D w v p (i + 1)) (T (tG D w v u p (i + 1))) else _) = _
      rw [c1, t1]
    by_cases cc : mnA (fun i => thr W (cG D w v p i) (T (tG D w v u p i))) i ≤ thr W 1 (T (tg (D 57 (6 * p + i))))
    · rw [if_pos (nI_le cc et)]
      rw [em2, if_neg (by omega)] at hi2
      exact hi2
    · rw [if_neg (nI_ge (by omega) em)]
      rw [em2, if_pos (by omega)] at hi2
      exact hi2
theorem m_leastAt (hR : RelB z h D n ng pa ba la ca) (hp : p < n) (hT : TW z 68 h n T W) (hW : W = 100000000) {w v u : Int32} (hw : h.2.2.1 (z + 43) 32 = w) (hv : h.2.2.1 (z + 43) 33 = v) (hu : h.2.2.1 (z + 43) 35 = u) : fX11_leastAt (z + 43) (nI p) h = some (nI (LM W (mG D) (cG D w v) (tG D w v u) T p), h) := by
  have hF := hR.1
  have n40 := (rb_n hR).2.2
  have hP := pv_of hR hp
  obtain ⟨e45, a1, a2⟩ := nI_toN hP.2.1 (by decide)
  have q0 : ix (nI p) 40 = true := ix_nI (by omega) (by decide)
  have q1 : (nI p).toNatClampNeg = p := nI_clamp (by omega)
  have hm : D 44 p ≠ 0 → LM W (mG D) (cG D w v) (tG D w v u) T p = thr W (cG D w v p 0) (T (tG D w v u p 0)) := fun q => by
    unfold LM mG
    rw [if_neg q]
    rfl
  have et : T 41 ≠ W := by rw [hT.2.1, hW]; decide
  have e40 : T 40 = W := hT.2.2.1 40 n40 (by decide)
  rcases kd_of hP with r | r | r | r | r
  · obtain ⟨hs, h6⟩ := sz_toN hR hp
    obtain ⟨t, k, b, -, -, -, -, -, -, -, -, ehr, g1, g2⟩ := hr_rg hP r hs h6
    have key := m_leastMenu hR hp r hT hW w v u (toN (D 53 p)) 0 NF (by omega) (by have := NF_big; omega)
    have e0 : mnA (fun i => thr W (cG D w v p i) (T (tG D w v u p i))) 0 = thr W (t * (k + b)) (T (tg (D 47 p))) := by
      show thr W (cG D w v p 0) (T (tG D w v u p 0)) = _
      unfold cG tG
      rw [r, if_neg (by decide), if_neg (by decide), if_neg (by decide), if_neg (by decide), if_pos rfl, if_neg (by decide), if_neg (by decide), if_neg (by decide), if_neg (by decide), if_pos rfl, ehr, toN_nI (by omega)]
    rw [e0] at key
    simp only [fX11_leastAt, fk_43 hF, gk_s, fr_43_1 hF, bd_s, fk_44 hF, fl_44 hF, gd_e q0, q1, rb_ess hR 44 p (by decide) rfl, r, if_neg (show ¬ (0 : Int32) = 1 by decide), if_neg (show ¬ (0 : Int32) = 2 by decide), if_neg (show ¬ (0 : Int32) = 3 by decide), if_neg (show ¬ (0 : Int32) = 4 by decide), m_heard hR hp hs h6, b2_s, fr_43_4 hF, fk_47 hF, fl_47 hF, rb_ess hR 47 p (by decide) rfl]
    rw [ehr, m_through hR hT hW hP.2.2.2.2.1]
    simp only [b2_s]
    exact key
  · rw [hm (by rw [r]; decide)]
    simp only [fX11_leastAt, fk_43 hF, gk_s, fr_43_1 hF, bd_s, fk_44 hF, fl_44 hF, gd_e q0, q1, rb_ess hR 44 p (by decide) rfl, r, if_pos, m_isServed hR hp, b2_s, bi_0, hw, fr_43_2 hF, fk_45 hF, fl_45 hF, rb_ess hR 45 p (by decide) rfl, cG, tG]
    by_cases q : bitD (D 49 p) w
    · rw [if_neg (not_not_intro q), if_pos q, if_pos q, thr, if_neg et, hT.2.1, Nat.add_zero, e45]
    · rw [if_pos q, if_neg q, if_neg q, thr, if_pos e40, hW]
      rfl
  · rw [hm (by rw [r]; decide)]
    simp only [fX11_leastAt, fk_43 hF, gk_s, fr_43_1 hF, bd_s, fk_44 hF, fl_44 hF, gd_e q0, q1, rb_ess hR 44 p (by decide) rfl, r, if_neg (show ¬ (2 : Int32) = 1 by decide), if_pos, m_isServed hR hp, b2_s, bi_0, hw, fr_43_2 hF, fk_45 hF, fl_45 hF, rb_ess hR 45 p (by decide) rfl, fr_43_4 hF, fk_47 hF, fl_47 hF, rb_ess hR 47 p (by decide) rfl, cG, tG]
    by_cases q : bitD (D 49 p) w
    · rw [if_neg (not_not_intro q), if_pos q, thr, if_neg et, hT.2.1, Nat.add_zero, e45]
    · rw [if_pos q, if_neg q]
      have := m_through hR hT hW hP.2.2.2.2.1 (toN (D 45 p))
      rw [e45] at this
      rw [this, b2_s]
  · rw [hm (by rw [r]; decide)]
    simp only [fX11_leastAt, fk_43 hF, gk_s, fr_43_1 hF, bd_s, fk_44 hF, fl_44 hF, gd_e q0, q1, rb_ess hR 44 p (by decide) rfl, r, if_neg (show ¬ (3 : Int32) = 1 by decide), if_neg (show ¬ (3 : Int32) = 2 by decide), if_pos, m_isOpen hR hp, b2_s, bi_0, hu, fr_43_4 hF, fk_47 hF, fl_47 hF, rb_ess hR 47 p (by decide) rfl, fr_43_5 hF, fk_48 hF, fl_48 hF, rb_ess hR 48 p (by decide) rfl, cG, tG]
    by_cases q : opD D p u
    · rw [if_neg (not_not_intro q)]
      have := m_through hR hT hW hP.2.2.2.2.1 0
      rw [nI_0] at this
      rw [this, b2_s, nxH, if_pos q]
    · rw [if_pos q]
      have := m_through hR hT hW hP.2.2.2.2.2.1 0
      rw [nI_0] at this
      rw [this, b2_s, nxH, if_neg q]
  · rw [hm (by rw [r]; decide)]
    obtain ⟨j, j1, j2, j3⟩ := tr_rg hP r v 1
    simp only [fX11_leastAt, fk_43 hF, gk_s, fr_43_1 hF, bd_s, fk_44 hF, fl_44 hF, gd_e q0, q1, rb_ess hR 44 p (by decide) rfl, r, if_neg (show ¬ (4 : Int32) = 1 by decide), if_neg (show ¬ (4 : Int32) = 2 by decide), if_neg (show ¬ (4 : Int32) = 3 by decide), if_pos, m_isRight hR hp r, b2_s, bi_0, hv, fr_43_4 hF, fk_47 hF, fl_47 hF, rb_ess hR 47 p (by decide) rfl, fr_43_5 hF, fk_48 hF, fl_48 hF, rb_ess hR 48 p (by decide) rfl, fr_43_9 hF, fk_52 hF, fl_52 hF, rb_ess hR 52 p (by decide) rfl, fr_43_3 hF, fk_46 hF, fl_46 hF, rb_ess hR 46 p (by decide) rfl, cG, tG, if_neg (show ¬ (4 : Int32) = 0 by decide)]
    rw [j3, toN_nI (by omega)]
    by_cases q : rgtD D p v
    · rw [if_neg (not_not_intro q)]
      have e : D 52 p = nI j := by
        rw [← j3, trD, if_pos q, if_neg (by decide)]
      rw [e, m_through hR hT hW hP.2.2.2.2.1, b2_s, nxN, if_pos q]
    · rw [if_pos q]
      have e : D 52 p * D 46 p = nI j := by
        rw [← j3, trD, if_neg q, if_neg (by decide), Int32.mul_comm]
      rw [e, m_through hR hT hW hP.2.2.2.2.2.1, b2_s, nxN, if_neg q]
def MoV (z : Nat) (h : Hp) (w v u : Int32) : Prop := h.2.2.1 (z + 43) 32 = w ∧ h.2.2.1 (z + 43) 33 = v ∧ h.2.2.1 (z + 43) 35 = u
theorem MoV.fr {S : Nat → Nat → Bool} {h h' : Hp} {w v u : Int32} (hC : MoV z h w v u) (hS : Fr z S h h') (hq : ∀ k, S 43 k = false) : MoV z h' w v u := by
  obtain ⟨c1, c2, c3⟩ := hC
  obtain ⟨s1, s2, s3, s4, s5, s6⟩ := hS
  refine ⟨?_, ?_, ?_⟩ <;> rw [s5 43 _ (by decide) (hq _)] <;> assumption
/-- a round of the model -/
theorem m_sweep {rc : Nat → Int32 → Hp → Option (Unit × Hp)} {w v u : Int32} (hW : W = 100000000) : ∀ (d i f : Nat) (h : Hp) (T : Nat → Nat) (v1 : Int32), i + d = n → d < f → RelB z h D n ng pa ba la ca → TW z 68 h n T W → MoV z h w v u →
    ∃ T' h' v1', fx (bX11_layLeast_32 rc) (fun _ _ _ _ => none) f (z + 43) v1 (nI i) h = rc (z + 43) v1' h' ∧ Fr z S68 h h' ∧ TW z 68 h' n T' W ∧ (∀ q, T' q ≤ T q)
      ∧ ((∀ q, OW n (mG D) (cG D w v) (tG D w v u) W n q ≤ T q) → ∀ q, OW n (mG D) (cG D w v) (tG D w v u) W n q ≤ T' q)
      ∧ (∀ k, (∀ q, T q ≤ OW n (mG D) (cG D w v) (tG D w v u) W k q) → ∀ p, i ≤ p → p < n → T' p ≤ OW n (mG D) (cG D w v) (tG D w v u) W (k + 1) p)
      ∧ ((v1' = 1 ∧ (v1 = 1 ∨ ∃ q, T' q < T q)) ∨ (v1' = v1 ∧ T' = T ∧ ∀ p, i ≤ p → p < n → T p ≤ LA (mG D) (cG D w v) (tG D w v u) T p)) := by
  intro d
  induction d with
  | zero =>
    intro i f h T v1 hi hf hR hT hC
    obtain ⟨f, rfl⟩ : ∃ k, f = k + 1 := ⟨f - 1, by omega⟩
    have hF := hR.1
    have hn : n ≤ 40 := hT.2.2.2.2.2
    refine ⟨T, h, v1, ?_, Fr.rf, hT, fun _ => Nat.le_refl _, fun q => q, fun k hk p hp hp2 => by omega, Or.inr ⟨rfl, rfl, fun p hp hp2 => by omega⟩⟩
    rw [fx_s]
    simp only [bX11_layLeast_32, fk_43 hF, gk_s, (rb_n hR).2.1, if_pos (nI_le (show n ≤ i by omega) (by omega))]
  | succ d ih =>
    intro i f h T v1 hi hf hR hT hC
    obtain ⟨f, rfl⟩ : ∃ k, f = k + 1 := ⟨f - 1, by omega⟩
    have hF := hR.1
    have hn : n ≤ 40 := hT.2.2.2.2.2
    have hla := m_leastAt hR (p := i) (by omega) hT hW hC.1 hC.2.1 hC.2.2
    obtain ⟨x, hx⟩ : ∃ x, x = LM W (mG D) (cG D w v) (tG D w v u) T i := ⟨_, rfl⟩
    have hxb : x < 2 ^ 31 := by
      obtain ⟨j, hj, ej⟩ := mnA_ex (fun k => thr W (cG D w v i k) (T (tG D w v u i k))) (mG D i)
      have b1 := cG_le hR w v i j (by omega) hj
      have b2 := hT.2.2.2.1 (tG D w v u i j)
      have : x = thr W (cG D w v i j) (T (tG D w v u i j)) := by rw [hx]; exact ej
      rw [this]
      unfold thr
      split <;> omega
    rw [← hx] at hla
    have td := hT.2.2.2.1 i
    have hcmp := LM_le (m := mG D) (cs := cG D w v) (tt := tG D w v u) hT.2.2.2.1 i td
    rw [← hx] at hcmp
    have e4 : h.2.2.1 (z + 68) i = nI (T i) := hT.1 i (by omega)
    rw [fx_s]
    simp only [bX11_layLeast_32, fk_43 hF, gk_s, (rb_n hR).2.1, if_neg (nI_ge (show i < n by omega) (by omega)), hla, b2_s, fr_43_36 hF, bd_s, fk_68 hF, fl_68 hF, gd_e (ix_nI (p := i) (N := 40) (by omega) (by decide)), nI_clamp (n := i) (by omega), e4, nm_d, nI_1]
    by_cases cc : T i ≤ x
    · obtain ⟨T', h', v1', i1, i2, i3, i4, i5, i6, i7⟩ := ih (i + 1) f h T v1 (by omega) (by omega) hR hT hC
      rw [if_pos (nI_le cc (by omega))]
      refine ⟨T', h', v1', i1, i2, i3, i4, i5, fun k hk p hp hp2 => ?_, ?_⟩
      · by_cases e : p = i
        · subst e
          have := up1_k (n := n) (W := W) (m := mG D) (cs := cG D w v) (tt := tG D w v u) (T := T) (U := T) (p := p) (k := k) (by omega) (fun _ => Nat.le_refl _) (hT.2.2.2.1 p) hk
          unfold up1 at this
          rw [if_pos rfl, if_neg (by omega)] at this
          exact Nat.le_trans (i4 p) this
        · exact i6 k hk p (by omega) hp2
      · rcases i7 with r | ⟨r1, r2, r3⟩
        · exact Or.inl r
        · refine Or.inr ⟨r1, r2, fun p hp hp2 => ?_⟩
          by_cases e : p = i
          · rw [e]; omega
          · exact r3 p (by omega) hp2
    · have hT1 := TW.si (T := T) hT (show i < n by omega) (show x ≤ T i by omega)
      obtain ⟨T1, eT1⟩ : ∃ T1, T1 = (fun q => if q = i then x else T q) := ⟨_, rfl⟩
      rw [← eT1] at hT1
      have f1 : Fr z S68 h (hp_si h (z + 68) i (nI x)) := Fr.si (by decide) rfl
      obtain ⟨T', h', v1', i1, i2, i3, i4, i5, i6, i7⟩ := ih (i + 1) f (hp_si h (z + 68) i (nI x)) T1 1 (by omega) (by omega) (f1.relB S68_ess hR) hT1 (hC.fr f1 (fun _ => rfl))
      have hup : T1 = up1 (mG D) (cG D w v) (tG D w v u) T i := by
        rw [eT1]
        funext q
        unfold up1
        by_cases e : q = i
        · rw [if_pos e, if_pos e, if_pos (by omega)]; omega
        · rw [if_neg e, if_neg e]
      have hle : ∀ q, T1 q ≤ T q := fun q => by rw [hup]; exact up1_le T i q
      rw [if_neg (nI_ge (show x < T i by omega) (by omega))]
      refine ⟨T', h', v1', i1, f1.tr i2, i3, fun q => Nat.le_trans (i4 q) (hle q), fun hq => i5 (by rw [hup]; exact up1_ge hn (by omega) hq), fun k hk p hp hp2 => ?_, ?_⟩
      · by_cases e : p = i
        · subst e
          have := up1_k (n := n) (W := W) (m := mG D) (cs := cG D w v) (tt := tG D w v u) (T := T) (U := T) (p := p) (k := k) (by omega) (fun _ => Nat.le_refl _) (hT.2.2.2.1 p) hk
          rw [← hup] at this
          exact Nat.le_trans (i4 p) this
        · exact i6 k (fun q => Nat.le_trans (hle q) (hk q)) p (by omega) hp2
      · have hlt : T' i < T i := by
          have h1 := i4 i
          have h2 : T1 i = x := by rw [eT1]; exact if_pos rfl
          omega
        rcases i7 with ⟨r, -⟩ | ⟨r1, -, -⟩
        · exact Or.inl ⟨r, Or.inr ⟨i, hlt⟩⟩
        · exact Or.inl ⟨r1, Or.inr ⟨i, hlt⟩⟩
theorem m_rounds {w v u : Int32} (hW : W = 100000000) : ∀ (e f r : Nat) (h : Hp) (T : Nat → Nat), r + e = n → e + 1 < f → RelB z h D n ng pa ba la ca → TW z 68 h n T W → MoV z h w v u →
    (∀ q, OW n (mG D) (cG D w v) (tG D w v u) W n q ≤ T q) → (∀ q, T q ≤ OW n (mG D) (cG D w v) (tG D w v u) W r q) →
    ∃ h', fx bX11_layLeast_24 (fun _ _ _ => none) f (z + 43) 1 h = some ((), h') ∧ Fr z S68 h h' ∧ TW z 68 h' n (OW n (mG D) (cG D w v) (tG D w v u) W n) W := by
  intro e
  induction e with
  | zero =>
    intro f r h T hr hf hR hT hC h1 h2
    obtain ⟨f, rfl⟩ : ∃ k, f = k + 1 + 1 := ⟨f - 2, by omega⟩
    have hn : n ≤ 40 := hT.2.2.2.2.2
    obtain rfl : r = n := by omega
    obtain ⟨T', h', v1', i1, i2, i3, i4, i5, i6, i7⟩ := m_sweep (rc := fx bX11_layLeast_24 (fun _ _ _ => none) (f + 1)) hW r 0 NF h T 0 (by omega) (by have := NF_big; omega) hR hT hC
    have hge := i5 h1
    rcases i7 with ⟨-, q | ⟨q, hq⟩⟩ | ⟨q1, q2, q3⟩
    · exact absurd q (by decide)
    · have a1 := hge q
      have a2 := h2 q
      omega
    · refine ⟨h', ?_, i2, TW_eq i3 (by rw [q2]; exact h2) hge⟩
      rw [fx_s]
      simp only [bX11_layLeast_24, if_neg (show ¬ (1 : Int32) = 0 by decide)]
      refine Eq.trans i1 ?_
      rw [q1, fx_s]
      simp only [bX11_layLeast_24, if_pos]
  | succ e ih =>
    intro f r h T hr hf hR hT hC h1 h2
    obtain ⟨f, rfl⟩ : ∃ k, f = k + 1 + 1 := ⟨f - 2, by omega⟩
    have hn : n ≤ 40 := hT.2.2.2.2.2
    obtain ⟨T', h', v1', i1, i2, i3, i4, i5, i6, i7⟩ := m_sweep (rc := fx bX11_layLeast_24 (fun _ _ _ => none) (f + 1)) hW n 0 NF h T 0 (by omega) (by have := NF_big; omega) hR hT hC
    have hge := i5 h1
    rcases i7 with ⟨q1, -⟩ | ⟨q1, q2, q3⟩
    · have h0 : ∀ q, T' q ≤ OW n (mG D) (cG D w v) (tG D w v u) W (r + 1) q := fun q => by
        by_cases hq : q < n
        · exact i6 r h2 q (Nat.zero_le _) hq
        · have := Nat.le_trans (i4 q) (h2 q)
          rw [OW_out (by omega)] at this
          rw [OW_out (by omega)]
          exact this
      obtain ⟨h'', j1, j2, j3⟩ := ih (f + 1) (r + 1) h' T' (by omega) (by omega) (i2.relB S68_ess hR) i3 (hC.fr i2 (fun _ => rfl)) hge h0
      refine ⟨h'', ?_, i2.tr j2, j3⟩
      rw [fx_s]
      simp only [bX11_layLeast_24, if_neg (show ¬ (1 : Int32) = 0 by decide)]
      refine Eq.trans i1 ?_
      rw [q1]
      exact j1
    · refine ⟨h', ?_, i2, TW_eq i3 ?_ hge⟩
      · rw [fx_s]
        simp only [bX11_layLeast_24, if_neg (show ¬ (1 : Int32) = 0 by decide)]
        refine Eq.trans i1 ?_
        rw [q1, fx_s]
        simp only [bX11_layLeast_24, if_pos]
      · rw [q2]
        exact still_le hn (fun q => Nat.le_trans (h2 q) (OW_le hn (Nat.zero_le r) q)) (fun p hp => q3 p (Nat.zero_le _) hp) n
theorem m_layLeast (hR : RelB z h D n ng pa ba la ca) {w v u : Int32} (hC : MoV z h w v u) : ∃ h', fX11_layLeast (z + 43) h = some ((), h') ∧ Fr z S68 h h' ∧ TW z 68 h' n (OW n (mG D) (cG D w v) (tG D w v u) 100000000 n) 100000000 := by
  have hn : n ≤ 40 := (rb_n hR).2.2
  have key : ∀ (d i f : Nat) (h : Hp), i + d = 40 → d < f → RelB z h D n ng pa ba la ca → MoV z h w v u → (∀ q, q < i → h.2.2.1 (z + 68) q = 100000000) → ∃ h', fx bX11_layLeast_2 (fun _ _ _ => none) f (z + 43) (nI i) h = some ((), h') ∧ Fr z S68 h h' ∧ TW z 68 h' n (OW n (mG D) (cG D w v) (tG D w v u) 100000000 n) 100000000 := by
    intro d
    induction d with
    | zero =>
      intro i f h hi hf hR hC hl
      obtain ⟨f, rfl⟩ : ∃ k, f = k + 1 := ⟨f - 1, by omega⟩
      have hT0 : TW z 68 h n (OW n (mG D) (cG D w v) (tG D w v u) 100000000 0) 100000000 := by
        refine ⟨fun q hq => ?_, rfl, fun q h1 h2 => ?_, fun q => OW_W hn 0 q, by decide, hn⟩
        · rw [hl q (by omega)]
          show (100000000 : Int32) = nI (if q = 41 then 0 else 100000000)
          rw [if_neg (by omega)]
          rfl
        · show (if q = 41 then 0 else 100000000) = 100000000
          rw [if_neg h2]
      obtain ⟨h', j1, j2, j3⟩ := m_rounds (w := w) (v := v) (u := u) rfl n NF 0 h _ (by omega) (by have := NF_big; omega) hR hT0 hC (fun q => OW_le hn (Nat.zero_le n) q) (fun q => Nat.le_refl _)
      refine ⟨h', ?_, j2, j3⟩
      rw [fx_s]
      have e40 : (40 : Int32) ≤ nI i := nI_le (a := 40) (by omega) (by omega)
      simp only [bX11_layLeast_2, if_pos e40]
      exact j1
    | succ d ih =>
      intro i f h hi hf hR hC hl
      obtain ⟨f, rfl⟩ : ∃ k, f = k + 1 := ⟨f - 1, by omega⟩
      have hF := hR.1
      have f1 : Fr z S68 h (hp_si h (z + 68) i 100000000) := Fr.si (by decide) rfl
      obtain ⟨h', j1, j2, j3⟩ := ih (i + 1) f (hp_si h (z + 68) i 100000000) (by omega) (by omega) (f1.relB S68_ess hR) (hC.fr f1 (fun _ => rfl)) (fun q hq => by
        show u2 _ _ _ _ _ _ = _
        rw [u2_at]
        by_cases e : q = i
        · rw [if_pos ⟨rfl, e⟩]
        · rw [if_neg (fun r => e r.2)]; exact hl q (by omega))
      refine ⟨h', ?_, f1.tr j2, j3⟩
      have e40 : ¬ (40 : Int32) ≤ nI i := nI_ge (b := 40) (by omega) (by decide)
      rw [fx_s]
      simp only [bX11_layLeast_2, if_neg e40, fk_43 hF, gk_s, fr_43_36 hF, bd_s, fk_68 hF, fl_68 hF, gd_e (ix_nI (p := i) (N := 40) (by omega) (by decide)), nI_clamp (n := i) (by omega), nm_d, nI_1]
      exact j1
  exact key 40 0 NF h (by omega) (by have := NF_big; omega) hR hC (fun q hq => absurd hq (Nat.not_lt_zero q))
end
