/-! a call: class and model say the same -/
section
variable {z b : Nat} {h : Hp} {D : Nat → Nat → Int32} {n ng : Nat} {pa ba : Nat → Nat} {la : Nat → Nat → Nat} {ca : Nat → Nat} {w v u : Int32} {P : Nat}
abbrev TO (D : Nat → Nat → Int32) (n : Nat) (w v u : Int32) (W : Nat) : Nat → Nat := OW n (mG D) (cG D w v) (tG D w v u) W n
def knO (D : Nat → Nat → Int32) (n : Nat) (w v u : Int32) (k : Bool) : Bool := k && decide (TO D n w v u 1000000 0 < 1000000)
def wkO (D : Nat → Nat → Int32) (n : Nat) (w v u : Int32) (k : Bool) (P : Nat) : Option WR := wk D n w v u (knO D n w v u k) (TO D n w v u 1000000) P 300000 0 0 0 0 0 (fun _ => 0) (fun _ => 0) (fun _ => 0)
theorem bst_ow (hR : RelB z h D n ng pa ba la ca) (k : Bool) : Bst D n w v u (knO D n w v u k) (TO D n w v u 1000000) := by
  intro hk
  have hk0 : TO D n w v u 1000000 0 < 1000000 := by
    unfold knO at hk
    rw [Bool.and_eq_true] at hk
    exact of_decide_eq_true hk.2
  refine ⟨hk0, fun p hp hTp hsv _ => ?_⟩
  have n40 := (rb_n hR).2.2
  have hP := pv_of hR hp
  have hE : LA (mG D) (cG D w v) (tG D w v u) (TO D n w v u 1000000) p = TO D n w v u 1000000 p := by
    have he : TO D n w v u 1000000 p = _ := OW_eq (m := mG D) (cs := cG D w v) (tt := tG D w v u) (W := 1000000) n40 hp
    by_cases q : LA (mG D) (cG D w v) (tG D w v u) (TO D n w v u 1000000) p < 1000000
    · rw [if_pos q] at he; exact he.symm
    · rw [if_neg q] at he; omega
  rw [hk]
  obtain ⟨T, eT⟩ : ∃ T, T = TO D n w v u 1000000 := ⟨_, rfl⟩
  have h40 : T 40 = 1000000 := by rw [eT]; unfold TO; rw [OW_out (by omega), if_neg (by decide)]
  rw [← eT] at hE hTp ⊢
  obtain ⟨i, hi, he⟩ := mnA_ex (fun i => cG D w v p i + T (tG D w v u p i)) (mG D p)
  have he2 : T p = cG D w v p i + T (tG D w v u p i) := by rw [← hE]; exact he
  rcases kd_of hP with r | r | r | r | r
  · have em : mG D p = toN (D 53 p) := by unfold mG; rw [if_pos r]
    by_cases q : jD D w true T p < toN (D 53 p)
    · have := fa_first_yes (fun i => if true = true then decide (1 + T (tg (D 57 (6 * p + i))) = T p) else decide (bitD (D 56 (6 * p + i)) w)) (toN (D 53 p)) q
      simp only [if_true] at this
      have h2 := of_decide_eq_true this
      have : nxD D w v u true T p = D 57 (6 * p + jD D w true T p) := by unfold nxD; rw [if_pos r, if_pos q]
      rw [this]
      simp only [jD, if_true]
      omega
    · have hnx : nxD D w v u true T p = D 47 p := by unfold nxD; rw [if_pos r, if_neg q]
      rw [hnx]
      have hc : ∀ i, cG D w v p i = if i = 0 then toN (hrD D p (toN (D 53 p))) else 1 := fun i => by unfold cG; rw [r, if_neg (by decide), if_neg (by decide), if_neg (by decide), if_neg (by decide)]
      have ht : ∀ i, tG D w v u p i = if i = 0 then tg (D 47 p) else tg (D 57 (6 * p + (i - 1))) := fun i => by unfold tG; rw [r, if_neg (by decide), if_neg (by decide), if_neg (by decide), if_neg (by decide)]
      rw [hc, ht] at he2
      by_cases q0 : i = 0
      · rw [if_pos q0, if_pos q0] at he2
        omega
      · rw [if_neg q0, if_neg q0] at he2
        exfalso
        have hle : jD D w true T p ≤ toN (D 53 p) := fa_first_le _ _
        have := fa_first_no (fun i => if true = true then decide (1 + T (tg (D 57 (6 * p + i))) = T p) else decide (bitD (D 56 (6 * p + i)) w)) (toN (D 53 p)) (i - 1) (by
          have e : fa_first (fun i => if true = true then decide (1 + T (tg (D 57 (6 * p + i))) = T p) else decide (bitD (D 56 (6 * p + i)) w)) (toN (D 53 p)) = jD D w true T p := rfl
          rw [e]
          omega)
        simp only [if_true] at this
        exact of_decide_eq_false this he2.symm
  · exfalso
    have hb : ¬ bitD (D 49 p) w := fun q => by
      have e : svD D w p = true := decide_eq_true ⟨Or.inl r, q⟩
      rw [hsv] at e
      exact absurd e (by decide)
    have ht : tG D w v u p i = 40 := by unfold tG; rw [if_pos r, if_neg hb]
    rw [ht, h40] at he2
    omega
  · have hb : ¬ bitD (D 49 p) w := fun q => by
      have e : svD D w p = true := decide_eq_true ⟨Or.inr r, q⟩
      rw [hsv] at e
      exact absurd e (by decide)
    have ht : tG D w v u p i = tg (D 47 p) := by unfold tG; rw [r, if_neg (by decide), if_pos rfl, if_neg hb]
    have hx : nxD D w v u true T p = D 47 p := by unfold nxD; rw [r, if_neg (by decide), if_neg (by decide), if_neg (by decide)]
    rw [hx]
    rw [ht] at he2
    omega
  · have ht : tG D w v u p i = tg (nxH D p u) := by unfold tG; rw [r, if_neg (by decide), if_neg (by decide), if_pos rfl]
    have hx : nxD D w v u true T p = nxH D p u := by unfold nxD; rw [r, if_neg (by decide), if_pos rfl]
    rw [hx]
    rw [ht] at he2
    omega
  · have ht : tG D w v u p i = tg (nxN D p v) := by unfold tG; rw [r, if_neg (by decide), if_neg (by decide), if_neg (by decide), if_pos rfl]
    have hx : nxD D w v u true T p = nxN D p v := by unfold nxD; rw [r, if_neg (by decide), if_neg (by decide), if_pos rfl]
    rw [hx]
    rw [ht] at he2
    omega
def Sx (b : Nat) : Nat → Nat → Bool := fun c k => Sw b c k || c == 4
theorem Sx_ess (hb : b = 35 ∨ b = 39) : ∀ c k, Sx b c k = true → ess c k = false := by
  intro c k hq
  unfold Sx at hq
  rw [Bool.or_eq_true] at hq
  rcases hq with q | q
  · exact Sw_ess hb c k q
  · exact S4_ess c k q
/-- the class follows a caller -/
theorem x_follow (hb : b = 35 ∨ b = 39) (hR : RelB z h D n ng pa ba la ca) (hn : 0 < n) {a : Nat} (hC : CaV z h a w v u) (hP : CaP z h a P) (k : Bool) (h4 : h.2.2.1 a 4 = if k = true then 1 else 0) :
    ∃ r h', wkO D n w v u k P = some r ∧ fX8_follow (z + b) (some (z + 1)) (some (z + 3)) (some a) h = some ((), h') ∧ Fr z (Sx b) h h' ∧ CE z b h' r := by
  have hF := hR.1
  have m1 : ∀ c k, Sx b c k = false → Sw b c k = false := fun c k q => by unfold Sx at q; rw [Bool.or_eq_false_iff] at q; exact q.1
  have m2 : ∀ c k, Sx b c k = false → S4 c k = false := fun c k q => by unfold Sx at q; rw [Bool.or_eq_false_iff] at q; exact q.2
  cases k
  · have hkn : knO D n w v u false = false := rfl
    unfold wkO
    rw [hkn]
    obtain ⟨r, h', e1, e2, f1, c1⟩ := x_through (T := TO D n w v u 1000000) hb ⟨hR, Or.inr ⟨rfl, rfl⟩, hC, hP⟩ hn
    refine ⟨r, h', e1, ?_, f1.mono m1, c1⟩
    obtain ⟨w1, -⟩ := wb_f hF hb
    simp only [Bool.false_eq_true, if_false] at h4
    simp only [fX8_follow, bd_s, hC.2.1, gk_s, h4, if_true, fX8_follow_33, w1, e2, b2_s]
  · obtain ⟨g, e0, f0, hT⟩ := x_measure hR hC
    have hRg := f0.relB S4_ess hR
    have hFg := hRg.1
    obtain ⟨w1, -⟩ := wb_f hFg hb
    have n40 := (rb_n hR).2.2
    have hTF := x_ticksFrom hFg hT rfl (nI_nxt (q := 0) (by decide))
    rw [tg_nI (by decide)] at hTF
    have hw0 := hT.2.2.2.1 0
    simp only [if_true] at h4
    by_cases q : TO D n w v u 1000000 0 < 1000000
    · have hkn : knO D n w v u true = true := by unfold knO; simp [q]
      unfold wkO
      rw [hkn]
      obtain ⟨r, h', e1, e2, f1, c1⟩ := x_through (T := TO D n w v u 1000000) hb ⟨hRg, Or.inl ⟨rfl, rfl, hT⟩, hC.fr f0, hP.fr f0⟩ hn
      refine ⟨r, h', e1, ?_, (f0.mono m2).tr (f1.mono m1), c1⟩
      have q2 : ¬ (1000000 : Int32) ≤ nI (TO D n w v u 1000000 0) := nI_ge (b := 1000000) q (by decide)
      have t0 : fX9_ticksFrom (z + 3) 0 g = some (nI (TO D n w v u 1000000 0), g) := hTF
      simp only [fX8_follow, bd_s, hC.2.1, gk_s, h4, if_neg (show ¬ (1 : Int32) = 0 by decide), fk_3 hF, e0, b2_s, fk_3 hFg, t0, if_neg q2, fX8_follow_33, w1, e2]
    · have hkn : knO D n w v u true = false := by unfold knO; simp [q]
      unfold wkO
      rw [hkn]
      obtain ⟨r, h', e1, e2, f1, c1⟩ := x_through (T := TO D n w v u 1000000) hb ⟨hRg, Or.inr ⟨rfl, rfl⟩, hC.fr f0, hP.fr f0⟩ hn
      refine ⟨r, h', e1, ?_, (f0.mono m2).tr (f1.mono m1), c1⟩
      have q2 : (1000000 : Int32) ≤ nI (TO D n w v u 1000000 0) := nI_le (a := 1000000) (by omega) (by unfold TO; omega)
      have t0 : fX9_ticksFrom (z + 3) 0 g = some (nI (TO D n w v u 1000000 0), g) := hTF
      simp only [fX8_follow, bd_s, hC.2.1, gk_s, h4, if_neg (show ¬ (1 : Int32) = 0 by decide), fk_3 hF, e0, b2_s, fk_3 hFg, t0, if_pos q2, fX8_follow_33, w1, e2, if_true]
def SM : Nat → Nat → Bool := fun c k => Sm c k || c == 68 || (c == 43 && (k == 32 || k == 33 || k == 34 || k == 35))
theorem SM_ess : ∀ c k, SM c k = true → ess c k = false := by
  intro c k hc
  simp only [SM, Sm, Bool.or_eq_true, Bool.and_eq_true, beq_iff_eq] at hc
  obtain ((((⟨rfl, (((rfl | rfl) | rfl) | rfl) | rfl⟩ | rfl) | rfl) | rfl) | rfl) | ⟨rfl, ((rfl | rfl) | rfl) | rfl⟩ := hc <;> rfl
/-- the model's call -/
theorem m_goThrough (hR : RelB z h D n ng pa ba la ca) (hn : 0 < n) (hP : P ≤ 5000) (k : Bool) :
    ∃ r h', wkO D n w v u k P = some r ∧ fX11_goThrough (z + 43) w v (nI P) u (if k = true then 1 else 0) h = some (r.1, h') ∧ Fr z SM h h' ∧ ME z h' r := by
  have hF := hR.1
  have n40 := (rb_n hR).2.2
  have m1 : ∀ c k, SM c k = false → Sm c k = false := fun c k q => by unfold SM at q; rw [Bool.or_eq_false_iff, Bool.or_eq_false_iff] at q; exact q.1.1
  have m2 : ∀ c k, SM c k = false → S68 c k = false := fun c k q => by unfold SM at q; rw [Bool.or_eq_false_iff, Bool.or_eq_false_iff] at q; exact q.1.2
  obtain ⟨g, eg⟩ : ∃ g, g = hp_si (hp_si (hp_si (hp_si (hp_si (hp_si (hp_si (hp_si h (z + 43) 32 w) (z + 43) 33 v) (z + 43) 34 (nI P)) (z + 43) 35 u) (z + 43) 37 0) (z + 43) 39 0) (z + 43) 40 0) (z + 43) 41 0 := ⟨_, rfl⟩
  have fg : Fr z SM h g := by
    rw [eg]
    exact (((((((Fr.si (by decide) rfl).tr (Fr.si (by decide) rfl)).tr (Fr.si (by decide) rfl)).tr (Fr.si (by decide) rfl)).tr (Fr.si (by decide) rfl)).tr (Fr.si (by decide) rfl)).tr (Fr.si (by decide) rfl)).tr (Fr.si (by decide) rfl)
  have rd : ∀ j, g.2.2.1 (z + 43) j = if j = 41 then 0 else if j = 40 then 0 else if j = 39 then 0 else if j = 37 then 0 else if j = 35 then u else if j = 34 then nI P else if j = 33 then v else if j = 32 then w else h.2.2.1 (z + 43) j := fun j => by
    rw [eg]; simp only [si_3, u2_at, true_and]
  have hRg := fg.relB SM_ess hR
  -- clearing the marks
  have clr : ∀ (d i f : Nat) (h : Hp), fxd z h → i + d = 40 → d < f → ∃ h', fx bX11_goThrough_44 (fun _ _ _ _ => none) f (z + 43) (if k = true then 1 else 0) (nI i) h = fx bX11_goThrough_44 (fun _ _ _ _ => none) (f - d) (z + 43) (if k = true then 1 else 0) (nI 40) h' ∧ Fr z SM h h' ∧ (∀ c j, c < 82 → c ≠ 69 → h'.2.2.1 (z + c) j = h.2.2.1 (z + c) j) ∧ (∀ j, j < 40 → h'.2.2.1 (z + 69) j = if i ≤ j then 0 else h.2.2.1 (z + 69) j) := by
    intro d
    induction d with
    | zero =>
      intro i f h hF hi hf
      obtain rfl : i = 40 := by omega
      exact ⟨h, rfl, Fr.rf, fun _ _ _ _ => rfl, fun j hj => by rw [if_neg (by omega)]⟩
    | succ d ih =>
      intro i f h hF hi hf
      obtain ⟨f, rfl⟩ : ∃ k, f = k + 1 := ⟨f - 1, by omega⟩
      have f1 : Fr z SM h (hp_si h (z + 69) i 0) := Fr.si (by decide) rfl
      obtain ⟨h', e1, f2, s1, s2⟩ := ih (i + 1) f (hp_si h (z + 69) i 0) hF (by omega) (by omega)
      refine ⟨h', ?_, f1.tr f2, fun c j hc h69 => ?_, fun j hj => ?_⟩
      · rw [fx_s]
        simp only [bX11_goThrough_44, if_neg (show ¬ (40 : Int32) ≤ nI i from nI_ge (b := 40) (by omega) (by decide)), fk_43 hF, gk_s, fr_43_42 hF, bd_s, fk_69 hF, fl_69 hF, gd_e (ix_nI (p := i) (N := 40) (by omega) (by decide)), nI_clamp (n := i) (by omega), nm_d, nI_1]
        rw [e1, show f + 1 - (d + 1) = f - d by omega]
      · rw [s1 c j hc h69, si_3, u2_at, if_neg (by omega)]
      · rw [s2 j hj, si_3, u2_at]
        by_cases q : j = i
        · subst q
          rw [if_neg (by omega), if_pos ⟨rfl, rfl⟩, if_pos (Nat.le_refl j)]
        · by_cases q2 : i + 1 ≤ j
          · rw [if_pos q2, if_pos (show i ≤ j by omega)]
          · rw [if_neg q2, if_neg (fun r => q r.2), if_neg (show ¬ i ≤ j by omega)]
  have nfb := NF_big
  obtain ⟨g2, e2, f2, s2, s3⟩ := clr 40 0 NF g hRg.1 (by omega) (by omega)
  have hR2 := f2.relB SM_ess hRg
  have hF2 := hR2.1
  have rd2 : ∀ j, g2.2.2.1 (z + 43) j = g.2.2.1 (z + 43) j := fun j => s2 43 j (by decide) (by decide)
  have hM2 : MoV z g2 w v u := ⟨by rw [rd2, rd]; rfl, by rw [rd2, rd]; rfl, by rw [rd2, rd]; rfl⟩
  have h34 : g2.2.2.1 (z + 43) 34 = nI P := by rw [rd2, rd]; rfl
  have hS2 : MS z g2 0 (g2.2.2.1 (z + 43) 38) 0 0 0 (fun _ => 0) (fun _ => 0) (fun _ => 0) := by
    refine ⟨by rw [rd2, rd]; rfl, rfl, by rw [rd2, rd]; rfl, by rw [rd2, rd]; rfl, by rw [rd2, rd]; rfl, fun q hq => ?_, fun q hq hq2 => absurd hq2 (Nat.not_lt_zero q), fun q hq hq2 => absurd hq2 (Nat.not_lt_zero q)⟩
    rw [s3 q hq, if_pos (Nat.zero_le q)]
  obtain ⟨r, hr⟩ := wk_end (w := w) (v := v) (u := u) (kn := knO D n w v u k) (T := TO D n w v u 1000000) (P := P) hR hP 300000 0 0 0 0 0 (fun _ => 0) (fun _ => 0) (fun _ => 0) hn (Nat.zero_le _) (by decide) (by omega)
  have hB := bst_ow (w := w) (v := v) (u := u) hR k
  have st : fX11_goThrough (z + 43) w v (nI P) u (if k = true then 1 else 0) h = fx bX11_goThrough_44 (fun _ _ _ _ => none) (NF - 40) (z + 43) (if k = true then 1 else 0) (nI 40) g2 := by
    rw [← e2]
    simp only [fX11_goThrough, fk_43 hF, gk_s, nm_d, ← eg]
    rfl
  obtain ⟨F, eF⟩ : ∃ F, NF - 40 = F + 1 := ⟨NF - 41, by omega⟩
  rw [st, eF, fx_s]
  have e40 : (40 : Int32) ≤ nI 40 := by decide
  -- once the first place is come to
  have fin : ∀ (g3 : Hp) (kn : Bool), knO D n w v u k = kn → Fr z SM g2 g3 → MoX z g3 D n ng pa ba la ca kn (TO D n w v u 1000000) (TO D n w v u 100000000) w v u P → MS z g3 0 (g3.2.2.1 (z + 43) 38) 0 0 0 (fun _ => 0) (fun _ => 0) (fun _ => 0) →
      ∃ h4 h', fX11_comes (z + 43) 0 g3 = some ((), h4) ∧ fX11_goThrough_104 (z + 43) (if kn = true then 1 else 0) (-4) h4 = some (r.1, h') ∧ Fr z SM h h' ∧ ME z h' r := by
    intro g3 kn hkn f3 hX3 hS3
    obtain ⟨h4, e4, f4, c4⟩ := m_comes (p := 0) hX3.1.1 (by decide) (by decide) hS3
    rw [hkn] at hr hB
    obtain ⟨h', e5, f5, c5⟩ := m_loop hB 300000 NF 0 0 0 0 0 _ _ _ h4 r hr (by omega) (by omega) (by omega) (Nat.zero_le _) (by decide) hn (fun q => (hB q).1) (hX3.fr f4) c4
    exact ⟨h4, h', e4, e5, (((fg.tr f2).tr f3).tr (f4.mono m1)).tr (f5.mono m1), c5⟩
  cases k
  · obtain ⟨h4, h', e4, e5, f5, c5⟩ := fin g2 false rfl Fr.rf ⟨hR2, hM2, h34, hP, fun q => absurd q (by decide)⟩ hS2
    simp only [Bool.false_eq_true, if_false] at e5
    refine ⟨r, h', hr, ?_, f5, c5⟩
    simp only [bX11_goThrough_44, if_pos e40, Bool.false_eq_true, if_false, if_true, fk_43 hF2, gk_s, e4, b2_s, e5]
  · obtain ⟨g3, e3, f3, hT3⟩ := m_layLeast hR2 hM2
    have hR3 := f3.relB S68_ess hR2
    have hF3 := hR3.1
    have rd3 : ∀ c j, c < 82 → c ≠ 68 → g3.2.2.1 (z + c) j = g2.2.2.1 (z + c) j := fun c j hc h68 => f3.2.2.2.2.1 c j hc (by simp [S68, h68])
    have htwo := ow_two hR w v u
    have e68 : g3.2.2.1 (z + 68) 0 = nI (TO D n w v u 100000000 0) := hT3.1 0 (by decide)
    have hw0 := hT3.2.2.2.1 0
    have hS3 : MS z g3 0 (g3.2.2.1 (z + 43) 38) 0 0 0 (fun _ => 0) (fun _ => 0) (fun _ => 0) := by
      obtain ⟨t1, t2, t3, t4, t5, t6, t7, t8⟩ := hS2
      refine ⟨by rw [rd3 43 37 (by decide) (by decide)]; exact t1, rfl, by rw [rd3 43 39 (by decide) (by decide)]; exact t3, by rw [rd3 43 40 (by decide) (by decide)]; exact t4, by rw [rd3 43 41 (by decide) (by decide)]; exact t5, fun q hq => by rw [rd3 69 q (by decide) (by decide)]; exact t6 q hq, fun q hq hq2 => absurd hq2 (Nat.not_lt_zero q), fun q hq hq2 => absurd hq2 (Nat.not_lt_zero q)⟩
    have hM3 : MoV z g3 w v u := hM2.fr f3 (fun _ => rfl)
    have h343 : g3.2.2.1 (z + 43) 34 = nI P := by rw [rd3 43 34 (by decide) (by decide)]; exact h34
    have hTU : ∀ q, (TO D n w v u 1000000 q = 1000000 ∧ TO D n w v u 100000000 q = 100000000) ∨ (TO D n w v u 1000000 q = TO D n w v u 100000000 q ∧ TO D n w v u 1000000 q ≤ 4200 * n) := fun q => by
      rcases htwo q with ⟨r1, r2, -⟩ | ⟨r1, r2⟩
      · exact Or.inl ⟨r1, r2⟩
      · exact Or.inr ⟨r1, r2⟩
    have h0 := hTU 0
    by_cases q : TO D n w v u 1000000 0 < 1000000
    · have hkn : knO D n w v u true = true := by unfold knO; simp [q]
      obtain ⟨h4, h', e4, e5, f5, c5⟩ := fin g3 true hkn (f3.mono m2) ⟨hR3, hM3, h343, hP, fun _ => ⟨hT3, hTU⟩⟩ hS3
      simp only [if_true] at e5
      refine ⟨r, h', hr, ?_, f5, c5⟩
      have q2 : ¬ (100000000 : Int32) ≤ nI (TO D n w v u 100000000 0) := nI_ge (b := 100000000) (by omega) (by decide)
      have i0 : ix (0 : Int32) 40 = true := rfl
      have c0 : (0 : Int32).toNatClampNeg = 0 := rfl
      simp only [bX11_goThrough_44, if_pos e40, if_true, if_neg (show ¬ (1 : Int32) = 0 by decide), fk_43 hF2, gk_s, e3, b2_s, fk_43 hF3, fr_43_36 hF3, bd_s, fk_68 hF3, fl_68 hF3, gd_e i0, c0, e68, if_neg q2, e4, e5]
    · have hkn : knO D n w v u true = false := by unfold knO; simp [q]
      obtain ⟨h4, h', e4, e5, f5, c5⟩ := fin g3 false hkn (f3.mono m2) ⟨hR3, hM3, h343, hP, fun q => absurd q (by decide)⟩ hS3
      simp only [Bool.false_eq_true, if_false] at e5
      refine ⟨r, h', hr, ?_, f5, c5⟩
      have q2 : (100000000 : Int32) ≤ nI (TO D n w v u 100000000 0) := nI_le (a := 100000000) (by omega) (by unfold TO; omega)
      have i0 : ix (0 : Int32) 40 = true := rfl
      have c0 : (0 : Int32).toNatClampNeg = 0 := rfl
      simp only [bX11_goThrough_44, if_pos e40, if_true, if_neg (show ¬ (1 : Int32) = 0 by decide), fk_43 hF2, gk_s, e3, b2_s, fk_43 hF3, fr_43_36 hF3, bd_s, fk_68 hF3, fl_68 hF3, gd_e i0, c0, e68, if_pos q2, e4, e5]
end
