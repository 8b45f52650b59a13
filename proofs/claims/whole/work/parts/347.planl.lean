/-! the model's plan: all sets -/
section
variable {z : Nat} {h : Hp} {wt wc : Nat → Nat} {gt b : Nat} {t : Nat → Nat → Nat} {s n : Nat}
theorem fxd_fr {S : Nat → Nat → Bool} {h' : Hp} (hF : fxd z h) (hf : Fr z S h h') : fxd z h' := by
  obtain ⟨f1, f2, f3, f4⟩ := hF
  exact ⟨fun c hc => by rw [hf.1]; exact f1 c hc, fun c hc => by rw [hf.2.1]; exact f2 c hc, fun c k o ho => by rw [hf.2.2.1]; exact f3 c k o ho, by rw [hf.2.2.2.1]; exact f4⟩
theorem MH.fr {S : Nat → Nat → Bool} {h' : Hp} (hM : MH z h wt wc gt b) (hf : Fr z S h h') (h81 : ∀ k, S 81 k = false) (h43 : S 43 53 = false ∧ S 43 54 = false) : MH z h' wt wc gt b := by
  obtain ⟨hF, m1, m2, m3⟩ := hM
  have rd := hf.2.2.2.2.1
  exact ⟨fxd_fr hF hf, fun k hk => by rw [rd 81 k (by decide) (h81 k)]; exact m1 k hk, by rw [rd 43 53 (by decide) h43.1]; exact m2, by rw [rd 43 54 (by decide) h43.2]; exact m3⟩
def Sv : Nat → Nat → Bool := fun c _ => c == 78 || c == 79
def MT (z : Nat) (h : Hp) (b : Nat) (t : Nat → Nat → Nat) (N : Nat) : Prop := ∀ s, 1 ≤ s → s < N → h.2.2.1 (z + 79) s = nI (t s 0) ∧ ∀ j, 1 ≤ j → j < b → h.2.2.1 (z + 78) (256 * j + s) = nI (t s j)
theorem vr_iff {j q : Nat} (hj : 1 ≤ j) : Vv true s j q ↔ VR s j q := by
  constructor
  · intro x
    exact ⟨x.1, x.2.1, fun y => by have := x.2.2.2; omega⟩
  · intro x
    refine ⟨x.1, x.2.1, fun y => absurd y (by decide), ?_⟩
    by_cases y : j = 1
    · exact Or.inl (x.2.2 y)
    · exact Or.inr (by omega)
theorem vm_iff {q : Nat} (hb : 2 ≤ b) : Vv false s b q ↔ VM s q := ⟨fun x => ⟨x.1, x.2.1, x.2.2.1 rfl⟩, fun x => ⟨x.1, x.2.1, fun _ => x.2.2, Or.inr hb⟩⟩
theorem vm_ex (hs1 : 1 ≤ s) (hs2 : s < 256) : ∃ q, VM s q := by
  by_cases o : oneB s = true
  · exact ⟨s, hs1, Nat.and_self s, fun _ => o⟩
  · obtain ⟨-, -, -, z4, -, z6⟩ := tz_facts s hs2 hs1
    exact ⟨2 ^ tz s, Nat.one_le_two_pow, z4, fun e => by rw [← e]; exact z6⟩
theorem m_182 {rc : Nat → Int32 → Int32 → Hp → Option (Int32 × Hp)} (hb2 : 2 ≤ b) (hb6 : b ≤ 6) (hw : ∀ k, k < 8 → wt k ≤ 200) (hg : gt ≤ 200) (hc : ∀ k, k < 8 → wc k ≤ 1000) (hs1 : 1 ≤ s) (hs2 : s < 256) (hTab : Tab wt wc gt b t s) (ht0 : t s 0 ≤ 56000000) : ∀ (d i f : Nat) (h : Hp), i + d = b → 1 ≤ i → d < f → MH z h wt wc gt b → h.2.2.1 (z + 80) s = nI (calN wc s) → MT z h b t s → h.2.2.1 (z + 79) s = nI (t s 0) →
    (∀ j, 1 ≤ j → j < i → ∃ m, h.2.2.1 (z + 78) (256 * j + s) = nI m ∧ IsMin (VR s j) (fun q => coN wt wc gt t s q (j - 1)) m) →
    ∃ h', fx (bX11_plan_182 rc) (fun _ _ _ _ _ => none) f (z + 43) (nI n) (nI s) (nI i) h = rc (z + 43) (nI n) (nI (s + 1)) h' ∧ Fr z Sv h h' ∧ (∀ k, h'.2.2.1 (z + 79) k = h.2.2.1 (z + 79) k) ∧ (∀ a j, a < 256 → a ≠ s → h'.2.2.1 (z + 78) (256 * j + a) = h.2.2.1 (z + 78) (256 * j + a)) ∧
      (∀ j, 1 ≤ j → j < b → ∃ m, h'.2.2.1 (z + 78) (256 * j + s) = nI m ∧ IsMin (VR s j) (fun q => coN wt wc gt t s q (j - 1)) m) := by
  intro d
  induction d with
  | zero =>
    intro i f h hi hi1 hf hM h80 hT h79 hacc
    obtain ⟨f, rfl⟩ : ∃ k, f = k + 1 := ⟨f - 1, by omega⟩
    obtain rfl : i = b := by omega
    have hF := hM.1
    refine ⟨h, ?_, Fr.rf, fun _ => rfl, fun _ _ _ _ => rfl, hacc⟩
    rw [fx_s]
    simp only [bX11_plan_182, fk_43 hF, gk_s, hM.2.2.2, if_pos (Int32.le_refl (nI i)), nm_d, nI_1]
  | succ d ih =>
    intro i f h hi hi1 hf hM h80 hT h79 hacc
    obtain ⟨f, rfl⟩ : ∃ k, f = k + 1 := ⟨f - 1, by omega⟩
    have hF := hM.1
    have tb := Tab_bd hb2 hw hg hc (by omega) hTab
    have pb := pc_le
    obtain ⟨m, e1, c1⟩ := m_leastLine (t := t) (J := i) true hM hs1 hs2 hi1 (by omega) h80 (fun q hq o => by
      have hle := sub_le hq.2.1
      by_cases e : q = s
      · rw [e]; exact h79
      · exact (hT q hq.1 (by omega)).1) (fun _ _ => h79) (fun q h1 h2 => (hT q h1 h2).1) (fun q h1 h2 hJ => ⟨(hT q h1 h2).2 (i - 1) (by omega) (by omega), by
        have := (tb q h1 h2).2 (i - 1) (by omega) (by omega)
        have := pb q
        omega⟩) (fun q hq => by
        have := co_bd2 hb2 hw hg hc (by omega) hTab (q := q) (j := i - 1) hs2 hq.1 (sub_le hq.2.1) ht0 (by have := hq.2.2.2; omega)
        omega) (q0 := s) ⟨hs1, Nat.and_self s, fun x => absurd x (by decide), Or.inl rfl⟩
    have c1' : IsMin (VR s i) (fun q => coN wt wc gt t s q (i - 1)) m := c1.cg (fun q => vr_iff hi1) (fun _ _ => rfl)
    obtain ⟨g, eg⟩ : ∃ g, g = hp_si h (z + 78) (256 * i + s) (nI m) := ⟨_, rfl⟩
    have fg : Fr z Sv h g := by rw [eg]; exact Fr.si (by decide) rfl
    have r79 : ∀ k, g.2.2.1 (z + 79) k = h.2.2.1 (z + 79) k := fun k => by rw [eg, si_3, u2_ne (by omega)]
    have r78 : ∀ k, k ≠ 256 * i + s → g.2.2.1 (z + 78) k = h.2.2.1 (z + 78) k := fun k hk => by rw [eg, si_3, u2_at, if_neg (fun r => hk r.2)]
    obtain ⟨h', e2, f2, k1, k2, k3⟩ := ih (i + 1) f g (by omega) (by omega) (by omega) (hM.fr fg (fun _ => rfl) ⟨rfl, rfl⟩) (by rw [eg, si_3, u2_ne (by omega)]; exact h80) (fun a h1 h2 => ⟨by rw [r79]; exact (hT a h1 h2).1, fun j y1 y2 => by rw [r78 _ (by omega)]; exact (hT a h1 h2).2 j y1 y2⟩) (by rw [r79]; exact h79) (fun j h1 h2 => by
      by_cases e : j = i
      · rw [e]; exact ⟨m, by rw [eg, si_3, u2_at, if_pos ⟨rfl, rfl⟩], c1'⟩
      · obtain ⟨m', x1, x2⟩ := hacc j h1 (by omega)
        exact ⟨m', by rw [r78 _ (by omega)]; exact x1, x2⟩)
    refine ⟨h', ?_, fg.tr f2, fun k => by rw [k1, r79], fun a j h1 h2 => by rw [k2 a j h1 h2, r78 _ (by omega)], k3⟩
    have ei : 256 * nI i + nI s = nI (256 * i + s) := by rw [show (256 : Int32) = nI 256 from rfl, nI_mul, nI_add]
    simp only [if_true] at e1
    rw [fx_s]
    simp only [bX11_plan_182, fk_43 hF, gk_s, hM.2.2.2, if_neg (nI_ge (show i < b by omega) (by omega)), fr_43_51 hF, bd_s, e1, b2_s, fk_78 hF, fl_78 hF, ei, gd_e (ix_nI (p := 256 * i + s) (N := 1792) (by omega) (by decide)), nI_clamp (n := 256 * i + s) (by omega), nm_d, ← eg, nI_1]
    exact e2
theorem m_153 (hb2 : 2 ≤ b) (hb6 : b ≤ 6) (hw : ∀ k, k < 8 → wt k ≤ 200) (hg : gt ≤ 200) (hc : ∀ k, k < 8 → wc k ≤ 1000) (hn1 : 1 ≤ n) (hn8 : n ≤ 8) : ∀ (d s f : Nat) (h : Hp) (t : Nat → Nat → Nat), s + d = 2 ^ n → d < f → 1 ≤ s → MH z h wt wc gt b → (∀ a, a < 2 ^ n → h.2.2.1 (z + 80) a = nI (calN wc a)) → Tab wt wc gt b t s → MT z h b t s →
    ∃ h' t', fx bX11_plan_153 (fun _ _ _ _ => none) f (z + 43) (nI n) (nI s) h = some (nI (t' (2 ^ n - 1) 0), h') ∧ Fr z Sv h h' ∧ Tab wt wc gt b t' (2 ^ n) ∧ MT z h' b t' (2 ^ n) := by
  have hp2 : 2 ≤ 2 ^ n := by
    have := Nat.pow_le_pow_right (n := 2) (by decide) hn1
    omega
  have hp8 : (2 : Nat) ^ n ≤ 256 := by
    have := Nat.pow_le_pow_right (n := 2) (by decide) hn8
    omega
  intro d
  induction d with
  | zero =>
    intro s f h t hs hf hs1 hM h80 hTab hT
    obtain ⟨f, rfl⟩ : ∃ k, f = k + 1 := ⟨f - 1, by omega⟩
    obtain rfl : s = 2 ^ n := by omega
    have hF := hM.1
    refine ⟨h, t, ?_, Fr.rf, hTab, hT⟩
    have e1 : nI (2 ^ n) - 1 = nI (2 ^ n - 1) := by
      obtain ⟨x, ex⟩ : ∃ x, 2 ^ n = x + 1 := ⟨2 ^ n - 1, by omega⟩
      rw [ex]; exact nI_pred x
    rw [fx_s]
    simp only [bX11_plan_153, shl_n n hn8, if_pos (Int32.le_refl (nI (2 ^ n))), fk_43 hF, gk_s, fr_43_52 hF, bd_s, fk_79 hF, fl_79 hF, e1, gd_e (ix_nI (p := 2 ^ n - 1) (N := 256) (by omega) (by decide)), nI_clamp (n := 2 ^ n - 1) (by omega), (hT (2 ^ n - 1) (by omega) (by omega)).1]
  | succ d ih =>
    intro s f h t hs hf hs1 hM h80 hTab hT
    obtain ⟨f, rfl⟩ : ∃ k, f = k + 1 := ⟨f - 1, by omega⟩
    have hF := hM.1
    have nfb := NF_big
    have hs2 : s < 256 := by omega
    have tb := Tab_bd hb2 hw hg hc (by omega) hTab
    have pb := pc_le
    obtain ⟨q0, hq0⟩ := vm_ex hs1 hs2
    have cbd : ∀ q, VM s q → coN wt wc gt t s q (b - 1) ≤ 56000000 := fun q hq => co_bd hb2 hw hg hc (by omega) hTab (q := q) (j := b - 1) (Nat.le_refl s) hs2 hq.1 (sub_le hq.2.1) (fun x => Or.inl (hq.2.2 x)) (by
        by_cases x : q = s
        · exact Or.inl x
        · exact Or.inr ⟨by omega, by omega⟩)
    obtain ⟨m0, e1, c1⟩ := m_leastLine (t := t) (J := b) false hM hs1 hs2 (by omega) hb6 (h80 s (by omega)) (fun q hq o => by
      have hle := sub_le hq.2.1
      by_cases e : q = s
      · exact absurd (hq.2.2.1 rfl e) (by rw [e] at o; exact o)
      · exact (hT q hq.1 (by omega)).1) (fun x => absurd x (by decide)) (fun q h1 h2 => (hT q h1 h2).1) (fun q h1 h2 hJ => ⟨(hT q h1 h2).2 (b - 1) (by omega) (by omega), by
        have := (tb q h1 h2).2 (b - 1) (by omega) (by omega)
        have := pb q
        omega⟩) (fun q hq => by
        have := cbd q ((vm_iff hb2).mp hq)
        omega) (q0 := q0) ((vm_iff hb2).mpr hq0)
    have cm : IsMin (VM s) (fun q => coN wt wc gt t s q (b - 1)) m0 := c1.cg (fun q => vm_iff hb2) (fun _ _ => rfl)
    have m0le : m0 ≤ 56000000 := by
      obtain ⟨⟨q, hq, e⟩, -⟩ := cm
      have e' : coN wt wc gt t s q (b - 1) = m0 := e
      have := cbd q hq
      omega
    obtain ⟨g, eg⟩ : ∃ g, g = hp_si h (z + 79) s (nI m0) := ⟨_, rfl⟩
    have fg : Fr z Sv h g := by rw [eg]; exact Fr.si (by decide) rfl
    have r79 : ∀ k, k ≠ s → g.2.2.1 (z + 79) k = h.2.2.1 (z + 79) k := fun k hk => by rw [eg, si_3, u2_at, if_neg (fun r => hk r.2)]
    have r79s : g.2.2.1 (z + 79) s = nI m0 := by rw [eg, si_3, u2_at, if_pos ⟨rfl, rfl⟩]
    have r78 : ∀ k, g.2.2.1 (z + 78) k = h.2.2.1 (z + 78) k := fun k => by rw [eg, si_3, u2_ne (by omega)]
    have r80 : ∀ k, g.2.2.1 (z + 80) k = h.2.2.1 (z + 80) k := fun k => by rw [eg, si_3, u2_ne (by omega)]
    obtain ⟨t1, et1⟩ : ∃ t1 : Nat → Nat → Nat, t1 = fun a i => if a = s ∧ i = 0 then m0 else t a i := ⟨_, rfl⟩
    have t1a : ∀ a i, a < s → t1 a i = t a i := fun a i ha => by rw [et1]; exact if_neg (by omega)
    have t1s : t1 s 0 = m0 := by rw [et1]; exact if_pos ⟨rfl, rfl⟩
    have Tab1 : Tab wt wc gt b t1 s := fun a h1 h2 => TabR_cg h1 (fun x i _ hx => (t1a x i (by omega)).symm) (hTab a h1 h2)
    have MT1 : MT z g b t1 s := fun a h1 h2 => ⟨by rw [r79 a (by omega), t1a a 0 h2]; exact (hT a h1 h2).1, fun j y1 y2 => by rw [r78, t1a a j h2]; exact (hT a h1 h2).2 j y1 y2⟩
    obtain ⟨h3, e3, f3, k1, k2, k3⟩ := m_182 (n := n) (rc := fx bX11_plan_153 (fun _ _ _ _ => none) f) hb2 hb6 hw hg hc hs1 hs2 Tab1 (by rw [t1s]; exact m0le) (b - 1) 1 NF g (by omega) (Nat.le_refl 1) (by omega) (hM.fr fg (fun _ => rfl) ⟨rfl, rfl⟩) (by rw [r80]; exact h80 s (by omega)) MT1 (by rw [t1s]; exact r79s) (fun j h1 h2 => by omega)
    obtain ⟨t2, et2⟩ : ∃ t2 : Nat → Nat → Nat, t2 = fun a i => if a = s then (if i = 0 then m0 else toN (h3.2.2.1 (z + 78) (256 * i + s))) else t a i := ⟨_, rfl⟩
    have t2a : ∀ a i, a < s → t2 a i = t a i := fun a i ha => by rw [et2]; exact if_neg (by omega)
    have t2s : t2 s 0 = m0 := by rw [et2]; show (if s = s then _ else _) = _; rw [if_pos rfl, if_pos rfl]
    have t2j : ∀ i, 1 ≤ i → t2 s i = toN (h3.2.2.1 (z + 78) (256 * i + s)) := fun i hi => by rw [et2]; show (if s = s then _ else _) = _; rw [if_pos rfl, if_neg (by omega)]
    have co0 : ∀ q, VM s q → coN wt wc gt t s q (b - 1) = coN wt wc gt t2 s q (b - 1) := fun q hq => by
      have hle := sub_le hq.2.1
      unfold coN
      have x1 : (if oneB q = true then 0 else t q 0) = (if oneB q = true then 0 else t2 q 0) := by
        by_cases o : oneB q = true
        · rw [if_pos o, if_pos o]
        · rw [if_neg o, if_neg o]
          have : q ≠ s := fun e => o (by rw [e]; exact hq.2.2 e)
          exact (t2a q 0 (by omega)).symm
      rw [x1]
      by_cases e : q = s
      · rw [if_pos e, if_pos e]
      · rw [if_neg e, if_neg e, t2a (s - q) (b - 1) (by have := hq.1; omega)]
    have coj : ∀ q i, 1 ≤ q → q &&& s = q → coN wt wc gt t1 s q i = coN wt wc gt t2 s q i := fun q i h1 hq => by
      have hle := sub_le hq
      unfold coN
      by_cases e : q = s
      · rw [if_pos e, if_pos e, e, t1s, t2s]
      · rw [if_neg e, if_neg e, t2a (s - q) i (by omega), t1a (s - q) i (by omega), t2a q 0 (by omega), t1a q 0 (by omega)]
    have hval : ∀ j, 1 ≤ j → j < b → h3.2.2.1 (z + 78) (256 * j + s) = nI (t2 s j) ∧ IsMin (VR s j) (fun q => coN wt wc gt t1 s q (j - 1)) (t2 s j) := fun j y1 y2 => by
      obtain ⟨m, x1, x3⟩ := k3 j y1 y2
      have hm58 : m < 2 ^ 31 := by
        obtain ⟨⟨q, hq, e⟩, -⟩ := x3
        have e' : coN wt wc gt t1 s q (j - 1) = m := e
        have := co_bd2 hb2 hw hg hc (by omega) Tab1 (q := q) (j := j - 1) hs2 hq.1 (sub_le hq.2.1) (by rw [t1s]; exact m0le) (by
          by_cases w : q = s
          · exact Or.inl w
          · refine Or.inr ⟨?_, by omega⟩
            by_cases w2 : j = 1
            · exact absurd (hq.2.2 w2) w
            · omega)
        omega
      have : t2 s j = m := by rw [t2j j y1, x1, toN_nI hm58]
      rw [this]
      exact ⟨x1, x3⟩
    have Tab2 : Tab wt wc gt b t2 (s + 1) := fun a h1 h2 => by
      by_cases e : a = s
      · rw [e]
        exact ⟨by rw [t2s]; exact cm.cg (fun _ => Iff.rfl) co0, fun j y1 y2 => (hval j y1 y2).2.cg (fun _ => Iff.rfl) (fun q hq => coj q _ hq.1 hq.2.1)⟩
      · exact TabR_cg h1 (fun x i _ hx => (t2a x i (by omega)).symm) (hTab a h1 (by omega))
    have MT2 : MT z h3 b t2 (s + 1) := fun a h1 h2 => by
      by_cases e : a = s
      · rw [e]
        exact ⟨by rw [k1, t2s]; exact r79s, fun j y1 y2 => (hval j y1 y2).1⟩
      · exact ⟨by rw [k1, r79 a e, t2a a 0 (by omega)]; exact (hT a h1 (by omega)).1, fun j y1 y2 => by rw [k2 a j (by omega) e, r78, t2a a j (by omega)]; exact (hT a h1 (by omega)).2 j y1 y2⟩
    have frs := fg.tr f3
    obtain ⟨h', t', e4, f4, w1, w2⟩ := ih (s + 1) f h3 t2 (by omega) (by omega) (by omega) (hM.fr frs (fun _ => rfl) ⟨rfl, rfl⟩) (fun a ha => by rw [frs.2.2.2.2.1 80 a (by decide) rfl]; exact h80 a ha) Tab2 MT2
    refine ⟨h', t', ?_, frs.tr f4, w1, w2⟩
    simp only [Bool.false_eq_true, if_false] at e1
    rw [fx_s]
    simp only [bX11_plan_153, shl_n n hn8, if_neg (nI_ge (show s < 2 ^ n by omega) (by omega)), fk_43 hF, gk_s, fr_43_52 hF, bd_s, hM.2.2.2, e1, b2_s, fk_79 hF, fl_79 hF, gd_e (ix_nI (p := s) (N := 256) (by omega) (by decide)), nI_clamp (n := s) (by omega), nm_d, ← eg, fX11_plan_182]
    exact e3.trans e4
theorem cal_n (hn8 : n ≤ 8) (hs : s < 2 ^ n) : fb_sm (fun k => if s.testBit k = true then wc k else 0) n = calN wc s := by
  unfold calN
  obtain ⟨d, hd⟩ : ∃ d, 8 = n + d := ⟨8 - n, by omega⟩
  rw [hd, fb_sm_split]
  have : fb_sm (fun k => if s.testBit (n + k) = true then wc (n + k) else 0) d = fb_sm (fun _ => 0) d := fb_sm_cong (fun k _ => by
    have : s.testBit (n + k) = false := Nat.testBit_lt_two_pow (Nat.lt_of_lt_of_le hs (Nat.pow_le_pow_right (by decide) (by omega)))
    rw [this]; rfl)
  rw [this, fb_sm_const]
  omega
theorem m_100 {rc : Nat → Int32 → Int32 → Hp → Option (Int32 × Hp)} (hn8 : n ≤ 8) (hs : s < 256) (hc : ∀ k, k < 8 → wc k ≤ 1000) : ∀ (d i f : Nat) (h : Hp), i + d = n → d < f → fxd z h → (∀ k, k < 8 → h.2.2.1 (z + 67) k = nI (wc k)) → h.2.2.1 (z + 80) s = nI (fb_sm (fun k => if s.testBit k = true then wc k else 0) i) →
    ∃ h', fx (bX11_plan_100 rc) (fun _ _ _ _ _ => none) f (z + 43) (nI n) (nI s) (nI i) h = rc (z + 43) (nI n) (nI (s + 1)) h' ∧ Fr z (fun c k => c == 80 && k == s) h h' ∧ h'.2.2.1 (z + 80) s = nI (fb_sm (fun k => if s.testBit k = true then wc k else 0) n) := by
  intro d
  induction d with
  | zero =>
    intro i f h hi hf hF h67 h80
    obtain ⟨f, rfl⟩ : ∃ k, f = k + 1 := ⟨f - 1, by omega⟩
    obtain rfl : i = n := by omega
    refine ⟨h, ?_, Fr.rf, h80⟩
    rw [fx_s]
    simp only [bX11_plan_100, if_pos (Int32.le_refl (nI i)), nm_d, nI_1]
  | succ d ih =>
    intro i f h hi hf hF h67 h80
    obtain ⟨f, rfl⟩ : ∃ k, f = k + 1 := ⟨f - 1, by omega⟩
    have hb := bit_sh s hs i (by omega)
    obtain ⟨v, ev⟩ : ∃ v, v = fb_sm (fun k => if s.testBit k = true then wc k else 0) i := ⟨_, rfl⟩
    obtain ⟨x, ex⟩ : ∃ x, x = if s.testBit i = true then wc i else 0 := ⟨_, rfl⟩
    have esum : fb_sm (fun k => if s.testBit k = true then wc k else 0) (i + 1) = v + x := by rw [fb_sm_succ, ev, ex]
    obtain ⟨g, eg⟩ : ∃ g, g = hp_si h (z + 80) s (nI (v + x)) := ⟨_, rfl⟩
    have fg : Fr z (fun c k => c == 80 && k == s) h g := by rw [eg]; exact Fr.si (by decide) (by simp)
    obtain ⟨h', e1, f1, c1⟩ := ih (i + 1) f g (by omega) (by omega) (fxd_fr hF fg) (fun k hk => by rw [eg, si_3, u2_ne (by omega)]; exact h67 k hk) (by rw [eg, si_3, u2_at, if_pos ⟨rfl, rfl⟩, esum])
    refine ⟨h', ?_, fg.tr f1, c1⟩
    rw [← ev] at h80
    rw [fx_s]
    simp only [bX11_plan_100, if_neg (nI_ge (show i < n by omega) (by omega)), fk_43 hF, gk_s, fr_43_55 hF, bd_s, fk_80 hF, fl_80 hF, gd_e (ix_nI (p := s) (N := 256) (by omega) (by decide)), nI_clamp (n := s) (by omega), h80, fr_43_30 hF, fk_67 hF, fl_67 hF, gd_e (ix_nI (p := i) (N := 8) (by omega) (by decide)), nI_clamp (n := i) (by omega), h67 i (by omega), nm_d, nI_1]
    by_cases q : s.testBit i = true
    · have q' : ((nI s >>> (nI i &&& 31)) &&& 1) = 1 := of_decide_eq_true (by rw [hb]; exact q)
      have ee : nI v + nI (wc i) = nI (v + x) := by rw [nI_add, ex, if_pos q]
      rw [if_pos q', ee, ← eg]
      exact e1
    · have q' : ¬ ((nI s >>> (nI i &&& 31)) &&& 1) = 1 := of_decide_eq_false (by rw [hb]; simpa using q)
      have ee : nI v + 0 = nI (v + x) := by rw [Int32.add_zero, ex, if_neg q, Nat.add_zero]
      rw [if_neg q', ee, ← eg]
      exact e1
theorem m_81 (hn8 : n ≤ 8) (hc : ∀ k, k < 8 → wc k ≤ 1000) : ∀ (d s f : Nat) (h : Hp), s + d = 2 ^ n → d < f → fxd z h → (∀ k, k < 8 → h.2.2.1 (z + 67) k = nI (wc k)) → (∀ a, a < s → h.2.2.1 (z + 80) a = nI (calN wc a)) →
    ∃ h', fx bX11_plan_81 (fun _ _ _ _ => none) f (z + 43) (nI n) (nI s) h = fX11_plan_153 (z + 43) (nI n) 1 h' ∧ Fr z (fun c _ => c == 80) h h' ∧ ∀ a, a < 2 ^ n → h'.2.2.1 (z + 80) a = nI (calN wc a) := by
  have hp8 : (2 : Nat) ^ n ≤ 256 := by
    have := Nat.pow_le_pow_right (n := 2) (by decide) hn8
    omega
  intro d
  induction d with
  | zero =>
    intro s f h hs hf hF h67 h80
    obtain ⟨f, rfl⟩ : ∃ k, f = k + 1 := ⟨f - 1, by omega⟩
    obtain rfl : s = 2 ^ n := by omega
    refine ⟨h, ?_, Fr.rf, h80⟩
    rw [fx_s]
    simp only [bX11_plan_81, shl_n n hn8, if_pos (Int32.le_refl (nI (2 ^ n)))]
  | succ d ih =>
    intro s f h hs hf hF h67 h80
    obtain ⟨f, rfl⟩ : ∃ k, f = k + 1 := ⟨f - 1, by omega⟩
    have nfb := NF_big
    obtain ⟨g, eg⟩ : ∃ g, g = hp_si h (z + 80) s 0 := ⟨_, rfl⟩
    have fg : Fr z (fun c _ => c == 80) h g := by rw [eg]; exact Fr.si (by decide) rfl
    have mono : ∀ c k, (c == 80) = false → (c == 80 && k == s) = false := fun c k q => by rw [q]; rfl
    obtain ⟨h1, e1, f1, c1⟩ := m_100 (rc := fx bX11_plan_81 (fun _ _ _ _ => none) f) (s := s) hn8 (by omega) hc n 0 NF g (by omega) (by omega) (fxd_fr hF fg) (fun k hk => by rw [eg, si_3, u2_ne (by omega)]; exact h67 k hk) (by rw [eg, si_3, u2_at, if_pos ⟨rfl, rfl⟩]; rfl)
    have f1' := f1.mono (S' := fun c _ => c == 80) mono
    have frs := fg.tr f1'
    obtain ⟨h', e2, f2, c2⟩ := ih (s + 1) f h1 (by omega) (by omega) (fxd_fr hF frs) (fun k hk => by rw [frs.2.2.2.2.1 67 k (by decide) rfl]; exact h67 k hk) (fun a ha => by
      by_cases e : a = s
      · rw [e, c1, cal_n hn8 (by omega)]
      · rw [f1.2.2.2.2.1 80 a (by decide) (by simp [e]), eg, si_3, u2_at, if_neg (fun r => e r.2)]
        exact h80 a (by omega))
    refine ⟨h', ?_, frs.tr f2, c2⟩
    rw [fx_s]
    simp only [bX11_plan_81, shl_n n hn8, if_neg (nI_ge (show s < 2 ^ n by omega) (by omega)), fk_43 hF, gk_s, fr_43_55 hF, bd_s, fk_80 hF, fl_80 hF, gd_e (ix_nI (p := s) (N := 256) (by omega) (by decide)), nI_clamp (n := s) (by omega), nm_d, ← eg, fX11_plan_100]
    exact e1.trans e2
theorem m_51 : ∀ (d i f : Nat) (h : Hp), i + d = 8 → d < f → fxd z h → (∀ k, k < 8 → h.2.2.1 (z + 66) k = nI (wt k)) → (∀ k, k < i → h.2.2.1 (z + 81) k = nI (wt k)) →
    ∃ h', fx bX11_plan_51 (fun _ _ _ _ => none) f (z + 43) (nI n) (nI i) h = fX11_plan_81 (z + 43) (nI n) 0 h' ∧ Fr z (fun c _ => c == 81) h h' ∧ ∀ k, k < 8 → h'.2.2.1 (z + 81) k = nI (wt k) := by
  intro d
  induction d with
  | zero =>
    intro i f h hi hf hF h66 h81
    obtain ⟨f, rfl⟩ : ∃ k, f = k + 1 := ⟨f - 1, by omega⟩
    obtain rfl : i = 8 := by omega
    refine ⟨h, ?_, Fr.rf, h81⟩
    rw [fx_s]
    simp only [bX11_plan_51, if_pos (show (8 : Int32) ≤ nI 8 by decide)]
  | succ d ih =>
    intro i f h hi hf hF h66 h81
    obtain ⟨f, rfl⟩ : ∃ k, f = k + 1 := ⟨f - 1, by omega⟩
    obtain ⟨g, eg⟩ : ∃ g, g = hp_si h (z + 81) i (nI (wt i)) := ⟨_, rfl⟩
    have fg : Fr z (fun c _ => c == 81) h g := by rw [eg]; exact Fr.si (by decide) rfl
    obtain ⟨h', e2, f2, c2⟩ := ih (i + 1) f g (by omega) (by omega) (fxd_fr hF fg) (fun k hk => by rw [eg, si_3, u2_ne (by omega)]; exact h66 k hk) (fun k hk => by
      rw [eg, si_3, u2_at]
      by_cases e : k = i
      · rw [if_pos ⟨rfl, e⟩, e]
      · rw [if_neg (fun r => e r.2)]; exact h81 k (by omega))
    refine ⟨h', ?_, fg.tr f2, c2⟩
    rw [fx_s]
    simp only [bX11_plan_51, if_neg (show ¬ (8 : Int32) ≤ nI i from nI_ge (b := 8) (by omega) (by decide)), fk_43 hF, gk_s, fr_43_56 hF, fr_43_29 hF, bd_s, fk_66 hF, fl_66 hF, gd_e (ix_nI (p := i) (N := 8) (by omega) (by decide)), nI_clamp (n := i) (by omega), fk_81 hF, fl_81 hF, h66 i (by omega), nm_d, ← eg, nI_1]
    exact e2
end
