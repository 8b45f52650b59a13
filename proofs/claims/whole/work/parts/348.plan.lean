/-! plan -/
section
variable {z : Nat} {h : Hp} {D : Nat → Nat → Int32} {wt wc : Nat → Nat} {gt b n : Nat} {t : Nat → Nat → Nat}
/-- the tables as cells -/
def DT (D : Nat → Nat → Int32) (wt wc : Nat → Nat) (gt b n : Nat) (t : Nat → Nat → Nat) : Prop := (∀ k, k < 8 → D 81 k = nI (wt k)) ∧ D 43 53 = nI gt ∧ (∀ s, s < 2 ^ n → D 80 s = nI (calN wc s)) ∧ ∀ s, 1 ≤ s → s < 2 ^ n → D 79 s = nI (t s 0) ∧ ∀ j, 1 ≤ j → j < b → D 78 (256 * j + s) = nI (t s j)
theorem tkD_N (hT : DT D wt wc gt b n t) {q : Nat} (h1 : 1 ≤ q) (h2 : q < 256) : tkD D q = nI (tkN wt gt q) := by
  obtain ⟨d1, d2, -⟩ := hT
  obtain ⟨z1, -, -, -, z5, -⟩ := tz_facts q h2 h1
  unfold tkD tkN
  by_cases o : oneB q = true
  · rw [if_pos o, if_pos o]
    have e := z5 o
    obtain ⟨k, ek⟩ : ∃ k, k = tz q := ⟨_, rfl⟩
    rw [← ek] at e z1 ⊢
    rcases (show k = 0 ∨ k = 1 ∨ k = 2 ∨ k = 3 ∨ k = 4 ∨ k = 5 ∨ k = 6 ∨ k = 7 by omega) with rfl | rfl | rfl | rfl | rfl | rfl | rfl | rfl <;> (rw [e]; first | exact d1 0 (by decide) | exact d1 1 (by decide) | exact d1 2 (by decide) | exact d1 3 (by decide) | exact d1 4 (by decide) | exact d1 5 (by decide) | exact d1 6 (by decide) | exact d1 7 (by decide))
  · rw [if_neg o, if_neg o]
    exact d2
theorem lcD_N (hn8 : n ≤ 8) (hb6 : b ≤ 6) (hT : DT D wt wc gt b n t) {s q j : Nat} (hs1 : 1 ≤ s) (hs : s < 2 ^ n) (h1 : 1 ≤ q) (hq : q &&& s = q) (hjb : j < b) (hbd : q ≠ s → 1 ≤ j → t (s - q) j < 100000000) : lcD D s q j = nI (if q = s ∨ 1 ≤ j then coN wt wc gt t s q j else 100000000) := by
  have hp8 : (2 : Nat) ^ n ≤ 256 := by
    have := Nat.pow_le_pow_right (n := 2) (by decide) hn8
    omega
  have hle := sub_le hq
  have tk := tkD_N hT h1 (by omega : q < 256)
  obtain ⟨-, -, d3, d4⟩ := hT
  have e79 : (if oneB q = true then (0 : Int32) else D 79 q) = nI (if oneB q = true then 0 else t q 0) := by
    by_cases o : oneB q = true
    · rw [if_pos o, if_pos o]; rfl
    · rw [if_neg o, if_neg o]; exact (d4 q h1 (by omega)).1
  have fin : ∀ r : Nat, r < 100000000 → (if nI r = 100000000 then (100000000 : Int32) else tkD D q * D 80 s + (if oneB q = true then 0 else D 79 q) + nI r) = nI (tkN wt gt q * calN wc s + (if oneB q = true then 0 else t q 0) + r) := fun r hr => by
    have hne : ¬ nI r = 100000000 := fun e => by
      have := (nI_eq (b := 100000000) (by omega) (by decide)).mp e
      omega
    rw [if_neg hne, tk, d3 s hs, e79, nI_mul, nI_add, nI_add]
  unfold lcD
  by_cases e : q = s
  · have e' : s = q := e.symm
    rw [if_pos (Or.inl e)]
    simp only [if_pos e']
    have := fin 0 (by decide)
    unfold coN
    rw [if_pos e]
    exact this
  · have e' : ¬ s = q := fun x => e x.symm
    simp only [if_neg e']
    by_cases j0 : j = 0
    · rw [if_neg (show ¬ (q = s ∨ 1 ≤ j) by omega)]
      simp only [if_pos j0, if_true]
      rfl
    · rw [if_pos (Or.inr (by omega))]
      simp only [if_neg j0]
      rw [(d4 (s - q) (by omega) (by omega)).2 j (by omega) hjb]
      have := fin (t (s - q) j) (hbd e (by omega))
      unfold coN
      rw [if_neg e]
      exact this
/-- class and model hold the same tables -/
theorem TBL_of (hn8 : n ≤ 8) (hb2 : 2 ≤ b) (hb6 : b ≤ 6) (hw : ∀ k, k < 8 → wt k ≤ 200) (hg : gt ≤ 200) (hc : ∀ k, k < 8 → wc k ≤ 1000) (hT : DT D wt wc gt b n t) (hTab : Tab wt wc gt b t (2 ^ n)) (hC : ∀ s, 1 ≤ s → s < 2 ^ n → (∃ f, D 20 s = nI f ∧ leastPart (fun q => VM s q ∧ coN wt wc gt t s q (b - 1) = t s 0) f) ∧ ∀ j, 1 ≤ j → j < b → ∃ f, D (29 + j) s = nI f ∧ leastPart (fun q => VR s j q ∧ coN wt wc gt t s q (j - 1) = t s j) f) : TBL D n b := by
  have hp8 : (2 : Nat) ^ n ≤ 256 := by
    have := Nat.pow_le_pow_right (n := 2) (by decide) hn8
    omega
  have tb := Tab_bd hb2 hw hg hc hp8 hTab
  have pb := pc_le
  intro s hs1 hs
  obtain ⟨⟨f, x1, x2⟩, x3⟩ := hC s hs1 hs
  have ts0 : t s 0 ≤ 25600000 := by have := (tb s hs1 hs).1; have := pb s; omega
  have bd : ∀ q j, 1 ≤ q → q &&& s = q → q ≠ s → 1 ≤ j → j < b → t (s - q) j < 100000000 := fun q j h1 hq hne j1 j2 => by
    have hle := sub_le hq
    have := (tb (s - q) (by omega) (by omega)).2 j j1 j2
    have := pb (s - q)
    omega
  have cb : ∀ q j, 1 ≤ q → q &&& s = q → (q = s ∨ (1 ≤ j ∧ j < b)) → coN wt wc gt t s q j ≤ 56000000 := fun q j h1 hq hj => co_bd hb2 hw hg hc hp8 hTab (s := s) (by omega) (by omega) h1 (sub_le hq) (fun _ => Or.inr ts0) hj
  obtain ⟨-, -, -, d4⟩ := id hT
  obtain ⟨y1, y2⟩ := d4 s hs1 hs
  refine ⟨⟨f, x1, leastPart_cg (fun q => ?_) x2⟩, fun j j1 j2 => ?_, ?_⟩
  rotate_left 2
  · obtain ⟨fj, w1, w2⟩ := x3 1 (Nat.le_refl 1) (by omega)
    have := w2.1.1.2.2 rfl
    rw [this] at w1
    exact w1
  · constructor
    · rintro ⟨⟨v1, v2, v3⟩, v4⟩
      refine ⟨v1, v2, v3, ?_⟩
      rw [lcD_N hn8 hb6 hT hs1 hs v1 v2 (by omega) (fun ne j1 => bd q _ v1 v2 ne j1 (by omega)), if_pos (by omega), v4, y1]
    · rintro ⟨v1, v2, v3, v4⟩
      refine ⟨⟨v1, v2, v3⟩, ?_⟩
      rw [lcD_N hn8 hb6 hT hs1 hs v1 v2 (by omega) (fun ne j1 => bd q _ v1 v2 ne j1 (by omega)), if_pos (by omega), y1] at v4
      have := cb q (b - 1) v1 v2 (by
        by_cases e : q = s
        · exact Or.inl e
        · exact Or.inr ⟨by omega, by omega⟩)
      exact (nI_eq (by omega) (by omega)).mp v4
  · obtain ⟨fj, w1, w2⟩ := x3 j j1 j2
    have tsj : t s j ≤ 27200000 := by have := (tb s hs1 hs).2 j j1 j2; have := pb s; omega
    refine ⟨fj, w1, leastPart_cg (fun q => ?_) w2⟩
    constructor
    · rintro ⟨⟨v1, v2, v3⟩, v4⟩
      refine ⟨v1, v2, ?_⟩
      have hv : q = s ∨ 1 ≤ j - 1 := by
        by_cases e : j = 1
        · exact Or.inl (v3 e)
        · exact Or.inr (by omega)
      rw [lcD_N hn8 hb6 hT hs1 hs v1 v2 (by omega) (fun ne j1 => bd q _ v1 v2 ne j1 (by omega)), if_pos hv, v4, y2 j j1 j2]
    · rintro ⟨v1, v2, v4⟩
      rw [lcD_N hn8 hb6 hT hs1 hs v1 v2 (by omega) (fun ne j1 => bd q _ v1 v2 ne j1 (by omega)), y2 j j1 j2] at v4
      by_cases hv : q = s ∨ 1 ≤ j - 1
      · rw [if_pos hv] at v4
        have := cb q (j - 1) v1 v2 (by
          rcases hv with e | e
          · exact Or.inl e
          · exact Or.inr ⟨e, by omega⟩)
        refine ⟨⟨v1, v2, fun e => ?_⟩, (nI_eq (by omega) (by omega)).mp v4⟩
        rcases hv with e2 | e2
        · exact e2
        · omega
      · rw [if_neg hv] at v4
        have := (nI_eq (by decide) (by omega)).mp v4
        omega
def SPL : Nat → Nat → Bool := fun c k => (c == 15 && (k == 2 || k == 3 || k == 4)) || SP c k || (c == 43 && (k == 31 || k == 53 || k == 54)) || (78 ≤ c && c ≤ 81)
theorem SPL_of {c k : Nat} (h : (c = 15 ∧ (k = 2 ∨ k = 3 ∨ k = 4)) ∨ SP c k = true ∨ (c = 43 ∧ (k = 31 ∨ k = 53 ∨ k = 54)) ∨ (78 ≤ c ∧ c ≤ 81)) : SPL c k = true := by
  unfold SPL
  rcases h with ⟨rfl, rfl | rfl | rfl⟩ | h | ⟨rfl, rfl | rfl | rfl⟩ | ⟨h1, h2⟩
  · rfl
  · rfl
  · rfl
  · rw [h]; simp
  · rfl
  · rfl
  · rfl
  · simp [h1, h2]
theorem SPL_no {c k : Nat} (h : ¬ (c = 15 ∧ (k = 2 ∨ k = 3 ∨ k = 4))) (h2 : ¬ (((18 ≤ c ∧ c ≤ 20) ∨ (23 ≤ c ∧ c ≤ 27) ∨ (30 ≤ c ∧ c ≤ 34)) ∧ 1 ≤ k)) (h3 : ¬ (c = 43 ∧ (k = 31 ∨ k = 53 ∨ k = 54))) (h4 : ¬ (78 ≤ c ∧ c ≤ 81)) : SPL c k = false := by
  cases r : SPL c k
  · rfl
  · simp only [SPL, SP, Bool.or_eq_true, Bool.and_eq_true, beq_iff_eq, decide_eq_true_eq] at r
    omega
theorem fr_any {S : Nat → Nat → Bool} {h' : Hp} (hS : ∀ c k, S c k = true → SPL c k = true) (a : Fr z S h h') : Fr z SPL h h' := a.mono fun c k q => by
  cases r : S c k
  · rfl
  · rw [hS c k r] at q; exact absurd q (by decide)
theorem sim_plan (v1 v2 v3 : Int32) : Sim z (fX10_plan z v1 v2 v3) (fX11_plan (z + 43) v1 v2 v3) := by
  intro h hRel
  obtain ⟨⟨D, n0, ng, pa, ba, la, ca, hR⟩, hT⟩ := id hRel
  have hF := hR.1
  have nfb := NF_big
  rcases (Classical.em (1 ≤ v1 ∧ v1 ≤ 8)).symm with c1 | c1
  · exact ⟨-1, h, h, by simp only [fX10_plan, l_within, b2_s, bi_0, if_pos c1], fk_43 hF, by simp only [fX11_plan, l_in, b2_s, bi_0, if_pos c1], hRel⟩
  rcases (Classical.em (1 ≤ v2 ∧ v2 ≤ 200)).symm with c2 | c2
  · exact ⟨-1, h, h, by simp only [fX10_plan, l_within, b2_s, bi_0, if_neg (not_not_intro c1), if_pos c2], fk_43 hF, by simp only [fX11_plan, l_in, b2_s, bi_0, if_neg (not_not_intro c1), if_pos c2], hRel⟩
  rcases (Classical.em (2 ≤ v3 ∧ v3 ≤ 6)).symm with c3 | c3
  · exact ⟨-1, h, h, by simp only [fX10_plan, l_within, b2_s, bi_0, if_neg (not_not_intro c1), if_neg (not_not_intro c2), if_pos c3], fk_43 hF, by simp only [fX11_plan, l_in, b2_s, bi_0, if_neg (not_not_intro c1), if_neg (not_not_intro c2), if_pos c3], hRel⟩
  obtain ⟨n, hn1, hn8, rfl⟩ : ∃ n, 1 ≤ n ∧ n ≤ 8 ∧ v1 = nI n := rg_of (lo := 1) (hi := 8) rfl rfl (by decide) (by decide) c1
  obtain ⟨gt, hg1, hg, rfl⟩ : ∃ n, 1 ≤ n ∧ n ≤ 200 ∧ v2 = nI n := rg_of (lo := 1) (hi := 200) rfl rfl (by decide) (by decide) c2
  obtain ⟨b, hb2, hb6, rfl⟩ : ∃ n, 2 ≤ n ∧ n ≤ 6 ∧ v3 = nI n := rg_of (lo := 2) (hi := 6) rfl rfl (by decide) (by decide) c3
  obtain ⟨w1, w2, w3, w4, w5, w6, w7, w8, w9, w10, w11⟩ := hR.2.2.1
  have hp2 : 2 ≤ 2 ^ n := by
    have := Nat.pow_le_pow_right (n := 2) (by decide) hn1
    omega
  have hp8 : (2 : Nat) ^ n ≤ 256 := by
    have := Nat.pow_le_pow_right (n := 2) (by decide) hn8
    omega
  obtain ⟨wt, ewt⟩ : ∃ wt : Nat → Nat, wt = fun k => toN (D 66 k) := ⟨_, rfl⟩
  obtain ⟨wc, ewc⟩ : ∃ wc : Nat → Nat, wc = fun k => toN (D 67 k) := ⟨_, rfl⟩
  have k66 : ∀ k, k < 8 → D 66 k = nI (wt k) ∧ wt k ≤ 200 := fun k hk => by
    obtain ⟨a, b, c⟩ := nI_toN (w9 k hk).1 (by decide)
    rw [ewt]; exact ⟨a.symm, c⟩
  have k67 : ∀ k, k < 8 → D 67 k = nI (wc k) ∧ wc k ≤ 1000 := fun k hk => by
    obtain ⟨a, b, c⟩ := nI_toN (w9 k hk).2.1 (by decide)
    rw [ewc]; exact ⟨a.symm, c⟩
  have hw : ∀ k, k < 8 → wt k ≤ 200 := fun k hk => (k66 k hk).2
  have hc : ∀ k, k < 8 → wc k ≤ 1000 := fun k hk => (k67 k hk).2
  have q22 : pv D 22 0 = D 22 0 := rfl
  obtain ⟨pl1, pl2, pl3, pl4, -⟩ := w11
  have P1 : D 22 0 = 0 := pl1
  have P2 : ∀ s, 1 ≤ s → s < 256 → D 22 s = 500000000 := fun s h1 h2 => by
    have := pl2 s h1 h2
    unfold pv at this
    rw [if_pos (by omega)] at this
    exact this
  have P3 : ∀ j, 1 ≤ j → j < 6 → D (22 + j) 0 = 0 := fun j h1 h2 => by
    have := pl3 j h1 h2
    unfold pv at this
    rw [if_pos (by omega)] at this
    exact this
  have P4 : D 18 0 = 0 := pl4
  -- the class
  obtain ⟨g, eg⟩ : ∃ g, g = hp_si (hp_si (hp_si h (z + 15) 4 (nI gt)) (z + 15) 3 (nI b)) (z + 15) 2 (nI (2 ^ n - 1)) := ⟨_, rfl⟩
  have fg : Fr z SPL h g := by
    rw [eg]
    exact ((Fr.si (by decide) (SPL_of (by omega))).tr (Fr.si (by decide) (SPL_of (by omega)))).tr (Fr.si (by decide) (SPL_of (by omega)))
  have r15 : ∀ k, g.2.2.1 (z + 15) k = if k = 2 then nI (2 ^ n - 1) else if k = 3 then nI b else if k = 4 then nI gt else h.2.2.1 (z + 15) k := fun k => by
    rw [eg]; simp only [si_3, u2_at, true_and]
  have rg : ∀ c k, c ≠ 15 → g.2.2.1 (z + c) k = h.2.2.1 (z + c) k := fun c k hc => by
    rw [eg, si_3, u2_ne (by omega), si_3, u2_ne (by omega), si_3, u2_ne (by omega)]
  have hess := hR.2.1
  have e22 : ∀ c k, 16 ≤ c → c ≤ 34 → c ≠ 21 → c ≠ 28 → g.2.2.1 (z + c) k = D c k := fun c k h1 h2 h3 h4 => by
    rw [rg c k (by omega)]
    exact hess c k (by omega) (by simp [ess]; omega)
  have H0 : CH z g wt wc gt b := by
    refine ⟨fxd_fr hF fg, fun k hk => ?_, fun k hk => ?_, by rw [r15]; rfl, by rw [r15]; rfl, ?_, fun s h1 h2 => ?_, fun j h1 h2 => ?_⟩
    · rw [e22 16 k (by decide) (by decide) (by decide) (by decide), (w9 k hk).2.2.1]; exact (k66 k hk).1
    · rw [e22 17 k (by decide) (by decide) (by decide) (by decide), (w9 k hk).2.2.2]; exact (k67 k hk).1
    · rw [e22 22 0 (by decide) (by decide) (by decide) (by decide)]; exact P1
    · rw [e22 22 s (by decide) (by decide) (by decide) (by decide)]; exact P2 s h1 h2
    · rw [e22 (22 + j) 0 (by omega) (by omega) (by omega) (by omega)]; exact P3 j h1 h2
  have T0 : CT z g wc b (fun _ _ => 0) 1 := fun s hs => by
    obtain rfl : s = 0 := by omega
    refine ⟨?_, fun x => absurd x (by decide)⟩
    rw [e22 18 0 (by decide) (by decide) (by decide) (by decide), P4]
    have : calN wc 0 = 0 := by
      unfold calN
      have : fb_sm (fun k => if Nat.testBit 0 k = true then wc k else 0) 8 = fb_sm (fun _ => 0) 8 := fb_sm_cong (fun k _ => by rw [Nat.zero_testBit]; rfl)
      rw [this, fb_sm_const]
    rw [this]; rfl
  obtain ⟨h1, tc, e1, f1, Tc, CTc, CFc⟩ := x_22 hb2 hb6 hw hg hc (A := 2 ^ n - 1) (by omega) (by omega) (2 ^ n - 1) 1 NF g (fun _ _ => 0) (by omega) (by omega) (Nat.le_refl 1) H0 (by rw [r15]; rfl) (fun s h1 h2 => by omega) T0 (fun s h1 h2 => by omega)
  have eA : 2 ^ n - 1 + 1 = 2 ^ n := by omega
  rw [eA] at Tc CTc CFc
  have f1' : Fr z SPL g h1 := fr_any (fun c k q => SPL_of (Or.inr (Or.inl q))) f1
  have F1 := fxd_fr (fxd_fr hF fg) f1'
  -- the model
  obtain ⟨g2, eg2⟩ : ∃ g2, g2 = hp_si (hp_si (hp_si h1 (z + 43) 53 (nI gt)) (z + 43) 54 (nI b)) (z + 43) 31 (nI n) := ⟨_, rfl⟩
  have fg2 : Fr z SPL h1 g2 := by
    rw [eg2]
    exact ((Fr.si (by decide) (SPL_of (by omega))).tr (Fr.si (by decide) (SPL_of (by omega)))).tr (Fr.si (by decide) (SPL_of (by omega)))
  have r43 : ∀ k, g2.2.2.1 (z + 43) k = if k = 31 then nI n else if k = 54 then nI b else if k = 53 then nI gt else h1.2.2.1 (z + 43) k := fun k => by
    rw [eg2]; simp only [si_3, u2_at, true_and]
  have rg2 : ∀ c k, c ≠ 43 → g2.2.2.1 (z + c) k = h1.2.2.1 (z + c) k := fun c k hc => by
    rw [eg2, si_3, u2_ne (by omega), si_3, u2_ne (by omega), si_3, u2_ne (by omega)]
  have frA := (fg.tr f1').tr fg2
  have F2 := fxd_fr hF frA
  have e6x : ∀ c k, c = 66 ∨ c = 67 → g2.2.2.1 (z + c) k = D c k := fun c k hc => by
    rw [frA.2.2.2.2.1 c k (by omega) (SPL_no (by omega) (by omega) (by omega) (by omega))]
    exact hess c k (by omega) (by simp [ess]; omega)
  obtain ⟨g3, e3, f3, c3'⟩ := m_51 (n := n) (wt := wt) 8 0 NF g2 (by omega) (by omega) F2 (fun k hk => by rw [e6x 66 k (by omega)]; exact (k66 k hk).1) (fun k hk => absurd hk (Nat.not_lt_zero k))
  have f3' : Fr z SPL g2 g3 := fr_any (fun c k q => SPL_of (by have e : c = 81 := beq_iff_eq.mp q; omega)) f3
  have F3 := fxd_fr F2 f3'
  obtain ⟨g4, e4, f4, c4⟩ := m_81 (n := n) (wc := wc) hn8 hc (2 ^ n) 0 NF g3 (by omega) (by omega) F3 (fun k hk => by
    rw [f3.2.2.2.2.1 67 k (by decide) rfl, e6x 67 k (by omega)]; exact (k67 k hk).1) (fun a ha => absurd ha (Nat.not_lt_zero a))
  have f4' : Fr z SPL g3 g4 := fr_any (fun c k q => SPL_of (by have e : c = 80 := beq_iff_eq.mp q; omega)) f4
  have M4 : MH z g4 wt wc gt b := by
    refine ⟨fxd_fr F3 f4', fun k hk => by rw [f4.2.2.2.2.1 81 k (by decide) rfl]; exact c3' k hk, ?_, ?_⟩
    · rw [f4.2.2.2.2.1 43 53 (by decide) rfl, f3.2.2.2.2.1 43 53 (by decide) rfl, r43]; rfl
    · rw [f4.2.2.2.2.1 43 54 (by decide) rfl, f3.2.2.2.2.1 43 54 (by decide) rfl, r43]; rfl
  obtain ⟨h2, tm, e5, f5, Tm, MTm⟩ := m_153 hb2 hb6 hw hg hc hn1 hn8 (2 ^ n - 1) 1 NF g4 (fun _ _ => 0) (by omega) (by omega) (Nat.le_refl 1) M4 c4 (fun s h1 h2 => by omega) (fun s h1 h2 => by omega)
  have f5' : Fr z SPL g4 h2 := fr_any (fun c k q => SPL_of (by simp only [Sv, Bool.or_eq_true, beq_iff_eq] at q; omega)) f5
  have frM := (f3'.tr f4').tr f5'
  have fr := frA.tr frM
  have uq := Tab_uq hb2 Tc Tm
  have FF := fxd_fr hF fr
  -- cells that only the class writes stand as the class left them
  have keep : ∀ c k, c < 43 → h2.2.2.1 (z + c) k = h1.2.2.1 (z + c) k := fun c k hc => by
    rw [f5.2.2.2.2.1 c k (by omega) (by simp [Sv]; omega), f4.2.2.2.2.1 c k (by omega) (by simp; omega), f3.2.2.2.2.1 c k (by omega) (by simp; omega), rg2 c k (by omega)]
  have keep43 : ∀ k, h2.2.2.1 (z + 43) k = g2.2.2.1 (z + 43) k := fun k => by
    rw [f5.2.2.2.2.1 43 k (by decide) rfl, f4.2.2.2.2.1 43 k (by decide) rfl, f3.2.2.2.2.1 43 k (by decide) rfl]
  have k15 : ∀ k, h2.2.2.1 (z + 15) k = g.2.2.1 (z + 15) k := fun k => by rw [keep 15 k (by decide), f1.2.2.2.2.1 15 k (by decide) (by simp [SP])]
  obtain ⟨D2, eD⟩ : ∃ D2 : Nat → Nat → Int32, D2 = fun c k => if SPL c k = true then h2.2.2.1 (z + c) k else D c k := ⟨_, rfl⟩
  have dy : ∀ c k, SPL c k = true → D2 c k = h2.2.2.1 (z + c) k := fun c k q => by rw [eD]; exact if_pos q
  have dn : ∀ c k, SPL c k = false → D2 c k = D c k := fun c k q => by rw [eD]; exact if_neg (by rw [q]; decide)
  have hess2 : ∀ c k, c < 82 → ess c k = true → h2.2.2.1 (z + c) k = D2 c k := fun c k hc he => by
    cases q : SPL c k
    · rw [dn c k q, fr.2.2.2.2.1 c k hc q]; exact hess c k hc he
    · rw [dy c k q]
  have hDT : DT D2 wt wc gt b n tc := by
    refine ⟨fun k hk => ?_, ?_, fun s hs => ?_, fun s h1 h2' => ⟨?_, fun j y1 y2 => ?_⟩⟩
    · rw [dy 81 k (SPL_of (by omega)), f5.2.2.2.2.1 81 k (by decide) rfl, f4.2.2.2.2.1 81 k (by decide) rfl]; exact c3' k hk
    · rw [dy 43 53 (SPL_of (by omega)), keep43, r43]; rfl
    · rw [dy 80 s (SPL_of (by omega)), f5.2.2.2.2.1 80 s (by decide) rfl]; exact c4 s hs
    · rw [dy 79 s (SPL_of (by omega)), uq s h1 h2' 0 (by omega)]; exact (MTm s h1 h2').1
    · rw [dy 78 _ (SPL_of (by omega)), uq s h1 h2' j y2]; exact (MTm s h1 h2').2 j y1 y2
  have spk : ∀ c k, ((18 ≤ c ∧ c ≤ 20) ∨ (23 ≤ c ∧ c ≤ 27) ∨ (30 ≤ c ∧ c ≤ 34)) → 1 ≤ k → SPL c k = true := fun c k hc hk => SPL_of (Or.inr (Or.inl (by simp only [SP, Bool.or_eq_true, Bool.and_eq_true, decide_eq_true_eq]; omega)))
  have hTBL : TBL (pv D2) n b := by
    have e : ∀ c k, (18 ≤ c ∧ c ≤ 34) ∨ (c = 43 ∧ k = 53) ∨ (78 ≤ c ∧ c ≤ 81) → pv D2 c k = D2 c k := fun c k hc => by unfold pv; rw [if_pos (by omega)]
    refine TBL_of (t := tc) hn8 hb2 hb6 hw hg hc ?_ Tc (fun s s1 s2 => ?_)
    · obtain ⟨a1, a2, a3, a4⟩ := hDT
      exact ⟨fun k hk => by rw [e 81 k (by omega)]; exact a1 k hk, by rw [e 43 53 (by omega)]; exact a2, fun s hs => by rw [e 80 s (by omega)]; exact a3 s hs, fun s s1 s2 => ⟨by rw [e 79 s (by omega)]; exact (a4 s s1 s2).1, fun j y1 y2 => by rw [e 78 _ (by omega)]; exact (a4 s s1 s2).2 j y1 y2⟩⟩
    · obtain ⟨⟨f, x1, x2⟩, x3⟩ := CFc s s1 s2
      refine ⟨⟨f, by rw [e 20 s (by omega), dy 20 s (spk 20 s (by omega) s1), keep 20 s (by decide)]; exact x1, x2⟩, fun j y1 y2 => ?_⟩
      obtain ⟨fj, u1, u2⟩ := x3 j y1 y2
      exact ⟨fj, by rw [e (29 + j) s (by omega), dy (29 + j) s (spk _ s (by omega) s1), keep (29 + j) s (by omega)]; exact u1, u2⟩
  have hPLN : PLN (pv D2) := by
    have e : ∀ c k, (c = 15 ∧ (k = 2 ∨ k = 3)) ∨ (18 ≤ c ∧ c ≤ 34) ∨ (c = 43 ∧ (k = 31 ∨ k = 53 ∨ k = 54)) → pv D2 c k = D2 c k := fun c k hc => by unfold pv; rw [if_pos (by omega)]
    refine ⟨?_, fun s s1 s2 => ?_, fun j j1 j2 => ?_, ?_, Or.inr ⟨n, b, hn1, hn8, hb2, hb6, ?_, ?_, ?_, ?_, hTBL⟩⟩
    · rw [e 22 0 (by omega), dn 22 0 (SPL_no (by omega) (by omega) (by omega) (by omega))]; exact P1
    · rw [e 22 s (by omega), dn 22 s (SPL_no (by omega) (by omega) (by omega) (by omega))]; exact P2 s s1 s2
    · rw [e (22 + j) 0 (by omega), dn (22 + j) 0 (SPL_no (by omega) (by omega) (by omega) (by omega))]; exact P3 j j1 j2
    · rw [e 18 0 (by omega), dn 18 0 (SPL_no (by omega) (by omega) (by omega) (by omega))]; exact P4
    · rw [e 43 31 (by omega), dy 43 31 (SPL_of (by omega)), keep43, r43]; rfl
    · rw [e 15 2 (by omega), dy 15 2 (SPL_of (by omega)), k15, r15]; rfl
    · rw [e 43 54 (by omega), dy 43 54 (SPL_of (by omega)), keep43, r43]; rfl
    · rw [e 15 3 (by omega), dy 15 3 (SPL_of (by omega)), k15, r15]; rfl
  have same : ∀ c k, (44 ≤ c ∧ c ≤ 77) ∨ c < 15 ∨ c = 16 ∨ c = 17 → D2 c k = D c k := fun c k hc => dn c k (SPL_no (by omega) (by omega) (by omega) (by omega))
  have hVD : VD D2 n0 ng := by
    refine ⟨w1, by rw [dn 43 0 (SPL_no (by omega) (by omega) (by omega) (by omega))]; exact w2, by rw [same 1 1 (by omega)]; exact w3, fun p hp => PV_cong (fun c k x y => same c k (by omega)) (w4 p hp), w5, by rw [dn 43 15 (SPL_no (by omega) (by omega) (by omega) (by omega))]; exact w6, by rw [same 8 2 (by omega)]; exact w7, fun q hq => ?_, fun k hk => ?_, fun k => by rw [same 74 k (by omega)]; exact w10 k, hPLN⟩
    · have := w8 q hq
      unfold GV at this ⊢
      rw [same 58 q (by omega), same 10 q (by omega), same 59 q (by omega), same 60 q (by omega), same 61 q (by omega), same 62 q (by omega), same 63 q (by omega)]
      exact this
    · rw [same 66 k (by omega), same 67 k (by omega), same 16 k (by omega), same 17 k (by omega)]
      exact w9 k hk
  have hDyn : Dyn z h h2 := ⟨by rw [fr.2.2.2.1]; exact Nat.le_refl _, fun a _ => ⟨by rw [fr.1], by rw [fr.2.1]⟩, fun a _ _ => by rw [fr.2.2.1], fun a ha _ => fr.2.2.2.2.2 a ha⟩
  have hDY : DY z h2 D2 n0 ng pa ba la ca := DY_cong (fun c k x y => same c k (by omega)) (fun c k x y _ => same c k (by omega)) (DY_dyn hF hDyn hR.2.2.2)
  have scT : ScT z h h2 := fr.scT fun c k q => by
    simp only [SPL, SP, Bool.or_eq_true, Bool.and_eq_true, beq_iff_eq, decide_eq_true_eq] at q
    omega
  have ea : (1 : Int32) <<< (nI n &&& 31) - 1 = nI (2 ^ n - 1) := by
    rw [shl_n n hn8]
    obtain ⟨x, ex⟩ : ∃ x, 2 ^ n = x + 1 := ⟨2 ^ n - 1, by omega⟩
    rw [ex]; exact nI_pred x
  refine ⟨nI (tc (2 ^ n - 1) 0), h1, h2, ?_, fk_43 F1, ?_, ⟨D2, n0, ng, pa, ba, la, ca, FF, hess2, hVD, hDY⟩, Told_scr hT scT⟩
  · have em : fX6_make (z + 15) (nI n) (nI gt) (nI b) h = some (nI (tc (2 ^ n - 1) 0), h1) := by
      simp only [fX6_make, fk_15 hF, gk_s, nm_d, ea, ← eg]
      exact e1
    simp only [fX10_plan, l_within, b2_s, bi_0, if_neg (not_not_intro c1), if_neg (not_not_intro c2), if_neg (not_not_intro c3), fk_0 hF, gk_s, fr_0_5 hF, bd_s, fk_15 hF, em]
  · simp only [fX11_plan, l_in, b2_s, bi_0, if_neg (not_not_intro c1), if_neg (not_not_intro c2), if_neg (not_not_intro c3), fk_43 F1, gk_s, nm_d, ← eg2]
    rw [uq (2 ^ n - 1) (by omega) (by omega) 0 (by omega)]
    exact (e3.trans e4).trans e5
end
