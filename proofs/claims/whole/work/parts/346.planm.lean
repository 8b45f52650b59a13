/-! the model's plan: a line's cost, the least line -/
theorem nI_sub {a b : Nat} (h : b ≤ a) : nI a - nI b = nI (a - b) := by
  have e : nI a = nI (a - b) + nI b := by rw [nI_add, Nat.sub_add_cancel h]
  rw [e, Int32.add_sub_cancel]
section
variable {z : Nat} {h : Hp} {wt wc : Nat → Nat} {gt b : Nat} {t : Nat → Nat → Nat} {s J : Nat}
def MH (z : Nat) (h : Hp) (wt wc : Nat → Nat) (gt b : Nat) : Prop := fxd z h ∧ (∀ k, k < 8 → h.2.2.1 (z + 81) k = nI (wt k)) ∧ h.2.2.1 (z + 43) 53 = nI gt ∧ h.2.2.1 (z + 43) 54 = nI b
theorem m_isAlone {q : Nat} (h1 : 1 ≤ q) (h2 : q < 256) : fX11_isAlone (nI q) h = some (if oneB q = true then 1 else 0, h) := by
  simp only [fX11_isAlone, oneB_I h1 h2]
  by_cases o : oneB q = true
  · rw [if_pos o, if_pos o]
  · rw [if_neg o, if_neg o]
theorem m_ticksOf (hM : MH z h wt wc gt b) {q : Nat} (h1 : 1 ≤ q) (h2 : q < 256) : fX11_ticksOf (z + 43) (nI q) h = some (nI (tkN wt gt q), h) := by
  obtain ⟨hF, m1, m2, m3⟩ := hM
  obtain ⟨z1, -, -, -, z5, -⟩ := tz_facts q h2 h1
  have nfb := NF_big
  by_cases o : oneB q = true
  · have e0 : tkN wt gt q = wt (tz q) := by unfold tkN; rw [if_pos o]
    have hq := z5 o
    have key : ∀ (d i f : Nat), i + d = 8 → d < f → fx bX11_ticksOf_7 (fun _ _ _ _ _ => none) f (z + 43) (nI q) (nI (if tz q < i then wt (tz q) else gt)) (nI i) h = some (nI (wt (tz q)), h) := by
      intro d
      induction d with
      | zero =>
        intro i f hi hf
        obtain ⟨f, rfl⟩ : ∃ k, f = k + 1 := ⟨f - 1, by omega⟩
        obtain rfl : i = 8 := by omega
        rw [fx_s]
        simp only [bX11_ticksOf_7, if_pos (show (8 : Int32) ≤ nI 8 by decide), if_pos z1]
      | succ d ih =>
        intro i f hi hf
        obtain ⟨f, rfl⟩ : ∃ k, f = k + 1 := ⟨f - 1, by omega⟩
        have nx := ih (i + 1) f (by omega) (by omega)
        have epw : (nI q = (1 : Int32) <<< (nI i &&& 31)) = (i = tz q) := by
          rw [shl_n i (by omega)]
          have hp8 : (2 : Nat) ^ i ≤ 2 ^ 8 := Nat.pow_le_pow_right (by decide) (by omega)
          apply propext
          constructor
          · intro x
            have x2 : q = 2 ^ i := (nI_eq (by omega) (by omega)).mp x
            rw [hq] at x2
            have := (Nat.pow_right_inj (a := 2) (by decide)).mp x2
            omega
          · intro x
            rw [x, ← hq]
        rw [fx_s]
        simp only [bX11_ticksOf_7, if_neg (show ¬ (8 : Int32) ≤ nI i from nI_ge (b := 8) (by omega) (by decide)), m_isAlone h1 h2, b2_s, if_pos o, if_neg (show ¬ (1 : Int32) = 0 by decide), epw, fk_43 hF, gk_s, fr_43_56 hF, bd_s, fk_81 hF, fl_81 hF, gd_e (ix_nI (p := i) (N := 8) (by omega) (by decide)), nI_clamp (n := i) (by omega), m1 i (by omega), nm_d, nI_1]
        by_cases e : i = tz q
        · rw [if_pos e, e]
          rw [if_pos (by omega), e] at nx
          exact nx
        · rw [if_neg e]
          have : (if tz q < i + 1 then wt (tz q) else gt) = (if tz q < i then wt (tz q) else gt) := by
            by_cases x : tz q < i
            · rw [if_pos x, if_pos (by omega)]
            · rw [if_neg x, if_neg (by omega)]
          rw [this] at nx
          exact nx
    have := key 8 0 NF (by omega) (by omega)
    rw [if_neg (by omega)] at this
    simp only [fX11_ticksOf, fk_43 hF, gk_s, nm_d, m2, e0]
    exact this
  · have e0 : tkN wt gt q = gt := by unfold tkN; rw [if_neg o]
    obtain ⟨F, eF⟩ : ∃ F, NF = F + 1 := ⟨NF - 1, by omega⟩
    simp only [fX11_ticksOf, fk_43 hF, gk_s, nm_d, m2, e0, fX11_ticksOf_7, eF]
    rw [fx_s]
    simp only [bX11_ticksOf_7, if_neg (show ¬ (8 : Int32) ≤ 0 by decide), m_isAlone h1 h2, b2_s, if_neg o, if_true]
theorem m_lineCost (hM : MH z h wt wc gt b) {q j : Nat} (h1 : 1 ≤ q) (hs2 : s < 256) (hq : q &&& s = q) (hj : j < 6) (h80 : h.2.2.1 (z + 80) s = nI (calN wc s)) (h79 : ¬ oneB q = true → h.2.2.1 (z + 79) q = nI (t q 0)) (h78 : q ≠ s → 1 ≤ j → h.2.2.1 (z + 78) (256 * j + (s - q)) = nI (t (s - q) j) ∧ t (s - q) j < 100000000) :
    fX11_lineCost (z + 43) (nI s) (nI q) (nI j) h = some (nI (if q = s ∨ 1 ≤ j then coN wt wc gt t s q j else 100000000), h) := by
  have hle := sub_le hq
  have hF := hM.1
  have h2 : q < 256 := by omega
  have p0 : ix (nI q) 256 = true := ix_nI (by omega) (by decide)
  have p1 : (nI q).toNatClampNeg = q := nI_clamp (by omega)
  have e8 : (100000000 : Int32) = nI 100000000 := rfl
  have st : fX11_lineCost (z + 43) (nI s) (nI q) (nI j) h = fX11_lineCost_17 (z + 43) (nI s) (nI q) (nI j) (nI (if oneB q = true then 0 else t q 0)) h := by
    by_cases o : oneB q = true
    · simp only [fX11_lineCost, m_isAlone h1 h2, b2_s, if_pos o, if_neg (show ¬ (1 : Int32) = 0 by decide)]
      rfl
    · simp only [fX11_lineCost, m_isAlone h1 h2, b2_s, if_neg o, if_true, fk_43 hF, gk_s, fr_43_52 hF, bd_s, fk_79 hF, fl_79 hF, gd_e p0, p1, h79 o]
  have t51 : ∀ x r : Nat, r < 100000000 → fX11_lineCost_51 (z + 43) (nI s) (nI q) (nI x) (nI r) h = some (nI (tkN wt gt q * calN wc s + x + r), h) := fun x r hr => by
    have hne : ¬ nI r = 100000000 := fun e => by
      have := (nI_eq (b := 100000000) (by omega) (by decide)).mp e
      omega
    simp only [fX11_lineCost_51, if_neg hne, fk_43 hF, gk_s, m_ticksOf hM h1 h2, b2_s, fr_43_55 hF, bd_s, fk_80 hF, fl_80 hF, gd_e (ix_nI (p := s) (N := 256) (by omega) (by decide)), nI_clamp (n := s) (by omega), h80, nI_mul, nI_add]
  rw [st]
  by_cases e : q = s
  · rw [if_pos (Or.inl e)]
    have es : nI s = nI q := by rw [e]
    simp only [fX11_lineCost_17, if_pos es]
    have := t51 (if oneB q = true then 0 else t q 0) 0 (by decide)
    unfold coN
    rw [if_pos e]
    exact this
  · have es : ¬ nI s = nI q := fun x => e ((nI_eq (by omega) (by omega)).mp x).symm
    by_cases j0 : j = 0
    · have ej : nI j = 0 := by rw [j0]; rfl
      rw [if_neg (show ¬ (q = s ∨ 1 ≤ j) by omega)]
      simp only [fX11_lineCost_17, if_neg es, if_pos ej, fX11_lineCost_51, if_true]
      rfl
    · have ej : ¬ nI j = 0 := nI_ne0 (by omega) (by omega)
      obtain ⟨y1, y2⟩ := h78 e (by omega)
      have ei : 256 * nI j + nI s - nI q = nI (256 * j + (s - q)) := by
        rw [show (256 : Int32) = nI 256 from rfl, nI_mul, nI_add, nI_sub (by omega)]
        congr 1
        omega
      rw [if_pos (Or.inr (by omega))]
      simp only [fX11_lineCost_17, if_neg es, if_neg ej, fk_43 hF, gk_s, fr_43_51 hF, bd_s, fk_78 hF, fl_78 hF, ei, gd_e (ix_nI (p := 256 * j + (s - q)) (N := 1792) (by omega) (by decide)), nI_clamp (n := 256 * j + (s - q)) (by omega), y1]
      have := t51 (if oneB q = true then 0 else t q 0) (t (s - q) j) y2
      unfold coN
      rw [if_neg e]
      exact this
/-- the model's way up through the parts -/
def Vv (W : Bool) (s J q : Nat) : Prop := 1 ≤ q ∧ q &&& s = q ∧ (W = false → q = s → oneB s = true) ∧ (q = s ∨ 2 ≤ J)
def UpI (V : Nat → Prop) (c : Nat → Nat) (i m : Nat) : Prop := (∀ r, V r → r < i → m ≤ c r) ∧ ((m = 100000000 ∧ ∀ r, V r → ¬ r < i) ∨ ∃ r, V r ∧ r < i ∧ c r = m)
theorem UpI.yes {V : Nat → Prop} {c : Nat → Nat} {i m : Nat} (h : UpI V c i m) (hV : V i) (hc : c i < 100000000) : UpI V c (i + 1) (if m ≤ c i then m else c i) := by
  obtain ⟨h1, h2⟩ := h
  by_cases q : m ≤ c i
  · rw [if_pos q]
    refine ⟨fun r hr hl => ?_, ?_⟩
    · by_cases e : r = i
      · rw [e]; exact q
      · exact h1 r hr (by omega)
    · rcases h2 with ⟨a, -⟩ | ⟨r, a, b, c'⟩
      · omega
      · exact Or.inr ⟨r, a, by omega, c'⟩
  · rw [if_neg q]
    refine ⟨fun r hr hl => ?_, Or.inr ⟨i, hV, by omega, rfl⟩⟩
    by_cases e : r = i
    · rw [e]; exact Nat.le_refl _
    · have := h1 r hr (by omega)
      omega
theorem UpI.no {V : Nat → Prop} {c : Nat → Nat} {i m : Nat} (h : UpI V c i m) (hV : ¬ V i) : UpI V c (i + 1) m := by
  obtain ⟨h1, h2⟩ := h
  have ne : ∀ r, V r → r < i + 1 → r < i := fun r hr hl => by
    have : r ≠ i := fun e => hV (by rw [← e]; exact hr)
    omega
  refine ⟨fun r hr hl => h1 r hr (ne r hr hl), ?_⟩
  rcases h2 with ⟨a, b⟩ | ⟨r, a, b, c'⟩
  · exact Or.inl ⟨a, fun r hr hl => b r hr (ne r hr hl)⟩
  · exact Or.inr ⟨r, a, by omega, c'⟩
theorem UpI.fin {V : Nat → Prop} {c : Nat → Nat} {i m q : Nat} (h : UpI V c i m) (hq : V q) (hV : ∀ r, V r → r < i) : IsMin V c m := by
  obtain ⟨h1, h2⟩ := h
  rcases h2 with ⟨-, b⟩ | ⟨r, a, b, c'⟩
  · exact absurd (hV q hq) (b q hq)
  · exact ⟨⟨r, a, c'⟩, fun x hx => h1 x hx (hV x hx)⟩
theorem m_leastLine (W : Bool) (hM : MH z h wt wc gt b) (hs1 : 1 ≤ s) (hs2 : s < 256) (hJ1 : 1 ≤ J) (hJ6 : J ≤ 6) (h80 : h.2.2.1 (z + 80) s = nI (calN wc s)) (h79 : ∀ q, Vv W s J q → ¬ oneB q = true → h.2.2.1 (z + 79) q = nI (t q 0)) (h79' : W = true → ¬ oneB s = true → h.2.2.1 (z + 79) s = nI (t s 0)) (h79a : ∀ q, 1 ≤ q → q < s → h.2.2.1 (z + 79) q = nI (t q 0))
    (h78 : ∀ q, 1 ≤ q → q < s → 2 ≤ J → h.2.2.1 (z + 78) (256 * (J - 1) + q) = nI (t q (J - 1)) ∧ t q (J - 1) < 100000000) (hbd : ∀ q, Vv W s J q → coN wt wc gt t s q (J - 1) < 100000000) {q0 : Nat} (hq0 : Vv W s J q0) :
    ∃ m, fX11_leastLine (z + 43) (nI s) (nI J) (if W = true then 1 else 0) h = some (nI m, h) ∧ IsMin (Vv W s J) (fun q => coN wt wc gt t s q (J - 1)) m := by
  have nfb := NF_big
  have hF := hM.1
  have eJ : nI J - 1 = nI (J - 1) := by
    obtain ⟨b', rfl⟩ : ∃ b', J = b' + 1 := ⟨J - 1, by omega⟩
    exact nI_pred b'
  have key : ∀ (d i f m : Nat), i + d = s + 1 → 1 ≤ i → d < f → m ≤ 100000000 → UpI (Vv W s J) (fun q => coN wt wc gt t s q (J - 1)) i m → ∃ m', fx bX11_leastLine_7 (fun _ _ _ _ _ _ _ => none) f (z + 43) (nI s) (nI J) (if W = true then 1 else 0) (nI m) (nI i) h = some (nI m', h) ∧ UpI (Vv W s J) (fun q => coN wt wc gt t s q (J - 1)) (s + 1) m' := by
    intro d
    induction d with
    | zero =>
      intro i f m hi hi1 hf hm hU
      obtain ⟨f, rfl⟩ : ∃ k, f = k + 1 := ⟨f - 1, by omega⟩
      obtain rfl : i = s + 1 := by omega
      refine ⟨m, ?_, hU⟩
      rw [fx_s]
      simp only [bX11_leastLine_7, if_pos (nI_lt (show s < s + 1 by omega) (by omega))]
    | succ d ih =>
      intro i f m hi hi1 hf hm hU
      obtain ⟨f, rfl⟩ : ∃ k, f = k + 1 := ⟨f - 1, by omega⟩
      have i2 : i < 256 := by omega
      have e8 : (100000000 : Int32) = nI 100000000 := rfl
      have hno : ¬ Vv W s J i → ∃ m', fX11_leastLine_66 (fx bX11_leastLine_7 (fun _ _ _ _ _ _ _ => none) f) (z + 43) (nI s) (nI J) (if W = true then 1 else 0) (nI m) (nI i) 100000000 h = some (nI m', h) ∧ UpI (Vv W s J) (fun q => coN wt wc gt t s q (J - 1)) (s + 1) m' := fun hv => by
        obtain ⟨m', e1, u1⟩ := ih (i + 1) f m (by omega) (by omega) (by omega) hm (hU.no hv)
        refine ⟨m', ?_, u1⟩
        simp only [fX11_leastLine_66, if_pos (show nI m ≤ 100000000 from nI_le (b := 100000000) hm (by decide)), nm_d, nI_1]
        exact e1
      have e0 : fX11_leastLine_44 (fx bX11_leastLine_7 (fun _ _ _ _ _ _ _ => none) f) (z + 43) (nI s) (nI J) (if W = true then 1 else 0) (nI m) (nI i) 0 h = fX11_leastLine_66 (fx bX11_leastLine_7 (fun _ _ _ _ _ _ _ => none) f) (z + 43) (nI s) (nI J) (if W = true then 1 else 0) (nI m) (nI i) 100000000 h := by
        simp only [fX11_leastLine_44, if_true]
      have eand := and_not0 s hs2 i i2
      by_cases csub : i &&& s = i
      · have c0 : (nI i &&& (nI s ^^^ (-1))) = 0 := of_decide_eq_true (by rw [eand]; exact decide_eq_true csub)
        by_cases cw : W = false ∧ i = s ∧ ¬ oneB s = true
        · -- the whole set, not allowed
          obtain ⟨w1, w2, w3⟩ := cw
          obtain ⟨m', e1, u1⟩ := hno (fun hv => w3 (hv.2.2.1 w1 w2))
          refine ⟨m', ?_, u1⟩
          rw [fx_s]
          have ews : nI i = nI s := by rw [w2]
          have al : fX11_isAlone (nI s) h = some (0, h) := by rw [m_isAlone hs1 hs2, if_neg w3]
          have ew0 : (if W = true then 1 else 0 : Int32) = 0 := by rw [w1]; rfl
          rw [ew0] at e0 e1 ⊢
          simp only [bX11_leastLine_7, if_neg (nI_nlt (show i ≤ s by omega) (by omega)), if_pos c0, if_true, if_pos ews, al, b2_s, e0]
          exact e1
        · -- its cost is asked for
          have hgo : fx bX11_leastLine_7 (fun _ _ _ _ _ _ _ => none) (f + 1) (z + 43) (nI s) (nI J) (if W = true then 1 else 0) (nI m) (nI i) h = fX11_leastLine_44 (fx bX11_leastLine_7 (fun _ _ _ _ _ _ _ => none) f) (z + 43) (nI s) (nI J) (if W = true then 1 else 0) (nI m) (nI i) 1 h := by
            rw [fx_s]
            cases W
            · simp only [bX11_leastLine_7, if_neg (nI_nlt (show i ≤ s by omega) (by omega)), if_pos c0, Bool.false_eq_true, if_false, if_true]
              by_cases ws : i = s
              · have o : oneB s = true := Classical.byContradiction fun x => cw ⟨rfl, ws, x⟩
                rw [if_pos (by rw [ws])]
                simp only [m_isAlone hs1 hs2, b2_s, if_pos o, if_neg (show ¬ (1 : Int32) = 0 by decide)]
              · rw [if_neg (fun x => ws ((nI_eq (by omega) (by omega)).mp x))]
            · simp only [bX11_leastLine_7, if_neg (nI_nlt (show i ≤ s by omega) (by omega)), if_pos c0, if_true, if_neg (show ¬ (1 : Int32) = 0 by decide)]
          have hlc := m_lineCost (s := s) (q := i) (j := J - 1) (t := t) hM hi1 hs2 csub (by omega) h80 (fun o => by
            by_cases ws : i = s
            · rw [ws] at o ⊢
              cases hW : W
              · exact absurd (Classical.byContradiction fun x => cw ⟨hW, ws, x⟩) o
              · exact h79' hW o
            · exact h79a i hi1 (by omega)) (fun ne1 j1 => h78 (s - i) (by omega) (by omega) (by omega))
          have e44 : fX11_leastLine_44 (fx bX11_leastLine_7 (fun _ _ _ _ _ _ _ => none) f) (z + 43) (nI s) (nI J) (if W = true then 1 else 0) (nI m) (nI i) 1 h = fX11_leastLine_66 (fx bX11_leastLine_7 (fun _ _ _ _ _ _ _ => none) f) (z + 43) (nI s) (nI J) (if W = true then 1 else 0) (nI m) (nI i) (nI (if i = s ∨ 1 ≤ J - 1 then coN wt wc gt t s i (J - 1) else 100000000)) h := by
            simp only [fX11_leastLine_44, if_neg (show ¬ (1 : Int32) = 0 by decide), fk_43 hF, gk_s, eJ, hlc, b2_s]
          by_cases cv : i = s ∨ 1 ≤ J - 1
          · have hv : Vv W s J i := ⟨hi1, csub, fun w1 w2 => Classical.byContradiction fun x => cw ⟨w1, w2, x⟩, by omega⟩
            have hcb := hbd i hv
            have hu := hU.yes hv hcb
            obtain ⟨m', e1, u1⟩ := ih (i + 1) f (if m ≤ coN wt wc gt t s i (J - 1) then m else coN wt wc gt t s i (J - 1)) (by omega) (by omega) (by omega) (by split <;> omega) hu
            refine ⟨m', ?_, u1⟩
            rw [hgo, e44, if_pos cv]
            by_cases q : m ≤ coN wt wc gt t s i (J - 1)
            · rw [if_pos q] at e1
              simp only [fX11_leastLine_66, if_pos (nI_le q (by omega)), nm_d, nI_1]
              exact e1
            · rw [if_neg q] at e1
              simp only [fX11_leastLine_66, if_neg (nI_ge (show coN wt wc gt t s i (J - 1) < m by omega) (by omega)), nm_d, nI_1]
              exact e1
          · obtain ⟨m', e1, u1⟩ := hno (fun hv => by have := hv.2.2.2; omega)
            refine ⟨m', ?_, u1⟩
            rw [hgo, e44, if_neg cv]
            exact e1
      · have c0 : ¬ (nI i &&& (nI s ^^^ (-1))) = 0 := of_decide_eq_false (by rw [eand]; exact decide_eq_false csub)
        obtain ⟨m', e1, u1⟩ := hno (fun hv => csub hv.2.1)
        refine ⟨m', ?_, u1⟩
        rw [fx_s]
        simp only [bX11_leastLine_7, if_neg (nI_nlt (show i ≤ s by omega) (by omega)), if_neg c0, e0]
        exact e1
  obtain ⟨m, e1, u1⟩ := key s 1 NF 100000000 (by omega) (Nat.le_refl 1) (by omega) (Nat.le_refl _) ⟨fun r hr hl => by have := hr.1; omega, Or.inl ⟨rfl, fun r hr hl => by have := hr.1; omega⟩⟩
  exact ⟨m, e1, u1.fin hq0 (fun r hr => by have := sub_le hr.2.1; omega)⟩
end
