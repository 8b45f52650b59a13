/-! the class: the places of a call, one after another -/
section
variable {z b : Nat} {h : Hp} {D : Nat → Nat → Int32} {n ng : Nat} {pa ba : Nat → Nat} {la : Nat → Nat → Nat} {ca : Nat → Nat} {p s : Nat} {w v u : Int32} {kn : Bool} {T : Nat → Nat} {P a : Nat} {wo : Option Nat}
/-- a call that has ended, as the class holds it -/
def CE (z b : Nat) (h : Hp) (r : WR) : Prop := ∃ cl, CS z b h r.1 r.2.1 (nI r.2.2.1) r.2.2.2.1 r.2.2.2.2.1 cl r.2.2.2.2.2.1 r.2.2.2.2.2.2.1 r.2.2.2.2.2.2.2
theorem x_stop {F : Nat} {x y e : Int32} {j : Nat} (hF : fxd z h) (hb : b = 35 ∨ b = 39) (hj : j < 1000000) (he : e ≠ -1) (h1 : h.2.2.1 (z + b) 1 = e) : fx bX8_goThrough_10 (fun _ _ _ _ _ _ _ => none) (F + 1) (z + b) (some (z + 1)) wo (some a) x (nI j) h = some ((), h) := by
  obtain ⟨w1, -⟩ := wb_f hF hb
  have n6 : ¬ (1000000 : Int32) ≤ nI j := nI_ge (b := 1000000) hj (by decide)
  rw [fx_s]
  simp only [bX8_goThrough_10, if_neg n6, w1, gk_s, h1, if_neg he]
theorem not_place {x : Int32} (hx : n ≤ tg x) (hn : n ≤ 40) : ∀ q, q < n → x ≠ nI q := fun q hq ex => by
  rw [ex, tg_nI (by omega)] at hx
  omega
theorem x_loop (hb : b = 35 ∨ b = 39) : ∀ (f F j p t c k cl : Nat) (l : Int32) (se cm ks : Nat → Int32) (h : Hp) (r : WR), wk D n w v u kn T P f p t c k cl se cm ks = some r → f + 1 < F → j + f + 1 < 1000000 → c ≤ j → k ≤ j → t ≤ P → cl ≤ 40 → p < n → CX z b h D n ng pa ba la ca kn T wo a w v u P → CS z b h (-1) t l c k cl se cm ks →
    ∃ h', fx bX8_goThrough_10 (fun _ _ _ _ _ _ _ => none) F (z + b) (some (z + 1)) wo (some a) (nI p) (nI j) h = some ((), h') ∧ Fr z (Sw b) h h' ∧ CE z b h' r := by
  intro f
  induction f with
  | zero => intro F j p t c k cl l se cm ks h r hw; exact absurd hw (by simp [wk])
  | succ f ih =>
    intro F j p t c k cl l se cm ks h r hw hFu hj hc hk ht hcl hp hX hS
    obtain ⟨F, rfl⟩ : ∃ k, F = k + 1 + 1 + 1 := ⟨F - 3, by omega⟩
    have hR := hX.1
    have hF := hR.1
    have n40 := (rb_n hR).2.2
    obtain ⟨w1, -⟩ := wb_f hF hb
    obtain ⟨p1, p2, p3, p5, -⟩ := x_pl hR hp
    have n6 : ¬ (1000000 : Int32) ≤ nI j := nI_ge (b := 1000000) (by omega) (by decide)
    have h1m : h.2.2.1 (z + b) 1 = -1 := hS.2.1
    obtain ⟨h1, e1, f1, c1⟩ := x_come (e := -1) hF hb (show p < 40 by omega) (by omega) hcl (D 44 p) hS
    have ecl : (if D 44 p = 3 then cl + 1 else 0) = clD D p cl := rfl
    rw [ecl] at c1
    have hX1 := hX.fr hb f1
    have hF1 := hX1.1.1
    obtain ⟨w1', -⟩ := wb_f hF1 hb
    unfold wk at hw
    by_cases q1 : 40 < clD D p cl
    · rw [if_pos q1] at hw
      rw [if_pos q1] at c1
      have r3 : D 44 p = 3 := Classical.byContradiction fun q => by unfold clD at q1; rw [if_neg q] at q1; omega
      obtain ⟨p1', -, -, p5', -⟩ := x_pl hX1.1 hp
      obtain ⟨-, v1', -, -, v4'⟩ := hX1.2.2.1
      have e2 : fX8_pass (z + b) (some (pa p)) wo (some a) h1 = some (nxH D p u, h1) := by
        simp only [fX8_pass, bd_s, p1', gk_s, nm_d, p5', r3, if_neg (show ¬ (3 : Int32) = 0 by decide), if_neg (show ¬ (3 : Int32) = 1 by decide), if_neg (show ¬ (3 : Int32) = 2 by decide), if_pos, v1', v4', x_nextAtHour hX1.1 hp r3, b2_s]
      refine ⟨h1, ?_, f1, ?_⟩
      · rw [fx_s]
        simp only [bX8_goThrough_10, if_neg n6, w1, gk_s, h1m, if_pos, bd_s, fk_1 hF, x_at_t hR hp, b2_s, rn, p1, p5, e1, w1', e2, nm_d, nI_1]
        exact x_stop (y := 0) hF1 hb (by omega) (show (3 : Int32) ≠ -1 by decide) c1.2.1
      · cases hw
        exact ⟨_, c1⟩
    · rw [if_neg q1] at hw
      rw [if_neg q1] at c1
      obtain ⟨h2, e2, f2, c2⟩ := x_pass (k := k) hb hX1 hp ht (by omega) c1
      have hX2 := hX1.fr hb f2
      have hF2 := hX2.1.1
      obtain ⟨w1'', -⟩ := wb_f hF2 hb
      have hgo : fx bX8_goThrough_10 (fun _ _ _ _ _ _ _ => none) (F + 1 + 1 + 1) (z + b) (some (z + 1)) wo (some a) (nI p) (nI j) h = fx bX8_goThrough_10 (fun _ _ _ _ _ _ _ => none) (F + 1 + 1) (z + b) (some (z + 1)) wo (some a) (nxD D w v u kn T p) (nI (j + 1)) h2 := by
        rw [fx_s]
        simp only [bX8_goThrough_10, if_neg n6, w1, gk_s, h1m, if_pos, bd_s, fk_1 hF, x_at_t hR hp, b2_s, rn, p1, p5, e1, w1', e2, nm_d, nI_1]
      by_cases q2 : P < t2D D w v kn T P p t
      · rw [if_pos q2] at hw
        rw [if_pos q2, if_pos q2] at c2
        refine ⟨h2, ?_, f1.tr f2, ?_⟩
        · rw [hgo]
          exact x_stop (y := 0) hF2 hb (by omega) (show (2 : Int32) ≠ -1 by decide) c2.2.1
        · cases hw
          exact ⟨_, c2⟩
      · rw [if_neg q2] at hw
        rw [if_neg q2, if_neg q2] at c2
        by_cases q3 : svD D w p = true
        · rw [if_pos q3] at hw
          rw [if_pos q3] at c2
          refine ⟨h2, ?_, f1.tr f2, ?_⟩
          · rw [hgo]
            exact x_stop (y := 0) hF2 hb (by omega) (show (0 : Int32) ≠ -1 by decide) c2.2.1
          · cases hw
            exact ⟨_, c2⟩
        · rw [if_neg q3] at hw
          rw [if_neg q3] at c2
          by_cases q4 : tg (nxD D w v u kn T p) < n
          · rw [if_pos q4] at hw
            have hnx := nxD_nxt (w := w) (v := v) (u := u) (kn := kn) (T := T) hR hp
            have ex := (tg_in hnx).2.1 (by omega)
            have r1 : ¬ D 44 p = 1 := fun r => by
              have : nxD D w v u kn T p = -1 := by
                unfold nxD
                rw [r, if_neg (by decide), if_neg (by decide), if_neg (by decide)]
                exact (pv_of hR hp).2.2.2.2.2.2.2.2.2.2.1 r
              rw [this] at q4
              have : tg (-1) = 40 := rfl
              omega
            rw [if_neg r1] at c2
            have hk2 : k2D D w v kn T P p t k ≤ k + 1 := by unfold k2D; split <;> omega
            obtain ⟨h3, e3, f3, c3⟩ := ih (F + 1 + 1) (j + 1) _ _ _ _ _ (nI p) _ _ _ h2 r hw (by omega) (by omega) (by omega) (by omega) (by omega) (by omega) q4 hX2 c2
            refine ⟨h3, ?_, (f1.tr f2).tr f3, c3⟩
            rw [hgo]
            rw [← ex] at e3
            exact e3
          · rw [if_neg q4] at hw
            by_cases r1 : D 44 p = 1
            · rw [if_pos r1] at c2
              refine ⟨h2, ?_, f1.tr f2, ?_⟩
              · rw [hgo]
                exact x_stop (y := 0) hF2 hb (by omega) (show (1 : Int32) ≠ -1 by decide) c2.2.1
              · cases hw
                exact ⟨_, c2⟩
            · rw [if_neg r1] at c2
              have n62 : ¬ (1000000 : Int32) ≤ nI (j + 1) := nI_ge (b := 1000000) (by omega) (by decide)
              have f3 : Fr z (Sw b) h2 (hp_si h2 (z + b) 1 1) := Fr.sw (d := 0) hb (by decide)
              have hF3 : fxd z (hp_si h2 (z + b) 1 1) := hF2
              have hat := x_at_f hX2.1 (not_place (x := nxD D w v u kn T p) (by omega) n40)
              refine ⟨hp_si h2 (z + b) 1 1, ?_, (f1.tr f2).tr f3, ?_⟩
              · rw [hgo, fx_s]
                simp only [bX8_goThrough_10, if_neg n62, w1'', gk_s, c2.2.1, if_pos, bd_s, fk_1 hF2, hat, b2_s, rn, nm_d, nI_1]
                exact x_stop (y := 0) hF3 hb (by omega) (show (1 : Int32) ≠ -1 by decide) (by rw [si_3, u2_at, if_pos ⟨rfl, rfl⟩])
              · cases hw
                obtain ⟨s0, s1, s2, s3, s4, s5, s9, sse, scm, sks⟩ := c2
                refine ⟨clD D p cl, ?_, ?_, ?_, ?_, ?_, ?_, ?_, fun q hq => ?_, fun q hq hq2 => ?_, fun q hq hq2 => ?_⟩ <;> (try rw [si_3, u2_at])
                · rw [if_neg (by omega)]; exact s0
                · rw [if_pos ⟨rfl, rfl⟩]
                · rw [if_neg (by omega)]; exact s2
                · rw [if_neg (by omega)]; exact s3
                · rw [if_neg (by omega)]; exact s4
                · rw [if_neg (by omega)]; exact s5
                · rw [if_neg (by omega)]; exact s9
                · rw [if_neg (by omega)]; exact sse q hq
                · rw [if_neg (by omega)]; exact scm q hq hq2
                · rw [if_neg (by omega)]; exact sks q hq hq2
/-- a row of marks is cleared -/
theorem x_clear_l {a N : Nat} (hN : N < 2 ^ 31) : ∀ (d i f : Nat) (h : Hp), h.1 a = 14 → h.2.1 a = N → i + d = N → d < f → ∃ h', fx bX10_clear_2 (fun _ _ _ => none) f (some a) (nI i) h = some ((), h') ∧ h'.1 = h.1 ∧ h'.2.1 = h.2.1 ∧ h'.2.2.2 = h.2.2.2 ∧ (∀ b, b ≠ a → h'.2.2.1 b = h.2.2.1 b) ∧ (∀ k, h'.2.2.1 a k = if i ≤ k ∧ k < N then 0 else h.2.2.1 a k) := by
  intro d
  induction d with
  | zero =>
    intro i f h h1 h2 hi hf
    obtain ⟨f, rfl⟩ : ∃ k, f = k + 1 := ⟨f - 1, by omega⟩
    refine ⟨h, ?_, rfl, rfl, rfl, fun _ _ => rfl, fun k => by rw [if_neg (by omega)]⟩
    rw [fx_s]
    have e : Int32.ofNat N ≤ nI i := nI_le (show N ≤ i by omega) (by omega)
    simp only [bX10_clear_2, bd_s, h1, gk_s, h2, if_pos e]
  | succ d ih =>
    intro i f h h1 h2 hi hf
    obtain ⟨f, rfl⟩ : ∃ k, f = k + 1 := ⟨f - 1, by omega⟩
    obtain ⟨h', e1, e2, e3, e4, e5, e6⟩ := ih (i + 1) f (hp_si h a i 0) h1 h2 (by omega) (by omega)
    refine ⟨h', ?_, e2, e3, e4, fun b hb => (e5 b hb).trans (u2_ne hb), fun k => ?_⟩
    · rw [fx_s]
      have e : ¬ Int32.ofNat N ≤ nI i := nI_ge (show i < N by omega) (by omega)
      simp only [bX10_clear_2, bd_s, h1, gk_s, h2, if_neg e, gd_e (ix_nI (p := i) (N := N) (by omega) hN), nI_clamp (n := i) (by omega), nm_d, nI_1]
      exact e1
    · rw [e6 k]
      show (if _ then _ else u2 _ _ _ _ _ _) = _
      rw [u2_at]
      by_cases q : i = k
      · subst q
        rw [if_neg (by omega), if_pos ⟨rfl, rfl⟩, if_pos (by omega)]
      · by_cases q2 : i + 1 ≤ k ∧ k < N
        · rw [if_pos q2, if_pos (by omega)]
        · rw [if_neg q2, if_neg (by omega), if_neg (by omega)]
theorem x_clear {a N : Nat} {h : Hp} (hN : N < 2000000) (h1 : h.1 a = 14) (h2 : h.2.1 a = N) : ∃ h', fX10_clear (some a) h = some ((), h') ∧ h'.1 = h.1 ∧ h'.2.1 = h.2.1 ∧ h'.2.2.2 = h.2.2.2 ∧ (∀ b, b ≠ a → h'.2.2.1 b = h.2.2.1 b) ∧ (∀ k, h'.2.2.1 a k = if k < N then 0 else h.2.2.1 a k) := by
  obtain ⟨h', e1, e2, e3, e4, e5, e6⟩ := x_clear_l (a := a) (N := N) (by omega) N 0 NF h h1 h2 (by omega) (by have := NF_big; omega)
  exact ⟨h', e1, e2, e3, e4, e5, fun k => by rw [e6 k]; simp only [Nat.zero_le, true_and]⟩
theorem x_begin (hF : fxd z h) (hb : b = 35 ∨ b = 39) : ∃ h', fX8_begin (z + b) h = some ((), h') ∧ Fr z (Sw b) h h' ∧ CS z b h' (-1) 0 0 0 0 0 (fun _ => 0) (fun _ => 0) (fun _ => 0) := by
  obtain ⟨w1, w2, w3, w4, w5, w6, w7, w8, w9, w10⟩ := wb_f hF hb
  obtain ⟨h1, eh1⟩ : ∃ h1, h1 = hp_si (hp_si (hp_si (hp_si (hp_si (hp_si (hp_si h (z + b) 0 1) (z + b) 1 (-1)) (z + b) 2 0) (z + b) 3 0) (z + b) 4 0) (z + b) 5 0) (z + b) 9 0 := ⟨_, rfl⟩
  have f1 : Fr z (Sw b) h h1 := by
    rw [eh1]
    exact ((((((Fr.sw (d := 0) hb (by decide)).tr (Fr.sw (d := 0) hb (by decide))).tr (Fr.sw (d := 0) hb (by decide))).tr (Fr.sw (d := 0) hb (by decide))).tr (Fr.sw (d := 0) hb (by decide))).tr (Fr.sw (d := 0) hb (by decide))).tr (Fr.sw (d := 0) hb (by decide))
  have rd : ∀ j, h1.2.2.1 (z + b) j = if j = 9 then 0 else if j = 5 then 0 else if j = 4 then 0 else if j = 3 then 0 else if j = 2 then 0 else if j = 1 then -1 else if j = 0 then 1 else h.2.2.1 (z + b) j := fun j => by
    rw [eh1]; simp only [si_3, u2_at, true_and]
  obtain ⟨h2, e1, e2, e3, e4, e5, e6⟩ := x_clear (a := z + (b + 3)) (N := 40) (h := h1) (by decide) (by rw [f1.1]; exact w7) (by rw [f1.2.1]; exact w10)
  have f2 : Fr z (Sw b) h1 h2 := fr_of_row (c := b + 3) (by omega) (fun k => by simp [Sw]) e2 e3 e4 e5
  refine ⟨h2, ?_, f1.tr f2, ?_, ?_, ?_, ?_, ?_, ?_, ?_, fun q hq => ?_, fun q hq hq2 => absurd hq2 (Nat.not_lt_zero q), fun q hq hq2 => absurd hq2 (Nat.not_lt_zero q)⟩
  · have e8 : h1.2.2.2.1 (z + b) 8 = some (z + (b + 3)) := by rw [f1.2.2.1]; exact w4
    simp only [fX8_begin, w1, gk_s, nm_d, ← eh1, e8, bd_s, e1, b2_s]
  all_goals first | (rw [e5 _ (by omega), rd]; rfl) | skip
  rw [e6 q, if_pos hq]
/-- a call of the class -/
theorem x_through (hb : b = 35 ∨ b = 39) (hX : CX z b h D n ng pa ba la ca kn T wo a w v u P) (hn : 0 < n) : ∃ r h', wk D n w v u kn T P 300000 0 0 0 0 0 (fun _ => 0) (fun _ => 0) (fun _ => 0) = some r ∧ fX8_goThrough (z + b) (some (z + 1)) wo (some a) h = some ((), h') ∧ Fr z (Sw b) h h' ∧ CE z b h' r := by
  have hF := hX.1.1
  have P5 := hX.2.2.2.2.2.2
  obtain ⟨w1, -⟩ := wb_f hF hb
  obtain ⟨r, hr⟩ := wk_end (w := w) (v := v) (u := u) (kn := kn) (T := T) (P := P) hX.1 P5 300000 0 0 0 0 0 (fun _ => 0) (fun _ => 0) (fun _ => 0) hn (Nat.zero_le _) (by decide) (by omega)
  obtain ⟨h1, e1, f1, c1⟩ := x_begin hF hb
  obtain ⟨h2, e2, f2, c2⟩ := x_loop hb 300000 NF 0 0 0 0 0 0 0 _ _ _ h1 r hr (by have := NF_big; omega) (by decide) (by decide) (by decide) (Nat.zero_le _) (by decide) hn (hX.fr hb f1) c1
  refine ⟨r, h2, hr, ?_, f1.tr f2, c2⟩
  simp only [fX8_goThrough, w1, gk_s, e1, b2_s]
  exact e2
end
