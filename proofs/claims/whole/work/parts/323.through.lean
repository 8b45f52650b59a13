/-! the class: a whole call -/
section
variable {z b : Nat} {h : Hp} {D : Nat → Nat → Int32} {n ng : Nat} {pa ba : Nat → Nat} {la : Nat → Nat → Nat} {ca : Nat → Nat} {p s : Nat} {w v u : Int32} {kn : Bool} {T : Nat → Nat} {P a : Nat} {e l : Int32} {t c k cl m : Nat} {se cm ks : Nat → Int32} {wo : Option Nat}
/-- a heap in which class and caller stand -/
def CX (z b : Nat) (h : Hp) (D : Nat → Nat → Int32) (n ng : Nat) (pa ba : Nat → Nat) (la : Nat → Nat → Nat) (ca : Nat → Nat) (kn : Bool) (T : Nat → Nat) (wo : Option Nat) (a : Nat) (w v u : Int32) (P : Nat) : Prop :=
  RelB z h D n ng pa ba la ca ∧ KW z h n kn T wo ∧ CaV z h a w v u ∧ CaP z h a P
theorem CX.fr {h h' : Hp} (hb : b = 35 ∨ b = 39) (hX : CX z b h D n ng pa ba la ca kn T wo a w v u P) (hS : Fr z (Sw b) h h') : CX z b h' D n ng pa ba la ca kn T wo a w v u P :=
  ⟨hS.relB (Sw_ess hb) hX.1, hX.2.1.fr hb hS, hX.2.2.1.fr hS, hX.2.2.2.fr hS⟩
theorem x_line71 (hb : b = 35 ∨ b = 39) (hX : CX z b h D n ng pa ba la ca kn T wo a w v u P) (hp : p < n) {j : Nat} (hj : j < toN (D 53 p)) (ht : t ≤ P) (hk : k < 1000000) (hS : CS z b h (-1) t l c k cl se cm ks) :
    ∃ h', fX8_passMenu_71 (z + b) (pa p) (some a) (nI j) h = some (D 57 (6 * p + j), h') ∧ Fr z (Sw b) h h' ∧ CS z b h' (if P < t + 1 then 2 else -1) (if P < t + 1 then P else t + 1) l c (k + 1) cl se cm (va_up ks k (D 55 (6 * p + j))) := by
  have hR := hX.1
  have hF := hR.1
  obtain ⟨hs, h6⟩ := sz_toN hR hp
  obtain ⟨p1, p2, p3, p5, p6, p7, p8, p9, p10, p11, p12, p13⟩ := x_pl hR hp
  obtain ⟨l0, l1, l2, l3, l4, l5, l6⟩ := x_ln hR hp hs h6 hj
  obtain ⟨w1, -⟩ := wb_f hF hb
  obtain ⟨h', e1, f1, c1⟩ := x_press hF hb hX.2.2.2 ht hk (D 55 (6 * p + j)) hS
  have hR' := f1.relB (Sw_ess hb) hR
  obtain ⟨p1', p2', p3', -⟩ := x_pl hR' hp
  obtain ⟨l0', l1', l2', l3', l4', l5', l6'⟩ := x_ln hR' hp hs h6 hj
  refine ⟨h', ?_, f1, c1⟩
  simp only [fX8_passMenu_71, p1, gk_s, p2, bd_s, p3, l0, gd_e (ix_nI (p := j) (N := 6) (by omega) (by decide)), nI_clamp (n := j) (by omega), l1, l2, w1, l4, e1, b2_s, p1', p2', p3', l0', l1', l2', l6']
theorem x_line71' (hb : b = 35 ∨ b = 39) (hX : CX z b h D n ng pa ba la ca kn T wo a w v u P) (hp : p < n) {j : Nat} (hj : j < toN (D 53 p)) (he : e ≠ -1) (hS : CS z b h e t l c k cl se cm ks) :
    fX8_passMenu_71 (z + b) (pa p) (some a) (nI j) h = some (D 57 (6 * p + j), h) := by
  have hR := hX.1
  have hF := hR.1
  obtain ⟨hs, h6⟩ := sz_toN hR hp
  obtain ⟨p1, p2, p3, p5, p6, p7, p8, p9, p10, p11, p12, p13⟩ := x_pl hR hp
  obtain ⟨l0, l1, l2, l3, l4, l5, l6⟩ := x_ln hR hp hs h6 hj
  obtain ⟨w1, -⟩ := wb_f hF hb
  simp only [fX8_passMenu_71, p1, gk_s, p2, bd_s, p3, l0, gd_e (ix_nI (p := j) (N := 6) (by omega) (by decide)), nI_clamp (n := j) (by omega), l1, l2, w1, l4, x_press0 hF hb he _ hS, b2_s, l6]
theorem x_menu40 (hb : b = 35 ∨ b = 39) (hX : CX z b h D n ng pa ba la ca kn T wo a w v u P) (hp : p < n) (h0 : D 44 p = 0) (ht : t ≤ P) (hS : CS z b h e t l c k cl se cm ks) :
    ∃ h', fX8_passMenu_40 (z + b) (some (pa p)) (some a) h = some (D 47 p, h') ∧ Fr z (Sw b) h h' ∧ CS z b h' (if P < t + toN (hrD D p (toN (D 53 p))) then 2 else e) (if P < t + toN (hrD D p (toN (D 53 p))) then P else t + toN (hrD D p (toN (D 53 p)))) l c k cl se cm ks := by
  have hR := hX.1
  have hF := hR.1
  obtain ⟨hs, h6⟩ := sz_toN hR hp
  obtain ⟨p1, -⟩ := x_pl hR hp
  obtain ⟨w1, -⟩ := wb_f hF hb
  obtain ⟨t', k', b', -, -, -, -, -, -, -, -, ehr, g1, g2⟩ := hr_rg (pv_of hR hp) h0 hs h6
  have e1 : toN (hrD D p (toN (D 53 p))) = t' * (k' + b') := by rw [ehr, toN_nI (by omega)]
  have hPc := hX.2.2.2.2.2.2
  obtain ⟨h', e2, f1, c1⟩ := x_spend (m := t' * (k' + b')) hF hb hX.2.2.2 (by omega) (by omega) hS
  have hR' := f1.relB (Sw_ess hb) hR
  obtain ⟨p1', p2', p3', p5', p6', p7', p8', -⟩ := x_pl hR' hp
  rw [e1]
  refine ⟨h', ?_, f1, c1⟩
  simp only [fX8_passMenu_40, bd_s, p1, gk_s, x_hearing hR hp h0 hs h6, b2_s, w1, ehr, e2, p1', p8']
set_option maxHeartbeats 1000000 in
theorem x_pass (hb : b = 35 ∨ b = 39) (hX : CX z b h D n ng pa ba la ca kn T wo a w v u P) (hp : p < n) (ht : t ≤ P) (hk : k < 1000000) (hS : CS z b h (-1) t (nI p) c k cl se cm ks) :
    ∃ h', fX8_pass (z + b) (some (pa p)) wo (some a) h = some (nxD D w v u kn T p, h') ∧ Fr z (Sw b) h h'
      ∧ CS z b h' (if P < t2D D w v kn T P p t then 2 else if svD D w p = true then 0 else if D 44 p = 1 then 1 else -1) (if P < t2D D w v kn T P p t then P else t2D D w v kn T P p t) (nI p) c (k2D D w v kn T P p t k) cl se cm (ksD D w v kn T P p t k ks) := by
  have hR := hX.1
  have hF := hR.1
  have hP := pv_of hR hp
  have n40 := (rb_n hR).2.2
  have P5 := hX.2.2.2.2.2.2
  obtain ⟨hs, h6⟩ := sz_toN hR hp
  obtain ⟨p1, p2, p3, p5, p6, p7, p8, p9, p10, p11, p12, p13⟩ := x_pl hR hp
  obtain ⟨w1, -⟩ := wb_f hF hb
  obtain ⟨v0, v1, v2, v3, v4⟩ := hX.2.2.1
  obtain ⟨e45, q1, q2⟩ := nI_toN hP.2.1 (by decide)
  rcases kd_of hP with r | r | r | r | r
  · -- a menu
    have hsv : svD D w p = false := by unfold svD; rw [r]; rfl
    have e6 : h.2.2.1 (pa p) 6 = nI (toN (D 53 p)) := by rw [p10]; exact hs
    obtain ⟨j, ej⟩ : ∃ j, j = jD D w kn T p := ⟨_, rfl⟩
    have hpm : fX8_passMenu (z + b) (some (pa p)) wo (some a) h = fX8_passMenu_24 (z + b) (some (pa p)) wo (some a) (if j < toN (D 53 p) then nI j else -1) h := by
      rcases hX.2.1 with ⟨k1, k2, k3⟩ | ⟨k1, k2⟩
      · subst k1
        have hl : h.2.2.1 (z + b) 3 = nI p := hS.2.2.2.1
        simp only [fX8_passMenu, k2, rn, w1, gk_s, fk_3 hF, hl, x_bestLine (w := w) hR hp r k3, b2_s, ej]
      · subst k1
        simp only [fX8_passMenu, k2, rn, bd_s, v1, gk_s, p1, v2, x_first (T := T) hR hp, b2_s, ej]
    by_cases hj : j < toN (D 53 p)
    · have hj6 : j < 6 := by omega
      have hhk : hkD D w kn T p = true := by unfold hkD; rw [← ej]; simp [r, hj]
      have hnx : nxD D w v u kn T p = D 57 (6 * p + j) := by unfold nxD; rw [if_pos r, ← ej, if_pos hj]
      have hneg : ¬ nI j < 0 := nI_pos (by omega)
      have hlt : nI j < h.2.2.1 (pa p) 6 := by rw [e6]; exact nI_lt hj (by omega)
      rw [if_pos hj] at hpm
      rcases hX.2.1 with ⟨k1, k2, k3⟩ | ⟨k1, k2⟩
      · -- who knows
        have hd : dtD D w v kn T p = 0 := by unfold dtD; rw [if_pos r, ← ej, if_pos hj, if_pos k1]
        obtain ⟨h', e1, f1, c1⟩ := x_line71 hb hX hp hj ht hk hS
        refine ⟨h', ?_, f1, ?_⟩
        · simp only [fX8_pass, bd_s, p1, gk_s, nm_d, p5, r, if_pos, w1]
          rw [hpm]
          simp only [fX8_passMenu_24, if_neg hneg, bd_s, p1, gk_s, if_pos hlt, k2, rn, e1, b2_s, hnx]
        · have h1 : t2D D w v kn T P p t = t + 1 := by unfold t2D; rw [hd, if_pos ⟨hhk, by omega⟩]
          have h2 : k2D D w v kn T P p t k = k + 1 := by unfold k2D; rw [hd, if_pos ⟨hhk, by omega⟩]
          have h3 : ksD D w v kn T P p t k ks = va_up ks k (D 55 (6 * p + j)) := by unfold ksD; rw [hd, if_pos ⟨hhk, by omega⟩, ej]
          rw [h1, h2, h3, hsv, r]
          exact c1
      · -- who listens
        obtain ⟨kt, kt1, kt2, kt3⟩ := tl_rg hP hs h6 (j + 1) (by omega)
        have hd : dtD D w v kn T p = kt := by
          unfold dtD
          rw [if_pos r, ← ej, if_pos hj, if_neg (by rw [k1]; decide), kt3, toN_nI (by omega)]
        obtain ⟨h1, e1, f1, c1⟩ := x_spend (m := kt) hF hb hX.2.2.2 (by omega) (by omega) hS
        have hX1 := hX.fr hb f1
        have hF1 := hX1.1.1
        obtain ⟨w1', -⟩ := wb_f hF1 hb
        by_cases qq : P < t + kt
        · rw [if_pos qq, if_pos qq] at c1
          refine ⟨h1, ?_, f1, ?_⟩
          · simp only [fX8_pass, bd_s, p1, gk_s, nm_d, p5, r, if_pos, w1]
            rw [hpm]
            simp only [fX8_passMenu_24, if_neg hneg, bd_s, p1, gk_s, if_pos hlt, k2, rn, nI_1, x_ticksOfLines hR hp hs h6 (m := j + 1) (by omega), kt3, b2_s, w1, e1, x_line71' hb hX1 hp hj (by decide) c1, hnx]
          · have g1 : t2D D w v kn T P p t = t + kt := by unfold t2D; rw [hd, if_neg (by omega)]
            have g2 : k2D D w v kn T P p t k = k := by unfold k2D; rw [hd, if_neg (by omega)]
            have g3 : ksD D w v kn T P p t k ks = ks := by unfold ksD; rw [hd, if_neg (by omega)]
            rw [g1, g2, g3, if_pos qq, if_pos qq]
            exact c1
        · rw [if_neg qq, if_neg qq] at c1
          obtain ⟨h2, e2, f2, c2⟩ := x_line71 hb hX1 hp hj (by omega) hk c1
          refine ⟨h2, ?_, f1.tr f2, ?_⟩
          · simp only [fX8_pass, bd_s, p1, gk_s, nm_d, p5, r, if_pos, w1]
            rw [hpm]
            simp only [fX8_passMenu_24, if_neg hneg, bd_s, p1, gk_s, if_pos hlt, k2, rn, nI_1, x_ticksOfLines hR hp hs h6 (m := j + 1) (by omega), kt3, b2_s, w1, e1, e2, hnx]
          · have g1 : t2D D w v kn T P p t = t + kt + 1 := by unfold t2D; rw [hd, if_pos ⟨hhk, by omega⟩]
            have g2 : k2D D w v kn T P p t k = k + 1 := by unfold k2D; rw [hd, if_pos ⟨hhk, by omega⟩]
            have g3 : ksD D w v kn T P p t k ks = va_up ks k (D 55 (6 * p + j)) := by unfold ksD; rw [hd, if_pos ⟨hhk, by omega⟩, ej]
            rw [g1, g2, g3, hsv, r]
            exact c2
    · have hhk : hkD D w kn T p = false := by unfold hkD; rw [← ej]; simp [hj]
      have hnx : nxD D w v u kn T p = D 47 p := by unfold nxD; rw [if_pos r, ← ej, if_neg hj]
      have hd : dtD D w v kn T p = toN (hrD D p (toN (D 53 p))) := by unfold dtD; rw [if_pos r, ← ej, if_neg hj]
      rw [if_neg hj] at hpm
      obtain ⟨h', e1, f1, c1⟩ := x_menu40 hb hX hp r ht hS
      refine ⟨h', ?_, f1, ?_⟩
      · simp only [fX8_pass, bd_s, p1, gk_s, nm_d, p5, r, if_pos, w1]
        rw [hpm]
        simp only [fX8_passMenu_24, if_pos (show (-1 : Int32) < 0 by decide), e1, b2_s, hnx]
      · have g1 : t2D D w v kn T P p t = t + toN (hrD D p (toN (D 53 p))) := by unfold t2D; rw [hd, hhk, if_neg (by simp)]
        have g2 : k2D D w v kn T P p t k = k := by unfold k2D; rw [hhk, if_neg (by simp)]
        have g3 : ksD D w v kn T P p t k ks = ks := by unfold ksD; rw [hhk, if_neg (by simp)]
        rw [g1, g2, g3, hsv, r]
        exact c1
  · -- a desk
    have hhk : hkD D w kn T p = false := by unfold hkD; rw [r]; rfl
    have hd : dtD D w v kn T p = toN (D 45 p) := by unfold dtD; rw [r, if_neg (by decide), if_neg (by decide), if_neg (by decide)]
    have hnx : nxD D w v u kn T p = -1 := by unfold nxD; rw [r, if_neg (by decide), if_neg (by decide), if_neg (by decide)]; exact hP.2.2.2.2.2.2.2.2.2.2.1 r
    have g1 : t2D D w v kn T P p t = t + toN (D 45 p) := by unfold t2D; rw [hd, hhk, if_neg (by simp)]
    have g2 : k2D D w v kn T P p t k = k := by unfold k2D; rw [hhk, if_neg (by simp)]
    have g3 : ksD D w v kn T P p t k ks = ks := by unfold ksD; rw [hhk, if_neg (by simp)]
    obtain ⟨h1, e1, f1, c1⟩ := x_spend (m := toN (D 45 p)) hF hb hX.2.2.2 (by omega) (by omega) hS
    have hX1 := hX.fr hb f1
    have hF1 := hX1.1.1
    obtain ⟨w1', -⟩ := wb_f hF1 hb
    obtain ⟨p1', -⟩ := x_pl hX1.1 hp
    obtain ⟨-, v1', v2', -⟩ := hX1.2.2.1
    rw [e45] at e1
    by_cases q : bitD (D 49 p) w
    · obtain ⟨h2, e2, f2, c2⟩ := x_finish hF1 hb 0 c1
      have hsv : svD D w p = true := decide_eq_true ⟨Or.inl r, q⟩
      refine ⟨h2, ?_, f1.tr f2, ?_⟩
      · simp only [fX8_pass, bd_s, p1, gk_s, nm_d, p5, r, if_neg (show ¬ (1 : Int32) = 0 by decide), if_pos, w1, p6, e1, b2_s, v1', p1', v2', x_serves hX1.1 hp, bi_0, if_neg (not_not_intro q), w1', e2, hnx]
      · rw [g1, g2, g3, hsv]
        by_cases qq : P < t + toN (D 45 p)
        · rw [if_pos qq, if_pos qq]
          rw [if_pos qq, if_pos qq, if_neg (by decide)] at c2
          exact c2
        · rw [if_neg qq, if_neg qq]
          rw [if_neg qq, if_neg qq, if_pos rfl] at c2
          exact c2
    · obtain ⟨h2, e2, f2, c2⟩ := x_finish hF1 hb 1 c1
      have hsv : svD D w p = false := by unfold svD; simp [q]
      refine ⟨h2, ?_, f1.tr f2, ?_⟩
      · simp only [fX8_pass, bd_s, p1, gk_s, nm_d, p5, r, if_neg (show ¬ (1 : Int32) = 0 by decide), if_pos, w1, p6, e1, b2_s, v1', p1', v2', x_serves hX1.1 hp, bi_0, if_pos q, w1', e2, hnx]
      · rw [g1, g2, g3, hsv]
        by_cases qq : P < t + toN (D 45 p)
        · rw [if_pos qq, if_pos qq]
          rw [if_pos qq, if_pos qq, if_neg (by decide)] at c2
          exact c2
        · rw [if_neg qq, if_neg qq, if_neg (by decide), if_pos r]
          rw [if_neg qq, if_neg qq, if_pos rfl] at c2
          exact c2
  · -- a leaf
    have hhk : hkD D w kn T p = false := by unfold hkD; rw [r]; rfl
    have hd : dtD D w v kn T p = toN (D 45 p) := by unfold dtD; rw [r, if_neg (by decide), if_neg (by decide), if_neg (by decide)]
    have hnx : nxD D w v u kn T p = D 47 p := by unfold nxD; rw [r, if_neg (by decide), if_neg (by decide), if_neg (by decide)]
    have g1 : t2D D w v kn T P p t = t + toN (D 45 p) := by unfold t2D; rw [hd, hhk, if_neg (by simp)]
    have g2 : k2D D w v kn T P p t k = k := by unfold k2D; rw [hhk, if_neg (by simp)]
    have g3 : ksD D w v kn T P p t k ks = ks := by unfold ksD; rw [hhk, if_neg (by simp)]
    obtain ⟨h1, e1, f1, c1⟩ := x_spend (m := toN (D 45 p)) hF hb hX.2.2.2 (by omega) (by omega) hS
    have hX1 := hX.fr hb f1
    have hF1 := hX1.1.1
    obtain ⟨w1', -⟩ := wb_f hF1 hb
    obtain ⟨p1', -, -, -, -, -, p8', -⟩ := x_pl hX1.1 hp
    obtain ⟨-, v1', v2', -⟩ := hX1.2.2.1
    rw [e45] at e1
    have r1 : ¬ D 44 p = 1 := by rw [r]; decide
    by_cases q : bitD (D 49 p) w
    · obtain ⟨h2, e2, f2, c2⟩ := x_finish hF1 hb 0 c1
      have hX2 := hX1.fr hb f2
      obtain ⟨p1'', -, -, -, -, -, p8'', -⟩ := x_pl hX2.1 hp
      have hsv : svD D w p = true := decide_eq_true ⟨Or.inr r, q⟩
      refine ⟨h2, ?_, f1.tr f2, ?_⟩
      · simp only [fX8_pass, bd_s, p1, gk_s, nm_d, p5, r, if_neg (show ¬ (2 : Int32) = 0 by decide), if_neg (show ¬ (2 : Int32) = 1 by decide), if_pos, w1, p6, e1, b2_s, v1', p1', v2', x_serves hX1.1 hp, bi_0, if_neg (not_not_intro q), w1', e2, hnx, p1'', p8'']
      · rw [g1, g2, g3, hsv]
        by_cases qq : P < t + toN (D 45 p)
        · rw [if_pos qq, if_pos qq]
          rw [if_pos qq, if_pos qq, if_neg (by decide)] at c2
          exact c2
        · rw [if_neg qq, if_neg qq]
          rw [if_neg qq, if_neg qq, if_pos rfl] at c2
          exact c2
    · have hsv : svD D w p = false := by unfold svD; simp [q]
      refine ⟨h1, ?_, f1, ?_⟩
      · simp only [fX8_pass, bd_s, p1, gk_s, nm_d, p5, r, if_neg (show ¬ (2 : Int32) = 0 by decide), if_neg (show ¬ (2 : Int32) = 1 by decide), if_pos, w1, p6, e1, b2_s, v1', p1', v2', x_serves hX1.1 hp, bi_0, if_pos q, hnx, p8']
      · rw [g1, g2, g3, hsv, r]
        exact c1
  · -- a clock
    have hhk : hkD D w kn T p = false := by unfold hkD; rw [r]; rfl
    have hnx : nxD D w v u kn T p = nxH D p u := by unfold nxD; rw [r, if_neg (by decide), if_pos rfl]
    have g1 : t2D D w v kn T P p t = t := t2_cl r
    have g2 : k2D D w v kn T P p t k = k := by unfold k2D; rw [hhk, if_neg (by simp)]
    have g3 : ksD D w v kn T P p t k ks = ks := by unfold ksD; rw [hhk, if_neg (by simp)]
    have hsv : svD D w p = false := by unfold svD; rw [r]; rfl
    refine ⟨h, ?_, Fr.rf, ?_⟩
    · simp only [fX8_pass, bd_s, p1, gk_s, nm_d, p5, r, if_neg (show ¬ (3 : Int32) = 0 by decide), if_neg (show ¬ (3 : Int32) = 1 by decide), if_neg (show ¬ (3 : Int32) = 2 by decide), if_pos, v1, v4, x_nextAtHour hR hp r, b2_s, hnx]
    · rw [g1, g2, g3, hsv, if_neg (show ¬ P < t by omega), if_neg (show ¬ P < t by omega), r]
      exact hS
  · -- asked
    have hhk : hkD D w kn T p = false := by unfold hkD; rw [r]; rfl
    have hnx : nxD D w v u kn T p = nxN D p v := by unfold nxD; rw [r, if_neg (by decide), if_neg (by decide), if_pos rfl]
    have hd : dtD D w v kn T p = toN (trD D p v (if kn = true then 1 else 0)) := by unfold dtD; rw [r, if_neg (by decide), if_neg (by decide), if_pos rfl]
    have g1 : t2D D w v kn T P p t = t + toN (trD D p v (if kn = true then 1 else 0)) := by unfold t2D; rw [hd, hhk, if_neg (by simp)]
    have g2 : k2D D w v kn T P p t k = k := by unfold k2D; rw [hhk, if_neg (by simp)]
    have g3 : ksD D w v kn T P p t k ks = ks := by unfold ksD; rw [hhk, if_neg (by simp)]
    have hsv : svD D w p = false := by unfold svD; rw [r]; rfl
    obtain ⟨j, j1, j2, j3⟩ := tr_rg hP r v (if kn = true then 1 else 0)
    have ej : toN (trD D p v (if kn = true then 1 else 0)) = j := by rw [j3, toN_nI (by omega)]
    rw [ej] at g1
    obtain ⟨h1, e1, f1, c1⟩ := x_spend (m := j) hF hb hX.2.2.2 (by omega) (by omega) hS
    have hX1 := hX.fr hb f1
    obtain ⟨p1', -⟩ := x_pl hX1.1 hp
    obtain ⟨-, v1', -, v3', -⟩ := hX1.2.2.1
    have e129 : fX8_pass_129 (pa p) a (if kn = true then 1 else 0) v (pa p) (z + b) h = some (nxN D p v, h1) := by
      simp only [fX8_pass_129, p1, gk_s, x_ticksOfTries hR hp r, b2_s, w1, j3, e1, v1', p1', v3', x_nextForNumber hX1.1 hp r]
    refine ⟨h1, ?_, f1, ?_⟩
    · simp only [fX8_pass, bd_s, p1, gk_s, nm_d, p5, r, if_neg (show ¬ (4 : Int32) = 0 by decide), if_neg (show ¬ (4 : Int32) = 1 by decide), if_neg (show ¬ (4 : Int32) = 2 by decide), if_neg (show ¬ (4 : Int32) = 3 by decide), v1, v3]
      rcases hX.2.1 with ⟨k1, k2, k3⟩ | ⟨k1, k2⟩
      · subst k1
        simp only [if_true] at e129
        rw [k2]
        simp only [rn, e129, hnx]
      · subst k1
        simp only [Bool.false_eq_true, if_false] at e129
        rw [k2]
        simp only [rn, e129, hnx]
    · rw [g1, g2, g3, hsv, r]
      exact c1
end
