/-! the model: a call, place after place -/
section
variable {z : Nat} {h : Hp} {D : Nat → Nat → Int32} {n ng : Nat} {pa ba : Nat → Nat} {la : Nat → Nat → Nat} {ca : Nat → Nat} {p s : Nat} {w v u : Int32} {kn : Bool} {T U : Nat → Nat} {P : Nat} {l : Int32} {t c k cl m : Nat} {se cm ks : Nat → Int32}
theorem m_221 (hX : MoX z h D n ng pa ba la ca kn T U w v u P) {x sv : Int32} (hx : nxt x) (ht : t ≤ 100000) (hc : c < 1000000) (hS : MS z h t (nI p) c k cl se cm ks) :
    ∃ o h', fX11_step_221 (z + 43) x sv h = some (o, h') ∧ Fr z Sm h h' ∧
      (if P < t then o = 2 ∧ MS z h' P (nI p) c k cl se cm ks else if sv ≠ 0 then o = 0 ∧ MS z h' t (nI p) c k cl se cm ks
        else if tg x < n then o = -4 ∧ MS z h' t (nI (tg x)) (c + 1) k cl (va_up se (tg x) 1) (va_up cm c (nI (tg x))) ks else o = 1 ∧ MS z h' t (nI p) c k cl se cm ks) := by
  have hR := hX.1
  have hF := hR.1
  obtain ⟨n1, n2, n40⟩ := rb_n hR
  have P5 := hX.2.2.2.1
  have h34 := hX.2.2.1
  by_cases q1 : P < t
  · refine ⟨2, hp_si h (z + 43) 37 (nI P), ?_, Fr.si (by decide) rfl, ?_⟩
    · simp only [fX11_step_221, fk_43 hF, gk_s, hS.1, h34, if_neg (nI_ge q1 (by omega)), nm_d]
    · rw [if_pos q1]; exact ⟨rfl, hS.tk⟩
  have q1' : nI t ≤ nI P := nI_le (by omega) (by omega)
  by_cases q2 : sv = 0
  · by_cases q3 : tg x < n
    · have ex := (tg_in hx).2.1 (by omega)
      obtain ⟨h', e1, f1, c1⟩ := m_comes (p := tg x) hF (by omega) hc hS
      refine ⟨-4, h', ?_, f1, ?_⟩
      · rw [← ex] at e1
        have e2 := m_isPlace_t hF n2 n40 q3
        rw [← ex] at e2
        simp only [fX11_step_221, fk_43 hF, gk_s, hS.1, h34, if_pos q1', if_pos q2, e2, b2_s, if_neg (show ¬ (1 : Int32) = 0 by decide), e1]
      · rw [if_neg q1, if_neg (not_not_intro q2), if_pos q3]; exact ⟨rfl, c1⟩
    · refine ⟨1, h, ?_, Fr.rf, ?_⟩
      · simp only [fX11_step_221, fk_43 hF, gk_s, hS.1, h34, if_pos q1', if_pos q2, m_isPlace_f hF n2 n40 (not_place (x := x) (by omega) n40), b2_s, if_true]
      · rw [if_neg q1, if_neg (not_not_intro q2), if_neg q3]; exact ⟨rfl, hS⟩
  · refine ⟨0, h, ?_, Fr.rf, ?_⟩
    · simp only [fX11_step_221, fk_43 hF, gk_s, hS.1, h34, if_pos q1', if_neg q2]
    · rw [if_neg q1, if_pos q2]; exact ⟨rfl, hS⟩
/-- what a place of the model's call leaves -/
def MO (z : Nat) (h' : Hp) (o : Int32) (D : Nat → Nat → Int32) (n : Nat) (w v u : Int32) (kn : Bool) (T : Nat → Nat) (P p t c k cl : Nat) (se cm ks : Nat → Int32) : Prop :=
  if 40 < clD D p cl then o = 3 ∧ MS z h' t (nI p) c k (clD D p cl) se cm ks
  else if P < t2D D w v kn T P p t then o = 2 ∧ MS z h' P (nI p) c (k2D D w v kn T P p t k) (clD D p cl) se cm (ksD D w v kn T P p t k ks)
  else if svD D w p = true then o = 0 ∧ MS z h' (t2D D w v kn T P p t) (nI p) c (k2D D w v kn T P p t k) (clD D p cl) se cm (ksD D w v kn T P p t k ks)
  else if tg (nxD D w v u kn T p) < n then o = -4 ∧ MS z h' (t2D D w v kn T P p t) (nI (tg (nxD D w v u kn T p))) (c + 1) (k2D D w v kn T P p t k) (clD D p cl) (va_up se (tg (nxD D w v u kn T p)) 1) (va_up cm c (nI (tg (nxD D w v u kn T p)))) (ksD D w v kn T P p t k ks)
  else o = 1 ∧ MS z h' (t2D D w v kn T P p t) (nI p) c (k2D D w v kn T P p t k) (clD D p cl) se cm (ksD D w v kn T P p t k ks)
theorem m_step (hX : MoX z h D n ng pa ba la ca kn T U w v u P) (hp : p < n) (hTp : kn = true → T p < 1000000) (ht : t ≤ P) (hc : c < 1000000) (hk : k < 1000000) (hcl : cl ≤ 40) (hS : MS z h t (nI p) c k cl se cm ks) :
    ∃ o h', fX11_step (z + 43) (if kn = true then 1 else 0) h = some (o, h') ∧ Fr z Sm h h' ∧ MO z h' o D n w v u kn T P p t c k cl se cm ks := by
  have hR := hX.1
  have hF := hR.1
  have hP := pv_of hR hp
  obtain ⟨n1, n2, n40⟩ := rb_n hR
  have P5 := hX.2.2.2.1
  have q0 : ix (nI p) 40 = true := ix_nI (by omega) (by decide)
  have q1 : (nI p).toNatClampNeg = p := nI_clamp (by omega)
  have l38 := hS.2.1
  have l41 := hS.2.2.2.2.1
  have e44 := rb_ess hR 44 p (by decide) rfl
  obtain ⟨g, eg⟩ : ∃ g, g = hp_si h (z + 43) 41 (nI (clD D p cl)) := ⟨_, rfl⟩
  have fg : Fr z Sm h g := by rw [eg]; exact Fr.si (by decide) rfl
  have hXg := hX.fr fg
  have hRg := hXg.1
  have hFg := hRg.1
  have hSg : MS z g t (nI p) c k (clD D p cl) se cm ks := by rw [eg]; exact hS.ck
  have g44 := rb_ess hRg 44 p (by decide) rfl
  have g41 : g.2.2.1 (z + 43) 41 = nI (clD D p cl) := hSg.2.2.2.2.1
  have clb : clD D p cl ≤ 41 := by unfold clD; split <;> omega
  have st : fX11_step (z + 43) (if kn = true then 1 else 0) h = fX11_step_31 (z + 43) (if kn = true then 1 else 0) (nI p) 0 (nI (clD D p cl)) (z + 43) h := by
    by_cases r : D 44 p = 3
    · simp only [fX11_step, fk_43 hF, gk_s, nm_d, fr_43_1 hF, bd_s, fk_44 hF, fl_44 hF, l38, gd_e q0, q1, e44, if_pos r, l41, nI_1]
      rw [show clD D p cl = cl + 1 by unfold clD; rw [if_pos r]]
    · simp only [fX11_step, fk_43 hF, gk_s, nm_d, fr_43_1 hF, bd_s, fk_44 hF, fl_44 hF, l38, gd_e q0, q1, e44, if_neg r]
      rw [show clD D p cl = 0 by unfold clD; rw [if_neg r]]
      rfl
  rw [st]
  unfold MO
  by_cases c1 : 40 < clD D p cl
  · refine ⟨3, g, ?_, fg, by rw [if_pos c1]; exact ⟨rfl, hSg⟩⟩
    simp only [fX11_step_31, fk_43 hF, gk_s, nm_d, ← eg, fk_43 hFg, g41, if_neg (show ¬ nI (clD D p cl) ≤ 40 from nI_ge (a := 40) c1 (by omega))]
  have c1' : nI (clD D p cl) ≤ 40 := nI_le (b := 40) (by omega) (by decide)
  have hdt := dt_le (w := w) (v := v) (kn := kn) (T := T) hR hp
  have ht2 : t2D D w v kn T P p t ≤ 10000 := by unfold t2D; split <;> omega
  have hnx := nxD_nxt (w := w) (v := v) (u := u) (kn := kn) (T := T) hR hp
  simp only [if_neg c1]
  -- what is left, once the ticks are known
  have fin : ∀ (g2 : Hp) (x sv : Int32), Fr z Sm g g2 → MS z g2 (t2D D w v kn T P p t) (nI p) c (k2D D w v kn T P p t k) (clD D p cl) se cm (ksD D w v kn T P p t k ks) → x = nxD D w v u kn T p → (sv ≠ 0 ↔ svD D w p = true) →
      fX11_step_31 (z + 43) (if kn = true then 1 else 0) (nI p) 0 (nI (clD D p cl)) (z + 43) h = fX11_step_221 (z + 43) x sv g2 →
      ∃ o h', fX11_step_31 (z + 43) (if kn = true then 1 else 0) (nI p) 0 (nI (clD D p cl)) (z + 43) h = some (o, h') ∧ Fr z Sm h h' ∧ (if P < t2D D w v kn T P p t then o = 2 ∧ MS z h' P (nI p) c (k2D D w v kn T P p t k) (clD D p cl) se cm (ksD D w v kn T P p t k ks)
  else if svD D w p = true then o = 0 ∧ MS z h' (t2D D w v kn T P p t) (nI p) c (k2D D w v kn T P p t k) (clD D p cl) se cm (ksD D w v kn T P p t k ks)
  else if tg (nxD D w v u kn T p) < n then o = -4 ∧ MS z h' (t2D D w v kn T P p t) (nI (tg (nxD D w v u kn T p))) (c + 1) (k2D D w v kn T P p t k) (clD D p cl) (va_up se (tg (nxD D w v u kn T p)) 1) (va_up cm c (nI (tg (nxD D w v u kn T p)))) (ksD D w v kn T P p t k ks)
  else o = 1 ∧ MS z h' (t2D D w v kn T P p t) (nI p) c (k2D D w v kn T P p t k) (clD D p cl) se cm (ksD D w v kn T P p t k ks)) := by
    intro g2 x sv f2 s2 hx hsv he
    obtain ⟨o, h', e1, f1, r1⟩ := m_221 (x := x) (sv := sv) (hXg.fr f2) (by rw [hx]; exact hnx) (by omega) hc s2
    refine ⟨o, h', he.trans e1, (fg.tr f2).tr f1, ?_⟩
    rw [hx] at r1
    simp only [hsv] at r1
    exact r1
  rcases kd_of hP with r | r | r | r | r
  · obtain ⟨g2, e2, f2, s2⟩ := m_goOn hXg hp r hTp ht hk hSg
    refine fin g2 _ 0 f2 s2 rfl ?_ ?_
    · unfold svD; rw [r]; simp
    · simp only [fX11_step_31, fk_43 hF, gk_s, nm_d, ← eg, fk_43 hFg, g41, if_pos c1', fr_43_1 hFg, bd_s, fk_44 hFg, fl_44 hFg, gd_e q0, q1, g44, r, if_true, e2, b2_s]
  · obtain ⟨e45, a1, a2⟩ := nI_toN hP.2.1 (by decide)
    have hhk : hkD D w kn T p = false := by unfold hkD; rw [r]; simp
    have hd : dtD D w v kn T p = toN (D 45 p) := by unfold dtD; rw [r, if_neg (by decide), if_neg (by decide), if_neg (by decide)]
    have x1 : t2D D w v kn T P p t = t + toN (D 45 p) := by unfold t2D; rw [hd, hhk, if_neg (by simp)]
    have x2 : k2D D w v kn T P p t k = k := by unfold k2D; rw [hhk, if_neg (by simp)]
    have x3 : ksD D w v kn T P p t k ks = ks := by unfold ksD; rw [hhk, if_neg (by simp)]
    obtain ⟨g2, eg2⟩ : ∃ g2, g2 = hp_si g (z + 43) 37 (nI (t + toN (D 45 p))) := ⟨_, rfl⟩
    have f2 : Fr z Sm g g2 := by rw [eg2]; exact Fr.si (by decide) rfl
    have hX2 := hXg.fr f2
    have hF2 := hX2.1.1
    have hsv := m_isServed hX2.1 hp
    rw [hX2.2.1.1] at hsv
    refine fin g2 (D 47 p) (bi (bitD (D 49 p) w)) f2 ?_ ?_ ?_ ?_
    · rw [x1, x2, x3, eg2]; exact hSg.tk
    · unfold nxD; rw [r, if_neg (by decide), if_neg (by decide), if_neg (by decide)]
    · unfold svD bi
      by_cases q : bitD (D 49 p) w
      · rw [if_pos q]; exact ⟨fun _ => decide_eq_true ⟨Or.inl r, q⟩, fun _ => by decide⟩
      · rw [if_neg q]; exact ⟨fun x => absurd rfl x, fun x => absurd (of_decide_eq_true x).2 q⟩
    · have e37 : nI t + D 45 p = nI (t + toN (D 45 p)) := by rw [← e45, nI_add, toN_nI (by omega)]
      simp only [fX11_step_31, fk_43 hF, gk_s, nm_d, ← eg, fk_43 hFg, g41, if_pos c1', fr_43_1 hFg, bd_s, fk_44 hFg, fl_44 hFg, gd_e q0, q1, g44, r, if_neg (show ¬ (1 : Int32) = 0 by decide), if_neg (show ¬ (1 : Int32) = 3 by decide), if_neg (show ¬ (1 : Int32) = 4 by decide), fr_43_2 hFg, fk_45 hFg, fl_45 hFg, rb_ess hRg 45 p (by decide) rfl, hSg.1, e37, ← eg2, hsv, b2_s, fk_43 hF2, fr_43_4 hF2, fk_47 hF2, fl_47 hF2, rb_ess hX2.1 47 p (by decide) rfl]
  · obtain ⟨e45, a1, a2⟩ := nI_toN hP.2.1 (by decide)
    have hhk : hkD D w kn T p = false := by unfold hkD; rw [r]; simp
    have hd : dtD D w v kn T p = toN (D 45 p) := by unfold dtD; rw [r, if_neg (by decide), if_neg (by decide), if_neg (by decide)]
    have x1 : t2D D w v kn T P p t = t + toN (D 45 p) := by unfold t2D; rw [hd, hhk, if_neg (by simp)]
    have x2 : k2D D w v kn T P p t k = k := by unfold k2D; rw [hhk, if_neg (by simp)]
    have x3 : ksD D w v kn T P p t k ks = ks := by unfold ksD; rw [hhk, if_neg (by simp)]
    obtain ⟨g2, eg2⟩ : ∃ g2, g2 = hp_si g (z + 43) 37 (nI (t + toN (D 45 p))) := ⟨_, rfl⟩
    have f2 : Fr z Sm g g2 := by rw [eg2]; exact Fr.si (by decide) rfl
    have hX2 := hXg.fr f2
    have hF2 := hX2.1.1
    have hsv := m_isServed hX2.1 hp
    rw [hX2.2.1.1] at hsv
    refine fin g2 (D 47 p) (bi (bitD (D 49 p) w)) f2 ?_ ?_ ?_ ?_
    · rw [x1, x2, x3, eg2]; exact hSg.tk
    · unfold nxD; rw [r, if_neg (by decide), if_neg (by decide), if_neg (by decide)]
    · unfold svD bi
      by_cases q : bitD (D 49 p) w
      · rw [if_pos q]; exact ⟨fun _ => decide_eq_true ⟨Or.inr r, q⟩, fun _ => by decide⟩
      · rw [if_neg q]; exact ⟨fun x => absurd rfl x, fun x => absurd (of_decide_eq_true x).2 q⟩
    · have e37 : nI t + D 45 p = nI (t + toN (D 45 p)) := by rw [← e45, nI_add, toN_nI (by omega)]
      simp only [fX11_step_31, fk_43 hF, gk_s, nm_d, ← eg, fk_43 hFg, g41, if_pos c1', fr_43_1 hFg, bd_s, fk_44 hFg, fl_44 hFg, gd_e q0, q1, g44, r, if_neg (show ¬ (2 : Int32) = 0 by decide), if_neg (show ¬ (2 : Int32) = 3 by decide), if_neg (show ¬ (2 : Int32) = 4 by decide), fr_43_2 hFg, fk_45 hFg, fl_45 hFg, rb_ess hRg 45 p (by decide) rfl, hSg.1, e37, ← eg2, hsv, b2_s, fk_43 hF2, fr_43_4 hF2, fk_47 hF2, fl_47 hF2, rb_ess hX2.1 47 p (by decide) rfl]
  · have hhk : hkD D w kn T p = false := by unfold hkD; rw [r]; simp
    have x1 : t2D D w v kn T P p t = t := t2_cl r
    have x2 : k2D D w v kn T P p t k = k := by unfold k2D; rw [hhk, if_neg (by simp)]
    have x3 : ksD D w v kn T P p t k ks = ks := by unfold ksD; rw [hhk, if_neg (by simp)]
    have hop := m_isOpen hRg hp
    rw [hXg.2.1.2.2] at hop
    refine fin g (nxH D p u) 0 Fr.rf ?_ ?_ ?_ ?_
    · rw [x1, x2, x3]; exact hSg
    · unfold nxD; rw [r, if_neg (by decide), if_pos rfl]
    · unfold svD; rw [r]; simp
    · simp only [fX11_step_31, fk_43 hF, gk_s, nm_d, ← eg, fk_43 hFg, g41, if_pos c1', fr_43_1 hFg, bd_s, fk_44 hFg, fl_44 hFg, gd_e q0, q1, g44, r, if_neg (show ¬ (3 : Int32) = 0 by decide), if_true, hop, b2_s, bi_0, fr_43_5 hFg, fk_48 hFg, fl_48 hFg, rb_ess hRg 48 p (by decide) rfl, fr_43_4 hFg, fk_47 hFg, fl_47 hFg, rb_ess hRg 47 p (by decide) rfl, nxH]
      by_cases q : opD D p u
      · simp only [if_neg (not_not_intro q), if_pos q]
      · simp only [if_pos q, if_neg q]
  · have hhk : hkD D w kn T p = false := by unfold hkD; rw [r]; simp
    obtain ⟨j, j1, j2, j3⟩ := tr_rg hP r v (if kn = true then 1 else 0)
    have hd : dtD D w v kn T p = j := by unfold dtD; rw [r, if_neg (by decide), if_neg (by decide), if_pos rfl, j3, toN_nI (by omega)]
    have x1 : t2D D w v kn T P p t = t + j := by unfold t2D; rw [hd, hhk, if_neg (by simp)]
    have x2 : k2D D w v kn T P p t k = k := by unfold k2D; rw [hhk, if_neg (by simp)]
    have x3 : ksD D w v kn T P p t k ks = ks := by unfold ksD; rw [hhk, if_neg (by simp)]
    obtain ⟨g2, eg2⟩ : ∃ g2, g2 = hp_si g (z + 43) 37 (nI (t + j)) := ⟨_, rfl⟩
    have f2 : Fr z Sm g g2 := by rw [eg2]; exact Fr.si (by decide) rfl
    have hX2 := hXg.fr f2
    have hF2 := hX2.1.1
    have hr1 := m_isRight hRg hp r
    rw [hXg.2.1.2.1] at hr1
    have hr2 := m_isRight hX2.1 hp r
    rw [hX2.2.1.2.1] at hr2
    have e37 : nI t + trD D p v (if kn = true then 1 else 0) = nI (t + j) := by rw [j3, nI_add]
    refine fin g2 (nxN D p v) 0 f2 ?_ ?_ ?_ ?_
    · rw [x1, x2, x3, eg2]; exact hSg.tk
    · unfold nxD; rw [r, if_neg (by decide), if_neg (by decide), if_pos rfl]
    · unfold svD; rw [r]; simp
    · have e10 : ¬ (1 : Int32) = 0 := by decide
      have tail : fX11_step_161 (z + 43) (nI p) 0 (trD D p v (if kn = true then 1 else 0)) (nI t) (z + 43) g = fX11_step_221 (z + 43) (nxN D p v) 0 g2 := by
        simp only [fX11_step_161, fk_43 hFg, gk_s, nm_d, e37, ← eg2, fk_43 hF2, hr2, b2_s, bi_0, fr_43_5 hF2, bd_s, fk_48 hF2, fl_48 hF2, gd_e q0, q1, rb_ess hX2.1 48 p (by decide) rfl, fr_43_4 hF2, fk_47 hF2, fl_47 hF2, rb_ess hX2.1 47 p (by decide) rfl, nxN]
        by_cases q : rgtD D p v
        · simp only [if_neg (not_not_intro q), if_pos q]
        · simp only [if_pos q, if_neg q]
      have g45 := rb_ess hRg 45 p (by decide) rfl
      have g46 := rb_ess hRg 46 p (by decide) rfl
      have g52 := rb_ess hRg 52 p (by decide) rfl
      rw [← tail]
      cases kn
      · simp only [Bool.false_eq_true, if_false, fX11_step_31, fk_43 hF, gk_s, nm_d, ← eg, fk_43 hFg, g41, if_pos c1', fr_43_1 hFg, bd_s, fk_44 hFg, fl_44 hFg, gd_e q0, q1, g44, r, if_neg (show ¬ (4 : Int32) = 0 by decide), if_neg (show ¬ (4 : Int32) = 3 by decide), if_true, fr_43_9 hFg, fk_52 hFg, fl_52 hFg, fr_43_2 hFg, fk_45 hFg, fl_45 hFg, g45, g52, fX11_step_131, hr1, b2_s, bi_0, fr_43_3 hFg, fk_46 hFg, fl_46 hFg, g46, hSg.1, trD]
        by_cases q : rgtD D p v
        · simp only [if_neg (not_not_intro q), if_pos q, Int32.add_comm (D 52 p)]
        · simp only [if_pos q, if_neg q, Int32.add_comm (D 52 p), Int32.mul_comm (D 46 p)]
      · simp only [if_true, fX11_step_31, fk_43 hF, gk_s, nm_d, ← eg, fk_43 hFg, g41, if_pos c1', fr_43_1 hFg, bd_s, fk_44 hFg, fl_44 hFg, gd_e q0, q1, g44, r, if_neg (show ¬ (4 : Int32) = 0 by decide), if_neg (show ¬ (4 : Int32) = 3 by decide), if_neg e10, fr_43_9 hFg, fk_52 hFg, fl_52 hFg, g52, fX11_step_131, hr1, b2_s, bi_0, fr_43_3 hFg, fk_46 hFg, fl_46 hFg, g46, hSg.1, trD, Int32.add_zero]
        by_cases q : rgtD D p v
        · simp only [if_neg (not_not_intro q), if_pos q]
        · simp only [if_pos q, if_neg q, Int32.mul_comm (D 46 p)]
/-- a call that has ended, as the model holds it -/
def ME (z : Nat) (h : Hp) (r : WR) : Prop := ∃ cl, MS z h r.2.1 (nI r.2.2.1) r.2.2.2.1 r.2.2.2.2.1 cl r.2.2.2.2.2.1 r.2.2.2.2.2.2.1 r.2.2.2.2.2.2.2
def Bst (D : Nat → Nat → Int32) (n : Nat) (w v u : Int32) (kn : Bool) (T : Nat → Nat) : Prop := kn = true → T 0 < 1000000 ∧ ∀ p, p < n → T p < 1000000 → svD D w p = false → tg (nxD D w v u kn T p) < n → T (tg (nxD D w v u kn T p)) < 1000000
theorem m_loop (hB : Bst D n w v u kn T) : ∀ (f F p t c k cl : Nat) (se cm ks : Nat → Int32) (h : Hp) (r : WR), wk D n w v u kn T P f p t c k cl se cm ks = some r → f + 1 < F → c + f < 1000000 → k + f < 1000000 → t ≤ P → cl ≤ 40 → p < n → (kn = true → T p < 1000000) → MoX z h D n ng pa ba la ca kn T U w v u P → MS z h t (nI p) (c + 1) k cl (va_up se p 1) (va_up cm c (nI p)) ks →
    ∃ h', fx bX11_goThrough_104 (fun _ _ _ _ => none) F (z + 43) (if kn = true then 1 else 0) (-4) h = some (r.1, h') ∧ Fr z Sm h h' ∧ ME z h' r := by
  intro f
  induction f with
  | zero => intro F p t c k cl se cm ks h r hw; exact absurd hw (by simp [wk])
  | succ f ih =>
    intro F p t c k cl se cm ks h r hw hFu hc hk ht hcl hp hTp hX hS
    obtain ⟨F, rfl⟩ : ∃ k, F = k + 1 + 1 := ⟨F - 2, by omega⟩
    have hF := hX.1.1
    obtain ⟨o, h1, e1, f1, c1⟩ := m_step hX hp hTp ht (by omega) (by omega) hcl hS
    have hgo : fx bX11_goThrough_104 (fun _ _ _ _ => none) (F + 1 + 1) (z + 43) (if kn = true then 1 else 0) (-4) h = fx bX11_goThrough_104 (fun _ _ _ _ => none) (F + 1) (z + 43) (if kn = true then 1 else 0) o h1 := by
      rw [fx_s]
      simp only [bX11_goThrough_104, if_true, fk_43 hF, gk_s, e1, b2_s]
    have stop : o ≠ -4 → fx bX11_goThrough_104 (fun _ _ _ _ => none) (F + 1) (z + 43) (if kn = true then 1 else 0) o h1 = some (o, h1) := fun ho => by
      rw [fx_s]
      simp only [bX11_goThrough_104, if_neg ho]
    rw [hgo]
    unfold wk at hw
    unfold MO at c1
    by_cases q1 : 40 < clD D p cl
    · rw [if_pos q1] at hw c1
      obtain ⟨rfl, c1⟩ := c1
      cases hw
      exact ⟨h1, stop (by decide), f1, _, c1⟩
    rw [if_neg q1] at hw c1
    by_cases q2 : P < t2D D w v kn T P p t
    · rw [if_pos q2] at hw c1
      obtain ⟨rfl, c1⟩ := c1
      cases hw
      exact ⟨h1, stop (by decide), f1, _, c1⟩
    rw [if_neg q2] at hw c1
    by_cases q3 : svD D w p = true
    · rw [if_pos q3] at hw c1
      obtain ⟨rfl, c1⟩ := c1
      cases hw
      exact ⟨h1, stop (by decide), f1, _, c1⟩
    rw [if_neg q3] at hw c1
    by_cases q4 : tg (nxD D w v u kn T p) < n
    · rw [if_pos q4] at hw c1
      obtain ⟨rfl, c1⟩ := c1
      have hk2 : k2D D w v kn T P p t k ≤ k + 1 := by unfold k2D; split <;> omega
      obtain ⟨h2, e2, f2, c2⟩ := ih (F + 1) _ _ _ _ _ _ _ _ h1 r hw (by omega) (by omega) (by omega) (by omega) (by omega) q4 (fun q => (hB q).2 p hp (hTp q) (by simpa using q3) q4) (hX.fr f1) c1
      exact ⟨h2, e2, f1.tr f2, c2⟩
    · rw [if_neg q4] at hw c1
      obtain ⟨rfl, c1⟩ := c1
      cases hw
      exact ⟨h1, stop (by decide), f1, _, c1⟩
end
