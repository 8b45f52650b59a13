/-! traps: the model -/
section
variable {z : Nat} {h : Hp} {D : Nat → Nat → Int32} {n ng : Nat} {pa ba : Nat → Nat} {la : Nat → Nat → Nat} {ca : Nat → Nat} {p c0 : Nat} {u : Int32}
theorem m_isOpen2 (hF : fxd z h) (hE : ∀ c k, 44 ≤ c → c ≤ 57 → h.2.2.1 (z + c) k = D c k) (hp : p < 40) : fX11_isOpen (z + 43) (nI p) h = some (bi (opD D p (h.2.2.1 (z + 43) 35)), h) := by
  simp only [fX11_isOpen, fk_43 hF, gk_s, fr_43_7 hF, fr_43_8 hF, bd_s, fk_50 hF, fl_50 hF, fk_51 hF, fl_51 hF, gd_e (ix_nI (p := p) (N := 40) (by omega) (by decide)), nI_clamp (n := p) (by omega), hE 50 p (by decide) (by decide), hE 51 p (by decide) (by decide), opD]
  generalize h.2.2.1 (z + 43) 35 = v
  by_cases c1 : D 51 p ≤ D 50 p <;> by_cases c2 : D 50 p = D 51 p <;> by_cases c3 : D 50 p ≤ v <;> by_cases c4 : D 51 p ≤ v <;> by_cases c5 : v < D 50 p <;> simp only [c1, c2, c3, c4, c5, show D 51 p ≤ D 51 p from Int32.le_refl _, if_true, if_false, true_or, or_true, false_or, or_false, not_true, not_false_eq_true, true_and, and_true, false_and, and_false, bi, reduceIte, ite_self]
/-- a next place that is marked -/
def PM (z c0 : Nat) (h : Hp) (n : Nat) (x : Int32) : Prop := tg x < n ∧ Mk z c0 h (tg x)
theorem m_mark (hF : fxd z h) (hn : h.2.2.1 (z + 43) 0 = nI n) (n40 : n ≤ 40) {x : Int32} (hx : nxt x) : (tg x < n ∧ x = nI (tg x) ∧ fX11_isPlace (z + 43) x h = some (1, h)) ∨ (¬ tg x < n ∧ fX11_isPlace (z + 43) x h = some (0, h)) := by
  by_cases q : tg x < n
  · have ex := (tg_in hx).2.1 (by omega)
    refine Or.inl ⟨q, ex, ?_⟩
    have := m_isPlace_t hF hn n40 q
    rw [← ex] at this
    exact this
  · exact Or.inr ⟨q, m_isPlace_f hF hn n40 (not_place (by omega) n40)⟩
theorem m_126 (hF : fxd z h) (hn : h.2.2.1 (z + 43) 0 = nI n) (n40 : n ≤ 40) (hE : ∀ c k, 44 ≤ c → c ≤ 57 → h.2.2.1 (z + c) k = D c k) (hp : p < 40) (hP : PV D p) {s : Nat} (hs : D 53 p = nI s) (h6 : s ≤ 6) (ha : h.1 (z + c0) = 14) (hl : h.2.1 (z + c0) = 40) : ∀ (d i f : Nat) (v3 : Int32), i + d = s → d < f → (v3 = 0 ∨ v3 = 1) →
    ∃ r, fx bX11_leads_126 (fun _ _ _ _ _ _ => none) f (z + 43) (nI p) (some (z + c0)) v3 (nI i) h = some (r, h) ∧ (r = 0 ∨ r = 1) ∧ (r = 1 ↔ v3 = 1 ∨ ∃ j, i ≤ j ∧ j < s ∧ PM z c0 h n (D 57 (6 * p + j))) := by
  have q0 : ix (nI p) 40 = true := ix_nI (by omega) (by decide)
  have q1 : (nI p).toNatClampNeg = p := nI_clamp (by omega)
  intro d
  induction d with
  | zero =>
    intro i f v3 hi hf h3
    obtain ⟨f, rfl⟩ : ∃ k, f = k + 1 := ⟨f - 1, by omega⟩
    obtain rfl : i = s := by omega
    have z3 : zb v3 = true := by rcases h3 with r | r <;> rw [r] <;> rfl
    refine ⟨v3, ?_, h3, ⟨fun q => Or.inl q, fun q => ?_⟩⟩
    · rw [fx_s]
      simp only [bX11_leads_126, fk_43 hF, gk_s, fr_43_10 hF, bd_s, fk_53 hF, fl_53 hF, gd_e q0, q1, hE 53 p (by decide) (by decide), hs, if_pos (Int32.le_refl (nI i)), gd_e z3]
    · rcases q with q | ⟨j, j1, j2, -⟩
      · exact q
      · omega
  | succ d ih =>
    intro i f v3 hi hf h3
    obtain ⟨f, rfl⟩ : ∃ k, f = k + 1 := ⟨f - 1, by omega⟩
    have hx := ln_nxt hP hs h6 (show i < s by omega)
    rcases h3 with r3 | r3
    · rcases m_mark hF hn n40 hx with ⟨m1, m2, m3⟩ | ⟨m1, m3⟩
      · obtain ⟨t, et⟩ : ∃ t, t = tg (D 57 (6 * p + i)) := ⟨_, rfl⟩
        rw [← et] at m1 m2
        rw [m2] at m3
        by_cases cm : h.2.2.1 (z + c0) t = 0
        · obtain ⟨r, e1, e2, e3⟩ := ih (i + 1) f 0 (by omega) (by omega) (Or.inl rfl)
          refine ⟨r, ?_, e2, e3.trans ⟨fun q => ?_, fun q => ?_⟩⟩
          · rw [fx_s]
            simp only [bX11_leads_126, fk_43 hF, gk_s, fr_43_10 hF, bd_s, fk_53 hF, fl_53 hF, gd_e q0, q1, hE 53 p (by decide) (by decide), hs, if_neg (nI_ge (show i < s by omega) (by omega)), fr_43_14 hF, fk_57 hF, fl_57 hF, i6, gd_e (ix_nI (p := 6 * p + i) (N := 240) (by omega) (by decide)), nI_clamp (n := 6 * p + i) (by omega), hE 57 (6 * p + i) (by decide) (by decide), m2, if_pos r3, m3, b2_s, if_neg (show ¬ (1 : Int32) = 0 by decide), ha, hl, gd_e (ix_nI (p := t) (N := 40) (by omega) (by decide)), nI_clamp (n := t) (by omega), if_pos cm, nm_d, nI_1]
            exact e1
          · rcases q with q | ⟨j, j1, j2, j3⟩
            · exact absurd q (by decide)
            · exact Or.inr ⟨j, by omega, j2, j3⟩
          · rcases q with q | ⟨j, j1, j2, j3⟩
            · rw [r3] at q; exact absurd q (by decide)
            · by_cases ej : j = i
              · rw [ej] at j3
                have := j3.2
                rw [← et] at this
                exact absurd cm this
              · exact Or.inr ⟨j, by omega, j2, j3⟩
        · obtain ⟨r, e1, e2, e3⟩ := ih (i + 1) f 1 (by omega) (by omega) (Or.inr rfl)
          refine ⟨r, ?_, e2, e3.trans ⟨fun _ => Or.inr ⟨i, Nat.le_refl i, by omega, by unfold PM; rw [← et]; exact ⟨m1, cm⟩⟩, fun _ => Or.inl rfl⟩⟩
          rw [fx_s]
          simp only [bX11_leads_126, fk_43 hF, gk_s, fr_43_10 hF, bd_s, fk_53 hF, fl_53 hF, gd_e q0, q1, hE 53 p (by decide) (by decide), hs, if_neg (nI_ge (show i < s by omega) (by omega)), fr_43_14 hF, fk_57 hF, fl_57 hF, i6, gd_e (ix_nI (p := 6 * p + i) (N := 240) (by omega) (by decide)), nI_clamp (n := 6 * p + i) (by omega), hE 57 (6 * p + i) (by decide) (by decide), m2, if_pos r3, m3, b2_s, if_neg (show ¬ (1 : Int32) = 0 by decide), ha, hl, gd_e (ix_nI (p := t) (N := 40) (by omega) (by decide)), nI_clamp (n := t) (by omega), if_neg cm, nm_d, nI_1]
          exact e1
      · obtain ⟨r, e1, e2, e3⟩ := ih (i + 1) f 0 (by omega) (by omega) (Or.inl rfl)
        refine ⟨r, ?_, e2, e3.trans ⟨fun q => ?_, fun q => ?_⟩⟩
        · rw [fx_s]
          simp only [bX11_leads_126, fk_43 hF, gk_s, fr_43_10 hF, bd_s, fk_53 hF, fl_53 hF, gd_e q0, q1, hE 53 p (by decide) (by decide), hs, if_neg (nI_ge (show i < s by omega) (by omega)), fr_43_14 hF, fk_57 hF, fl_57 hF, i6, gd_e (ix_nI (p := 6 * p + i) (N := 240) (by omega) (by decide)), nI_clamp (n := 6 * p + i) (by omega), hE 57 (6 * p + i) (by decide) (by decide), if_pos r3, m3, b2_s, if_true, nm_d, nI_1]
          exact e1
        · rcases q with q | ⟨j, j1, j2, j3⟩
          · exact absurd q (by decide)
          · exact Or.inr ⟨j, by omega, j2, j3⟩
        · rcases q with q | ⟨j, j1, j2, j3⟩
          · rw [r3] at q; exact absurd q (by decide)
          · by_cases ej : j = i
            · rw [ej] at j3
              exact absurd j3.1 m1
            · exact Or.inr ⟨j, by omega, j2, j3⟩
    · obtain ⟨r, e1, e2, e3⟩ := ih (i + 1) f 1 (by omega) (by omega) (Or.inr rfl)
      refine ⟨r, ?_, e2, e3.trans ⟨fun _ => Or.inl r3, fun _ => Or.inl rfl⟩⟩
      rw [fx_s]
      simp only [bX11_leads_126, fk_43 hF, gk_s, fr_43_10 hF, bd_s, fk_53 hF, fl_53 hF, gd_e q0, q1, hE 53 p (by decide) (by decide), hs, if_neg (nI_ge (show i < s by omega) (by omega)), fr_43_14 hF, fk_57 hF, fl_57 hF, i6, gd_e (ix_nI (p := 6 * p + i) (N := 240) (by omega) (by decide)), nI_clamp (n := 6 * p + i) (by omega), if_neg (show ¬ v3 = 0 by rw [r3]; decide), nm_d, nI_1]
      exact e1
theorem m_leads (hF : fxd z h) (hn : h.2.2.1 (z + 43) 0 = nI n) (n40 : n ≤ 40) (hE : ∀ c k, 44 ≤ c → c ≤ 57 → h.2.2.1 (z + c) k = D c k) (hp : p < 40) (hP : PV D p) (hu : h.2.2.1 (z + 43) 35 = u) (ha : h.1 (z + c0) = 14) (hl : h.2.1 (z + c0) = 40) :
    ∃ r, fX11_leads (z + 43) (nI p) (some (z + c0)) h = some (r, h) ∧ (r = 0 ∨ r = 1) ∧ (r = 1 ↔ ∃ i, i < exN D p ∧ PM z c0 h n (exA D u p i)) := by
  have nfb := NF_big
  have q0 : ix (nI p) 40 = true := ix_nI (by omega) (by decide)
  have q1 : (nI p).toNatClampNeg = p := nI_clamp (by omega)
  have e10 : ¬ (1 : Int32) = 0 := by decide
  obtain ⟨k53, hk1, hk2, hs⟩ := hP.2.2.2.2.2.2.2.2.1
  have es : toN (D 53 p) = k53 := by rw [hs, toN_nI (by omega)]
  by_cases c3 : D 44 p = 3
  · have hx := nxH_nxt hP u
    have hex : ∀ i, exA D u p i = nxH D p u := fun i => by unfold exA; rw [if_pos c3]
    have hN : exN D p = 1 := by unfold exN; rw [c3, if_neg (by decide), if_neg (by decide), if_neg (by decide)]
    have hop := m_isOpen2 (p := p) hF hE hp
    rw [hu] at hop
    have st : fX11_leads (z + 43) (nI p) (some (z + c0)) h = fX11_leads_35 (z + 43) (some (z + c0)) (nxH D p u) h := by
      simp only [fX11_leads, fk_43 hF, gk_s, fr_43_1 hF, bd_s, fk_44 hF, fl_44 hF, gd_e q0, q1, hE 44 p (by decide) (by decide), if_pos c3, hop, b2_s, bi_0, fr_43_5 hF, fk_48 hF, fl_48 hF, hE 48 p (by decide) (by decide), fr_43_4 hF, fk_47 hF, fl_47 hF, hE 47 p (by decide) (by decide), nxH]
      by_cases q : opD D p u
      · simp only [if_neg (not_not_intro q), if_pos q]
      · simp only [if_pos q, if_neg q]
    rw [st]
    rcases m_mark hF hn n40 hx with ⟨m1, m2, m3⟩ | ⟨m1, m3⟩
    · obtain ⟨t, et⟩ : ∃ t, t = tg (nxH D p u) := ⟨_, rfl⟩
      rw [← et] at m1 m2
      rw [m2] at m3
      by_cases cm : h.2.2.1 (z + c0) t = 0
      · refine ⟨0, ?_, Or.inl rfl, ⟨fun q => absurd q (by decide), fun ⟨i, hi, hm⟩ => ?_⟩⟩
        · simp only [fX11_leads_35, fk_43 hF, gk_s, m2, m3, b2_s, if_neg e10, bd_s, ha, hl, gd_e (ix_nI (p := t) (N := 40) (by omega) (by decide)), nI_clamp (n := t) (by omega), if_pos cm]
        · rw [hex] at hm
          have := hm.2
          rw [← et] at this
          exact absurd cm this
      · refine ⟨1, ?_, Or.inr rfl, ⟨fun _ => ⟨0, by omega, by rw [hex]; unfold PM; rw [← et]; exact ⟨m1, cm⟩⟩, fun _ => rfl⟩⟩
        simp only [fX11_leads_35, fk_43 hF, gk_s, m2, m3, b2_s, if_neg e10, bd_s, ha, hl, gd_e (ix_nI (p := t) (N := 40) (by omega) (by decide)), nI_clamp (n := t) (by omega), if_neg cm]
    · refine ⟨0, ?_, Or.inl rfl, ⟨fun q => absurd q (by decide), fun ⟨i, hi, hm⟩ => ?_⟩⟩
      · simp only [fX11_leads_35, fk_43 hF, gk_s, m3, b2_s, if_true]
      · rw [hex] at hm
        exact absurd hm.1 m1
  · -- what the exits are
    have hiff : (∃ i, i < exN D p ∧ PM z c0 h n (exA D u p i)) ↔ (PM z c0 h n (D 47 p) ∨ (D 44 p = 4 ∧ PM z c0 h n (D 48 p)) ∨ ∃ j, 0 ≤ j ∧ j < k53 ∧ PM z c0 h n (D 57 (6 * p + j))) := by
      have hexl : ∀ i, ¬ (D 44 p = 4 ∧ i = 1) → exA D u p i = if i < k53 then D 57 (6 * p + i) else D 47 p := fun i hc => by unfold exA; rw [if_neg c3, if_neg hc, es]
      constructor
      · rintro ⟨i, hi, hm⟩
        by_cases c4 : D 44 p = 4 ∧ i = 1
        · have : exA D u p i = D 48 p := by unfold exA; rw [if_neg c3, if_pos c4]
          rw [this] at hm
          exact Or.inr (Or.inl ⟨c4.1, hm⟩)
        · rw [hexl i c4] at hm
          by_cases q : i < k53
          · rw [if_pos q] at hm
            exact Or.inr (Or.inr ⟨i, Nat.zero_le i, q, hm⟩)
          · rw [if_neg q] at hm
            exact Or.inl hm
      · rintro (hm | ⟨c4, hm⟩ | ⟨j, -, hj, hm⟩)
        · rcases kd_of hP with r | r | r | r | r
          · refine ⟨k53, by unfold exN; rw [if_pos r, es]; omega, ?_⟩
            rw [hexl k53 (by rw [r]; exact fun x => absurd x.1 (by decide)), if_neg (Nat.lt_irrefl _)]
            exact hm
          · have : D 47 p = -1 := hP.2.2.2.2.2.2.2.2.2.2.1 r
            rw [this] at hm
            have h1 := hm.1
            have : tg (-1) = 40 := rfl
            omega
          · have k0 : k53 = 0 := by rw [← es, hP.2.2.2.2.2.2.2.2.2.1 (by rw [r]; decide)]; rfl
            refine ⟨0, by unfold exN; rw [r, if_neg (by decide), if_neg (by decide), if_neg (by decide)]; omega, ?_⟩
            rw [hexl 0 (by omega), if_neg (by omega)]
            exact hm
          · exact absurd r c3
          · have k0 : k53 = 0 := by rw [← es, hP.2.2.2.2.2.2.2.2.2.1 (by rw [r]; decide)]; rfl
            refine ⟨0, by unfold exN; rw [r, if_neg (by decide), if_neg (by decide), if_pos rfl]; omega, ?_⟩
            rw [hexl 0 (by omega), if_neg (by omega)]
            exact hm
        · refine ⟨1, by unfold exN; rw [c4, if_neg (by decide), if_neg (by decide), if_pos rfl]; omega, ?_⟩
          have : exA D u p 1 = D 48 p := by unfold exA; rw [if_neg c3, if_pos ⟨c4, rfl⟩]
          rw [this]
          exact hm
        · have r : D 44 p = 0 := Classical.byContradiction fun x => by
            have : k53 = 0 := by rw [← es, hP.2.2.2.2.2.2.2.2.2.1 x]; rfl
            omega
          refine ⟨j, by unfold exN; rw [if_pos r, es]; omega, ?_⟩
          rw [hexl j (by rw [r]; exact fun x => absurd x.1 (by decide)), if_pos hj]
          exact hm
    have x47 := hP.2.2.2.2.1
    have x48 := hP.2.2.2.2.2.1
    obtain ⟨r0, z1, z2, z3⟩ := m_126 (c0 := c0) hF hn n40 hE hp hP hs hk2 ha hl k53 0 NF 0 (by omega) (by omega) (Or.inl rfl)
    obtain ⟨r1, y1, y2, y3⟩ := m_126 (c0 := c0) hF hn n40 hE hp hP hs hk2 ha hl k53 0 NF 1 (by omega) (by omega) (Or.inr rfl)
    have y4 : r1 = 1 := y3.mpr (Or.inl rfl)
    rw [y4] at y1
    have z1' : fX11_leads_126 (z + 43) (nI p) (some (z + c0)) 0 0 h = some (r0, h) := z1
    have y1' : fX11_leads_126 (z + 43) (nI p) (some (z + c0)) 1 0 h = some (1, h) := y1
    -- behind the first next
    have s83 : ∃ r, fX11_leads_83 (z + 43) (nI p) (some (z + c0)) h = some (r, h) ∧ (r = 0 ∨ r = 1) ∧ (r = 1 ↔ (D 44 p = 4 ∧ PM z c0 h n (D 48 p)) ∨ ∃ j, 0 ≤ j ∧ j < k53 ∧ PM z c0 h n (D 57 (6 * p + j))) := by
      by_cases c4 : D 44 p = 4
      · rcases m_mark hF hn n40 x48 with ⟨m1, m2, m3⟩ | ⟨m1, m3⟩
        · obtain ⟨t, et⟩ : ∃ t, t = tg (D 48 p) := ⟨_, rfl⟩
          rw [← et] at m1 m2
          rw [m2] at m3
          by_cases cm : h.2.2.1 (z + c0) t = 0
          · refine ⟨r0, ?_, z2, z3.trans ⟨fun q => ?_, fun q => ?_⟩⟩
            · simp only [fX11_leads_83, fk_43 hF, gk_s, fr_43_1 hF, bd_s, fk_44 hF, fl_44 hF, gd_e q0, q1, hE 44 p (by decide) (by decide), if_pos c4, fr_43_5 hF, fk_48 hF, fl_48 hF, hE 48 p (by decide) (by decide), m2, m3, b2_s, if_neg e10, ha, hl, gd_e (ix_nI (p := t) (N := 40) (by omega) (by decide)), nI_clamp (n := t) (by omega), if_pos cm, z1']
            · rcases q with q | q
              · exact absurd q (by decide)
              · exact Or.inr q
            · rcases q with q | q
              · have := q.2.2
                rw [← et] at this
                exact absurd cm this
              · exact Or.inr q
          · refine ⟨1, ?_, Or.inr rfl, ⟨fun _ => Or.inl ⟨c4, by unfold PM; rw [← et]; exact ⟨m1, cm⟩⟩, fun _ => rfl⟩⟩
            simp only [fX11_leads_83, fk_43 hF, gk_s, fr_43_1 hF, bd_s, fk_44 hF, fl_44 hF, gd_e q0, q1, hE 44 p (by decide) (by decide), if_pos c4, fr_43_5 hF, fk_48 hF, fl_48 hF, hE 48 p (by decide) (by decide), m2, m3, b2_s, if_neg e10, ha, hl, gd_e (ix_nI (p := t) (N := 40) (by omega) (by decide)), nI_clamp (n := t) (by omega), if_neg cm, y1']
        · refine ⟨r0, ?_, z2, z3.trans ⟨fun q => ?_, fun q => ?_⟩⟩
          · simp only [fX11_leads_83, fk_43 hF, gk_s, fr_43_1 hF, bd_s, fk_44 hF, fl_44 hF, gd_e q0, q1, hE 44 p (by decide) (by decide), if_pos c4, fr_43_5 hF, fk_48 hF, fl_48 hF, hE 48 p (by decide) (by decide), m3, b2_s, if_true, z1']
          · rcases q with q | q
            · exact absurd q (by decide)
            · exact Or.inr q
          · rcases q with q | q
            · exact absurd q.2.1 m1
            · exact Or.inr q
      · refine ⟨r0, ?_, z2, z3.trans ⟨fun q => ?_, fun q => ?_⟩⟩
        · simp only [fX11_leads_83, fk_43 hF, gk_s, fr_43_1 hF, bd_s, fk_44 hF, fl_44 hF, gd_e q0, q1, hE 44 p (by decide) (by decide), if_neg c4, z1']
        · rcases q with q | q
          · exact absurd q (by decide)
          · exact Or.inr q
        · rcases q with q | q
          · exact absurd q.1 c4
          · exact Or.inr q
    rw [hiff]
    obtain ⟨r2, w1, w2, w3⟩ := s83
    rcases m_mark hF hn n40 x47 with ⟨m1, m2, m3⟩ | ⟨m1, m3⟩
    · obtain ⟨t, et⟩ : ∃ t, t = tg (D 47 p) := ⟨_, rfl⟩
      rw [← et] at m1 m2
      rw [m2] at m3
      by_cases cm : h.2.2.1 (z + c0) t = 0
      · refine ⟨r2, ?_, w2, w3.trans ⟨fun q => Or.inr q, fun q => ?_⟩⟩
        · simp only [fX11_leads, fk_43 hF, gk_s, fr_43_1 hF, bd_s, fk_44 hF, fl_44 hF, gd_e q0, q1, hE 44 p (by decide) (by decide), if_neg c3, fr_43_4 hF, fk_47 hF, fl_47 hF, hE 47 p (by decide) (by decide), m2, m3, b2_s, if_neg e10, ha, hl, gd_e (ix_nI (p := t) (N := 40) (by omega) (by decide)), nI_clamp (n := t) (by omega), if_pos cm, w1]
        · rcases q with q | q
          · have := q.2
            rw [← et] at this
            exact absurd cm this
          · exact q
      · refine ⟨1, ?_, Or.inr rfl, ⟨fun _ => Or.inl (by unfold PM; rw [← et]; exact ⟨m1, cm⟩), fun _ => rfl⟩⟩
        simp only [fX11_leads, fk_43 hF, gk_s, fr_43_1 hF, bd_s, fk_44 hF, fl_44 hF, gd_e q0, q1, hE 44 p (by decide) (by decide), if_neg c3, fr_43_4 hF, fk_47 hF, fl_47 hF, hE 47 p (by decide) (by decide), m2, m3, b2_s, if_neg e10, ha, hl, gd_e (ix_nI (p := t) (N := 40) (by omega) (by decide)), nI_clamp (n := t) (by omega), if_neg cm, y1']
    · refine ⟨r2, ?_, w2, w3.trans ⟨fun q => Or.inr q, fun q => ?_⟩⟩
      · simp only [fX11_leads, fk_43 hF, gk_s, fr_43_1 hF, bd_s, fk_44 hF, fl_44 hF, gd_e q0, q1, hE 44 p (by decide) (by decide), if_neg c3, fr_43_4 hF, fk_47 hF, fl_47 hF, hE 47 p (by decide) (by decide), m3, b2_s, if_true, w1]
      · rcases q with q | q
        · exact absurd q.1 m1
        · exact q
end
