/-! traps: the model's rounds; trap -/
section
variable {z : Nat} {h : Hp} {D : Nat → Nat → Int32} {n ng : Nat} {pa ba : Nat → Nat} {la : Nat → Nat → Nat} {ca : Nat → Nat} {p c0 : Nat} {u : Int32}
def S72 : Nat → Nat → Bool := fun c _ => c == 72 || c == 73
theorem S72_ess : ∀ c k, S72 c k = true → ess c k = false := by
  intro c k hc
  simp only [S72, Bool.or_eq_true, beq_iff_eq] at hc
  obtain rfl | rfl := hc <;> rfl
def ms (z n : Nat) (h : Hp) : Nat := fb_sm (fun q => if h.2.2.1 (z + 72) q = 0 then 1 else 0) n + fb_sm (fun q => if h.2.2.1 (z + 73) q = 0 then 1 else 0) n
def SaM (z : Nat) (h h' : Hp) : Prop := ∀ q, h'.2.2.1 (z + 72) q = h.2.2.1 (z + 72) q ∧ h'.2.2.1 (z + 73) q = h.2.2.1 (z + 73) q
theorem SaM.tr {h1 h2 h3 : Hp} (x : SaM z h1 h2) (y : SaM z h2 h3) : SaM z h1 h3 := fun q => ⟨(y q).1.trans (x q).1, (y q).2.trans (x q).2⟩
theorem mk_ind {a b : Int32} (h : ¬ a = 0 → ¬ b = 0) : (if b = 0 then 1 else 0 : Nat) ≤ (if a = 0 then 1 else 0) := by
  by_cases q : a = 0
  · rw [if_pos q]; split <;> decide
  · rw [if_neg q, if_neg (h q)]; exact Nat.le_refl _
theorem ms_le {h h' : Hp} (hm : Mn z 72 73 h h') : ms z n h' ≤ ms z n h := by
  have h1 := fb_sm_le (n := n) (f := fun q => if h'.2.2.1 (z + 72) q = 0 then 1 else 0) (g := fun q => if h.2.2.1 (z + 72) q = 0 then 1 else 0) (fun q _ => mk_ind (hm q).1)
  have h2 := fb_sm_le (n := n) (f := fun q => if h'.2.2.1 (z + 73) q = 0 then 1 else 0) (g := fun q => if h.2.2.1 (z + 73) q = 0 then 1 else 0) (fun q _ => mk_ind (hm q).2)
  unfold ms
  omega
theorem ms_lt {h h' : Hp} (hm : Mn z 72 73 h h') {q : Nat} (hq : q < n) (hd : (h.2.2.1 (z + 72) q = 0 ∧ Mk z 72 h' q) ∨ (h.2.2.1 (z + 73) q = 0 ∧ Mk z 73 h' q)) : ms z n h' < ms z n h := by
  have h1 := fb_sm_le (n := n) (f := fun q => if h'.2.2.1 (z + 72) q = 0 then 1 else 0) (g := fun q => if h.2.2.1 (z + 72) q = 0 then 1 else 0) (fun q _ => mk_ind (hm q).1)
  have h2 := fb_sm_le (n := n) (f := fun q => if h'.2.2.1 (z + 73) q = 0 then 1 else 0) (g := fun q => if h.2.2.1 (z + 73) q = 0 then 1 else 0) (fun q _ => mk_ind (hm q).2)
  unfold ms
  rcases hd with ⟨d1, d2⟩ | ⟨d1, d2⟩
  · have := fb_sm_lt (n := n) (q := q) (f := fun q => if h'.2.2.1 (z + 72) q = 0 then 1 else 0) (g := fun q => if h.2.2.1 (z + 72) q = 0 then 1 else 0) (fun q _ => mk_ind (hm q).1) hq (by rw [if_pos d1, if_neg d2]; decide)
    omega
  · have := fb_sm_lt (n := n) (q := q) (f := fun q => if h'.2.2.1 (z + 73) q = 0 then 1 else 0) (g := fun q => if h.2.2.1 (z + 73) q = 0 then 1 else 0) (fun q _ => mk_ind (hm q).2) hq (by rw [if_pos d1, if_neg d2]; decide)
    omega
/-- what the model's rounds need of a heap -/
def TH (z : Nat) (h : Hp) (D : Nat → Nat → Int32) (n ng : Nat) (pa ba : Nat → Nat) (la : Nat → Nat → Nat) (ca : Nat → Nat) (u : Int32) : Prop := RelB z h D n ng pa ba la ca ∧ h.2.2.1 (z + 43) 35 = u ∧ Snd z 72 73 h D n u
theorem th_E (hR : RelB z h D n ng pa ba la ca) : ∀ c k, 44 ≤ c → c ≤ 57 → h.2.2.1 (z + c) k = D c k := fun c k h1 h2 => rb_ess hR c k (by omega) (by simp [ess]; omega)
theorem one0 (hR : RelB z h D n ng pa ba la ca) (k : Nat) : h.2.2.1 (z + 74) k = 0 := by rw [rb_ess hR 74 k (by decide) rfl]; exact hR.2.2.1.2.2.2.2.2.2.2.2.2.1 k
theorem pm_eB (hp : ∃ i, i < exN D p ∧ PM z c0 h n (exA D u p i)) : ∃ q, q < n ∧ eB D u p q = true ∧ Mk z c0 h q := by
  obtain ⟨i, h1, h2, h3⟩ := hp
  exact ⟨_, h2, eB_of h1 rfl, h3⟩
theorem eB_pm {q : Nat} (hq : q < n) (he : eB D u p q = true) (hm : Mk z c0 h q) : ∃ i, i < exN D p ∧ PM z c0 h n (exA D u p i) := by
  obtain ⟨i, h1, h2⟩ := anyN_iff.mp he
  have h3 := of_decide_eq_true h2
  exact ⟨i, h1, by unfold PM; rw [h3]; exact ⟨hq, hm⟩⟩
theorem m_108 {rc60 : Nat → Int32 → Hp → Option (Unit × Hp)} {rc68 : Nat → Int32 → Int32 → Hp → Option (Unit × Hp)} (hp : p < n) : ∀ (d q f : Nat) (h : Hp) (v1 : Int32), q + d = n → d < f → TH z h D n ng pa ba la ca u → (v1 = 0 ∨ v1 = 1) →
    ∃ c h', fx (bX11_layTraps_108 rc60 rc68) (fun _ _ _ _ _ => none) f (z + 43) v1 (nI p) (nI q) h = rc68 (z + 43) c (nI (p + 1)) h' ∧ Fr z S72 h h' ∧ TH z h' D n ng pa ba la ca u ∧ Mn z 72 73 h h' ∧ (∀ q', q ≤ q' → q' < n → eB D u p q' = true → Mk z 72 h p → Mk z 72 h' q') ∧ (c = 0 → v1 = 0 ∧ SaM z h h') ∧ (c = 0 ∨ c = 1) ∧ (c = 1 → v1 = 1 ∨ ms z n h' < ms z n h) := by
  intro d
  induction d with
  | zero =>
    intro q f h v1 hi hf hT h1
    obtain ⟨f, rfl⟩ : ∃ k, f = k + 1 := ⟨f - 1, by omega⟩
    obtain rfl : q = n := by omega
    obtain ⟨hR, hu, hS⟩ := id hT
    have hF := hR.1
    have n2 := (rb_n hR).2.1
    refine ⟨v1, h, ?_, Fr.rf, hT, fun _ => ⟨id, id⟩, fun q' a b => by omega, fun x => ⟨x, fun _ => ⟨rfl, rfl⟩⟩, h1, fun x => Or.inl x⟩
    rw [fx_s]
    simp only [bX11_layTraps_108, fk_43 hF, gk_s, n2, if_pos (Int32.le_refl (nI q)), nm_d, nI_1]
  | succ d ih =>
    intro q f h v1 hi hf hT h1
    obtain ⟨f, rfl⟩ : ∃ k, f = k + 1 := ⟨f - 1, by omega⟩
    obtain ⟨hR, hu, hS⟩ := id hT
    have hF := hR.1
    obtain ⟨n1, n2, n40⟩ := rb_n hR
    have p0 : ix (nI p) 40 = true := ix_nI (by omega) (by decide)
    have p1 : (nI p).toNatClampNeg = p := nI_clamp (by omega)
    have y0 : ix (nI q) 40 = true := ix_nI (by omega) (by decide)
    have y1 : (nI q).toNatClampNeg = q := nI_clamp (by omega)
    by_cases rp : h.2.2.1 (z + 72) p = 0
    · refine ⟨v1, h, ?_, Fr.rf, hT, fun _ => ⟨id, id⟩, fun q' a b _ hm => absurd rp hm, fun x => ⟨x, fun _ => ⟨rfl, rfl⟩⟩, h1, fun x => Or.inl x⟩
      rw [fx_s]
      simp only [bX11_layTraps_108, fk_43 hF, gk_s, n2, if_neg (nI_ge (show q < n by omega) (by omega)), fr_43_45 hF, bd_s, fk_72 hF, fl_72 hF, gd_e p0, p1, if_pos rp, nm_d, nI_1]
    · obtain ⟨g1, eg1⟩ : ∃ g1, g1 = hp_si h (z + 74) q 1 := ⟨_, rfl⟩
      have F1 : fxd z g1 := by rw [eg1]; exact hF
      have z74 := one0 hR
      have rd1 : ∀ c k, c ≠ 74 → g1.2.2.1 (z + c) k = h.2.2.1 (z + c) k := fun c k hc => by rw [eg1, si_3, u2_at, if_neg (by omega)]
      -- after the mark is taken away
      have back : ∀ g : Hp, g.1 = h.1 → g.2.1 = h.2.1 → g.2.2.2 = h.2.2.2 → (∀ a, z + 82 ≤ a → g.2.2.1 a = h.2.2.1 a) → (∀ c k, c < 82 → c ≠ 74 → c ≠ 72 → g.2.2.1 (z + c) k = h.2.2.1 (z + c) k) → (∀ k, k ≠ q → g.2.2.1 (z + 74) k = h.2.2.1 (z + 74) k) → Fr z S72 h (hp_si g (z + 74) q 0) := by
        intro g a1 a2 a3 a4 a5 a6
        refine ⟨a1, a2, congrArg (·.1) a3, congrArg (·.2) a3, fun c k hc hs => ?_, fun a ha => ?_⟩
        · rw [si_3, u2_at]
          by_cases x : c = 74
          · subst x
            by_cases y : k = q
            · rw [if_pos ⟨rfl, y⟩, z74]
            · rw [if_neg (fun r => y r.2)]; exact a6 k y
          · rw [if_neg (by omega)]
            refine a5 c k hc x (fun w => ?_)
            rw [w] at hs
            exact absurd hs (by simp [S72])
        · rw [si_3, u2_ne (by omega)]; exact a4 a ha
      by_cases rq : h.2.2.1 (z + 72) q = 0
      · obtain ⟨r, l1, l2, l3⟩ := m_leads (c0 := 74) (n := n) (u := u) (D := D) F1 (by rw [rd1 43 0 (by decide)]; exact n2) n40 (fun c k a b => by rw [rd1 c k (by omega)]; exact th_E hR c k a b) (by omega) (pv_of hR hp) (by rw [rd1 43 35 (by decide)]; exact hu) (fk_74 F1) (fl_74 F1)
        have mk1 : ∀ x, Mk z 74 g1 x ↔ x = q := fun x => by
          unfold Mk
          rw [eg1, si_3, u2_at]
          by_cases w : x = q
          · rw [if_pos ⟨rfl, w⟩]; exact ⟨fun _ => w, fun _ => by decide⟩
          · rw [if_neg (fun r => w r.2), z74]; exact ⟨fun a => absurd rfl a, fun a => absurd a w⟩
        rcases l2 with r0 | r1
        · -- no way from p to q
          subst r0
          have he : ¬ eB D u p q = true := fun x => absurd (l3.mpr (eB_pm (by omega) x ((mk1 q).mpr rfl))) (by decide)
          have fb := back g1 (by rw [eg1]; rfl) (by rw [eg1]; rfl) (by rw [eg1]; rfl) (fun a ha => by rw [eg1, si_3, u2_ne (by omega)]) (fun c k _ hc _ => rd1 c k hc) (fun k hk => by rw [eg1, si_3, u2_at, if_neg (fun r => hk r.2)])
          obtain ⟨g2, eg2⟩ : ∃ g2, g2 = hp_si g1 (z + 74) q 0 := ⟨_, rfl⟩
          rw [← eg2] at fb
          have rd2 : ∀ c k, c ≠ 74 → g2.2.2.1 (z + c) k = h.2.2.1 (z + c) k := fun c k hc => by rw [eg2, si_3, u2_at, if_neg (by omega)]; exact rd1 c k hc
          have sam : SaM z h g2 := fun x => ⟨rd2 72 x (by decide), rd2 73 x (by decide)⟩
          have mn : Mn z 72 73 h g2 := fun x => ⟨fun a => by unfold Mk; rw [(sam x).1]; exact a, fun a => by unfold Mk; rw [(sam x).2]; exact a⟩
          have hT2 : TH z g2 D n ng pa ba la ca u := ⟨fb.relB S72_ess hR, by rw [rd2 43 35 (by decide)]; exact hu, fun x hx hm => hS.1 x hx (by unfold Mk at hm ⊢; rw [(sam x).1] at hm; exact hm), fun x hx hm => hS.2.1 x hx (by unfold Mk at hm ⊢; rw [(sam x).2] at hm; exact hm), fun x hx h40 hm => hS.2.2 x hx h40 (by unfold Mk at hm ⊢; rw [(sam x).2] at hm; exact hm)⟩
          obtain ⟨c, h', e1, f1, t1, m1, k1, k2, k3, k4⟩ := ih (q + 1) f g2 v1 (by omega) (by omega) hT2 h1
          refine ⟨c, h', ?_, fb.tr f1, t1, mn.tr m1, fun q' a b e hm => ?_, fun x => ⟨(k2 x).1, sam.tr (k2 x).2⟩, k3, fun x => ?_⟩
          · rw [fx_s]
            have rq1 : g1.2.2.1 (z + 72) q = 0 := by rw [rd1 72 q (by decide)]; exact rq
            simp only [bX11_layTraps_108, fk_43 hF, gk_s, n2, if_neg (nI_ge (show q < n by omega) (by omega)), fr_43_45 hF, bd_s, fk_72 hF, fl_72 hF, gd_e p0, p1, if_neg rp, fr_43_47 hF, fk_74 hF, fl_74 hF, gd_e y0, y1, nm_d, ← eg1, fl_72 F1, if_pos rq1, l1, b2_s, if_true, fk_43 F1, fr_43_47 F1, fk_74 F1, fl_74 F1, ← eg2, nI_1]
            exact e1
          · by_cases w : q' = q
            · rw [w] at e; exact absurd e he
            · exact k1 q' (by omega) b e ((mn p).1 hm)
          · rcases k4 x with y | y
            · exact Or.inl y
            · exact Or.inr (Nat.lt_of_lt_of_le y (ms_le mn))
        · -- a way
          subst r1
          have he : eB D u p q = true := by
            obtain ⟨x, x1, x2, x3⟩ := pm_eB (l3.mp rfl)
            rw [(mk1 x).mp x3] at x2
            exact x2
          obtain ⟨g2, eg2⟩ : ∃ g2, g2 = hp_si g1 (z + 72) q 1 := ⟨_, rfl⟩
          have F2 : fxd z g2 := by rw [eg2]; exact F1
          have fb := back g2 (by rw [eg2, eg1]; rfl) (by rw [eg2, eg1]; rfl) (by rw [eg2, eg1]; rfl) (fun a ha => by rw [eg2, si_3, u2_ne (by omega), eg1, si_3, u2_ne (by omega)]) (fun c k _ hc h72 => by rw [eg2, si_3, u2_ne (by omega)]; exact rd1 c k hc) (fun k hk => by rw [eg2, si_3, u2_ne (by omega), eg1, si_3, u2_at, if_neg (fun r => hk r.2)])
          obtain ⟨g3, eg3⟩ : ∃ g3, g3 = hp_si g2 (z + 74) q 0 := ⟨_, rfl⟩
          rw [← eg3] at fb
          have rd3 : ∀ c k, c ≠ 74 → g3.2.2.1 (z + c) k = if c = 72 ∧ k = q then 1 else h.2.2.1 (z + c) k := fun c k hc => by
            rw [eg3, si_3, u2_at, if_neg (by omega), eg2, si_3, u2_at, rd1 c k hc]
            by_cases w : c = 72 ∧ k = q
            · rw [if_pos ⟨by omega, w.2⟩, if_pos w]
            · rw [if_neg (fun r => w ⟨by omega, r.2⟩), if_neg w]
          have mn : Mn z 72 73 h g3 := fun x => ⟨fun a => by
            unfold Mk; rw [rd3 72 x (by decide)]
            split
            · decide
            · exact a, fun a => by unfold Mk; rw [rd3 73 x (by decide), if_neg (by omega)]; exact a⟩
          have hT2 : TH z g3 D n ng pa ba la ca u := ⟨fb.relB S72_ess hR, by rw [rd3 43 35 (by decide), if_neg (by omega)]; exact hu, fun x hx hm => by
            by_cases w : x = q
            · rw [w]; exact LC_step hp (by omega) he (hS.1 p hp rp)
            · unfold Mk at hm; rw [rd3 72 x (by decide), if_neg (fun r => w r.2)] at hm; exact hS.1 x hx hm, fun x hx hm => hS.2.1 x hx (by unfold Mk at hm ⊢; rw [rd3 73 x (by decide), if_neg (by omega)] at hm; exact hm), fun x hx h40 hm => hS.2.2 x hx h40 (by unfold Mk at hm ⊢; rw [rd3 73 x (by decide), if_neg (by omega)] at hm; exact hm)⟩
          have mq : Mk z 72 g3 q := by unfold Mk; rw [rd3 72 q (by decide), if_pos ⟨rfl, rfl⟩]; decide
          obtain ⟨c, h', e1, f1, t1, m1, k1, k2, k3, k4⟩ := ih (q + 1) f g3 1 (by omega) (by omega) hT2 (Or.inr rfl)
          refine ⟨c, h', ?_, fb.tr f1, t1, mn.tr m1, fun q' a b e hm => ?_, fun x => absurd (k2 x).1 (by decide), k3, fun _ => Or.inr (ms_lt (mn.tr m1) (q := q) (by omega) (Or.inl ⟨rq, (m1 q).1 mq⟩))⟩
          · rw [fx_s]
            have rq1 : g1.2.2.1 (z + 72) q = 0 := by rw [rd1 72 q (by decide)]; exact rq
            simp only [bX11_layTraps_108, fk_43 hF, gk_s, n2, if_neg (nI_ge (show q < n by omega) (by omega)), fr_43_45 hF, bd_s, fk_72 hF, fl_72 hF, gd_e p0, p1, if_neg rp, fr_43_47 hF, fk_74 hF, fl_74 hF, gd_e y0, y1, nm_d, ← eg1, fl_72 F1, if_pos rq1, l1, b2_s, if_neg (show ¬ (1 : Int32) = 0 by decide), fk_43 F1, fr_43_45 F1, fk_72 F1, ← eg2, fr_43_47 F2, fk_74 F2, fl_74 F2, ← eg3, nI_1]
            exact e1
          · by_cases w : q' = q
            · rw [w]; exact (m1 q).1 mq
            · exact k1 q' (by omega) b e ((mn p).1 hm)
      · have fb := back g1 (by rw [eg1]; rfl) (by rw [eg1]; rfl) (by rw [eg1]; rfl) (fun a ha => by rw [eg1, si_3, u2_ne (by omega)]) (fun c k _ hc _ => rd1 c k hc) (fun k hk => by rw [eg1, si_3, u2_at, if_neg (fun r => hk r.2)])
        obtain ⟨g2, eg2⟩ : ∃ g2, g2 = hp_si g1 (z + 74) q 0 := ⟨_, rfl⟩
        rw [← eg2] at fb
        have rd2 : ∀ c k, c ≠ 74 → g2.2.2.1 (z + c) k = h.2.2.1 (z + c) k := fun c k hc => by rw [eg2, si_3, u2_at, if_neg (by omega)]; exact rd1 c k hc
        have sam : SaM z h g2 := fun x => ⟨rd2 72 x (by decide), rd2 73 x (by decide)⟩
        have mn : Mn z 72 73 h g2 := fun x => ⟨fun a => by unfold Mk; rw [(sam x).1]; exact a, fun a => by unfold Mk; rw [(sam x).2]; exact a⟩
        have hT2 : TH z g2 D n ng pa ba la ca u := ⟨fb.relB S72_ess hR, by rw [rd2 43 35 (by decide)]; exact hu, fun x hx hm => hS.1 x hx (by unfold Mk at hm ⊢; rw [(sam x).1] at hm; exact hm), fun x hx hm => hS.2.1 x hx (by unfold Mk at hm ⊢; rw [(sam x).2] at hm; exact hm), fun x hx h40 hm => hS.2.2 x hx h40 (by unfold Mk at hm ⊢; rw [(sam x).2] at hm; exact hm)⟩
        obtain ⟨c, h', e1, f1, t1, m1, k1, k2, k3, k4⟩ := ih (q + 1) f g2 v1 (by omega) (by omega) hT2 h1
        refine ⟨c, h', ?_, fb.tr f1, t1, mn.tr m1, fun q' a b e hm => ?_, fun x => ⟨(k2 x).1, sam.tr (k2 x).2⟩, k3, fun x => ?_⟩
        · rw [fx_s]
          have rq1 : ¬ g1.2.2.1 (z + 72) q = 0 := by rw [rd1 72 q (by decide)]; exact rq
          simp only [bX11_layTraps_108, fk_43 hF, gk_s, n2, if_neg (nI_ge (show q < n by omega) (by omega)), fr_43_45 hF, bd_s, fk_72 hF, fl_72 hF, gd_e p0, p1, if_neg rp, fr_43_47 hF, fk_74 hF, fl_74 hF, gd_e y0, y1, nm_d, ← eg1, fl_72 F1, if_neg rq1, fl_74 F1, ← eg2, nI_1]
          exact e1
        · by_cases w : q' = q
          · rw [w]; exact ((mn.tr m1) q).1 rq
          · exact k1 q' (by omega) b e ((mn p).1 hm)
        · rcases k4 x with y | y
          · exact Or.inl y
          · exact Or.inr (Nat.lt_of_lt_of_le y (ms_le mn))
theorem m_68 {rc60 : Nat → Int32 → Hp → Option (Unit × Hp)} : ∀ (d p f : Nat) (h : Hp) (v1 : Int32), p + d = n → d < f → TH z h D n ng pa ba la ca u → (v1 = 0 ∨ v1 = 1) →
    ∃ c h', fx (bX11_layTraps_68 rc60) (fun _ _ _ _ => none) f (z + 43) v1 (nI p) h = rc60 (z + 43) c h' ∧ Fr z S72 h h' ∧ TH z h' D n ng pa ba la ca u ∧ Mn z 72 73 h h' ∧ (∀ p', p ≤ p' → p' < n → ∀ q', q' < n → eB D u p' q' = true → Mk z 72 h p' → Mk z 72 h' q') ∧ (∀ p', p ≤ p' → p' < n → (∃ q', q' < n ∧ eB D u p' q' = true ∧ Mk z 73 h q') → Mk z 73 h' p') ∧ (c = 0 → v1 = 0 ∧ SaM z h h') ∧ (c = 0 ∨ c = 1) ∧ (c = 1 → v1 = 1 ∨ ms z n h' < ms z n h) := by
  intro d
  induction d with
  | zero =>
    intro p f h v1 hi hf hT h1
    obtain ⟨f, rfl⟩ : ∃ k, f = k + 1 := ⟨f - 1, by omega⟩
    obtain rfl : p = n := by omega
    obtain ⟨hR, hu, hS⟩ := id hT
    have hF := hR.1
    have n2 := (rb_n hR).2.1
    refine ⟨v1, h, ?_, Fr.rf, hT, fun _ => ⟨id, id⟩, fun q' a b => by omega, fun q' a b => by omega, fun x => ⟨x, fun _ => ⟨rfl, rfl⟩⟩, h1, fun x => Or.inl x⟩
    rw [fx_s]
    simp only [bX11_layTraps_68, fk_43 hF, gk_s, n2, if_pos (Int32.le_refl (nI p))]
  | succ d ih =>
    intro p f h v1 hi hf hT h1
    obtain ⟨f, rfl⟩ : ∃ k, f = k + 1 := ⟨f - 1, by omega⟩
    obtain ⟨hR, hu, hS⟩ := id hT
    have hF := hR.1
    obtain ⟨n1, n2, n40⟩ := rb_n hR
    have nfb := NF_big
    have p0 : ix (nI p) 40 = true := ix_nI (by omega) (by decide)
    have p1 : (nI p).toNatClampNeg = p := nI_clamp (by omega)
    -- the well part
    obtain ⟨v2, g, hst, fg, tg', mg, wg, c2, h2, h3⟩ : ∃ v2 g, fx (bX11_layTraps_68 rc60) (fun _ _ _ _ => none) (f + 1) (z + 43) v1 (nI p) h = fX11_layTraps_108 rc60 (fx (bX11_layTraps_68 rc60) (fun _ _ _ _ => none) f) (z + 43) v2 (nI p) 0 g ∧ Fr z S72 h g ∧ TH z g D n ng pa ba la ca u ∧ Mn z 72 73 h g ∧ ((∃ q', q' < n ∧ eB D u p q' = true ∧ Mk z 73 h q') → Mk z 73 g p) ∧ (v2 = 0 → v1 = 0 ∧ SaM z h g) ∧ (v2 = 0 ∨ v2 = 1) ∧ (v2 = 1 → v1 = 1 ∨ ms z n g < ms z n h) := by
      by_cases rw_ : h.2.2.1 (z + 73) p = 0
      · obtain ⟨r, l1, l2, l3⟩ := m_leads (c0 := 73) (n := n) (u := u) (D := D) (p := p) hF n2 n40 (th_E hR) (by omega) (pv_of hR (by omega)) hu (fk_73 hF) (fl_73 hF)
        rcases l2 with r0 | r1
        · subst r0
          refine ⟨v1, h, ?_, Fr.rf, hT, fun _ => ⟨id, id⟩, fun ⟨q', a, b, c⟩ => absurd (l3.mpr (eB_pm a b c)) (by decide), fun x => ⟨x, fun _ => ⟨rfl, rfl⟩⟩, h1, fun x => Or.inl x⟩
          rw [fx_s]
          simp only [bX11_layTraps_68, fk_43 hF, gk_s, n2, if_neg (nI_ge (show p < n by omega) (by omega)), fr_43_46 hF, bd_s, fk_73 hF, fl_73 hF, gd_e p0, p1, if_pos rw_, l1, b2_s, if_true]
        · subst r1
          obtain ⟨x, x1, x2, x3⟩ := pm_eB (l3.mp rfl)
          have fg : Fr z S72 h (hp_si h (z + 73) p 1) := Fr.si (by decide) rfl
          have mn : Mn z 72 73 h (hp_si h (z + 73) p 1) := Mn.si
          have mp : Mk z 73 (hp_si h (z + 73) p 1) p := by unfold Mk; rw [si_3, u2_at, if_pos ⟨rfl, rfl⟩]; decide
          refine ⟨1, hp_si h (z + 73) p 1, ?_, fg, ⟨fg.relB S72_ess hR, by rw [si_3, u2_at, if_neg (by omega)]; exact hu, fun y hy hm => hS.1 y hy (by unfold Mk at hm ⊢; rw [si_3, u2_at, if_neg (by omega)] at hm; exact hm), fun y hy hm => ?_, fun y hy h40 hm => hS.2.2 y hy h40 (by unfold Mk at hm ⊢; rw [si_3, u2_at, if_neg (by omega)] at hm; exact hm)⟩, mn, fun _ => mp, fun q => absurd q (by decide), Or.inr rfl, fun _ => Or.inr (ms_lt mn (q := p) (by omega) (Or.inr ⟨rw_, mp⟩))⟩
          · rw [fx_s]
            simp only [bX11_layTraps_68, fk_43 hF, gk_s, n2, if_neg (nI_ge (show p < n by omega) (by omega)), fr_43_46 hF, bd_s, fk_73 hF, fl_73 hF, gd_e p0, p1, if_pos rw_, l1, b2_s, if_neg (show ¬ (1 : Int32) = 0 by decide), nm_d]
          · by_cases w : y = p
            · rw [w]; exact LC_step (e := fun q p => eB D u p q) x1 (by omega) x2 (hS.2.1 x x1 x3)
            · unfold Mk at hm; rw [si_3, u2_at, if_neg (fun r => w r.2)] at hm; exact hS.2.1 y hy hm
      · refine ⟨v1, h, ?_, Fr.rf, hT, fun _ => ⟨id, id⟩, fun _ => rw_, fun x => ⟨x, fun _ => ⟨rfl, rfl⟩⟩, h1, fun x => Or.inl x⟩
        rw [fx_s]
        simp only [bX11_layTraps_68, fk_43 hF, gk_s, n2, if_neg (nI_ge (show p < n by omega) (by omega)), fr_43_46 hF, bd_s, fk_73 hF, fl_73 hF, gd_e p0, p1, if_neg rw_]
    obtain ⟨c, g2, e1, f1, t1, m1, k1, k2, k3, k4⟩ := m_108 (rc60 := rc60) (rc68 := fx (bX11_layTraps_68 rc60) (fun _ _ _ _ => none) f) (p := p) (by omega) n 0 NF g v2 (by omega) (by omega) tg' h2
    obtain ⟨c', h', e2, f2, t2, m2, j1, j2, j3, j4, j5⟩ := ih (p + 1) f g2 c (by omega) (by omega) t1 k3
    refine ⟨c', h', ?_, (fg.tr f1).tr f2, t2, (mg.tr m1).tr m2, fun p' a b q' hq' he hm => ?_, fun p' a b hq => ?_, fun x => ?_, j4, fun x => ?_⟩
    · rw [hst]
      exact e1.trans e2
    · by_cases w : p' = p
      · rw [w] at he hm; exact (m2 q').1 (k1 q' (Nat.zero_le q') hq' he ((mg p).1 hm))
      · exact j1 p' (by omega) b q' hq' he (((mg.tr m1) p').1 hm)
    · by_cases w : p' = p
      · rw [w] at hq ⊢; exact ((m1.tr m2) p).2 (wg hq)
      · obtain ⟨q', x1, x2, x3⟩ := hq
        exact j2 p' (by omega) b ⟨q', x1, x2, ((mg.tr m1) q').2 x3⟩
    · obtain ⟨y1, y2⟩ := j3 x
      obtain ⟨y3, y4⟩ := k2 y1
      obtain ⟨y5, y6⟩ := c2 y3
      exact ⟨y5, (y6.tr y4).tr y2⟩
    · have l1 := ms_le (n := n) mg
      have l2 := ms_le (n := n) m1
      have l3 := ms_le (n := n) m2
      rcases j5 x with y | y
      · rcases k4 y with y | y
        · rcases h3 y with y | y
          · exact Or.inl y
          · exact Or.inr (by omega)
        · exact Or.inr (by omega)
      · exact Or.inr (by omega)
theorem m_60 : ∀ (m f : Nat) (h : Hp), ms z n h ≤ m → m + 1 < f → TH z h D n ng pa ba la ca u → (0 < n → Mk z 72 h 0) → (∀ q, q < n → D 44 q = 1 → Mk z 73 h q) →
    ∃ h', fx bX11_layTraps_60 (fun _ _ _ => none) f (z + 43) 1 h = some ((), h') ∧ Fr z S72 h h' ∧ TH z h' D n ng pa ba la ca u ∧ ∀ q, q < n → (Mk z 72 h' q ↔ RD D n u n q = true) ∧ (Mk z 73 h' q ↔ WD D n u n q = true) := by
  intro m
  induction m with
  | zero =>
    intro f h hm hf hT hb hw
    obtain ⟨f, rfl⟩ : ∃ k, f = k + 1 + 1 := ⟨f - 2, by omega⟩
    have nfb := NF_big
    have n40 := (rb_n hT.1).2.2
    obtain ⟨c, g, e1, f1, t1, m1, k1, k2, k3, k4, k5⟩ := m_68 (rc60 := fx bX11_layTraps_60 (fun _ _ _ => none) (f + 1)) n 0 NF h 0 (by omega) (by omega) hT (Or.inl rfl)
    rcases k4 with c0 | c1
    · subst c0
      have sam := (k3 rfl).2
      have back : ∀ x, (Mk z 72 g x → Mk z 72 h x) ∧ (Mk z 73 g x → Mk z 73 h x) := fun x => ⟨fun a => by unfold Mk at a ⊢; rw [(sam x).1] at a; exact a, fun a => by unfold Mk at a ⊢; rw [(sam x).2] at a; exact a⟩
      refine ⟨g, ?_, f1, t1, fun q hq => ⟨⟨t1.2.2.1 q hq, fun x => ?_⟩, ⟨t1.2.2.2.1 q hq, fun x => ?_⟩⟩⟩
      · rw [fx_s]
        simp only [bX11_layTraps_60, if_neg (show ¬ (1 : Int32) = 0 by decide), fX11_layTraps_68]
        refine e1.trans ?_
        rw [fx_s]
        simp only [bX11_layTraps_60, if_true]
      · refine (m1 q).1 (LC_least (X := fun q => Mk z 72 h q) (fun y hy hb2 => ?_) (fun a b ha hb3 he hm2 => (back b).1 (k1 a (Nat.zero_le a) ha b hb3 he hm2)) n q hq x)
        have : y = 0 := of_decide_eq_true hb2
        rw [this]
        exact hb (by omega)
      · exact (m1 q).2 (LC_least (X := fun q => Mk z 73 h q) (fun y hy hb2 => hw y hy (of_decide_eq_true hb2)) (fun a b ha hb3 he hm2 => (back b).2 (k2 b (Nat.zero_le b) hb3 ⟨a, ha, he, hm2⟩)) n q hq x)
    · exfalso
      rcases k5 c1 with y | y
      · exact absurd y (by decide)
      · omega
  | succ m ih =>
    intro f h hm hf hT hb hw
    obtain ⟨f, rfl⟩ : ∃ k, f = k + 1 + 1 := ⟨f - 2, by omega⟩
    have nfb := NF_big
    have n40 := (rb_n hT.1).2.2
    obtain ⟨c, g, e1, f1, t1, m1, k1, k2, k3, k4, k5⟩ := m_68 (rc60 := fx bX11_layTraps_60 (fun _ _ _ => none) (f + 1)) n 0 NF h 0 (by omega) (by omega) hT (Or.inl rfl)
    rcases k4 with c0 | c1
    · subst c0
      have sam := (k3 rfl).2
      have back : ∀ x, (Mk z 72 g x → Mk z 72 h x) ∧ (Mk z 73 g x → Mk z 73 h x) := fun x => ⟨fun a => by unfold Mk at a ⊢; rw [(sam x).1] at a; exact a, fun a => by unfold Mk at a ⊢; rw [(sam x).2] at a; exact a⟩
      refine ⟨g, ?_, f1, t1, fun q hq => ⟨⟨t1.2.2.1 q hq, fun x => ?_⟩, ⟨t1.2.2.2.1 q hq, fun x => ?_⟩⟩⟩
      · rw [fx_s]
        simp only [bX11_layTraps_60, if_neg (show ¬ (1 : Int32) = 0 by decide), fX11_layTraps_68]
        refine e1.trans ?_
        rw [fx_s]
        simp only [bX11_layTraps_60, if_true]
      · refine (m1 q).1 (LC_least (X := fun q => Mk z 72 h q) (fun y hy hb2 => ?_) (fun a b ha hb3 he hm2 => (back b).1 (k1 a (Nat.zero_le a) ha b hb3 he hm2)) n q hq x)
        have : y = 0 := of_decide_eq_true hb2
        rw [this]
        exact hb (by omega)
      · exact (m1 q).2 (LC_least (X := fun q => Mk z 73 h q) (fun y hy hb2 => hw y hy (of_decide_eq_true hb2)) (fun a b ha hb3 he hm2 => (back b).2 (k2 b (Nat.zero_le b) hb3 ⟨a, ha, he, hm2⟩)) n q hq x)
    · have lt : ms z n g < ms z n h := by
        rcases k5 c1 with y | y
        · exact absurd y (by decide)
        · exact y
      subst c1
      obtain ⟨h', e2, f2, t2, c2⟩ := ih (f + 1) g (by omega) (by omega) t1 (fun x => (m1 0).1 (hb x)) (fun q hq x => (m1 q).2 (hw q hq x))
      refine ⟨h', ?_, f1.tr f2, t2, c2⟩
      rw [fx_s]
      simp only [bX11_layTraps_60, if_neg (show ¬ (1 : Int32) = 0 by decide), fX11_layTraps_68]
      exact e1.trans e2
theorem m_init_l (hR : RelB z h D n ng pa ba la ca) : ∀ (d i f : Nat) (h' : Hp), i + d = 40 → d < f → Fr z S72 h h' → (∀ q, q < i → h'.2.2.1 (z + 72) q = (if q = 0 then 1 else 0) ∧ h'.2.2.1 (z + 73) q = (if q < n ∧ D 44 q = 1 then 1 else 0)) →
    ∃ h2, fx bX11_layTraps_2 (fun _ _ _ => none) f (z + 43) (nI i) h' = fX11_layTraps_60 (z + 43) 1 h2 ∧ Fr z S72 h h2 ∧ (∀ q, q < 40 → h2.2.2.1 (z + 72) q = (if q = 0 then 1 else 0) ∧ h2.2.2.1 (z + 73) q = (if q < n ∧ D 44 q = 1 then 1 else 0)) := by
  have n40 := (rb_n hR).2.2
  intro d
  induction d with
  | zero =>
    intro i f h' hi hf hfr hro
    obtain ⟨f, rfl⟩ : ∃ k, f = k + 1 := ⟨f - 1, by omega⟩
    obtain rfl : i = 40 := by omega
    refine ⟨h', ?_, hfr, hro⟩
    rw [fx_s]
    simp only [bX11_layTraps_2, if_pos (show (40 : Int32) ≤ nI 40 by decide)]
  | succ d ih =>
    intro i f h' hi hf hfr hro
    obtain ⟨f, rfl⟩ : ∃ k, f = k + 1 := ⟨f - 1, by omega⟩
    have hR' := hfr.relB S72_ess hR
    have hF' := hR'.1
    have n2 := (rb_n hR').2.1
    have p0 : ix (nI i) 40 = true := ix_nI (by omega) (by decide)
    have p1 : (nI i).toNatClampNeg = i := nI_clamp (by omega)
    obtain ⟨w, ew⟩ : ∃ w : Int32, w = if i = 0 then 1 else 0 := ⟨_, rfl⟩
    obtain ⟨x, ex⟩ : ∃ x : Int32, x = if i < n ∧ D 44 i = 1 then 1 else 0 := ⟨_, rfl⟩
    have zw : zb w = true := by rw [ew]; split <;> rfl
    obtain ⟨g1, eg1⟩ : ∃ g1, g1 = hp_si h' (z + 72) i w := ⟨_, rfl⟩
    obtain ⟨g2, eg2⟩ : ∃ g2, g2 = hp_si g1 (z + 73) i x := ⟨_, rfl⟩
    have F1 : fxd z g1 := by rw [eg1]; exact hF'
    have r0 : g1.2.2.1 (z + 43) 0 = nI n := by rw [eg1, si_3, u2_at, if_neg (by omega)]; exact n2
    have r44 : g1.2.2.1 (z + 44) i = D 44 i := by rw [eg1, si_3, u2_at, if_neg (by omega)]; exact rb_ess hR' 44 i (by decide) rfl
    have f2 : Fr z S72 h' g2 := by rw [eg2, eg1]; exact (Fr.si (by decide) rfl).tr (Fr.si (by decide) rfl)
    have rd72 : ∀ q, g2.2.2.1 (z + 72) q = if q = i then w else h'.2.2.1 (z + 72) q := fun q => by
      rw [eg2, si_3, u2_at, if_neg (by omega), eg1, si_3, u2_at]
      by_cases y : q = i
      · rw [if_pos ⟨rfl, y⟩, if_pos y]
      · rw [if_neg (fun r => y r.2), if_neg y]
    have rd73 : ∀ q, g2.2.2.1 (z + 73) q = if q = i then x else h'.2.2.1 (z + 73) q := fun q => by
      rw [eg2, si_3, u2_at]
      by_cases y : q = i
      · rw [if_pos ⟨rfl, y⟩, if_pos y]
      · rw [if_neg (fun r => y r.2), if_neg y, eg1, si_3, u2_at, if_neg (by omega)]
    obtain ⟨h2, e1, f1, c1⟩ := ih (i + 1) f g2 (by omega) (by omega) (hfr.tr f2) (fun q hq => by
      rw [rd72, rd73]
      by_cases y : q = i
      · subst y
        rw [if_pos rfl, if_pos rfl]
        exact ⟨ew, ex⟩
      · rw [if_neg y, if_neg y]
        exact hro q (by omega))
    refine ⟨h2, ?_, f1, c1⟩
    have t22 : fX11_layTraps_22 (fx bX11_layTraps_2 (fun _ _ _ => none) f) (z + 43) (nI i) w (nI i) (z + 72) h' = fx bX11_layTraps_2 (fun _ _ _ => none) f (z + 43) (nI (i + 1)) g2 := by
      simp only [fX11_layTraps_22, fk_72 hF', gk_s, fl_72 hF', gd_e p0, p1, gd_e zw, nm_d, ← eg1, fk_43 F1, fr_43_46 F1, bd_s, r0, fk_73 F1, fl_73 F1, fr_43_1 F1, fk_44 F1, fl_44 F1, r44, nI_1]
      by_cases y : i < n
      · rw [if_neg (nI_ge y (by omega))]
        by_cases y2 : D 44 i = 1
        · rw [if_pos y2, eg2, ex, if_pos ⟨y, y2⟩]
        · rw [if_neg y2, eg2, ex, if_neg (fun r => y2 r.2)]
      · rw [if_pos (nI_le (by omega) (by omega)), eg2, ex, if_neg (fun r => y r.1)]
    rw [fx_s]
    simp only [bX11_layTraps_2, if_neg (show ¬ (40 : Int32) ≤ nI i from nI_ge (b := 40) (by omega) (by decide)), fk_43 hF', gk_s, fr_43_45 hF', bd_s]
    by_cases y : i = 0
    · have y2 : nI i = 0 := by rw [y]; rfl
      rw [if_pos y2]
      rw [ew, if_pos y] at t22
      exact t22.trans e1
    · have y2 : ¬ nI i = 0 := nI_ne0 (by omega) (by omega)
      rw [if_neg y2]
      rw [ew, if_neg y] at t22
      exact t22.trans e1
theorem m_layTraps (hR : RelB z h D n ng pa ba la ca) (hu : h.2.2.1 (z + 43) 35 = u) (hn : 0 < n) : ∃ h', fX11_layTraps (z + 43) h = some ((), h') ∧ Fr z S72 h h' ∧ ∀ q, q < n → (Mk z 72 h' q ↔ RD D n u n q = true) ∧ (Mk z 73 h' q ↔ WD D n u n q = true) := by
  have nfb := NF_big
  have n40 := (rb_n hR).2.2
  obtain ⟨h1, e1, f1, c1⟩ := m_init_l hR 40 0 NF h (by omega) (by omega) Fr.rf (fun q hq => absurd hq (Nat.not_lt_zero q))
  have hR1 := f1.relB S72_ess hR
  have hT1 : TH z h1 D n ng pa ba la ca u := by
    refine ⟨hR1, by rw [f1.2.2.2.2.1 43 35 (by decide) rfl]; exact hu, fun q hq hm => ?_, fun q hq hm => ?_, fun q hq h40 hm => ?_⟩
    · unfold Mk at hm
      rw [(c1 q (by omega)).1] at hm
      by_cases y : q = 0
      · exact LC_base hq (decide_eq_true y)
      · rw [if_neg y] at hm; exact absurd rfl hm
    · unfold Mk at hm
      rw [(c1 q (by omega)).2] at hm
      by_cases y : q < n ∧ D 44 q = 1
      · exact LC_base hq (decide_eq_true y.2)
      · rw [if_neg y] at hm; exact absurd rfl hm
    · unfold Mk at hm
      rw [(c1 q h40).2, if_neg (by omega)] at hm
      exact hm rfl
  have msb : ms z n h1 ≤ 80 := by
    have b1 := fb_sm_bound (f := fun q => if h1.2.2.1 (z + 72) q = 0 then 1 else 0) (c := 1) (n := n) (fun k _ => by split <;> decide)
    have b2 := fb_sm_bound (f := fun q => if h1.2.2.1 (z + 73) q = 0 then 1 else 0) (c := 1) (n := n) (fun k _ => by split <;> decide)
    unfold ms
    omega
  obtain ⟨h2, e2, f2, -, c2⟩ := m_60 80 NF h1 msb (by omega) hT1 (fun _ => by unfold Mk; rw [(c1 0 (by decide)).1, if_pos rfl]; decide) (fun q hq hk => by unfold Mk; rw [(c1 q (by omega)).2, if_pos ⟨hq, hk⟩]; decide)
  exact ⟨h2, e1.trans e2, f1.tr f2, c2⟩
theorem m_trap_l (hR : RelB z h D n ng pa ba la ca) (hM : ∀ q, q < n → (Mk z 72 h q ↔ RD D n u n q = true) ∧ (Mk z 73 h q ↔ WD D n u n q = true)) (v : Int32) : ∀ (d i c f : Nat), i + d = n → d < f → c ≤ i → fx bX11_trap_41 (fun _ _ _ _ _ => none) f (z + 43) v (nI c) (nI i) h = some (tr2 (trB D n u) v d i c, h) := by
  have hF := hR.1
  obtain ⟨n1, n2, n40⟩ := rb_n hR
  intro d
  induction d with
  | zero =>
    intro i c f hi hf hc
    obtain ⟨f, rfl⟩ : ∃ k, f = k + 1 := ⟨f - 1, by omega⟩
    obtain rfl : i = n := by omega
    rw [fx_s]
    simp only [bX11_trap_41, fk_43 hF, gk_s, n2, if_pos (Int32.le_refl (nI i)), tr2]
    by_cases q : 0 ≤ v
    · rw [if_pos q, if_pos q]
    · rw [if_neg q, if_neg q]
  | succ d ih =>
    intro i c f hi hf hc
    obtain ⟨f, rfl⟩ : ∃ k, f = k + 1 := ⟨f - 1, by omega⟩
    obtain ⟨m1, m2⟩ := hM i (by omega)
    rw [fx_s]
    simp only [bX11_trap_41, fk_43 hF, gk_s, n2, if_neg (nI_ge (show i < n by omega) (by omega)), fr_43_45 hF, bd_s, fk_72 hF, fl_72 hF, gd_e (ix_nI (p := i) (N := 40) (by omega) (by decide)), nI_clamp (n := i) (by omega), fr_43_46 hF, fk_73 hF, fl_73 hF, nm_d, nI_1, tr2]
    by_cases c6 : h.2.2.1 (z + 72) i = 0
    · have : RD D n u n i = false := by cases q : RD D n u n i; rfl; exact absurd c6 (m1.mpr q)
      have ht : trB D n u i = false := by unfold trB; rw [this]; rfl
      rw [if_pos c6, ht, if_neg (by decide)]
      exact ih (i + 1) c f (by omega) (by omega) (by omega)
    · rw [if_neg c6]
      by_cases c7 : h.2.2.1 (z + 73) i = 0
      · have : WD D n u n i = false := by cases q : WD D n u n i; rfl; exact absurd c7 (m2.mpr q)
        have ht : trB D n u i = true := by unfold trB; rw [this, m1.mp c6]; rfl
        rw [if_pos c7, ht, if_pos rfl]
        by_cases q2 : nI c = v
        · rw [if_pos q2, if_pos q2]
        · rw [if_neg q2, if_neg q2]
          exact ih (i + 1) (c + 1) f (by omega) (by omega) (by omega)
      · have ht : trB D n u i = false := by unfold trB; rw [m2.mp c7, m1.mp c6]; rfl
        rw [if_neg c7, ht, if_neg (by decide)]
        exact ih (i + 1) c f (by omega) (by omega) (by omega)
theorem sim_trap (v1 v2 : Int32) : Sim z (fX10_trap z v1 v2) (fX11_trap (z + 43) v1 v2) := by
  intro h hRel
  obtain ⟨⟨D, n, ng, pa, ba, la, ca, hR⟩, hT⟩ := id hRel
  obtain ⟨n1, n2, n3⟩ := rb_n hR
  have hF := hR.1
  have nfb := NF_big
  have hh : fX10_isHour v1 h = some (bi (0 ≤ v1 ∧ v1 ≤ 23), h) := by
    have hz : zb (bi (0 ≤ v1 ∧ v1 ≤ 23)) = true := by unfold bi; split <;> rfl
    simp only [fX10_isHour, l_within, b2_s, gd_e hz]
  rcases (Classical.em (0 ≤ v1 ∧ v1 ≤ 23)).symm with c1 | c1
  · exact ⟨-1, h, h, by simp only [fX10_trap, hh, b2_s, bi_0, if_pos c1], fk_43 hF, by simp only [fX11_trap, l_in, b2_s, bi_0, if_pos c1], hRel⟩
  rcases (Classical.em ((-1) ≤ v2)).symm with c2 | c2
  · exact ⟨-1, h, h, by simp only [fX10_trap, hh, b2_s, bi_0, if_neg (not_not_intro c1), if_neg c2], fk_43 hF, by simp only [fX11_trap, l_in, b2_s, bi_0, if_neg (not_not_intro c1), if_neg c2], hRel⟩
  by_cases hn0 : n = 0
  · subst hn0
    exact ⟨-2, h, h, by simp only [fX10_trap, hh, b2_s, bi_0, if_neg (not_not_intro c1), if_pos c2, fk_0 hF, gk_s, fr_0_0 hF, bd_s, fk_1 hF, n1, if_pos (show nI 0 = 0 from rfl)], fk_43 hF, by simp only [fX11_trap, l_in, b2_s, bi_0, if_neg (not_not_intro c1), if_pos c2, fk_43 hF, gk_s, n2, if_pos (show nI 0 = 0 from rfl)], hRel⟩
  have hne : ¬ nI n = 0 := nI_ne0 (by omega) (by omega)
  obtain ⟨h1, e1, f1, m1⟩ := x_look (u := v1) hR (by omega)
  have hR1 := f1.relB S67_ess hR
  have hF1 := hR1.1
  have f35 : Fr z (fun c k => c == 43 && k == 35) h1 (hp_si h1 (z + 43) 35 v1) := Fr.si (by decide) rfl
  have f35e : ∀ c k, (c == 43 && k == 35) = true → ess c k = false := by
    intro c k hq
    simp only [Bool.and_eq_true, beq_iff_eq] at hq
    obtain ⟨rfl, rfl⟩ := hq
    rfl
  have hR2 := f35.relB f35e hR1
  obtain ⟨h3, e3, f3, m3⟩ := m_layTraps (u := v1) hR2 (by rw [si_3, u2_at, if_pos ⟨rfl, rfl⟩]) (by omega)
  have hR3 := f3.relB S72_ess hR2
  have n2' := (rb_n hR1).2.1
  refine ⟨tr2 (trB D n v1) v2 n 0 0, h1, h3, ?_, fk_43 hF1, ?_, ⟨D, n, ng, pa, ba, la, ca, hR3⟩, Told_scr hT ((f1.scT ?_).tr ((f35.scT ?_).tr (f3.scT ?_)))⟩
  · simp only [fX10_trap, hh, b2_s, bi_0, if_neg (not_not_intro c1), if_pos c2, fk_0 hF, gk_s, fr_0_0 hF, bd_s, fk_1 hF, n1, if_neg hne, fr_0_2 hF, fk_5 hF, e1, fk_0 hF1, fr_0_2 hF1, fr_0_0 hF1, fk_5 hF1]
    by_cases c5 : v2 = -1
    · rw [if_pos c5, c5]
      have := x_howMany hR1 m1 n 0 0 NF (by omega) (by omega) (Nat.le_refl 0)
      have e : fX7_howMany (z + 5) (some (z + 1)) h1 = _ := this
      rw [e, b2_s]
    · have c6 : 0 ≤ v2 := by
        have h1 : (-1 : Int32).toInt ≤ v2.toInt := Int32.le_iff_toInt_le.mp c2
        have h2 : (-1 : Int32).toInt = -1 := by decide
        have h3 : v2.toInt ≠ -1 := fun x => c5 (Int32.toInt_inj.mp (by rw [x]; decide))
        rw [Int32.le_iff_toInt_le]
        have h4 : (0 : Int32).toInt = 0 := by decide
        omega
      rw [if_neg c5]
      have := x_numberOf hR1 m1 c6 n 0 0 NF (by omega) (by omega) (Nat.le_refl 0)
      have e : fX7_numberOf (z + 5) (some (z + 1)) v2 h1 = _ := this
      rw [e, b2_s]
  · have := m_trap_l hR3 m3 v2 n 0 0 NF (by omega) (by omega) (Nat.le_refl 0)
    simp only [fX11_trap, l_in, b2_s, bi_0, if_neg (not_not_intro c1), if_pos c2, fk_43 hF1, gk_s, n2', if_neg hne, nm_d, e3]
    exact this
  · intro c k hq
    simp only [S67, Bool.or_eq_true, beq_iff_eq] at hq
    omega
  · intro c k hq
    simp only [Bool.and_eq_true, beq_iff_eq] at hq
    omega
  · intro c k hq
    simp only [S72, Bool.or_eq_true, beq_iff_eq] at hq
    omega
end
