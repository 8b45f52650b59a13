/-! the class: one place of a call -/
section
variable {z b : Nat} {h : Hp} {D : Nat → Nat → Int32} {n ng : Nat} {pa ba : Nat → Nat} {la : Nat → Nat → Nat} {ca : Nat → Nat} {p s : Nat} {w v u : Int32} {kn : Bool} {T : Nat → Nat} {P a : Nat} {e l : Int32} {t c k cl m : Nat} {se cm ks : Nat → Int32}
/-- the caller's patience -/
def CaP (z : Nat) (h : Hp) (a : Nat) (P : Nat) : Prop := z + 82 ≤ a ∧ h.1 a = 1 ∧ h.2.2.1 a 2 = nI P ∧ P ≤ 5000
theorem CaP.fr {S : Nat → Nat → Bool} {h h' : Hp} (hC : CaP z h a P) (hS : Fr z S h h') : CaP z h' a P := by
  obtain ⟨c1, c2, c3, c4⟩ := hC
  obtain ⟨s1, s2, s3, s4, s5, s6⟩ := hS
  exact ⟨c1, by rw [s1]; exact c2, by rw [s6 a c1]; exact c3, c4⟩
theorem x_spend (hF : fxd z h) (hb : b = 35 ∨ b = 39) (hC : CaP z h a P) (ht : t ≤ 5001) (hm : m ≤ 4200) (hS : CS z b h e t l c k cl se cm ks) :
    ∃ h', fX8_spend (z + b) (nI m) (some a) h = some ((), h') ∧ Fr z (Sw b) h h' ∧ CS z b h' (if P < t + m then 2 else e) (if P < t + m then P else t + m) l c k cl se cm ks := by
  obtain ⟨s0, s1, s2, s3, s4, s5, s9, sse, scm, sks⟩ := hS
  obtain ⟨w1, -⟩ := wb_f hF hb
  obtain ⟨a1, a2, a3, a4⟩ := hC
  have rp : (hp_si h (z + b) 2 (nI (t + m))).2.2.1 a 2 = nI P := by rw [si_3, u2_at, if_neg (by omega)]; exact a3
  have rt : (hp_si h (z + b) 2 (nI (t + m))).2.2.1 (z + b) 2 = nI (t + m) := by rw [si_3, u2_at, if_pos ⟨rfl, rfl⟩]
  have f1 : Fr z (Sw b) h (hp_si h (z + b) 2 (nI (t + m))) := Fr.sw (d := 0) hb (by decide)
  by_cases q : P < t + m
  · refine ⟨hp_si (hp_si (hp_si h (z + b) 2 (nI (t + m))) (z + b) 2 (nI P)) (z + b) 1 2, ?_, (f1.tr (Fr.sw (d := 0) hb (by decide))).tr (Fr.sw (d := 0) hb (by decide)), ?_⟩
    · simp only [fX8_spend, w1, gk_s, nm_d, s2, nI_add, bd_s, si_1, a2, rt, rp, if_neg (nI_ge q (by omega))]
    · rw [if_pos q, if_pos q]
      refine ⟨?_, ?_, ?_, ?_, ?_, ?_, ?_, fun q hq => ?_, fun q hq hq2 => ?_, fun q hq hq2 => ?_⟩ <;> simp only [si_3, u2_at]
      · repeat rw [if_neg (by omega)]
        exact s0
      · rw [if_pos (by simp)]
      · rw [if_neg (by omega), if_pos (by simp)]
      · repeat rw [if_neg (by omega)]
        exact s3
      · repeat rw [if_neg (by omega)]
        exact s4
      · repeat rw [if_neg (by omega)]
        exact s5
      · repeat rw [if_neg (by omega)]
        exact s9
      · repeat rw [if_neg (by omega)]
        exact sse q hq
      · repeat rw [if_neg (by omega)]
        exact scm q hq hq2
      · repeat rw [if_neg (by omega)]
        exact sks q hq hq2
  · refine ⟨hp_si h (z + b) 2 (nI (t + m)), ?_, f1, ?_⟩
    · simp only [fX8_spend, w1, gk_s, nm_d, s2, nI_add, bd_s, si_1, a2, rt, rp, if_pos (nI_le (show t + m ≤ P by omega) (by omega))]
    · rw [if_neg q, if_neg q]
      refine ⟨?_, ?_, ?_, ?_, ?_, ?_, ?_, fun q hq => ?_, fun q hq hq2 => ?_, fun q hq hq2 => ?_⟩ <;> simp only [si_3, u2_at]
      · repeat rw [if_neg (by omega)]
        exact s0
      · repeat rw [if_neg (by omega)]
        exact s1
      · rw [if_pos (by simp)]
      · repeat rw [if_neg (by omega)]
        exact s3
      · repeat rw [if_neg (by omega)]
        exact s4
      · repeat rw [if_neg (by omega)]
        exact s5
      · repeat rw [if_neg (by omega)]
        exact s9
      · repeat rw [if_neg (by omega)]
        exact sse q hq
      · repeat rw [if_neg (by omega)]
        exact scm q hq hq2
      · repeat rw [if_neg (by omega)]
        exact sks q hq hq2
theorem x_press0 (hF : fxd z h) (hb : b = 35 ∨ b = 39) (he : e ≠ -1) (key : Int32) (hS : CS z b h e t l c k cl se cm ks) : fX8_press (z + b) key (some a) h = some ((), h) := by
  obtain ⟨s0, s1, s2, s3, s4, s5, s9, sse, scm, sks⟩ := hS
  obtain ⟨w1, -⟩ := wb_f hF hb
  simp only [fX8_press, w1, gk_s, s1, if_neg he]
theorem x_press (hF : fxd z h) (hb : b = 35 ∨ b = 39) (hC : CaP z h a P) (ht : t ≤ P) (hk : k < 1000000) (key : Int32) (hS : CS z b h (-1) t l c k cl se cm ks) :
    ∃ h', fX8_press (z + b) key (some a) h = some ((), h') ∧ Fr z (Sw b) h h' ∧ CS z b h' (if P < t + 1 then 2 else -1) (if P < t + 1 then P else t + 1) l c (k + 1) cl se cm (va_up ks k key) := by
  have hS0 := hS
  obtain ⟨s0, s1, s2, s3, s4, s5, s9, sse, scm, sks⟩ := hS
  obtain ⟨w1, w2, w3, w4, w5, w6, w7, w8, w9, w10⟩ := wb_f hF hb
  have a4 := hC.2.2.2
  obtain ⟨h2, eh2⟩ : ∃ h2, h2 = (if k < 60 then hp_si h (z + (b + 2)) k key else h) := ⟨_, rfl⟩
  have f2 : Fr z (Sw b) h h2 := by
    rw [eh2]
    split
    · exact Fr.sw (d := 2) hb (by decide)
    · exact Fr.rf
  have rd2 : ∀ a j, h2.2.2.1 a j = if a = z + (b + 2) ∧ j = k ∧ k < 60 then key else h.2.2.1 a j := fun a j => by
    rw [eh2]
    by_cases q : k < 60
    · rw [if_pos q, si_3, u2_at]
      by_cases r : a = z + (b + 2) ∧ j = k
      · rw [if_pos r, if_pos ⟨r.1, r.2, q⟩]
      · rw [if_neg r, if_neg (show ¬ (a = z + (b + 2) ∧ j = k ∧ k < 60) from fun r2 => r ⟨r2.1, r2.2.1⟩)]
    · rw [if_neg q, if_neg (fun r2 => q r2.2.2)]
  have e1 : fX8_press (z + b) key (some a) h = fX8_press_28 (z + b) (some a) h2 := by
    rw [eh2]
    simp only [fX8_press, w1, gk_s, s1, if_pos, s5]
    by_cases q : k < 60
    · have q6 : ¬ (60 : Int32) ≤ nI k := nI_ge (b := 60) q (by decide)
      rw [if_neg q6, if_pos q]
      simp only [w3, bd_s, w6, gk_s, w9, gd_e (ix_nI (p := k) (N := 60) q (by decide)), nI_clamp (n := k) (by omega), nm_d]
    · have q6 : (60 : Int32) ≤ nI k := nI_le (a := 60) (by omega) (by omega)
      rw [if_pos q6, if_neg q]
  obtain ⟨h3, eh3⟩ : ∃ h3, h3 = hp_si h2 (z + b) 5 (nI (k + 1)) := ⟨_, rfl⟩
  have f3 : Fr z (Sw b) h2 h3 := by rw [eh3]; exact Fr.sw (d := 0) hb (by decide)
  have rd : ∀ a j, h3.2.2.1 a j = if a = z + b ∧ j = 5 then nI (k + 1) else if a = z + (b + 2) ∧ j = k ∧ k < 60 then key else h.2.2.1 a j := fun a j => by rw [eh3, si_3, u2_at, rd2]
  have hS3 : CS z b h3 (-1) t l c (k + 1) cl se cm (va_up ks k key) := by
    refine ⟨?_, ?_, ?_, ?_, ?_, ?_, ?_, fun q hq => ?_, fun q hq hq2 => ?_, fun q hq hq2 => ?_⟩ <;> rw [rd]
    · repeat rw [if_neg (by omega)]
      exact s0
    · repeat rw [if_neg (by omega)]
      exact s1
    · repeat rw [if_neg (by omega)]
      exact s2
    · repeat rw [if_neg (by omega)]
      exact s3
    · repeat rw [if_neg (by omega)]
      exact s4
    · rw [if_pos ⟨rfl, rfl⟩]
    · repeat rw [if_neg (by omega)]
      exact s9
    · repeat rw [if_neg (by omega)]
      exact sse q hq
    · repeat rw [if_neg (by omega)]
      exact scm q hq hq2
    · rw [if_neg (by omega)]
      by_cases r : q = k
      · rw [if_pos ⟨rfl, r, by omega⟩, r, va_up_self]
      · rw [if_neg (fun r2 => r r2.2.1), va_up_ne _ _ r]
        exact sks q hq (by omega)
  have hF3 : fxd z h3 := by
    have := (f2.tr f3).scr (Sw_ess hb)
    exact fxd_scr hF this
  obtain ⟨h4, e4, f4, c4⟩ := x_spend (m := 1) hF3 hb (hC.fr (f2.tr f3)) (by omega) (by decide) hS3
  refine ⟨h4, ?_, (f2.tr f3).tr f4, c4⟩
  rw [e1]
  have v5 : h2.2.2.1 (z + b) 5 = nI k := by rw [rd2, if_neg (by omega)]; exact s5
  have w1' : h2.1 (z + b) = 9 := by rw [f2.1]; exact w1
  simp only [fX8_press_28, w1', gk_s, nm_d, v5, nI_1, ← eh3]
  rw [show (1 : Int32) = nI 1 from rfl, e4]
  rfl
theorem x_finish (hF : fxd z h) (hb : b = 35 ∨ b = 39) (how : Int32) (hS : CS z b h e t l c k cl se cm ks) :
    ∃ h', fX8_finish (z + b) how h = some ((), h') ∧ Fr z (Sw b) h h' ∧ CS z b h' (if e = -1 then how else e) t l c k cl se cm ks := by
  obtain ⟨s0, s1, s2, s3, s4, s5, s9, sse, scm, sks⟩ := id hS
  obtain ⟨w1, -⟩ := wb_f hF hb
  by_cases q : e = -1
  · refine ⟨hp_si h (z + b) 1 how, ?_, Fr.sw (d := 0) hb (by decide), ?_⟩
    · simp only [fX8_finish, w1, gk_s, s1, if_pos q, nm_d]
    · rw [if_pos q]
      refine ⟨?_, ?_, ?_, ?_, ?_, ?_, ?_, fun q hq => ?_, fun q hq hq2 => ?_, fun q hq hq2 => ?_⟩ <;> rw [si_3, u2_at]
      · rw [if_neg (by omega)]; exact s0
      · rw [if_pos ⟨rfl, rfl⟩]
      · rw [if_neg (by omega)]; exact s2
      · rw [if_neg (by omega)]; exact s3
      · rw [if_neg (by omega)]; exact s4
      · rw [if_neg (by omega)]; exact s5
      · rw [if_neg (by omega)]; exact s9
      · rw [if_neg (by omega)]; exact sse q hq
      · rw [if_neg (by omega)]; exact scm q hq hq2
      · rw [if_neg (by omega)]; exact sks q hq hq2
  · exact ⟨h, by simp only [fX8_finish, w1, gk_s, s1, if_neg q], Fr.rf, by rw [if_neg q]; exact hS⟩
/-- what the class knows of the ways: by them, or none -/
def KW (z : Nat) (h : Hp) (n : Nat) (kn : Bool) (T : Nat → Nat) (wo : Option Nat) : Prop := (kn = true ∧ wo = some (z + 3) ∧ TW z 4 h n T 1000000) ∨ (kn = false ∧ wo = none)
theorem TW.fr {S : Nat → Nat → Bool} {h h' : Hp} {W d : Nat} (hT : TW z d h n T W) (hS : Fr z S h h') (hd : d < 82) (hq : ∀ k, S d k = false) : TW z d h' n T W := by
  obtain ⟨t1, t2⟩ := hT
  exact ⟨fun q hq2 => by rw [hS.2.2.2.2.1 d q hd (hq q)]; exact t1 q hq2, t2⟩
theorem KW.fr {wo : Option Nat} {h h' : Hp} (hb : b = 35 ∨ b = 39) (hK : KW z h n kn T wo) (hS : Fr z (Sw b) h h') : KW z h' n kn T wo := by
  rcases hK with ⟨k1, k2, k3⟩ | k
  · refine Or.inl ⟨k1, k2, k3.fr hS (by decide) (fun q => ?_)⟩
    rcases hb with rfl | rfl <;> rfl
  · exact Or.inr k
theorem x_bestLine (hR : RelB z h D n ng pa ba la ca) (hp : p < n) (h0 : D 44 p = 0) (hT : TW z 4 h n T 1000000) : fX9_bestLine (z + 3) (some (pa p)) (nI p) h = some (if jD D w true T p < toN (D 53 p) then nI (jD D w true T p) else -1, h) := by
  have hF := hR.1
  have n40 := (rb_n hR).2.2
  have hP := pv_of hR hp
  obtain ⟨hs, h6⟩ := sz_toN hR hp
  obtain ⟨p1, p2, p3, p5, p6, p7, p8, p9, p10, p11, p12, p13⟩ := x_pl hR hp
  have e6 : h.2.2.1 (pa p) 6 = nI (toN (D 53 p)) := by rw [p10]; exact hs
  obtain ⟨j, ej⟩ : ∃ j, j = jD D w true T p := ⟨_, rfl⟩
  have j1 : j ≤ toN (D 53 p) := by rw [ej]; exact fa_first_le _ _
  have j2 : ∀ i, i < j → ¬ 1 + T (tg (D 57 (6 * p + i))) = T p := fun i hi => by
    have := fa_first_no _ (toN (D 53 p)) i (by rw [ej] at hi; exact hi)
    simp only [if_true] at this
    exact of_decide_eq_false this
  have j3 : j < toN (D 53 p) → 1 + T (tg (D 57 (6 * p + j))) = T p := fun hj => by
    have := fa_first_yes _ (toN (D 53 p)) (by rw [ej] at hj; exact hj)
    simp only [if_true] at this
    rw [ej]
    exact of_decide_eq_true this
  rw [← ej]
  have hb1 := hT.2.2.2.1
  have tp := hb1 p
  have key : ∀ (d i f : Nat), i + d = j → d < f → fx bX9_bestLine_9 (fun _ _ _ _ _ => none) f (z + 3) (some (pa p)) (nI (T p)) (nI i) h = some (if j < toN (D 53 p) then nI j else -1, h) := by
    intro d
    induction d with
    | zero =>
      intro i f hi hf
      obtain ⟨f, rfl⟩ : ∃ k, f = k + 1 := ⟨f - 1, by omega⟩
      obtain rfl : i = j := by omega
      rw [fx_s]
      by_cases q : i < toN (D 53 p)
      · obtain ⟨l0, l1, l2, l3, l4, l5, l6⟩ := x_ln hR hp hs h6 (i := i) q
        simp only [bX9_bestLine_9, bd_s, p1, gk_s, e6, if_neg (nI_ge q (by omega)), p2, p3, l0, gd_e (ix_nI (p := i) (N := 6) (by omega) (by decide)), nI_clamp (n := i) (by omega), l1, l2, l6, fk_3 hF, x_ticksFrom hF hT rfl (ln_nxt hP hs h6 q), b2_s, one_nI, nI_add, j3 q, if_pos, if_pos q]
      · simp only [bX9_bestLine_9, bd_s, p1, gk_s, e6, if_pos (nI_le (show toN (D 53 p) ≤ i by omega) (by omega)), if_neg q]
    | succ d ih =>
      intro i f hi hf
      obtain ⟨f, rfl⟩ : ∃ k, f = k + 1 := ⟨f - 1, by omega⟩
      have q : i < toN (D 53 p) := by omega
      obtain ⟨l0, l1, l2, l3, l4, l5, l6⟩ := x_ln hR hp hs h6 (i := i) q
      have tq := hb1 (tg (D 57 (6 * p + i)))
      have hne : ¬ nI (1 + T (tg (D 57 (6 * p + i)))) = nI (T p) := fun r => j2 i (by omega) ((nI_eq (by omega) (by omega)).mp r)
      rw [fx_s]
      simp only [bX9_bestLine_9, bd_s, p1, gk_s, e6, if_neg (nI_ge q (by omega)), p2, p3, l0, gd_e (ix_nI (p := i) (N := 6) (by omega) (by decide)), nI_clamp (n := i) (by omega), l1, l2, l6, fk_3 hF, x_ticksFrom hF hT rfl (ln_nxt hP hs h6 q), b2_s, one_nI, nI_add, if_neg hne, nm_d]
      exact ih (i + 1) f (by omega) (by omega)
  have hTF := x_ticksFrom hF hT rfl (nI_nxt (q := p) (by omega))
  rw [tg_nI (by omega)] at hTF
  simp only [fX9_bestLine, fk_3 hF, gk_s, hTF, b2_s]
  exact key j 0 NF (by omega) (by have := NF_big; omega)
theorem x_first (hR : RelB z h D n ng pa ba la ca) (hp : p < n) : fX5_firstLineFor (pa p) w h = some (if jD D w false T p < toN (D 53 p) then nI (jD D w false T p) else -1, h) := by
  obtain ⟨hs, h6⟩ := sz_toN hR hp
  refine x_firstLine hR hp hs h6 w (fa_first_le _ _) (fun i hi => ?_) (fun hj => ?_)
  · have := fa_first_no _ (toN (D 53 p)) i hi
    simp only [Bool.false_eq_true, if_false] at this
    exact of_decide_eq_false this
  · have := fa_first_yes _ (toN (D 53 p)) hj
    simp only [Bool.false_eq_true, if_false] at this
    exact of_decide_eq_true this
end
