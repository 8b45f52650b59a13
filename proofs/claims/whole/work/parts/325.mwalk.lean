/-! the model: a call -/
def MS (z : Nat) (h : Hp) (t : Nat) (l : Int32) (c k cl : Nat) (se cm ks : Nat → Int32) : Prop :=
  h.2.2.1 (z + 43) 37 = nI t ∧ h.2.2.1 (z + 43) 38 = l ∧ h.2.2.1 (z + 43) 39 = nI c ∧ h.2.2.1 (z + 43) 40 = nI k ∧ h.2.2.1 (z + 43) 41 = nI cl
  ∧ (∀ q, q < 40 → h.2.2.1 (z + 69) q = se q) ∧ (∀ q, q < 60 → q < c → h.2.2.1 (z + 70) q = cm q) ∧ (∀ q, q < 60 → q < k → h.2.2.1 (z + 71) q = ks q)
def Sm : Nat → Nat → Bool := fun c k => (c == 43 && (k == 37 || k == 38 || k == 39 || k == 40 || k == 41)) || c == 69 || c == 70 || c == 71
section
variable {z : Nat} {h : Hp} {D : Nat → Nat → Int32} {n ng : Nat} {pa ba : Nat → Nat} {la : Nat → Nat → Nat} {ca : Nat → Nat} {p s : Nat} {w v u : Int32} {kn : Bool} {T U : Nat → Nat} {P : Nat} {l : Int32} {t c k cl m : Nat} {se cm ks : Nat → Int32}
theorem Sm_ess : ∀ c k, Sm c k = true → ess c k = false := by
  intro c k hc
  simp only [Sm, Bool.or_eq_true, Bool.and_eq_true, beq_iff_eq] at hc
  obtain ((⟨rfl, (((rfl | rfl) | rfl) | rfl) | rfl⟩ | rfl) | rfl) | rfl := hc <;> rfl
/-- the model's caller -/
def MoX (z : Nat) (h : Hp) (D : Nat → Nat → Int32) (n ng : Nat) (pa ba : Nat → Nat) (la : Nat → Nat → Nat) (ca : Nat → Nat) (kn : Bool) (T U : Nat → Nat) (w v u : Int32) (P : Nat) : Prop :=
  RelB z h D n ng pa ba la ca ∧ MoV z h w v u ∧ h.2.2.1 (z + 43) 34 = nI P ∧ P ≤ 5000 ∧ (kn = true → TW z 68 h n U 100000000 ∧ (∀ q, (T q = 1000000 ∧ U q = 100000000) ∨ (T q = U q ∧ T q ≤ 4200 * n)))
theorem MoX.fr {h h' : Hp} (hX : MoX z h D n ng pa ba la ca kn T U w v u P) (hS : Fr z Sm h h') : MoX z h' D n ng pa ba la ca kn T U w v u P := by
  obtain ⟨x1, ⟨x2, x3, x4⟩, x5, x6, x7⟩ := hX
  have rd := hS.2.2.2.2.1
  exact ⟨hS.relB Sm_ess x1, ⟨by rw [rd 43 32 (by decide) rfl]; exact x2, by rw [rd 43 33 (by decide) rfl]; exact x3, by rw [rd 43 35 (by decide) rfl]; exact x4⟩, by rw [rd 43 34 (by decide) rfl]; exact x5, x6, fun q => ⟨(x7 q).1.fr hS (by decide) (fun _ => rfl), (x7 q).2⟩⟩
/-- the model's ticks are set -/
theorem MS.tk {x : Nat} (hS : MS z h t l c k cl se cm ks) : MS z (hp_si h (z + 43) 37 (nI x)) x l c k cl se cm ks := by
  obtain ⟨s1, s2, s3, s4, s5, s6, s7, s8⟩ := hS
  refine ⟨?_, ?_, ?_, ?_, ?_, fun q hq => ?_, fun q hq hq2 => ?_, fun q hq hq2 => ?_⟩ <;> rw [si_3, u2_at]
  · rw [if_pos ⟨rfl, rfl⟩]
  · rw [if_neg (by omega)]; exact s2
  · rw [if_neg (by omega)]; exact s3
  · rw [if_neg (by omega)]; exact s4
  · rw [if_neg (by omega)]; exact s5
  · rw [if_neg (by omega)]; exact s6 q hq
  · rw [if_neg (by omega)]; exact s7 q hq hq2
  · rw [if_neg (by omega)]; exact s8 q hq hq2
theorem MS.ck {x : Nat} (hS : MS z h t l c k cl se cm ks) : MS z (hp_si h (z + 43) 41 (nI x)) t l c k x se cm ks := by
  obtain ⟨s1, s2, s3, s4, s5, s6, s7, s8⟩ := hS
  refine ⟨?_, ?_, ?_, ?_, ?_, fun q hq => ?_, fun q hq hq2 => ?_, fun q hq hq2 => ?_⟩ <;> rw [si_3, u2_at]
  · rw [if_neg (by omega)]; exact s1
  · rw [if_neg (by omega)]; exact s2
  · rw [if_neg (by omega)]; exact s3
  · rw [if_neg (by omega)]; exact s4
  · rw [if_pos ⟨rfl, rfl⟩]
  · rw [if_neg (by omega)]; exact s6 q hq
  · rw [if_neg (by omega)]; exact s7 q hq hq2
  · rw [if_neg (by omega)]; exact s8 q hq hq2
theorem m_comes (hF : fxd z h) (hp : p < 40) (hc : c < 1000000) (hS : MS z h t l c k cl se cm ks) :
    ∃ h', fX11_comes (z + 43) (nI p) h = some ((), h') ∧ Fr z Sm h h' ∧ MS z h' t (nI p) (c + 1) k cl (va_up se p 1) (va_up cm c (nI p)) ks := by
  obtain ⟨s1, s2, s3, s4, s5, s6, s7, s8⟩ := hS
  have r39 : (hp_si (hp_si h (z + 43) 38 (nI p)) (z + 69) p 1).2.2.1 (z + 43) 39 = nI c := by
    simp only [si_3, u2_at]; repeat rw [if_neg (by omega)]
    exact s3
  have a1 : Fr z Sm h (hp_si h (z + 43) 38 (nI p)) := Fr.si (by decide) rfl
  have a2 : Fr z Sm _ (hp_si (hp_si h (z + 43) 38 (nI p)) (z + 69) p 1) := Fr.si (by decide) rfl
  by_cases q : c < 60
  · have q6 : ¬ (60 : Int32) ≤ nI c := nI_ge (b := 60) q (by decide)
    have r39' : (hp_si (hp_si (hp_si h (z + 43) 38 (nI p)) (z + 69) p 1) (z + 70) c (nI p)).2.2.1 (z + 43) 39 = nI c := by rw [si_3, u2_at, if_neg (by omega)]; exact r39
    refine ⟨hp_si (hp_si (hp_si (hp_si h (z + 43) 38 (nI p)) (z + 69) p 1) (z + 70) c (nI p)) (z + 43) 39 (nI (c + 1)), ?_, ((a1.tr a2).tr (Fr.si (by decide) rfl)).tr (Fr.si (by decide) rfl), ?_⟩
    · simp only [fX11_comes, fk_43 hF, gk_s, nm_d, si_4, si_1, si_2, fr_43_42 hF, bd_s, fk_69 hF, fl_69 hF, gd_e (ix_nI (p := p) (N := 40) hp (by decide)), nI_clamp (n := p) (by omega), r39, if_neg q6, fr_43_43 hF, fk_70 hF, fl_70 hF, gd_e (ix_nI (p := c) (N := 60) q (by decide)), nI_clamp (n := c) (by omega), r39', nI_1]
    · refine ⟨?_, ?_, ?_, ?_, ?_, fun q hq => ?_, fun q hq hq2 => ?_, fun q hq hq2 => ?_⟩ <;> rw [si_3, u2_at, si_3, u2_at, si_3, u2_at, si_3, u2_at]
      · repeat rw [if_neg (by omega)]
        exact s1
      · rw [if_neg (by omega), if_neg (by omega), if_neg (by omega), if_pos ⟨rfl, rfl⟩]
      · rw [if_pos ⟨rfl, rfl⟩]
      · repeat rw [if_neg (by omega)]
        exact s4
      · repeat rw [if_neg (by omega)]
        exact s5
      · rw [if_neg (by omega), if_neg (by omega)]
        by_cases r : q = p
        · rw [if_pos ⟨rfl, r⟩, r, va_up_self]
        · rw [if_neg (fun r2 => r r2.2), if_neg (by omega), va_up_ne _ _ r]
          exact s6 q hq
      · rw [if_neg (by omega)]
        by_cases r : q = c
        · rw [if_pos ⟨rfl, r⟩, r, va_up_self]
        · rw [if_neg (fun r2 => r r2.2), if_neg (by omega), if_neg (by omega), va_up_ne _ _ r]
          exact s7 q hq (by omega)
      · repeat rw [if_neg (by omega)]
        exact s8 q hq hq2
  · have q6 : (60 : Int32) ≤ nI c := nI_le (a := 60) (by omega) (by omega)
    refine ⟨hp_si (hp_si (hp_si h (z + 43) 38 (nI p)) (z + 69) p 1) (z + 43) 39 (nI (c + 1)), ?_, (a1.tr a2).tr (Fr.si (by decide) rfl), ?_⟩
    · simp only [fX11_comes, fk_43 hF, gk_s, nm_d, si_4, si_1, si_2, fr_43_42 hF, bd_s, fk_69 hF, fl_69 hF, gd_e (ix_nI (p := p) (N := 40) hp (by decide)), nI_clamp (n := p) (by omega), r39, if_pos q6, nI_1]
    · refine ⟨?_, ?_, ?_, ?_, ?_, fun q hq => ?_, fun q hq hq2 => ?_, fun q hq hq2 => ?_⟩ <;> rw [si_3, u2_at, si_3, u2_at, si_3, u2_at]
      · repeat rw [if_neg (by omega)]
        exact s1
      · rw [if_neg (by omega), if_neg (by omega), if_pos ⟨rfl, rfl⟩]
      · rw [if_pos ⟨rfl, rfl⟩]
      · repeat rw [if_neg (by omega)]
        exact s4
      · repeat rw [if_neg (by omega)]
        exact s5
      · rw [if_neg (by omega)]
        by_cases r : q = p
        · rw [if_pos ⟨rfl, r⟩, r, va_up_self]
        · rw [if_neg (fun r2 => r r2.2), if_neg (by omega), va_up_ne _ _ r]
          exact s6 q hq
      · repeat rw [if_neg (by omega)]
        rw [va_up_ne _ _ (by omega)]
        exact s7 q hq (by omega)
      · repeat rw [if_neg (by omega)]
        exact s8 q hq hq2
theorem m_press (hF : fxd z h) (h34 : h.2.2.1 (z + 43) 34 = nI P) (hP : P ≤ 5000) (ht : t ≤ 100000) (hk : k < 1000000) (key : Int32) (hS : MS z h t l c k cl se cm ks) :
    ∃ h', fX11_press (z + 43) key h = some ((), h') ∧ Fr z Sm h h' ∧ MS z h' (if t ≤ P then t + 1 else t) l c (if t ≤ P then k + 1 else k) cl se cm (if t ≤ P then va_up ks k key else ks) := by
  have hS0 := hS
  obtain ⟨s1, s2, s3, s4, s5, s6, s7, s8⟩ := hS
  by_cases tp : t ≤ P
  · simp only [if_pos tp]
    by_cases q : k < 60
    · have q6 : ¬ (60 : Int32) ≤ nI k := nI_ge (b := 60) q (by decide)
      have r1 : (hp_si h (z + 71) k key).2.2.1 (z + 43) 40 = nI k := by rw [si_3, u2_at, if_neg (by omega)]; exact s4
      have r2 : (hp_si (hp_si h (z + 71) k key) (z + 43) 40 (nI (k + 1))).2.2.1 (z + 43) 37 = nI t := by rw [si_3, u2_at, if_neg (by omega), si_3, u2_at, if_neg (by omega)]; exact s1
      refine ⟨hp_si (hp_si (hp_si h (z + 71) k key) (z + 43) 40 (nI (k + 1))) (z + 43) 37 (nI (t + 1)), ?_, ((Fr.si (by decide) rfl).tr (Fr.si (by decide) rfl)).tr (Fr.si (by decide) rfl), ?_⟩
      · simp only [fX11_press, fk_43 hF, gk_s, s1, h34, if_pos (nI_le tp (by omega)), s4, if_neg q6, fr_43_44 hF, bd_s, fk_71 hF, fl_71 hF, gd_e (ix_nI (p := k) (N := 60) q (by decide)), nI_clamp (n := k) (by omega), nm_d, r1, nI_1, r2]
      · refine ⟨?_, ?_, ?_, ?_, ?_, fun q hq => ?_, fun q hq hq2 => ?_, fun q hq hq2 => ?_⟩ <;> rw [si_3, u2_at, si_3, u2_at, si_3, u2_at]
        · rw [if_pos ⟨rfl, rfl⟩]
        · repeat rw [if_neg (by omega)]
          exact s2
        · repeat rw [if_neg (by omega)]
          exact s3
        · rw [if_neg (by omega), if_pos ⟨rfl, rfl⟩]
        · repeat rw [if_neg (by omega)]
          exact s5
        · repeat rw [if_neg (by omega)]
          exact s6 q hq
        · repeat rw [if_neg (by omega)]
          exact s7 q hq hq2
        · rw [if_neg (by omega), if_neg (by omega)]
          by_cases r : q = k
          · rw [if_pos ⟨rfl, r⟩, r, va_up_self]
          · rw [if_neg (fun r2 => r r2.2), va_up_ne _ _ r]
            exact s8 q hq (by omega)
    · have q6 : (60 : Int32) ≤ nI k := nI_le (a := 60) (by omega) (by omega)
      have r2 : (hp_si h (z + 43) 40 (nI (k + 1))).2.2.1 (z + 43) 37 = nI t := by rw [si_3, u2_at, if_neg (by omega)]; exact s1
      refine ⟨hp_si (hp_si h (z + 43) 40 (nI (k + 1))) (z + 43) 37 (nI (t + 1)), ?_, (Fr.si (by decide) rfl).tr (Fr.si (by decide) rfl), ?_⟩
      · simp only [fX11_press, fk_43 hF, gk_s, s1, h34, if_pos (nI_le tp (by omega)), s4, if_pos q6, nm_d, nI_1, r2]
      · refine ⟨?_, ?_, ?_, ?_, ?_, fun q hq => ?_, fun q hq hq2 => ?_, fun q hq hq2 => ?_⟩ <;> rw [si_3, u2_at, si_3, u2_at]
        · rw [if_pos ⟨rfl, rfl⟩]
        · repeat rw [if_neg (by omega)]
          exact s2
        · repeat rw [if_neg (by omega)]
          exact s3
        · rw [if_neg (by omega), if_pos ⟨rfl, rfl⟩]
        · repeat rw [if_neg (by omega)]
          exact s5
        · repeat rw [if_neg (by omega)]
          exact s6 q hq
        · repeat rw [if_neg (by omega)]
          exact s7 q hq hq2
        · repeat rw [if_neg (by omega)]
          rw [va_up_ne _ _ (by omega)]
          exact s8 q hq (by omega)
  · simp only [if_neg tp]
    refine ⟨h, ?_, Fr.rf, hS0⟩
    simp only [fX11_press, fk_43 hF, gk_s, s1, h34, if_neg (nI_ge (show P < t by omega) (by omega))]
theorem i_alg (x y b r : Int32) : x + y - (y + b) + b + r = x + r := by grind
end
