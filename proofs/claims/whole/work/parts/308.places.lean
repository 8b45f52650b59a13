/-! menu, desk, leaf, clock, asked -/
section
variable {z : Nat}
theorem rg_of {v : Int32} {lo hi : Nat} {L M : Int32} (hL : L = nI lo) (hM : M = nI hi) (hlo : lo < 2 ^ 31) (hhi : hi < 2 ^ 31) (h : L ≤ v ∧ v ≤ M) : rgN v lo hi := by
  have h0 : ¬ v < 0 := by
    rw [i_nlt]
    exact Int32.le_trans (by rw [hL]; exact nI_pos' hlo) h.1
  obtain ⟨k, hk, rfl⟩ := nI_of h0
  rw [hL, nI_le' hk hlo, hM, nI_le' hhi hk] at h
  exact ⟨k, h.1, h.2, rfl⟩
theorem nxt_of {v : Int32} (h : -1 ≤ v ∧ v ≤ 39) : nxt v := by
  by_cases e : v = -1
  · exact Or.inl e
  · obtain ⟨a, b⟩ := h
    rw [Int32.le_iff_toInt_le] at a b
    have e' : ¬ v.toInt = -1 := fun q => e (Int32.toInt_inj.mp q)
    have h0 : ¬ v < 0 := by
      rw [Int32.lt_iff_toInt_lt]
      have a' : (-1 : Int) ≤ v.toInt := a
      show ¬ v.toInt < 0
      omega
    obtain ⟨k, hk, rfl⟩ := nI_of h0
    rw [nI_toInt hk] at b
    have b' : (k : Int) ≤ 39 := b
    exact Or.inr ⟨k, by omega, rfl⟩
theorem nxt_m1 : nxt (-1) := Or.inl rfl
theorem rgN_lit (k lo hi : Nat) (h1 : lo ≤ k) (h2 : k ≤ hi) : rgN (nI k) lo hi := ⟨k, h1, h2, rfl⟩
/-- the model's newPlace, at a state with n places -/
theorem m_newPlace {g : Hp} {n : Nat} (hF : fxd z g) (hn : g.2.2.1 (z + 43) 0 = nI n) (h40 : n < 40) (kd t a b : Int32) : fX11_newPlace (z + 43) kd t a b g = some (nI n, hp_si (hp_si (hp_si (hp_si (hp_si (hp_si (hp_si g (z + 44) n kd) (z + 45) n t) (z + 47) n a) (z + 48) n b) (z + 49) n 0) (z + 53) n 0) (z + 43) 0 (nI (n + 1))) := by
  have q0 : ix (nI n) 40 = true := ix_nI h40 (by decide)
  have q1 : (nI n).toNatClampNeg = n := nI_clamp (by omega)
  simp only [fX11_newPlace, fk_43 hF, gk_s, fr_43_1 hF, fr_43_2 hF, fr_43_4 hF, fr_43_5 hF, fr_43_6 hF, fr_43_10 hF, bd_s, fk_44 hF, fk_45 hF, fk_47 hF, fk_48 hF, fk_49 hF, fk_53 hF, fl_44 hF, fl_45 hF, fl_47 hF, fl_48 hF, fl_49 hF, fl_53 hF, hn, gd_e q0, q1, nm_d, si_1, si_2, si_3, si_4, u2_at, Nat.add_left_cancel_iff, show ¬ (43 = 44) by decide, show ¬ (43 = 45) by decide, show ¬ (43 = 47) by decide, show ¬ (43 = 48) by decide, show ¬ (43 = 49) by decide, show ¬ (43 = 53) by decide, false_and, if_false, and_self, if_true, nI_1]
  rw [show nI (n + 1) - 1 = nI n from nI_pred n]
/-- what all five have in common, behind the class's half -/
theorem join_add {h g h2 : Hp} {D D2 : Nat → Nat → Int32} {n ng : Nat} {pa ba : Nat → Nat} {la : Nat → Nat → Nat} {ca : Nat → Nat} {F : Nat → Int32} {L : Nat} (hR : RelB z h D n ng pa ba la ca) (hT : Told z h) (hn : n < 40) (hN : NewP h g F L)
    (hD : Dyn z (hp_si (hp_sr g (z + 2) n (some h.2.2.2.2)) (z + 1) 1 (nI (n + 1))) h2) (hz : h2.2.2.2.2 = h.2.2.2.2 + 2) (hr : h2.2.2.2.1 = u2 g.2.2.2.1 (z + 2) n (some h.2.2.2.2)) (hi : ∀ a, z + 82 ≤ a → h2.2.2.1 a = g.2.2.1 a) (hk1 : h2.1 = g.1) (hk2 : h2.2.1 = g.2.1)
    (he2 : ∀ c k, c < 82 → ess c k = true → h2.2.2.1 (z + c) k = D2 c k) (hs : sameButP D D2 n) (h1 : D2 43 0 = nI (n + 1)) (h11 : D2 1 1 = nI (n + 1)) (hP : PV D2 n) (h53 : D2 53 n = 0) (hT2 : ScT z h h2)
    (hO : F 0 = D2 44 n ∧ F 1 = D2 45 n ∧ F 2 = D2 49 n ∧ F 3 = D2 47 n ∧ F 4 = D2 48 n ∧ F 6 = 0 ∧ (D2 44 n = 0 ∨ D2 44 n = 4 → F 7 = D2 46 n) ∧ (D2 44 n = 4 → F 8 = D2 52 n) ∧ (D2 44 n = 3 → F 9 = D2 50 n ∧ F 10 = D2 51 n)) (hL : L = if D2 44 n = 0 then 6 else 0) : Rel z h2 := by
  have hz0 := hR.1.2.2.2
  obtain ⟨a1, a2, a3, a4, a5, a6, a7⟩ := hN
  have hF2 : fxd z h2 := fxd_dyn (show fxd z (hp_si (hp_sr g (z + 2) n (some h.2.2.2.2)) (z + 1) 1 (nI (n + 1))) from fxd_sr (c0 := 2) (Or.inl rfl) (fxd_new hR.1 ⟨a1, a2, a3, a4, a5, a6, a7⟩)) hD
  have hI0 : h2.2.2.1 h.2.2.2.2 = g.2.2.1 h.2.2.2.2 := hi _ (by omega)
  have hr0 : h2.2.2.2.1 h.2.2.2.2 = g.2.2.2.1 h.2.2.2.2 := by rw [hr, u2_ne (by omega)]
  obtain ⟨b0, b1, b2_, b3, b4, b6, b7, b8, b9⟩ := hO
  obtain ⟨pa', ba', hR2⟩ := RelB_add (h2 := h2) hR hn hF2 he2 hs h1 h11 hP h53 hz (fun a ha => by rw [hk1, hk2]; exact ⟨(a2 a ha).1, (a2 a ha).2.1⟩) (fun a h3 h4 => ⟨by rw [hi a h3]; exact (a2 a h4).2.2.1, by rw [hr, u2_ne (by omega)]; exact (a2 a h4).2.2.2⟩) (fun p hp => by rw [hr, u2_at, if_neg (fun q => hp q.2), (a2 _ (by omega)).2.2.2]) (by rw [hr, u2_at, if_pos ⟨rfl, rfl⟩]) (fun k => by rw [hr, u2_ne (by omega), (a2 _ (by omega)).2.2.2]) (by
      refine ⟨by rw [hk1]; exact a3, by rw [hr0]; exact a6, by rw [hk1]; exact a4, by rw [hk2, a5]; exact hL, ?_, ?_, ?_, ?_, ?_, ?_, ?_, ?_, ?_, fun i hi6 h3 => ?_⟩
      · rw [hI0, a7 0 (by decide) (by decide)]; exact b0
      · rw [hI0, a7 1 (by decide) (by decide)]; exact b1
      · rw [hI0, a7 2 (by decide) (by decide)]; exact b2_
      · rw [hI0, a7 3 (by decide) (by decide)]; exact b3
      · rw [hI0, a7 4 (by decide) (by decide)]; exact b4
      · rw [hI0, a7 6 (by decide) (by decide), b6]; exact h53.symm
      · intro q; rw [hI0, a7 7 (by decide) (by decide)]; exact b7 q
      · intro q; rw [hI0, a7 8 (by decide) (by decide)]; exact b8 q
      · intro q; rw [hI0, a7 9 (by decide) (by decide), a7 10 (by decide) (by decide)]; exact b9 q
      · rw [h53] at h3; exact absurd h3 (nI_pos (by omega)))
  exact ⟨⟨D2, n + 1, ng, pa', ba', la, ca, hR2⟩, Told_scr hT hT2⟩
end
