/-! sets as bits -/
theorem nI_and (a b : Nat) : nI a &&& nI b = nI (a &&& b) := by
  show Int32.ofNat a &&& Int32.ofNat b = Int32.ofNat (a &&& b)
  apply Int32.toBitVec_inj.mp
  rw [Int32.toBitVec_and, Int32.toBitVec_ofNat', Int32.toBitVec_ofNat', Int32.toBitVec_ofNat', BitVec.ofNat_and]
def tz (s : Nat) : Nat := fa_first (fun k => Nat.testBit s k) 8
theorem tz_facts : ∀ s, s < 256 → 1 ≤ s → tz s < 8 ∧ s.testBit (tz s) = true ∧ (s &&& (s - 1)) + 2 ^ tz s = s ∧ 2 ^ tz s &&& s = 2 ^ tz s ∧ (oneB s = true → s = 2 ^ tz s) ∧ oneB (2 ^ tz s) = true := by decide +kernel
theorem tz_bits : ∀ s, s < 256 → 1 ≤ s → ∀ k, k < 8 → (s &&& (s - 1)).testBit k = (!(k == tz s) && s.testBit k) := by decide +kernel
theorem bit_sh : ∀ s, s < 256 → ∀ k, k < 8 → decide (((nI s >>> (nI k &&& 31)) &&& 1) = 1) = s.testBit k := by decide +kernel
theorem shl_n : ∀ n, n ≤ 8 → (1 : Int32) <<< (nI n &&& 31) = nI (2 ^ n) := by decide +kernel
theorem and_sub : ∀ s, s < 256 → ∀ q, q < 256 → q &&& s = q → (nI s &&& (nI q ^^^ (-1))) = nI (s - q) := by decide +kernel
theorem and_not0 : ∀ s, s < 256 → ∀ q, q < 256 → decide ((nI q &&& (nI s ^^^ (-1))) = 0) = decide (q &&& s = q) := by decide +kernel
theorem sub_sub : ∀ s, s < 256 → ∀ q, q < 256 → q &&& s = q → q ≤ s ∧ (s - q) &&& s = s - q := by decide +kernel
theorem land_par (a b : Nat) : (a &&& b) % 2 = a % 2 * (b % 2) := by
  have h1 : (a &&& b) % 2 = (a % 2) &&& (b % 2) := Nat.and_mod_two_pow (n := 1)
  rw [h1]
  rcases Nat.mod_two_eq_zero_or_one a with x | x <;> rcases Nat.mod_two_eq_zero_or_one b with y | y <;> rw [x, y] <;> rfl
theorem land_half (a b : Nat) : (a &&& b) / 2 = (a / 2) &&& (b / 2) := Nat.and_div_two
/-- no part lies between a part and the next below it -/
theorem sub_next : ∀ s q r : Nat, q &&& s = q → r &&& s = r → r < q → r ≤ (q - 1) &&& s := by
  intro s
  induction s using Nat.strongRecOn with
  | ind s ih =>
    intro q r hq hr hlt
    by_cases s0 : s = 0
    · subst s0
      rw [Nat.and_zero] at hq
      omega
    have q2 := land_half q s
    rw [hq] at q2
    have r2 := land_half r s
    rw [hr] at r2
    have qp := land_par q s
    rw [hq] at qp
    have rp := land_par r s
    rw [hr] at rp
    have gp := land_par (q - 1) s
    have g2 := land_half (q - 1) s
    rcases Nat.mod_two_eq_zero_or_one q with x | x
    · have e1 : (q - 1) % 2 = 1 := by omega
      have e2 : (q - 1) / 2 = q / 2 - 1 := by omega
      have := ih (s / 2) (by omega) (q / 2) (r / 2) q2.symm r2.symm (by omega)
      rw [e1] at gp
      rw [e2] at g2
      have hle : r % 2 ≤ s % 2 := by
        rcases Nat.mod_two_eq_zero_or_one r with y | y
        · omega
        · rcases Nat.mod_two_eq_zero_or_one s with w | w
          · rw [y, w] at rp; omega
          · omega
      omega
    · have e1 : (q - 1) % 2 = 0 := by omega
      have e2 : (q - 1) / 2 = q / 2 := by omega
      rw [e1] at gp
      rw [e2, ← q2] at g2
      omega
theorem oneB_I {q : Nat} (h1 : 1 ≤ q) (h2 : q < 256) : ((nI q &&& (nI q - 1)) = 0) = (oneB q = true) := by
  obtain ⟨k, rfl⟩ : ∃ k, q = k + 1 := ⟨q - 1, by omega⟩
  rw [nI_pred, nI_and]
  have hb : (k + 1) &&& k ≤ k + 1 := Nat.and_le_left
  apply propext
  unfold oneB
  rw [Nat.add_sub_cancel, beq_iff_eq]
  constructor
  · intro h
    exact (nI_eq (b := 0) (by omega) (by decide)).mp h
  · intro h
    rw [h]; rfl
def ntzI (v0 : Int32) : Option (Int32 × Unit) :=
  let x1 := (v0 ^^^ (-1)) &&& (v0 - 1)
  if 0 < x1 then
    (if x1 ≤ 256 then
      (if x1 ≤ 16 then
        (if x1 ≤ 4 then some (1 + ((x1.toUInt32 >>> (Int32.toUInt32 1 &&& Int32.toUInt32 31)).toInt32), ())
          else some (1 + 2 + ((((x1.toUInt32 >>> (Int32.toUInt32 2 &&& Int32.toUInt32 31)).toInt32).toUInt32 >>> (Int32.toUInt32 1 &&& Int32.toUInt32 31)).toInt32), ()))
        else (let x4 := (x1.toUInt32 >>> (Int32.toUInt32 4 &&& Int32.toUInt32 31)).toInt32
          if x4 ≤ 4 then some (1 + 4 + ((x4.toUInt32 >>> (Int32.toUInt32 1 &&& Int32.toUInt32 31)).toInt32), ())
          else some (1 + 4 + 2 + ((((x4.toUInt32 >>> (Int32.toUInt32 2 &&& Int32.toUInt32 31)).toInt32).toUInt32 >>> (Int32.toUInt32 1 &&& Int32.toUInt32 31)).toInt32), ())))
      else none)
  else some (x1 &&& 32, ())
theorem ntz_val : ∀ s, s < 256 → 1 ≤ s → ntzI (nI s) = some (nI (tz s), ()) := by decide +kernel
theorem ntz_of {v r : Int32} {h : Hp} (hv : ntzI v = some (r, ())) : fJ6_numberOfTrailingZeros_0f7a4 v h = some (r, h) := by
  unfold ntzI at hv
  simp only [fJ6_numberOfTrailingZeros_0f7a4, fJ6_numberOfTrailingZeros_0f7a4_34, fJ6_numberOfTrailingZeros_0f7a4_62, nm_d]
  generalize (v ^^^ (-1)) &&& (v - 1) = x at hv ⊢
  dsimp only at hv
  by_cases c0 : 0 < x
  · rw [if_pos c0] at hv ⊢
    by_cases c1 : x ≤ 256
    · have c2 : x ≤ 65536 := Int32.le_trans c1 (by decide)
      rw [if_pos c1] at hv
      rw [if_pos c2, if_pos c1]
      by_cases c3 : x ≤ 16
      · rw [if_pos c3] at hv ⊢
        by_cases c4 : x ≤ 4
        · rw [if_pos c4] at hv ⊢
          simp only [Option.some.injEq, Prod.mk.injEq, and_true] at hv
          rw [hv]
        · rw [if_neg c4] at hv ⊢
          simp only [Option.some.injEq, Prod.mk.injEq, and_true] at hv
          rw [hv]
      · rw [if_neg c3] at hv ⊢
        by_cases c4 : (x.toUInt32 >>> (Int32.toUInt32 4 &&& Int32.toUInt32 31)).toInt32 ≤ 4
        · rw [if_pos c4] at hv ⊢
          simp only [Option.some.injEq, Prod.mk.injEq, and_true] at hv
          rw [hv]
        · rw [if_neg c4] at hv ⊢
          simp only [Option.some.injEq, Prod.mk.injEq, and_true] at hv
          rw [hv]
    · rw [if_neg c1] at hv
      exact absurd hv (by simp)
  · rw [if_neg c0] at hv ⊢
    simp only [Option.some.injEq, Prod.mk.injEq, and_true] at hv
    rw [hv]
theorem x_ntz {s : Nat} {h : Hp} (h1 : 1 ≤ s) (h2 : s < 256) : fJ6_numberOfTrailingZeros_0f7a4 (nI s) h = some (nI (tz s), h) := ntz_of (ntz_val s h2 h1)
