/-! the first heap: two constructors -/
/-- h is the closed heap A, z cells further on -/
def Sh (z : Nat) (A h : Hp) : Prop := h.2.2.2.2 = z + A.2.2.2.2 ∧ ∀ c, c < A.2.2.2.2 → h.1 (z + c) = A.1 c ∧ h.2.1 (z + c) = A.2.1 c ∧ h.2.2.1 (z + c) = A.2.2.1 c ∧ ∀ k, h.2.2.2.1 (z + c) k = (A.2.2.2.1 c k).map (fun x => z + x)
section
variable {z : Nat} {A h : Hp}
theorem Sh.nw (S : Sh z A h) (kd n : Nat) : Sh z (hp_nw A kd n) (hp_nw h kd n) := by
  obtain ⟨s1, s2⟩ := S
  refine ⟨?_, fun c hc => ?_⟩
  · show h.2.2.2.2 + 1 = z + (A.2.2.2.2 + 1)
    omega
  · have hc' : c < A.2.2.2.2 + 1 := hc
    show va_up h.1 h.2.2.2.2 kd (z + c) = va_up A.1 A.2.2.2.2 kd c ∧ va_up h.2.1 h.2.2.2.2 n (z + c) = va_up A.2.1 A.2.2.2.2 n c ∧ va_up h.2.2.1 h.2.2.2.2 (fun _ => 0) (z + c) = va_up A.2.2.1 A.2.2.2.2 (fun _ => 0) c ∧ ∀ k, va_up h.2.2.2.1 h.2.2.2.2 (fun _ => none) (z + c) k = (va_up A.2.2.2.1 A.2.2.2.2 (fun _ => none) c k).map (fun x => z + x)
    rw [s1]
    by_cases e : c = A.2.2.2.2
    · rw [e]
      simp only [va_up_self]
      exact ⟨trivial, trivial, trivial, fun _ => rfl⟩
    · have e2 : z + c ≠ z + A.2.2.2.2 := by omega
      rw [va_up_ne _ _ e2, va_up_ne _ _ e2, va_up_ne _ _ e2, va_up_ne _ _ e2, va_up_ne _ _ e, va_up_ne _ _ e, va_up_ne _ _ e, va_up_ne _ _ e]
      exact s2 c (by omega)
theorem Sh.si (S : Sh z A h) (c k : Nat) (v : Int32) : Sh z (hp_si A c k v) (hp_si h (z + c) k v) := by
  obtain ⟨s1, s2⟩ := S
  refine ⟨s1, fun d hd => ?_⟩
  obtain ⟨a1, a2, a3, a4⟩ := s2 d hd
  refine ⟨a1, a2, ?_, a4⟩
  funext j
  rw [si_3, si_3, u2_at, u2_at, a3]
  by_cases e : d = c ∧ j = k
  · rw [if_pos ⟨by omega, e.2⟩, if_pos e]
  · rw [if_neg (fun r => e ⟨by omega, r.2⟩), if_neg e]
theorem Sh.sr (S : Sh z A h) (c k x : Nat) : Sh z (hp_sr A c k (some x)) (hp_sr h (z + c) k (some (z + x))) := by
  obtain ⟨s1, s2⟩ := S
  refine ⟨s1, fun d hd => ?_⟩
  obtain ⟨a1, a2, a3, a4⟩ := s2 d hd
  refine ⟨a1, a2, a3, fun j => ?_⟩
  rw [sr_4, sr_4, u2_at, u2_at, a4]
  by_cases e : d = c ∧ j = k
  · rw [if_pos ⟨by omega, e.2⟩, if_pos e]; rfl
  · rw [if_neg (fun r => e ⟨by omega, r.2⟩), if_neg e]
def hp_fl (h : Hp) (c N : Nat) (v : Int32) : Hp := (h.1, h.2.1, fun a k => if a = c ∧ k < N then v else h.2.2.1 a k, h.2.2.2)
theorem Sh.fl (S : Sh z A h) {h' : Hp} {c N : Nat} {v : Int32} (e2 : h'.1 = h.1) (e3 : h'.2.1 = h.2.1) (e4 : h'.2.2.2 = h.2.2.2) (e5 : ∀ b, b ≠ z + c → h'.2.2.1 b = h.2.2.1 b) (e6 : ∀ k, h'.2.2.1 (z + c) k = if k < N then v else h.2.2.1 (z + c) k) : Sh z (hp_fl A c N v) h' := by
  obtain ⟨s1, s2⟩ := S
  refine ⟨by rw [show h'.2.2.2.2 = h.2.2.2.2 from congrArg (·.2) e4]; exact s1, fun d hd => ?_⟩
  obtain ⟨a1, a2, a3, a4⟩ := s2 d hd
  refine ⟨by rw [e2]; exact a1, by rw [e3]; exact a2, ?_, fun j => by rw [show h'.2.2.2.1 = h.2.2.2.1 from congrArg (·.1) e4]; exact a4 j⟩
  funext j
  show h'.2.2.1 (z + d) j = if d = c ∧ j < N then v else A.2.2.1 d j
  by_cases e : d = c
  · rw [e, e6 j, ← e, a3]
    by_cases w : j < N
    · rw [if_pos w, if_pos ⟨rfl, w⟩]
    · rw [if_neg w, if_neg (fun r => w r.2)]
  · rw [e5 _ (by omega), a3, if_neg (fun r => e r.1)]
theorem Sh.mn (S : Sh z A h) : Sh z (hp_mn A) (hp_mn h) := by
  obtain ⟨s1, s2⟩ := S
  refine ⟨?_, fun c hc => ?_⟩
  · show h.2.2.2.2 + 7 = z + (A.2.2.2.2 + 7)
    omega
  · have hc' : c < A.2.2.2.2 + 7 := hc
    simp only [hp_mn]
    rw [s1]
    by_cases e : c = A.2.2.2.2
    · rw [if_pos (by omega), if_pos e, if_pos (by omega), if_pos e, if_pos (by omega), if_pos (by omega), if_pos (by omega), if_pos e]
      refine ⟨rfl, rfl, rfl, fun k => ?_⟩
      by_cases w : k < 6
      · rw [if_pos w, if_pos w]
        show some (z + A.2.2.2.2 + 1 + k) = some (z + (A.2.2.2.2 + 1 + k))
        congr 1
        omega
      · rw [if_neg w, if_neg w]; rfl
    · by_cases e2 : A.2.2.2.2 < c
      · rw [if_neg (by omega), if_pos (by omega), if_neg e, if_pos (by omega), if_neg (by omega), if_pos (by omega), if_neg e, if_pos (by omega), if_pos (by omega), if_pos (by omega), if_neg (by omega), if_pos (by omega), if_neg e, if_pos (by omega)]
        exact ⟨rfl, rfl, rfl, fun _ => rfl⟩
      · rw [if_neg (by omega), if_neg (by omega), if_neg e, if_neg (by omega), if_neg (by omega), if_neg (by omega), if_neg e, if_neg (by omega), if_neg (by omega), if_neg (by omega), if_neg (by omega), if_neg (by omega), if_neg e, if_neg (by omega)]
        exact s2 c (by omega)
def hp_nwm (A : Hp) (m kd n : Nat) : Hp := (va_up A.1 m kd, va_up A.2.1 m n, va_up A.2.2.1 m (fun _ => 0), va_up A.2.2.2.1 m (fun _ => none), m + 1)
def hp_mnm (A : Hp) (m : Nat) : Hp :=
  (fun a => if a = m then 18 else if m < a ∧ a < m + 7 then 13 else A.1 a,
   fun a => if a = m then 6 else if m < a ∧ a < m + 7 then 256 else A.2.1 a,
   fun a => if m ≤ a ∧ a < m + 7 then fun _ => 0 else A.2.2.1 a,
   fun a => if a = m then fun j => if j < 6 then some (m + 1 + j) else none else if m < a ∧ a < m + 7 then fun _ => none else A.2.2.2.1 a,
   m + 7)
theorem Sh.nwm (S : Sh z A h) {m : Nat} (hm : A.2.2.2.2 = m) (kd n : Nat) : Sh z (hp_nwm A m kd n) (hp_nw h kd n) := by
  have := S.nw kd n
  unfold hp_nw at this
  rw [hm] at this
  exact this
theorem Sh.mnm (S : Sh z A h) {m : Nat} (hm : A.2.2.2.2 = m) : Sh z (hp_mnm A m) (hp_mn h) := by
  have := S.mn
  have e : hp_mn A = hp_mnm A m := by unfold hp_mn hp_mnm; rw [hm]
  rw [e] at this
  exact this
theorem Sh.k (S : Sh z A h) {c x : Nat} (h1 : c < A.2.2.2.2) (h2 : A.1 c = x) : h.1 (z + c) = x := by rw [(S.2 c h1).1]; exact h2
theorem Sh.l (S : Sh z A h) {c x : Nat} (h1 : c < A.2.2.2.2) (h2 : A.2.1 c = x) : h.2.1 (z + c) = x := by rw [(S.2 c h1).2.1]; exact h2
theorem Sh.r (S : Sh z A h) {c k x : Nat} (h1 : c < A.2.2.2.2) (h2 : A.2.2.2.1 c k = some x) : h.2.2.2.1 (z + c) k = some (z + x) := by rw [(S.2 c h1).2.2.2 k, h2]; rfl
theorem Sh.sz (S : Sh z A h) {m : Nat} (h1 : A.2.2.2.2 = m) : h.2.2.2.2 = z + m := by rw [S.1, h1]

end
def tb_0 : Hp := hp_0 0
noncomputable def tb_1 : Hp := hp_nwm tb_0 0 11 0
noncomputable def tb_2 : Hp := hp_nwm tb_1 1 3 0
noncomputable def tb_3 : Hp := hp_nwm tb_2 2 17 40
noncomputable def tb_4 : Hp := hp_sr tb_3 1 0 (some 2)
noncomputable def tb_5 : Hp := hp_si tb_4 1 1 0
noncomputable def tb_6 : Hp := hp_sr tb_5 0 0 (some 1)
noncomputable def tb_7 : Hp := hp_nwm tb_6 3 10 0
noncomputable def tb_8 : Hp := hp_nwm tb_7 4 13 40
noncomputable def tb_9 : Hp := hp_sr tb_8 3 0 (some 4)
noncomputable def tb_10 : Hp := hp_sr tb_9 0 1 (some 3)
noncomputable def tb_11 : Hp := hp_nwm tb_10 5 8 0
noncomputable def tb_12 : Hp := hp_nwm tb_11 6 14 40
noncomputable def tb_13 : Hp := hp_sr tb_12 5 0 (some 6)
noncomputable def tb_14 : Hp := hp_nwm tb_13 7 14 40
noncomputable def tb_15 : Hp := hp_sr tb_14 5 1 (some 7)
noncomputable def tb_16 : Hp := hp_sr tb_15 0 2 (some 5)
noncomputable def tb_17 : Hp := hp_nwm tb_16 8 2 0
noncomputable def tb_18 : Hp := hp_nwm tb_17 9 15 12
noncomputable def tb_19 : Hp := hp_sr tb_18 8 0 (some 9)
noncomputable def tb_20 : Hp := hp_nwm tb_19 10 13 12
noncomputable def tb_21 : Hp := hp_sr tb_20 8 1 (some 10)
noncomputable def tb_22 : Hp := hp_si tb_21 8 2 0
noncomputable def tb_23 : Hp := hp_sr tb_22 0 3 (some 8)
noncomputable def tb_24 : Hp := hp_nwm tb_23 11 5 0
noncomputable def tb_25 : Hp := hp_nwm tb_24 12 13 6
noncomputable def tb_26 : Hp := hp_sr tb_25 11 0 (some 12)
noncomputable def tb_27 : Hp := hp_nwm tb_26 13 13 6
noncomputable def tb_28 : Hp := hp_sr tb_27 11 1 (some 13)
noncomputable def tb_29 : Hp := hp_nwm tb_28 14 16 6
noncomputable def tb_30 : Hp := hp_sr tb_29 11 2 (some 14)
noncomputable def tb_31 : Hp := hp_sr tb_30 0 4 (some 11)
noncomputable def tb_32 : Hp := hp_nwm tb_31 15 7 0
noncomputable def tb_33 : Hp := hp_nwm tb_32 16 13 8
noncomputable def tb_34 : Hp := hp_sr tb_33 15 0 (some 16)
noncomputable def tb_35 : Hp := hp_nwm tb_34 17 13 8
noncomputable def tb_36 : Hp := hp_sr tb_35 15 1 (some 17)
noncomputable def tb_37 : Hp := hp_si tb_36 15 2 0
noncomputable def tb_38 : Hp := hp_si tb_37 15 3 0
noncomputable def tb_39 : Hp := hp_si tb_38 15 4 0
noncomputable def tb_40 : Hp := hp_nwm tb_39 18 13 256
noncomputable def tb_41 : Hp := hp_sr tb_40 15 5 (some 18)
noncomputable def tb_42 : Hp := hp_nwm tb_41 19 13 256
noncomputable def tb_43 : Hp := hp_sr tb_42 15 6 (some 19)
noncomputable def tb_44 : Hp := hp_nwm tb_43 20 13 256
noncomputable def tb_45 : Hp := hp_sr tb_44 15 7 (some 20)
noncomputable def tb_46 : Hp := hp_mnm tb_45 21
noncomputable def tb_47 : Hp := hp_sr tb_46 15 8 (some 21)
noncomputable def tb_48 : Hp := hp_mnm tb_47 28
noncomputable def tb_49 : Hp := hp_sr tb_48 15 9 (some 28)
noncomputable def tb_50 : Hp := hp_fl tb_49 16 8 1
noncomputable def tb_51 : Hp := hp_fl tb_50 22 256 500000000
noncomputable def tb_52 : Hp := hp_si tb_51 22 0 0
noncomputable def tb_53 : Hp := hp_sr tb_52 0 5 (some 15)
noncomputable def tb_54 : Hp := hp_nwm tb_53 35 9 0
noncomputable def tb_55 : Hp := hp_si tb_54 35 0 0
noncomputable def tb_56 : Hp := hp_si tb_55 35 1 (-1)
noncomputable def tb_57 : Hp := hp_si tb_56 35 2 0
noncomputable def tb_58 : Hp := hp_si tb_57 35 3 0
noncomputable def tb_59 : Hp := hp_si tb_58 35 4 0
noncomputable def tb_60 : Hp := hp_si tb_59 35 5 0
noncomputable def tb_61 : Hp := hp_nwm tb_60 36 13 60
noncomputable def tb_62 : Hp := hp_sr tb_61 35 6 (some 36)
noncomputable def tb_63 : Hp := hp_nwm tb_62 37 13 60
noncomputable def tb_64 : Hp := hp_sr tb_63 35 7 (some 37)
noncomputable def tb_65 : Hp := hp_nwm tb_64 38 14 40
noncomputable def tb_66 : Hp := hp_sr tb_65 35 8 (some 38)
noncomputable def tb_67 : Hp := hp_si tb_66 35 9 0
noncomputable def tb_68 : Hp := hp_sr tb_67 0 6 (some 35)
noncomputable def tb_69 : Hp := hp_nwm tb_68 39 9 0
noncomputable def tb_70 : Hp := hp_si tb_69 39 0 0
noncomputable def tb_71 : Hp := hp_si tb_70 39 1 (-1)
noncomputable def tb_72 : Hp := hp_si tb_71 39 2 0
noncomputable def tb_73 : Hp := hp_si tb_72 39 3 0
noncomputable def tb_74 : Hp := hp_si tb_73 39 4 0
noncomputable def tb_75 : Hp := hp_si tb_74 39 5 0
noncomputable def tb_76 : Hp := hp_nwm tb_75 40 13 60
noncomputable def tb_77 : Hp := hp_sr tb_76 39 6 (some 40)
noncomputable def tb_78 : Hp := hp_nwm tb_77 41 13 60
noncomputable def tb_79 : Hp := hp_sr tb_78 39 7 (some 41)
noncomputable def tb_80 : Hp := hp_nwm tb_79 42 14 40
noncomputable def tb_81 : Hp := hp_sr tb_80 39 8 (some 42)
noncomputable def tb_82 : Hp := hp_si tb_81 39 9 0
noncomputable def tb_83 : Hp := hp_sr tb_82 0 7 (some 39)
noncomputable def tb_84 : Hp := hp_nwm tb_83 43 12 0
noncomputable def tb_85 : Hp := hp_nwm tb_84 44 13 40
noncomputable def tb_86 : Hp := hp_sr tb_85 43 1 (some 44)
noncomputable def tb_87 : Hp := hp_nwm tb_86 45 13 40
noncomputable def tb_88 : Hp := hp_sr tb_87 43 2 (some 45)
noncomputable def tb_89 : Hp := hp_nwm tb_88 46 13 40
noncomputable def tb_90 : Hp := hp_sr tb_89 43 3 (some 46)
noncomputable def tb_91 : Hp := hp_nwm tb_90 47 13 40
noncomputable def tb_92 : Hp := hp_sr tb_91 43 4 (some 47)
noncomputable def tb_93 : Hp := hp_nwm tb_92 48 13 40
noncomputable def tb_94 : Hp := hp_sr tb_93 43 5 (some 48)
noncomputable def tb_95 : Hp := hp_nwm tb_94 49 13 40
noncomputable def tb_96 : Hp := hp_sr tb_95 43 6 (some 49)
noncomputable def tb_97 : Hp := hp_nwm tb_96 50 13 40
noncomputable def tb_98 : Hp := hp_sr tb_97 43 7 (some 50)
noncomputable def tb_99 : Hp := hp_nwm tb_98 51 13 40
noncomputable def tb_100 : Hp := hp_sr tb_99 43 8 (some 51)
noncomputable def tb_101 : Hp := hp_nwm tb_100 52 13 40
noncomputable def tb_102 : Hp := hp_sr tb_101 43 9 (some 52)
noncomputable def tb_103 : Hp := hp_nwm tb_102 53 13 40
noncomputable def tb_104 : Hp := hp_sr tb_103 43 10 (some 53)
noncomputable def tb_105 : Hp := hp_nwm tb_104 54 13 240
noncomputable def tb_106 : Hp := hp_sr tb_105 43 11 (some 54)
noncomputable def tb_107 : Hp := hp_nwm tb_106 55 13 240
noncomputable def tb_108 : Hp := hp_sr tb_107 43 12 (some 55)
noncomputable def tb_109 : Hp := hp_nwm tb_108 56 13 240
noncomputable def tb_110 : Hp := hp_sr tb_109 43 13 (some 56)
noncomputable def tb_111 : Hp := hp_nwm tb_110 57 13 240
noncomputable def tb_112 : Hp := hp_sr tb_111 43 14 (some 57)
noncomputable def tb_113 : Hp := hp_nwm tb_112 58 13 12
noncomputable def tb_114 : Hp := hp_sr tb_113 43 16 (some 58)
noncomputable def tb_115 : Hp := hp_nwm tb_114 59 13 12
noncomputable def tb_116 : Hp := hp_sr tb_115 43 17 (some 59)
noncomputable def tb_117 : Hp := hp_nwm tb_116 60 13 12
noncomputable def tb_118 : Hp := hp_sr tb_117 43 18 (some 60)
noncomputable def tb_119 : Hp := hp_nwm tb_118 61 13 12
noncomputable def tb_120 : Hp := hp_sr tb_119 43 19 (some 61)
noncomputable def tb_121 : Hp := hp_nwm tb_120 62 13 12
noncomputable def tb_122 : Hp := hp_sr tb_121 43 20 (some 62)
noncomputable def tb_123 : Hp := hp_nwm tb_122 63 13 12
noncomputable def tb_124 : Hp := hp_sr tb_123 43 21 (some 63)
noncomputable def tb_125 : Hp := hp_nwm tb_124 64 13 60
noncomputable def tb_126 : Hp := hp_sr tb_125 43 27 (some 64)
noncomputable def tb_127 : Hp := hp_nwm tb_126 65 13 60
noncomputable def tb_128 : Hp := hp_sr tb_127 43 28 (some 65)
noncomputable def tb_129 : Hp := hp_nwm tb_128 66 13 8
noncomputable def tb_130 : Hp := hp_sr tb_129 43 29 (some 66)
noncomputable def tb_131 : Hp := hp_nwm tb_130 67 13 8
noncomputable def tb_132 : Hp := hp_sr tb_131 43 30 (some 67)
noncomputable def tb_133 : Hp := hp_nwm tb_132 68 13 40
noncomputable def tb_134 : Hp := hp_sr tb_133 43 36 (some 68)
noncomputable def tb_135 : Hp := hp_nwm tb_134 69 14 40
noncomputable def tb_136 : Hp := hp_sr tb_135 43 42 (some 69)
noncomputable def tb_137 : Hp := hp_nwm tb_136 70 13 60
noncomputable def tb_138 : Hp := hp_sr tb_137 43 43 (some 70)
noncomputable def tb_139 : Hp := hp_nwm tb_138 71 13 60
noncomputable def tb_140 : Hp := hp_sr tb_139 43 44 (some 71)
noncomputable def tb_141 : Hp := hp_nwm tb_140 72 14 40
noncomputable def tb_142 : Hp := hp_sr tb_141 43 45 (some 72)
noncomputable def tb_143 : Hp := hp_nwm tb_142 73 14 40
noncomputable def tb_144 : Hp := hp_sr tb_143 43 46 (some 73)
noncomputable def tb_145 : Hp := hp_nwm tb_144 74 14 40
noncomputable def tb_146 : Hp := hp_sr tb_145 43 47 (some 74)
noncomputable def tb_147 : Hp := hp_nwm tb_146 75 13 6
noncomputable def tb_148 : Hp := hp_sr tb_147 43 48 (some 75)
noncomputable def tb_149 : Hp := hp_nwm tb_148 76 13 6
noncomputable def tb_150 : Hp := hp_sr tb_149 43 49 (some 76)
noncomputable def tb_151 : Hp := hp_nwm tb_150 77 13 24
noncomputable def tb_152 : Hp := hp_sr tb_151 43 50 (some 77)
noncomputable def tb_153 : Hp := hp_nwm tb_152 78 13 1792
noncomputable def tb_154 : Hp := hp_sr tb_153 43 51 (some 78)
noncomputable def tb_155 : Hp := hp_nwm tb_154 79 13 256
noncomputable def tb_156 : Hp := hp_sr tb_155 43 52 (some 79)
noncomputable def tb_157 : Hp := hp_nwm tb_156 80 13 256
noncomputable def tb_158 : Hp := hp_sr tb_157 43 55 (some 80)
noncomputable def tb_159 : Hp := hp_nwm tb_158 81 13 8
noncomputable def tb_160 : Hp := hp_sr tb_159 43 56 (some 81)
noncomputable def tb_161 : Hp := hp_fl tb_160 66 8 1
theorem tz_0 : tb_0.2.2.2.2 = 0 := rfl
theorem tz_1 : tb_1.2.2.2.2 = 1 := rfl
theorem tz_2 : tb_2.2.2.2.2 = 2 := rfl
theorem tz_3 : tb_3.2.2.2.2 = 3 := rfl
theorem tz_4 : tb_4.2.2.2.2 = 3 := tz_3
theorem tz_5 : tb_5.2.2.2.2 = 3 := tz_4
theorem tz_6 : tb_6.2.2.2.2 = 3 := tz_5
theorem tz_7 : tb_7.2.2.2.2 = 4 := rfl
theorem tz_8 : tb_8.2.2.2.2 = 5 := rfl
theorem tz_9 : tb_9.2.2.2.2 = 5 := tz_8
theorem tz_10 : tb_10.2.2.2.2 = 5 := tz_9
theorem tz_11 : tb_11.2.2.2.2 = 6 := rfl
theorem tz_12 : tb_12.2.2.2.2 = 7 := rfl
theorem tz_13 : tb_13.2.2.2.2 = 7 := tz_12
theorem tz_14 : tb_14.2.2.2.2 = 8 := rfl
theorem tz_15 : tb_15.2.2.2.2 = 8 := tz_14
theorem tz_16 : tb_16.2.2.2.2 = 8 := tz_15
theorem tz_17 : tb_17.2.2.2.2 = 9 := rfl
theorem tz_18 : tb_18.2.2.2.2 = 10 := rfl
theorem tz_19 : tb_19.2.2.2.2 = 10 := tz_18
theorem tz_20 : tb_20.2.2.2.2 = 11 := rfl
theorem tz_21 : tb_21.2.2.2.2 = 11 := tz_20
theorem tz_22 : tb_22.2.2.2.2 = 11 := tz_21
theorem tz_23 : tb_23.2.2.2.2 = 11 := tz_22
theorem tz_24 : tb_24.2.2.2.2 = 12 := rfl
theorem tz_25 : tb_25.2.2.2.2 = 13 := rfl
theorem tz_26 : tb_26.2.2.2.2 = 13 := tz_25
theorem tz_27 : tb_27.2.2.2.2 = 14 := rfl
theorem tz_28 : tb_28.2.2.2.2 = 14 := tz_27
theorem tz_29 : tb_29.2.2.2.2 = 15 := rfl
theorem tz_30 : tb_30.2.2.2.2 = 15 := tz_29
theorem tz_31 : tb_31.2.2.2.2 = 15 := tz_30
theorem tz_32 : tb_32.2.2.2.2 = 16 := rfl
theorem tz_33 : tb_33.2.2.2.2 = 17 := rfl
theorem tz_34 : tb_34.2.2.2.2 = 17 := tz_33
theorem tz_35 : tb_35.2.2.2.2 = 18 := rfl
theorem tz_36 : tb_36.2.2.2.2 = 18 := tz_35
theorem tz_37 : tb_37.2.2.2.2 = 18 := tz_36
theorem tz_38 : tb_38.2.2.2.2 = 18 := tz_37
theorem tz_39 : tb_39.2.2.2.2 = 18 := tz_38
theorem tz_40 : tb_40.2.2.2.2 = 19 := rfl
theorem tz_41 : tb_41.2.2.2.2 = 19 := tz_40
theorem tz_42 : tb_42.2.2.2.2 = 20 := rfl
theorem tz_43 : tb_43.2.2.2.2 = 20 := tz_42
theorem tz_44 : tb_44.2.2.2.2 = 21 := rfl
theorem tz_45 : tb_45.2.2.2.2 = 21 := tz_44
theorem tz_46 : tb_46.2.2.2.2 = 28 := rfl
theorem tz_47 : tb_47.2.2.2.2 = 28 := tz_46
theorem tz_48 : tb_48.2.2.2.2 = 35 := rfl
theorem tz_49 : tb_49.2.2.2.2 = 35 := tz_48
theorem tz_50 : tb_50.2.2.2.2 = 35 := tz_49
theorem tz_51 : tb_51.2.2.2.2 = 35 := tz_50
theorem tz_52 : tb_52.2.2.2.2 = 35 := tz_51
theorem tz_53 : tb_53.2.2.2.2 = 35 := tz_52
theorem tz_54 : tb_54.2.2.2.2 = 36 := rfl
theorem tz_55 : tb_55.2.2.2.2 = 36 := tz_54
theorem tz_56 : tb_56.2.2.2.2 = 36 := tz_55
theorem tz_57 : tb_57.2.2.2.2 = 36 := tz_56
theorem tz_58 : tb_58.2.2.2.2 = 36 := tz_57
theorem tz_59 : tb_59.2.2.2.2 = 36 := tz_58
theorem tz_60 : tb_60.2.2.2.2 = 36 := tz_59
theorem tz_61 : tb_61.2.2.2.2 = 37 := rfl
theorem tz_62 : tb_62.2.2.2.2 = 37 := tz_61
theorem tz_63 : tb_63.2.2.2.2 = 38 := rfl
theorem tz_64 : tb_64.2.2.2.2 = 38 := tz_63
theorem tz_65 : tb_65.2.2.2.2 = 39 := rfl
theorem tz_66 : tb_66.2.2.2.2 = 39 := tz_65
theorem tz_67 : tb_67.2.2.2.2 = 39 := tz_66
theorem tz_68 : tb_68.2.2.2.2 = 39 := tz_67
theorem tz_69 : tb_69.2.2.2.2 = 40 := rfl
theorem tz_70 : tb_70.2.2.2.2 = 40 := tz_69
theorem tz_71 : tb_71.2.2.2.2 = 40 := tz_70
theorem tz_72 : tb_72.2.2.2.2 = 40 := tz_71
theorem tz_73 : tb_73.2.2.2.2 = 40 := tz_72
theorem tz_74 : tb_74.2.2.2.2 = 40 := tz_73
theorem tz_75 : tb_75.2.2.2.2 = 40 := tz_74
theorem tz_76 : tb_76.2.2.2.2 = 41 := rfl
theorem tz_77 : tb_77.2.2.2.2 = 41 := tz_76
theorem tz_78 : tb_78.2.2.2.2 = 42 := rfl
theorem tz_79 : tb_79.2.2.2.2 = 42 := tz_78
theorem tz_80 : tb_80.2.2.2.2 = 43 := rfl
theorem tz_81 : tb_81.2.2.2.2 = 43 := tz_80
theorem tz_82 : tb_82.2.2.2.2 = 43 := tz_81
theorem tz_83 : tb_83.2.2.2.2 = 43 := tz_82
theorem tz_84 : tb_84.2.2.2.2 = 44 := rfl
theorem tz_85 : tb_85.2.2.2.2 = 45 := rfl
theorem tz_86 : tb_86.2.2.2.2 = 45 := tz_85
theorem tz_87 : tb_87.2.2.2.2 = 46 := rfl
theorem tz_88 : tb_88.2.2.2.2 = 46 := tz_87
theorem tz_89 : tb_89.2.2.2.2 = 47 := rfl
theorem tz_90 : tb_90.2.2.2.2 = 47 := tz_89
theorem tz_91 : tb_91.2.2.2.2 = 48 := rfl
theorem tz_92 : tb_92.2.2.2.2 = 48 := tz_91
theorem tz_93 : tb_93.2.2.2.2 = 49 := rfl
theorem tz_94 : tb_94.2.2.2.2 = 49 := tz_93
theorem tz_95 : tb_95.2.2.2.2 = 50 := rfl
theorem tz_96 : tb_96.2.2.2.2 = 50 := tz_95
theorem tz_97 : tb_97.2.2.2.2 = 51 := rfl
theorem tz_98 : tb_98.2.2.2.2 = 51 := tz_97
theorem tz_99 : tb_99.2.2.2.2 = 52 := rfl
theorem tz_100 : tb_100.2.2.2.2 = 52 := tz_99
theorem tz_101 : tb_101.2.2.2.2 = 53 := rfl
theorem tz_102 : tb_102.2.2.2.2 = 53 := tz_101
theorem tz_103 : tb_103.2.2.2.2 = 54 := rfl
theorem tz_104 : tb_104.2.2.2.2 = 54 := tz_103
theorem tz_105 : tb_105.2.2.2.2 = 55 := rfl
theorem tz_106 : tb_106.2.2.2.2 = 55 := tz_105
theorem tz_107 : tb_107.2.2.2.2 = 56 := rfl
theorem tz_108 : tb_108.2.2.2.2 = 56 := tz_107
theorem tz_109 : tb_109.2.2.2.2 = 57 := rfl
theorem tz_110 : tb_110.2.2.2.2 = 57 := tz_109
theorem tz_111 : tb_111.2.2.2.2 = 58 := rfl
theorem tz_112 : tb_112.2.2.2.2 = 58 := tz_111
theorem tz_113 : tb_113.2.2.2.2 = 59 := rfl
theorem tz_114 : tb_114.2.2.2.2 = 59 := tz_113
theorem tz_115 : tb_115.2.2.2.2 = 60 := rfl
theorem tz_116 : tb_116.2.2.2.2 = 60 := tz_115
theorem tz_117 : tb_117.2.2.2.2 = 61 := rfl
theorem tz_118 : tb_118.2.2.2.2 = 61 := tz_117
theorem tz_119 : tb_119.2.2.2.2 = 62 := rfl
theorem tz_120 : tb_120.2.2.2.2 = 62 := tz_119
theorem tz_121 : tb_121.2.2.2.2 = 63 := rfl
theorem tz_122 : tb_122.2.2.2.2 = 63 := tz_121
theorem tz_123 : tb_123.2.2.2.2 = 64 := rfl
theorem tz_124 : tb_124.2.2.2.2 = 64 := tz_123
theorem tz_125 : tb_125.2.2.2.2 = 65 := rfl
theorem tz_126 : tb_126.2.2.2.2 = 65 := tz_125
theorem tz_127 : tb_127.2.2.2.2 = 66 := rfl
theorem tz_128 : tb_128.2.2.2.2 = 66 := tz_127
theorem tz_129 : tb_129.2.2.2.2 = 67 := rfl
theorem tz_130 : tb_130.2.2.2.2 = 67 := tz_129
theorem tz_131 : tb_131.2.2.2.2 = 68 := rfl
theorem tz_132 : tb_132.2.2.2.2 = 68 := tz_131
theorem tz_133 : tb_133.2.2.2.2 = 69 := rfl
theorem tz_134 : tb_134.2.2.2.2 = 69 := tz_133
theorem tz_135 : tb_135.2.2.2.2 = 70 := rfl
theorem tz_136 : tb_136.2.2.2.2 = 70 := tz_135
theorem tz_137 : tb_137.2.2.2.2 = 71 := rfl
theorem tz_138 : tb_138.2.2.2.2 = 71 := tz_137
theorem tz_139 : tb_139.2.2.2.2 = 72 := rfl
theorem tz_140 : tb_140.2.2.2.2 = 72 := tz_139
theorem tz_141 : tb_141.2.2.2.2 = 73 := rfl
theorem tz_142 : tb_142.2.2.2.2 = 73 := tz_141
theorem tz_143 : tb_143.2.2.2.2 = 74 := rfl
theorem tz_144 : tb_144.2.2.2.2 = 74 := tz_143
theorem tz_145 : tb_145.2.2.2.2 = 75 := rfl
theorem tz_146 : tb_146.2.2.2.2 = 75 := tz_145
theorem tz_147 : tb_147.2.2.2.2 = 76 := rfl
theorem tz_148 : tb_148.2.2.2.2 = 76 := tz_147
theorem tz_149 : tb_149.2.2.2.2 = 77 := rfl
theorem tz_150 : tb_150.2.2.2.2 = 77 := tz_149
theorem tz_151 : tb_151.2.2.2.2 = 78 := rfl
theorem tz_152 : tb_152.2.2.2.2 = 78 := tz_151
theorem tz_153 : tb_153.2.2.2.2 = 79 := rfl
theorem tz_154 : tb_154.2.2.2.2 = 79 := tz_153
theorem tz_155 : tb_155.2.2.2.2 = 80 := rfl
theorem tz_156 : tb_156.2.2.2.2 = 80 := tz_155
theorem tz_157 : tb_157.2.2.2.2 = 81 := rfl
theorem tz_158 : tb_158.2.2.2.2 = 81 := tz_157
theorem tz_159 : tb_159.2.2.2.2 = 82 := rfl
theorem tz_160 : tb_160.2.2.2.2 = 82 := tz_159
theorem tz_161 : tb_161.2.2.2.2 = 82 := tz_160
section
variable {z : Nat} {h : Hp}
set_option maxRecDepth 100000 in
theorem in_X2 (S2 : Sh z tb_2 h) : ∃ h', fX2_init (z + 1) h = some ((), h') ∧ Sh z tb_5 h' := by
  obtain ⟨h2, eh2⟩ : ∃ x, x = h := ⟨_, rfl⟩
  rw [← eh2] at S2 ⊢
  have S3 : Sh z tb_3 (hp_nw h2 17 40) := S2.nwm tz_2 17 40
  obtain ⟨h3, eh3⟩ : ∃ x, x = hp_nw h2 17 40 := ⟨_, rfl⟩
  rw [← eh3] at S3
  have z2 : h2.2.2.2.2 = z + 2 := S2.sz tz_2
  have S4 : Sh z tb_4 (hp_sr h3 (z + 1) 0 (some (z + 2))) := S3.sr 1 0 2
  obtain ⟨h4, eh4⟩ : ∃ x, x = hp_sr h3 (z + 1) 0 (some (z + 2)) := ⟨_, rfl⟩
  rw [← eh4] at S4
  have k3 : h3.1 (z + 1) = 3 := S3.k (c := 1) (x := 3) (by rw [tz_3]; decide) (by decide +kernel)
  have S5 : Sh z tb_5 (hp_si h4 (z + 1) 1 0) := S4.si 1 1 0
  obtain ⟨h5, eh5⟩ : ∃ x, x = hp_si h4 (z + 1) 1 0 := ⟨_, rfl⟩
  rw [← eh5] at S5
  have k4 : h4.1 (z + 1) = 3 := S4.k (c := 1) (x := 3) (by rw [tz_4]; decide) (by decide +kernel)
  refine ⟨h5, ?_, S5⟩
  simp only [fX2_init, nm_d, z2, ← eh3, k3, gk_s, ← eh4, k4, ← eh5]
set_option maxRecDepth 100000 in
theorem in_X9 (S7 : Sh z tb_7 h) : ∃ h', fX9_init (z + 3) h = some ((), h') ∧ Sh z tb_9 h' := by
  obtain ⟨h7, eh7⟩ : ∃ x, x = h := ⟨_, rfl⟩
  rw [← eh7] at S7 ⊢
  have S8 : Sh z tb_8 (hp_nw h7 13 40) := S7.nwm tz_7 13 40
  obtain ⟨h8, eh8⟩ : ∃ x, x = hp_nw h7 13 40 := ⟨_, rfl⟩
  rw [← eh8] at S8
  have z7 : h7.2.2.2.2 = z + 4 := S7.sz tz_7
  have S9 : Sh z tb_9 (hp_sr h8 (z + 3) 0 (some (z + 4))) := S8.sr 3 0 4
  obtain ⟨h9, eh9⟩ : ∃ x, x = hp_sr h8 (z + 3) 0 (some (z + 4)) := ⟨_, rfl⟩
  rw [← eh9] at S9
  have k8 : h8.1 (z + 3) = 10 := S8.k (c := 3) (x := 10) (by rw [tz_8]; decide) (by decide +kernel)
  refine ⟨h9, ?_, S9⟩
  simp only [fX9_init, nm_d, z7, ← eh8, k8, gk_s, ← eh9]
set_option maxRecDepth 100000 in
theorem in_X7 (S11 : Sh z tb_11 h) : ∃ h', fX7_init (z + 5) h = some ((), h') ∧ Sh z tb_15 h' := by
  obtain ⟨h11, eh11⟩ : ∃ x, x = h := ⟨_, rfl⟩
  rw [← eh11] at S11 ⊢
  have S12 : Sh z tb_12 (hp_nw h11 14 40) := S11.nwm tz_11 14 40
  obtain ⟨h12, eh12⟩ : ∃ x, x = hp_nw h11 14 40 := ⟨_, rfl⟩
  rw [← eh12] at S12
  have z11 : h11.2.2.2.2 = z + 6 := S11.sz tz_11
  have S13 : Sh z tb_13 (hp_sr h12 (z + 5) 0 (some (z + 6))) := S12.sr 5 0 6
  obtain ⟨h13, eh13⟩ : ∃ x, x = hp_sr h12 (z + 5) 0 (some (z + 6)) := ⟨_, rfl⟩
  rw [← eh13] at S13
  have k12 : h12.1 (z + 5) = 8 := S12.k (c := 5) (x := 8) (by rw [tz_12]; decide) (by decide +kernel)
  have S14 : Sh z tb_14 (hp_nw h13 14 40) := S13.nwm tz_13 14 40
  obtain ⟨h14, eh14⟩ : ∃ x, x = hp_nw h13 14 40 := ⟨_, rfl⟩
  rw [← eh14] at S14
  have z13 : h13.2.2.2.2 = z + 7 := S13.sz tz_13
  have S15 : Sh z tb_15 (hp_sr h14 (z + 5) 1 (some (z + 7))) := S14.sr 5 1 7
  obtain ⟨h15, eh15⟩ : ∃ x, x = hp_sr h14 (z + 5) 1 (some (z + 7)) := ⟨_, rfl⟩
  rw [← eh15] at S15
  have k14 : h14.1 (z + 5) = 8 := S14.k (c := 5) (x := 8) (by rw [tz_14]; decide) (by decide +kernel)
  refine ⟨h15, ?_, S15⟩
  simp only [fX7_init, nm_d, z11, ← eh12, k12, gk_s, ← eh13, z13, ← eh14, k14, ← eh15]
set_option maxRecDepth 100000 in
theorem in_X1 (S17 : Sh z tb_17 h) : ∃ h', fX1_init (z + 8) h = some ((), h') ∧ Sh z tb_22 h' := by
  obtain ⟨h17, eh17⟩ : ∃ x, x = h := ⟨_, rfl⟩
  rw [← eh17] at S17 ⊢
  have S18 : Sh z tb_18 (hp_nw h17 15 12) := S17.nwm tz_17 15 12
  obtain ⟨h18, eh18⟩ : ∃ x, x = hp_nw h17 15 12 := ⟨_, rfl⟩
  rw [← eh18] at S18
  have z17 : h17.2.2.2.2 = z + 9 := S17.sz tz_17
  have S19 : Sh z tb_19 (hp_sr h18 (z + 8) 0 (some (z + 9))) := S18.sr 8 0 9
  obtain ⟨h19, eh19⟩ : ∃ x, x = hp_sr h18 (z + 8) 0 (some (z + 9)) := ⟨_, rfl⟩
  rw [← eh19] at S19
  have k18 : h18.1 (z + 8) = 2 := S18.k (c := 8) (x := 2) (by rw [tz_18]; decide) (by decide +kernel)
  have S20 : Sh z tb_20 (hp_nw h19 13 12) := S19.nwm tz_19 13 12
  obtain ⟨h20, eh20⟩ : ∃ x, x = hp_nw h19 13 12 := ⟨_, rfl⟩
  rw [← eh20] at S20
  have z19 : h19.2.2.2.2 = z + 10 := S19.sz tz_19
  have S21 : Sh z tb_21 (hp_sr h20 (z + 8) 1 (some (z + 10))) := S20.sr 8 1 10
  obtain ⟨h21, eh21⟩ : ∃ x, x = hp_sr h20 (z + 8) 1 (some (z + 10)) := ⟨_, rfl⟩
  rw [← eh21] at S21
  have k20 : h20.1 (z + 8) = 2 := S20.k (c := 8) (x := 2) (by rw [tz_20]; decide) (by decide +kernel)
  have S22 : Sh z tb_22 (hp_si h21 (z + 8) 2 0) := S21.si 8 2 0
  obtain ⟨h22, eh22⟩ : ∃ x, x = hp_si h21 (z + 8) 2 0 := ⟨_, rfl⟩
  rw [← eh22] at S22
  have k21 : h21.1 (z + 8) = 2 := S21.k (c := 8) (x := 2) (by rw [tz_21]; decide) (by decide +kernel)
  refine ⟨h22, ?_, S22⟩
  simp only [fX1_init, nm_d, z17, ← eh18, k18, gk_s, ← eh19, z19, ← eh20, k20, ← eh21, k21, ← eh22]
set_option maxRecDepth 100000 in
theorem in_X4 (S24 : Sh z tb_24 h) : ∃ h', fX4_init (z + 11) h = some ((), h') ∧ Sh z tb_30 h' := by
  obtain ⟨h24, eh24⟩ : ∃ x, x = h := ⟨_, rfl⟩
  rw [← eh24] at S24 ⊢
  have S25 : Sh z tb_25 (hp_nw h24 13 6) := S24.nwm tz_24 13 6
  obtain ⟨h25, eh25⟩ : ∃ x, x = hp_nw h24 13 6 := ⟨_, rfl⟩
  rw [← eh25] at S25
  have z24 : h24.2.2.2.2 = z + 12 := S24.sz tz_24
  have S26 : Sh z tb_26 (hp_sr h25 (z + 11) 0 (some (z + 12))) := S25.sr 11 0 12
  obtain ⟨h26, eh26⟩ : ∃ x, x = hp_sr h25 (z + 11) 0 (some (z + 12)) := ⟨_, rfl⟩
  rw [← eh26] at S26
  have k25 : h25.1 (z + 11) = 5 := S25.k (c := 11) (x := 5) (by rw [tz_25]; decide) (by decide +kernel)
  have S27 : Sh z tb_27 (hp_nw h26 13 6) := S26.nwm tz_26 13 6
  obtain ⟨h27, eh27⟩ : ∃ x, x = hp_nw h26 13 6 := ⟨_, rfl⟩
  rw [← eh27] at S27
  have z26 : h26.2.2.2.2 = z + 13 := S26.sz tz_26
  have S28 : Sh z tb_28 (hp_sr h27 (z + 11) 1 (some (z + 13))) := S27.sr 11 1 13
  obtain ⟨h28, eh28⟩ : ∃ x, x = hp_sr h27 (z + 11) 1 (some (z + 13)) := ⟨_, rfl⟩
  rw [← eh28] at S28
  have k27 : h27.1 (z + 11) = 5 := S27.k (c := 11) (x := 5) (by rw [tz_27]; decide) (by decide +kernel)
  have S29 : Sh z tb_29 (hp_nw h28 16 6) := S28.nwm tz_28 16 6
  obtain ⟨h29, eh29⟩ : ∃ x, x = hp_nw h28 16 6 := ⟨_, rfl⟩
  rw [← eh29] at S29
  have z28 : h28.2.2.2.2 = z + 14 := S28.sz tz_28
  have S30 : Sh z tb_30 (hp_sr h29 (z + 11) 2 (some (z + 14))) := S29.sr 11 2 14
  obtain ⟨h30, eh30⟩ : ∃ x, x = hp_sr h29 (z + 11) 2 (some (z + 14)) := ⟨_, rfl⟩
  rw [← eh30] at S30
  have k29 : h29.1 (z + 11) = 5 := S29.k (c := 11) (x := 5) (by rw [tz_29]; decide) (by decide +kernel)
  refine ⟨h30, ?_, S30⟩
  simp only [fX4_init, nm_d, z24, ← eh25, k25, gk_s, ← eh26, z26, ← eh27, k27, ← eh28, z28, ← eh29, k29, ← eh30]
set_option maxRecDepth 100000 in
theorem in_X6 (S32 : Sh z tb_32 h) : ∃ h', fX6_init (z + 15) h = some ((), h') ∧ Sh z tb_52 h' := by
  obtain ⟨h32, eh32⟩ : ∃ x, x = h := ⟨_, rfl⟩
  rw [← eh32] at S32 ⊢
  have S33 : Sh z tb_33 (hp_nw h32 13 8) := S32.nwm tz_32 13 8
  obtain ⟨h33, eh33⟩ : ∃ x, x = hp_nw h32 13 8 := ⟨_, rfl⟩
  rw [← eh33] at S33
  have z32 : h32.2.2.2.2 = z + 16 := S32.sz tz_32
  have S34 : Sh z tb_34 (hp_sr h33 (z + 15) 0 (some (z + 16))) := S33.sr 15 0 16
  obtain ⟨h34, eh34⟩ : ∃ x, x = hp_sr h33 (z + 15) 0 (some (z + 16)) := ⟨_, rfl⟩
  rw [← eh34] at S34
  have k33 : h33.1 (z + 15) = 7 := S33.k (c := 15) (x := 7) (by rw [tz_33]; decide) (by decide +kernel)
  have S35 : Sh z tb_35 (hp_nw h34 13 8) := S34.nwm tz_34 13 8
  obtain ⟨h35, eh35⟩ : ∃ x, x = hp_nw h34 13 8 := ⟨_, rfl⟩
  rw [← eh35] at S35
  have z34 : h34.2.2.2.2 = z + 17 := S34.sz tz_34
  have S36 : Sh z tb_36 (hp_sr h35 (z + 15) 1 (some (z + 17))) := S35.sr 15 1 17
  obtain ⟨h36, eh36⟩ : ∃ x, x = hp_sr h35 (z + 15) 1 (some (z + 17)) := ⟨_, rfl⟩
  rw [← eh36] at S36
  have k35 : h35.1 (z + 15) = 7 := S35.k (c := 15) (x := 7) (by rw [tz_35]; decide) (by decide +kernel)
  have S37 : Sh z tb_37 (hp_si h36 (z + 15) 2 0) := S36.si 15 2 0
  obtain ⟨h37, eh37⟩ : ∃ x, x = hp_si h36 (z + 15) 2 0 := ⟨_, rfl⟩
  rw [← eh37] at S37
  have k36 : h36.1 (z + 15) = 7 := S36.k (c := 15) (x := 7) (by rw [tz_36]; decide) (by decide +kernel)
  have S38 : Sh z tb_38 (hp_si h37 (z + 15) 3 0) := S37.si 15 3 0
  obtain ⟨h38, eh38⟩ : ∃ x, x = hp_si h37 (z + 15) 3 0 := ⟨_, rfl⟩
  rw [← eh38] at S38
  have k37 : h37.1 (z + 15) = 7 := S37.k (c := 15) (x := 7) (by rw [tz_37]; decide) (by decide +kernel)
  have S39 : Sh z tb_39 (hp_si h38 (z + 15) 4 0) := S38.si 15 4 0
  obtain ⟨h39, eh39⟩ : ∃ x, x = hp_si h38 (z + 15) 4 0 := ⟨_, rfl⟩
  rw [← eh39] at S39
  have k38 : h38.1 (z + 15) = 7 := S38.k (c := 15) (x := 7) (by rw [tz_38]; decide) (by decide +kernel)
  have S40 : Sh z tb_40 (hp_nw h39 13 256) := S39.nwm tz_39 13 256
  obtain ⟨h40, eh40⟩ : ∃ x, x = hp_nw h39 13 256 := ⟨_, rfl⟩
  rw [← eh40] at S40
  have z39 : h39.2.2.2.2 = z + 18 := S39.sz tz_39
  have S41 : Sh z tb_41 (hp_sr h40 (z + 15) 5 (some (z + 18))) := S40.sr 15 5 18
  obtain ⟨h41, eh41⟩ : ∃ x, x = hp_sr h40 (z + 15) 5 (some (z + 18)) := ⟨_, rfl⟩
  rw [← eh41] at S41
  have k40 : h40.1 (z + 15) = 7 := S40.k (c := 15) (x := 7) (by rw [tz_40]; decide) (by decide +kernel)
  have S42 : Sh z tb_42 (hp_nw h41 13 256) := S41.nwm tz_41 13 256
  obtain ⟨h42, eh42⟩ : ∃ x, x = hp_nw h41 13 256 := ⟨_, rfl⟩
  rw [← eh42] at S42
  have z41 : h41.2.2.2.2 = z + 19 := S41.sz tz_41
  have S43 : Sh z tb_43 (hp_sr h42 (z + 15) 6 (some (z + 19))) := S42.sr 15 6 19
  obtain ⟨h43, eh43⟩ : ∃ x, x = hp_sr h42 (z + 15) 6 (some (z + 19)) := ⟨_, rfl⟩
  rw [← eh43] at S43
  have k42 : h42.1 (z + 15) = 7 := S42.k (c := 15) (x := 7) (by rw [tz_42]; decide) (by decide +kernel)
  have S44 : Sh z tb_44 (hp_nw h43 13 256) := S43.nwm tz_43 13 256
  obtain ⟨h44, eh44⟩ : ∃ x, x = hp_nw h43 13 256 := ⟨_, rfl⟩
  rw [← eh44] at S44
  have z43 : h43.2.2.2.2 = z + 20 := S43.sz tz_43
  have S45 : Sh z tb_45 (hp_sr h44 (z + 15) 7 (some (z + 20))) := S44.sr 15 7 20
  obtain ⟨h45, eh45⟩ : ∃ x, x = hp_sr h44 (z + 15) 7 (some (z + 20)) := ⟨_, rfl⟩
  rw [← eh45] at S45
  have k44 : h44.1 (z + 15) = 7 := S44.k (c := 15) (x := 7) (by rw [tz_44]; decide) (by decide +kernel)
  have S46 : Sh z tb_46 (hp_mn h45) := S45.mnm tz_45
  obtain ⟨h46, eh46⟩ : ∃ x, x = hp_mn h45 := ⟨_, rfl⟩
  rw [← eh46] at S46
  have z45 : h45.2.2.2.2 = z + 21 := S45.sz tz_45
  have S47 : Sh z tb_47 (hp_sr h46 (z + 15) 8 (some (z + 21))) := S46.sr 15 8 21
  obtain ⟨h47, eh47⟩ : ∃ x, x = hp_sr h46 (z + 15) 8 (some (z + 21)) := ⟨_, rfl⟩
  rw [← eh47] at S47
  have k46 : h46.1 (z + 15) = 7 := S46.k (c := 15) (x := 7) (by rw [tz_46]; decide) (by decide +kernel)
  have S48 : Sh z tb_48 (hp_mn h47) := S47.mnm tz_47
  obtain ⟨h48, eh48⟩ : ∃ x, x = hp_mn h47 := ⟨_, rfl⟩
  rw [← eh48] at S48
  have z47 : h47.2.2.2.2 = z + 28 := S47.sz tz_47
  have S49 : Sh z tb_49 (hp_sr h48 (z + 15) 9 (some (z + 28))) := S48.sr 15 9 28
  obtain ⟨h49, eh49⟩ : ∃ x, x = hp_sr h48 (z + 15) 9 (some (z + 28)) := ⟨_, rfl⟩
  rw [← eh49] at S49
  have k48 : h48.1 (z + 15) = 7 := S48.k (c := 15) (x := 7) (by rw [tz_48]; decide) (by decide +kernel)
  obtain ⟨h50, ef49, x2_49, x3_49, x4_49, x5_49, x6_49⟩ := x_fill (a := z + 16) (N := 8) (v := 1) (h := h49) (by decide) (S49.k (c := 16) (x := 13) (by rw [tz_49]; decide) (by decide +kernel)) (S49.l (by rw [tz_49]; decide) (by decide +kernel))
  have S50 : Sh z tb_50 h50 := S49.fl x2_49 x3_49 x4_49 x5_49 x6_49
  have m49 : h49.1 (z + 15) = 7 := S49.k (c := 15) (x := 7) (by rw [tz_49]; decide) (by decide +kernel)
  have r49 : h49.2.2.2.1 (z + 15) 0 = some (z + 16) := S49.r (by rw [tz_49]; decide) (by decide +kernel)
  obtain ⟨h51, ef50, x2_50, x3_50, x4_50, x5_50, x6_50⟩ := x_fill (a := z + 22) (N := 256) (v := 500000000) (h := h50) (by decide) (S50.k (c := 22) (x := 13) (by rw [tz_50]; decide) (by decide +kernel)) (S50.l (by rw [tz_50]; decide) (by decide +kernel))
  have S51 : Sh z tb_51 h51 := S50.fl x2_50 x3_50 x4_50 x5_50 x6_50
  have m50 : h50.1 (z + 15) = 7 := S50.k (c := 15) (x := 7) (by rw [tz_50]; decide) (by decide +kernel)
  have r50 : h50.2.2.2.1 (z + 15) 8 = some (z + 21) := S50.r (by rw [tz_50]; decide) (by decide +kernel)
  have q50 : h50.2.2.2.1 (z + 21) 0 = some (z + 22) := S50.r (by rw [tz_50]; decide) (by decide +kernel)
  have n50 : h50.1 (z + 21) = 18 := S50.k (c := 21) (x := 18) (by rw [tz_50]; decide) (by decide +kernel)
  have l50 : h50.2.1 (z + 21) = 6 := S50.l (by rw [tz_50]; decide) (by decide +kernel)
  have S52 : Sh z tb_52 (hp_si h51 (z + 22) 0 0) := S51.si 22 0 0
  obtain ⟨h52, eh52⟩ : ∃ x, x = hp_si h51 (z + 22) 0 0 := ⟨_, rfl⟩
  rw [← eh52] at S52
  have k51 : h51.1 (z + 22) = 13 := S51.k (c := 22) (x := 13) (by rw [tz_51]; decide) (by decide +kernel)
  have r51 : h51.2.2.2.1 (z + 15) 8 = some (z + 21) := S51.r (by rw [tz_51]; decide) (by decide +kernel)
  have q51 : h51.2.2.2.1 (z + 21) 0 = some (z + 22) := S51.r (by rw [tz_51]; decide) (by decide +kernel)
  have m51 : h51.1 (z + 15) = 7 := S51.k (c := 15) (x := 7) (by rw [tz_51]; decide) (by decide +kernel)
  have n51 : h51.1 (z + 21) = 18 := S51.k (c := 21) (x := 18) (by rw [tz_51]; decide) (by decide +kernel)
  have l51 : h51.2.1 (z + 21) = 6 := S51.l (by rw [tz_51]; decide) (by decide +kernel)
  have o51 : h51.2.1 (z + 22) = 256 := S51.l (by rw [tz_51]; decide) (by decide +kernel)
  refine ⟨h52, ?_, S52⟩
  have i06 : gd (α := Unit × Hp) (ix 0 6) = fun x => x := by funext x; exact gd_e (show ix 0 6 = true from rfl)
  have i0256 : gd (α := Unit × Hp) (ix 0 256) = fun x => x := by funext x; exact gd_e (show ix 0 256 = true from rfl)
  have c00 : (0 : Int32).toNatClampNeg = 0 := rfl
  simp only [fX6_init, nm_d, z32, ← eh33, k33, gk_s, ← eh34, z34, ← eh35, k35, ← eh36, k36, ← eh37, k37, ← eh38, k38, ← eh39, z39, ← eh40, k40, ← eh41, z41, ← eh42, k42, ← eh43, z43, ← eh44, k44, ← eh45, z45, ← eh46, k46, ← eh47, z47, ← eh48, k48, ← eh49, m49, r49, ef49, b2_s, bd_s, m50, r50, q50, n50, l50, ef50, i06, c00, k51, ← eh52, r51, q51, m51, n51, l51, o51, i0256]
set_option maxRecDepth 100000 in
theorem in_X8 (S54 : Sh z tb_54 h) : ∃ h', fX8_init (z + 35) h = some ((), h') ∧ Sh z tb_67 h' := by
  obtain ⟨h54, eh54⟩ : ∃ x, x = h := ⟨_, rfl⟩
  rw [← eh54] at S54 ⊢
  have S55 : Sh z tb_55 (hp_si h54 (z + 35) 0 0) := S54.si 35 0 0
  obtain ⟨h55, eh55⟩ : ∃ x, x = hp_si h54 (z + 35) 0 0 := ⟨_, rfl⟩
  rw [← eh55] at S55
  have k54 : h54.1 (z + 35) = 9 := S54.k (c := 35) (x := 9) (by rw [tz_54]; decide) (by decide +kernel)
  have S56 : Sh z tb_56 (hp_si h55 (z + 35) 1 (-1)) := S55.si 35 1 (-1)
  obtain ⟨h56, eh56⟩ : ∃ x, x = hp_si h55 (z + 35) 1 (-1) := ⟨_, rfl⟩
  rw [← eh56] at S56
  have k55 : h55.1 (z + 35) = 9 := S55.k (c := 35) (x := 9) (by rw [tz_55]; decide) (by decide +kernel)
  have S57 : Sh z tb_57 (hp_si h56 (z + 35) 2 0) := S56.si 35 2 0
  obtain ⟨h57, eh57⟩ : ∃ x, x = hp_si h56 (z + 35) 2 0 := ⟨_, rfl⟩
  rw [← eh57] at S57
  have k56 : h56.1 (z + 35) = 9 := S56.k (c := 35) (x := 9) (by rw [tz_56]; decide) (by decide +kernel)
  have S58 : Sh z tb_58 (hp_si h57 (z + 35) 3 0) := S57.si 35 3 0
  obtain ⟨h58, eh58⟩ : ∃ x, x = hp_si h57 (z + 35) 3 0 := ⟨_, rfl⟩
  rw [← eh58] at S58
  have k57 : h57.1 (z + 35) = 9 := S57.k (c := 35) (x := 9) (by rw [tz_57]; decide) (by decide +kernel)
  have S59 : Sh z tb_59 (hp_si h58 (z + 35) 4 0) := S58.si 35 4 0
  obtain ⟨h59, eh59⟩ : ∃ x, x = hp_si h58 (z + 35) 4 0 := ⟨_, rfl⟩
  rw [← eh59] at S59
  have k58 : h58.1 (z + 35) = 9 := S58.k (c := 35) (x := 9) (by rw [tz_58]; decide) (by decide +kernel)
  have S60 : Sh z tb_60 (hp_si h59 (z + 35) 5 0) := S59.si 35 5 0
  obtain ⟨h60, eh60⟩ : ∃ x, x = hp_si h59 (z + 35) 5 0 := ⟨_, rfl⟩
  rw [← eh60] at S60
  have k59 : h59.1 (z + 35) = 9 := S59.k (c := 35) (x := 9) (by rw [tz_59]; decide) (by decide +kernel)
  have S61 : Sh z tb_61 (hp_nw h60 13 60) := S60.nwm tz_60 13 60
  obtain ⟨h61, eh61⟩ : ∃ x, x = hp_nw h60 13 60 := ⟨_, rfl⟩
  rw [← eh61] at S61
  have z60 : h60.2.2.2.2 = z + 36 := S60.sz tz_60
  have S62 : Sh z tb_62 (hp_sr h61 (z + 35) 6 (some (z + 36))) := S61.sr 35 6 36
  obtain ⟨h62, eh62⟩ : ∃ x, x = hp_sr h61 (z + 35) 6 (some (z + 36)) := ⟨_, rfl⟩
  rw [← eh62] at S62
  have k61 : h61.1 (z + 35) = 9 := S61.k (c := 35) (x := 9) (by rw [tz_61]; decide) (by decide +kernel)
  have S63 : Sh z tb_63 (hp_nw h62 13 60) := S62.nwm tz_62 13 60
  obtain ⟨h63, eh63⟩ : ∃ x, x = hp_nw h62 13 60 := ⟨_, rfl⟩
  rw [← eh63] at S63
  have z62 : h62.2.2.2.2 = z + 37 := S62.sz tz_62
  have S64 : Sh z tb_64 (hp_sr h63 (z + 35) 7 (some (z + 37))) := S63.sr 35 7 37
  obtain ⟨h64, eh64⟩ : ∃ x, x = hp_sr h63 (z + 35) 7 (some (z + 37)) := ⟨_, rfl⟩
  rw [← eh64] at S64
  have k63 : h63.1 (z + 35) = 9 := S63.k (c := 35) (x := 9) (by rw [tz_63]; decide) (by decide +kernel)
  have S65 : Sh z tb_65 (hp_nw h64 14 40) := S64.nwm tz_64 14 40
  obtain ⟨h65, eh65⟩ : ∃ x, x = hp_nw h64 14 40 := ⟨_, rfl⟩
  rw [← eh65] at S65
  have z64 : h64.2.2.2.2 = z + 38 := S64.sz tz_64
  have S66 : Sh z tb_66 (hp_sr h65 (z + 35) 8 (some (z + 38))) := S65.sr 35 8 38
  obtain ⟨h66, eh66⟩ : ∃ x, x = hp_sr h65 (z + 35) 8 (some (z + 38)) := ⟨_, rfl⟩
  rw [← eh66] at S66
  have k65 : h65.1 (z + 35) = 9 := S65.k (c := 35) (x := 9) (by rw [tz_65]; decide) (by decide +kernel)
  have S67 : Sh z tb_67 (hp_si h66 (z + 35) 9 0) := S66.si 35 9 0
  obtain ⟨h67, eh67⟩ : ∃ x, x = hp_si h66 (z + 35) 9 0 := ⟨_, rfl⟩
  rw [← eh67] at S67
  have k66 : h66.1 (z + 35) = 9 := S66.k (c := 35) (x := 9) (by rw [tz_66]; decide) (by decide +kernel)
  refine ⟨h67, ?_, S67⟩
  simp only [fX8_init, nm_d, k54, gk_s, ← eh55, k55, ← eh56, k56, ← eh57, k57, ← eh58, k58, ← eh59, k59, ← eh60, z60, ← eh61, k61, ← eh62, z62, ← eh63, k63, ← eh64, z64, ← eh65, k65, ← eh66, k66, ← eh67]
set_option maxRecDepth 100000 in
theorem in_X8b (S69 : Sh z tb_69 h) : ∃ h', fX8_init (z + 39) h = some ((), h') ∧ Sh z tb_82 h' := by
  obtain ⟨h69, eh69⟩ : ∃ x, x = h := ⟨_, rfl⟩
  rw [← eh69] at S69 ⊢
  have S70 : Sh z tb_70 (hp_si h69 (z + 39) 0 0) := S69.si 39 0 0
  obtain ⟨h70, eh70⟩ : ∃ x, x = hp_si h69 (z + 39) 0 0 := ⟨_, rfl⟩
  rw [← eh70] at S70
  have k69 : h69.1 (z + 39) = 9 := S69.k (c := 39) (x := 9) (by rw [tz_69]; decide) (by decide +kernel)
  have S71 : Sh z tb_71 (hp_si h70 (z + 39) 1 (-1)) := S70.si 39 1 (-1)
  obtain ⟨h71, eh71⟩ : ∃ x, x = hp_si h70 (z + 39) 1 (-1) := ⟨_, rfl⟩
  rw [← eh71] at S71
  have k70 : h70.1 (z + 39) = 9 := S70.k (c := 39) (x := 9) (by rw [tz_70]; decide) (by decide +kernel)
  have S72 : Sh z tb_72 (hp_si h71 (z + 39) 2 0) := S71.si 39 2 0
  obtain ⟨h72, eh72⟩ : ∃ x, x = hp_si h71 (z + 39) 2 0 := ⟨_, rfl⟩
  rw [← eh72] at S72
  have k71 : h71.1 (z + 39) = 9 := S71.k (c := 39) (x := 9) (by rw [tz_71]; decide) (by decide +kernel)
  have S73 : Sh z tb_73 (hp_si h72 (z + 39) 3 0) := S72.si 39 3 0
  obtain ⟨h73, eh73⟩ : ∃ x, x = hp_si h72 (z + 39) 3 0 := ⟨_, rfl⟩
  rw [← eh73] at S73
  have k72 : h72.1 (z + 39) = 9 := S72.k (c := 39) (x := 9) (by rw [tz_72]; decide) (by decide +kernel)
  have S74 : Sh z tb_74 (hp_si h73 (z + 39) 4 0) := S73.si 39 4 0
  obtain ⟨h74, eh74⟩ : ∃ x, x = hp_si h73 (z + 39) 4 0 := ⟨_, rfl⟩
  rw [← eh74] at S74
  have k73 : h73.1 (z + 39) = 9 := S73.k (c := 39) (x := 9) (by rw [tz_73]; decide) (by decide +kernel)
  have S75 : Sh z tb_75 (hp_si h74 (z + 39) 5 0) := S74.si 39 5 0
  obtain ⟨h75, eh75⟩ : ∃ x, x = hp_si h74 (z + 39) 5 0 := ⟨_, rfl⟩
  rw [← eh75] at S75
  have k74 : h74.1 (z + 39) = 9 := S74.k (c := 39) (x := 9) (by rw [tz_74]; decide) (by decide +kernel)
  have S76 : Sh z tb_76 (hp_nw h75 13 60) := S75.nwm tz_75 13 60
  obtain ⟨h76, eh76⟩ : ∃ x, x = hp_nw h75 13 60 := ⟨_, rfl⟩
  rw [← eh76] at S76
  have z75 : h75.2.2.2.2 = z + 40 := S75.sz tz_75
  have S77 : Sh z tb_77 (hp_sr h76 (z + 39) 6 (some (z + 40))) := S76.sr 39 6 40
  obtain ⟨h77, eh77⟩ : ∃ x, x = hp_sr h76 (z + 39) 6 (some (z + 40)) := ⟨_, rfl⟩
  rw [← eh77] at S77
  have k76 : h76.1 (z + 39) = 9 := S76.k (c := 39) (x := 9) (by rw [tz_76]; decide) (by decide +kernel)
  have S78 : Sh z tb_78 (hp_nw h77 13 60) := S77.nwm tz_77 13 60
  obtain ⟨h78, eh78⟩ : ∃ x, x = hp_nw h77 13 60 := ⟨_, rfl⟩
  rw [← eh78] at S78
  have z77 : h77.2.2.2.2 = z + 41 := S77.sz tz_77
  have S79 : Sh z tb_79 (hp_sr h78 (z + 39) 7 (some (z + 41))) := S78.sr 39 7 41
  obtain ⟨h79, eh79⟩ : ∃ x, x = hp_sr h78 (z + 39) 7 (some (z + 41)) := ⟨_, rfl⟩
  rw [← eh79] at S79
  have k78 : h78.1 (z + 39) = 9 := S78.k (c := 39) (x := 9) (by rw [tz_78]; decide) (by decide +kernel)
  have S80 : Sh z tb_80 (hp_nw h79 14 40) := S79.nwm tz_79 14 40
  obtain ⟨h80, eh80⟩ : ∃ x, x = hp_nw h79 14 40 := ⟨_, rfl⟩
  rw [← eh80] at S80
  have z79 : h79.2.2.2.2 = z + 42 := S79.sz tz_79
  have S81 : Sh z tb_81 (hp_sr h80 (z + 39) 8 (some (z + 42))) := S80.sr 39 8 42
  obtain ⟨h81, eh81⟩ : ∃ x, x = hp_sr h80 (z + 39) 8 (some (z + 42)) := ⟨_, rfl⟩
  rw [← eh81] at S81
  have k80 : h80.1 (z + 39) = 9 := S80.k (c := 39) (x := 9) (by rw [tz_80]; decide) (by decide +kernel)
  have S82 : Sh z tb_82 (hp_si h81 (z + 39) 9 0) := S81.si 39 9 0
  obtain ⟨h82, eh82⟩ : ∃ x, x = hp_si h81 (z + 39) 9 0 := ⟨_, rfl⟩
  rw [← eh82] at S82
  have k81 : h81.1 (z + 39) = 9 := S81.k (c := 39) (x := 9) (by rw [tz_81]; decide) (by decide +kernel)
  refine ⟨h82, ?_, S82⟩
  simp only [fX8_init, nm_d, k69, gk_s, ← eh70, k70, ← eh71, k71, ← eh72, k72, ← eh73, k73, ← eh74, k74, ← eh75, z75, ← eh76, k76, ← eh77, z77, ← eh78, k78, ← eh79, z79, ← eh80, k80, ← eh81, k81, ← eh82]
set_option maxRecDepth 100000 in
theorem in_X10 (S1 : Sh z tb_1 h) : ∃ h', fX10_init (z + 0) h = some ((), h') ∧ Sh z tb_83 h' := by
  obtain ⟨h1, eh1⟩ : ∃ x, x = h := ⟨_, rfl⟩
  rw [← eh1] at S1 ⊢
  have S2 : Sh z tb_2 (hp_nw h1 3 0) := S1.nwm tz_1 3 0
  obtain ⟨h2, eh2⟩ : ∃ x, x = hp_nw h1 3 0 := ⟨_, rfl⟩
  rw [← eh2] at S2
  have z1 : h1.2.2.2.2 = z + 1 := S1.sz tz_1
  obtain ⟨h5, es_X2, S5⟩ := in_X2 S2
  have S6 : Sh z tb_6 (hp_sr h5 (z + 0) 0 (some (z + 1))) := S5.sr 0 0 1
  obtain ⟨h6, eh6⟩ : ∃ x, x = hp_sr h5 (z + 0) 0 (some (z + 1)) := ⟨_, rfl⟩
  rw [← eh6] at S6
  have k5 : h5.1 (z + 0) = 11 := S5.k (c := 0) (x := 11) (by rw [tz_5]; decide) (by decide +kernel)
  have S7 : Sh z tb_7 (hp_nw h6 10 0) := S6.nwm tz_6 10 0
  obtain ⟨h7, eh7⟩ : ∃ x, x = hp_nw h6 10 0 := ⟨_, rfl⟩
  rw [← eh7] at S7
  have z6 : h6.2.2.2.2 = z + 3 := S6.sz tz_6
  obtain ⟨h9, es_X9, S9⟩ := in_X9 S7
  have S10 : Sh z tb_10 (hp_sr h9 (z + 0) 1 (some (z + 3))) := S9.sr 0 1 3
  obtain ⟨h10, eh10⟩ : ∃ x, x = hp_sr h9 (z + 0) 1 (some (z + 3)) := ⟨_, rfl⟩
  rw [← eh10] at S10
  have k9 : h9.1 (z + 0) = 11 := S9.k (c := 0) (x := 11) (by rw [tz_9]; decide) (by decide +kernel)
  have S11 : Sh z tb_11 (hp_nw h10 8 0) := S10.nwm tz_10 8 0
  obtain ⟨h11, eh11⟩ : ∃ x, x = hp_nw h10 8 0 := ⟨_, rfl⟩
  rw [← eh11] at S11
  have z10 : h10.2.2.2.2 = z + 5 := S10.sz tz_10
  obtain ⟨h15, es_X7, S15⟩ := in_X7 S11
  have S16 : Sh z tb_16 (hp_sr h15 (z + 0) 2 (some (z + 5))) := S15.sr 0 2 5
  obtain ⟨h16, eh16⟩ : ∃ x, x = hp_sr h15 (z + 0) 2 (some (z + 5)) := ⟨_, rfl⟩
  rw [← eh16] at S16
  have k15 : h15.1 (z + 0) = 11 := S15.k (c := 0) (x := 11) (by rw [tz_15]; decide) (by decide +kernel)
  have S17 : Sh z tb_17 (hp_nw h16 2 0) := S16.nwm tz_16 2 0
  obtain ⟨h17, eh17⟩ : ∃ x, x = hp_nw h16 2 0 := ⟨_, rfl⟩
  rw [← eh17] at S17
  have z16 : h16.2.2.2.2 = z + 8 := S16.sz tz_16
  obtain ⟨h22, es_X1, S22⟩ := in_X1 S17
  have S23 : Sh z tb_23 (hp_sr h22 (z + 0) 3 (some (z + 8))) := S22.sr 0 3 8
  obtain ⟨h23, eh23⟩ : ∃ x, x = hp_sr h22 (z + 0) 3 (some (z + 8)) := ⟨_, rfl⟩
  rw [← eh23] at S23
  have k22 : h22.1 (z + 0) = 11 := S22.k (c := 0) (x := 11) (by rw [tz_22]; decide) (by decide +kernel)
  have S24 : Sh z tb_24 (hp_nw h23 5 0) := S23.nwm tz_23 5 0
  obtain ⟨h24, eh24⟩ : ∃ x, x = hp_nw h23 5 0 := ⟨_, rfl⟩
  rw [← eh24] at S24
  have z23 : h23.2.2.2.2 = z + 11 := S23.sz tz_23
  obtain ⟨h30, es_X4, S30⟩ := in_X4 S24
  have S31 : Sh z tb_31 (hp_sr h30 (z + 0) 4 (some (z + 11))) := S30.sr 0 4 11
  obtain ⟨h31, eh31⟩ : ∃ x, x = hp_sr h30 (z + 0) 4 (some (z + 11)) := ⟨_, rfl⟩
  rw [← eh31] at S31
  have k30 : h30.1 (z + 0) = 11 := S30.k (c := 0) (x := 11) (by rw [tz_30]; decide) (by decide +kernel)
  have S32 : Sh z tb_32 (hp_nw h31 7 0) := S31.nwm tz_31 7 0
  obtain ⟨h32, eh32⟩ : ∃ x, x = hp_nw h31 7 0 := ⟨_, rfl⟩
  rw [← eh32] at S32
  have z31 : h31.2.2.2.2 = z + 15 := S31.sz tz_31
  obtain ⟨h52, es_X6, S52⟩ := in_X6 S32
  have S53 : Sh z tb_53 (hp_sr h52 (z + 0) 5 (some (z + 15))) := S52.sr 0 5 15
  obtain ⟨h53, eh53⟩ : ∃ x, x = hp_sr h52 (z + 0) 5 (some (z + 15)) := ⟨_, rfl⟩
  rw [← eh53] at S53
  have k52 : h52.1 (z + 0) = 11 := S52.k (c := 0) (x := 11) (by rw [tz_52]; decide) (by decide +kernel)
  have S54 : Sh z tb_54 (hp_nw h53 9 0) := S53.nwm tz_53 9 0
  obtain ⟨h54, eh54⟩ : ∃ x, x = hp_nw h53 9 0 := ⟨_, rfl⟩
  rw [← eh54] at S54
  have z53 : h53.2.2.2.2 = z + 35 := S53.sz tz_53
  obtain ⟨h67, es_X8, S67⟩ := in_X8 S54
  have S68 : Sh z tb_68 (hp_sr h67 (z + 0) 6 (some (z + 35))) := S67.sr 0 6 35
  obtain ⟨h68, eh68⟩ : ∃ x, x = hp_sr h67 (z + 0) 6 (some (z + 35)) := ⟨_, rfl⟩
  rw [← eh68] at S68
  have k67 : h67.1 (z + 0) = 11 := S67.k (c := 0) (x := 11) (by rw [tz_67]; decide) (by decide +kernel)
  have S69 : Sh z tb_69 (hp_nw h68 9 0) := S68.nwm tz_68 9 0
  obtain ⟨h69, eh69⟩ : ∃ x, x = hp_nw h68 9 0 := ⟨_, rfl⟩
  rw [← eh69] at S69
  have z68 : h68.2.2.2.2 = z + 39 := S68.sz tz_68
  obtain ⟨h82, es_X8b, S82⟩ := in_X8b S69
  have S83 : Sh z tb_83 (hp_sr h82 (z + 0) 7 (some (z + 39))) := S82.sr 0 7 39
  obtain ⟨h83, eh83⟩ : ∃ x, x = hp_sr h82 (z + 0) 7 (some (z + 39)) := ⟨_, rfl⟩
  rw [← eh83] at S83
  have k82 : h82.1 (z + 0) = 11 := S82.k (c := 0) (x := 11) (by rw [tz_82]; decide) (by decide +kernel)
  refine ⟨h83, ?_, S83⟩
  simp only [fX10_init, nm_d, z1, ← eh2, es_X2, b2_s, k5, gk_s, ← eh6, z6, ← eh7, es_X9, k9, ← eh10, z10, ← eh11, es_X7, k15, ← eh16, z16, ← eh17, es_X1, k22, ← eh23, z23, ← eh24, es_X4, k30, ← eh31, z31, ← eh32, es_X6, k52, ← eh53, z53, ← eh54, es_X8, k67, ← eh68, z68, ← eh69, es_X8b, k82, ← eh83]
theorem in_317 : ∀ (d i f : Nat) (h : Hp), i + d = 8 → d < f → h.1 (z + 43) = 12 → h.2.2.2.1 (z + 43) 29 = some (z + 66) → h.1 (z + 66) = 13 → h.2.1 (z + 66) = 8 → ∃ h', fx bX11_init_317 (fun _ _ _ => none) f (z + 43) (nI i) h = some ((), h') ∧ h'.1 = h.1 ∧ h'.2.1 = h.2.1 ∧ h'.2.2.2 = h.2.2.2 ∧ (∀ b, b ≠ z + 66 → h'.2.2.1 b = h.2.2.1 b) ∧ (∀ k, h'.2.2.1 (z + 66) k = if i ≤ k ∧ k < 8 then 1 else h.2.2.1 (z + 66) k) := by
  intro d
  induction d with
  | zero =>
    intro i f h hi hf a1 a2 a3 a4
    obtain ⟨f, rfl⟩ : ∃ k, f = k + 1 := ⟨f - 1, by omega⟩
    obtain rfl : i = 8 := by omega
    refine ⟨h, ?_, rfl, rfl, rfl, fun _ _ => rfl, fun k => by rw [if_neg (by omega)]⟩
    rw [fx_s]
    simp only [bX11_init_317, if_pos (show (8 : Int32) ≤ nI 8 by decide)]
  | succ d ih =>
    intro i f h hi hf a1 a2 a3 a4
    obtain ⟨f, rfl⟩ : ∃ k, f = k + 1 := ⟨f - 1, by omega⟩
    obtain ⟨h', e1, e2, e3, e4, e5, e6⟩ := ih (i + 1) f (hp_si h (z + 66) i 1) (by omega) (by omega) a1 a2 a3 a4
    refine ⟨h', ?_, e2, e3, e4, fun b hb => (e5 b hb).trans (u2_ne hb), fun k => ?_⟩
    · rw [fx_s]
      simp only [bX11_init_317, if_neg (show ¬ (8 : Int32) ≤ nI i from nI_ge (b := 8) (by omega) (by decide)), a1, gk_s, a2, bd_s, a3, a4, gd_e (ix_nI (p := i) (N := 8) (by omega) (by decide)), nI_clamp (n := i) (by omega), nm_d, nI_1]
      exact e1
    · rw [e6 k, si_3, u2_at]
      by_cases q : k = i
      · subst q
        rw [if_neg (by omega), if_pos ⟨rfl, rfl⟩, if_pos (by omega)]
      · by_cases q2 : i + 1 ≤ k ∧ k < 8
        · rw [if_pos q2, if_pos (by omega)]
        · rw [if_neg q2, if_neg (fun r => q r.2), if_neg (by omega)]
end
