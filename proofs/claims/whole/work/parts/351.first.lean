/-! the first heap: the model's constructor; the relation holds there -/
section
variable {z : Nat} {h : Hp}
theorem al {A : Hp} {m kd n j : Nat} {K : Hp → Option (Unit × Hp)} (S : Sh z A h) (hm : A.2.2.2.2 = m) (h43 : 43 < m) (hk : A.1 43 = 12) : (nm h.2.2.2.2 fun a => nm (hp_nw h kd n) fun g => gk (g.1 (z + 43)) 12 <| nm (hp_sr g (z + 43) j (some a)) K) = K (hp_sr (hp_nw h kd n) (z + 43) j (some (z + m))) := by
  have k := (S.nw kd n).k (c := 43) (x := 12) (by show 43 < A.2.2.2.2 + 1; omega) (by show va_up A.1 A.2.2.2.2 kd 43 = 12; rw [va_up_ne _ _ (by omega)]; exact hk)
  simp only [nm_d, S.sz hm, k, gk_s]
set_option maxRecDepth 100000 in
theorem in_X11 (S84 : Sh z tb_84 h) : ∃ h', fX11_init (z + 43) h = some ((), h') ∧ Sh z tb_161 h' := by
  have nfb := NF_big
  unfold fX11_init
  rw [al S84 tz_84 (by decide) (by decide +kernel)]
  have S86 : Sh z tb_86 _ := (S84.nwm tz_84 13 40).sr 43 1 44
  obtain ⟨h86, eh86⟩ : ∃ x, x = hp_sr (hp_nw h 13 40) (z + 43) 1 (some (z + 44)) := ⟨_, rfl⟩
  rw [← eh86] at S86 ⊢
  rw [al S86 tz_86 (by decide) (by decide +kernel)]
  have S88 : Sh z tb_88 _ := (S86.nwm tz_86 13 40).sr 43 2 45
  obtain ⟨h88, eh88⟩ : ∃ x, x = hp_sr (hp_nw h86 13 40) (z + 43) 2 (some (z + 45)) := ⟨_, rfl⟩
  rw [← eh88] at S88 ⊢
  rw [al S88 tz_88 (by decide) (by decide +kernel)]
  have S90 : Sh z tb_90 _ := (S88.nwm tz_88 13 40).sr 43 3 46
  obtain ⟨h90, eh90⟩ : ∃ x, x = hp_sr (hp_nw h88 13 40) (z + 43) 3 (some (z + 46)) := ⟨_, rfl⟩
  rw [← eh90] at S90 ⊢
  rw [al S90 tz_90 (by decide) (by decide +kernel)]
  have S92 : Sh z tb_92 _ := (S90.nwm tz_90 13 40).sr 43 4 47
  obtain ⟨h92, eh92⟩ : ∃ x, x = hp_sr (hp_nw h90 13 40) (z + 43) 4 (some (z + 47)) := ⟨_, rfl⟩
  rw [← eh92] at S92 ⊢
  rw [al S92 tz_92 (by decide) (by decide +kernel)]
  have S94 : Sh z tb_94 _ := (S92.nwm tz_92 13 40).sr 43 5 48
  obtain ⟨h94, eh94⟩ : ∃ x, x = hp_sr (hp_nw h92 13 40) (z + 43) 5 (some (z + 48)) := ⟨_, rfl⟩
  rw [← eh94] at S94 ⊢
  rw [al S94 tz_94 (by decide) (by decide +kernel)]
  have S96 : Sh z tb_96 _ := (S94.nwm tz_94 13 40).sr 43 6 49
  obtain ⟨h96, eh96⟩ : ∃ x, x = hp_sr (hp_nw h94 13 40) (z + 43) 6 (some (z + 49)) := ⟨_, rfl⟩
  rw [← eh96] at S96 ⊢
  rw [al S96 tz_96 (by decide) (by decide +kernel)]
  have S98 : Sh z tb_98 _ := (S96.nwm tz_96 13 40).sr 43 7 50
  obtain ⟨h98, eh98⟩ : ∃ x, x = hp_sr (hp_nw h96 13 40) (z + 43) 7 (some (z + 50)) := ⟨_, rfl⟩
  rw [← eh98] at S98 ⊢
  rw [al S98 tz_98 (by decide) (by decide +kernel)]
  have S100 : Sh z tb_100 _ := (S98.nwm tz_98 13 40).sr 43 8 51
  obtain ⟨h100, eh100⟩ : ∃ x, x = hp_sr (hp_nw h98 13 40) (z + 43) 8 (some (z + 51)) := ⟨_, rfl⟩
  rw [← eh100] at S100 ⊢
  rw [al S100 tz_100 (by decide) (by decide +kernel)]
  have S102 : Sh z tb_102 _ := (S100.nwm tz_100 13 40).sr 43 9 52
  obtain ⟨h102, eh102⟩ : ∃ x, x = hp_sr (hp_nw h100 13 40) (z + 43) 9 (some (z + 52)) := ⟨_, rfl⟩
  rw [← eh102] at S102 ⊢
  rw [al S102 tz_102 (by decide) (by decide +kernel)]
  have S104 : Sh z tb_104 _ := (S102.nwm tz_102 13 40).sr 43 10 53
  obtain ⟨h104, eh104⟩ : ∃ x, x = hp_sr (hp_nw h102 13 40) (z + 43) 10 (some (z + 53)) := ⟨_, rfl⟩
  rw [← eh104] at S104 ⊢
  rw [al S104 tz_104 (by decide) (by decide +kernel)]
  have S106 : Sh z tb_106 _ := (S104.nwm tz_104 13 240).sr 43 11 54
  obtain ⟨h106, eh106⟩ : ∃ x, x = hp_sr (hp_nw h104 13 240) (z + 43) 11 (some (z + 54)) := ⟨_, rfl⟩
  rw [← eh106] at S106 ⊢
  rw [al S106 tz_106 (by decide) (by decide +kernel)]
  have S108 : Sh z tb_108 _ := (S106.nwm tz_106 13 240).sr 43 12 55
  obtain ⟨h108, eh108⟩ : ∃ x, x = hp_sr (hp_nw h106 13 240) (z + 43) 12 (some (z + 55)) := ⟨_, rfl⟩
  rw [← eh108] at S108 ⊢
  rw [al S108 tz_108 (by decide) (by decide +kernel)]
  have S110 : Sh z tb_110 _ := (S108.nwm tz_108 13 240).sr 43 13 56
  obtain ⟨h110, eh110⟩ : ∃ x, x = hp_sr (hp_nw h108 13 240) (z + 43) 13 (some (z + 56)) := ⟨_, rfl⟩
  rw [← eh110] at S110 ⊢
  rw [al S110 tz_110 (by decide) (by decide +kernel)]
  have S112 : Sh z tb_112 _ := (S110.nwm tz_110 13 240).sr 43 14 57
  obtain ⟨h112, eh112⟩ : ∃ x, x = hp_sr (hp_nw h110 13 240) (z + 43) 14 (some (z + 57)) := ⟨_, rfl⟩
  rw [← eh112] at S112 ⊢
  rw [al S112 tz_112 (by decide) (by decide +kernel)]
  have S114 : Sh z tb_114 _ := (S112.nwm tz_112 13 12).sr 43 16 58
  obtain ⟨h114, eh114⟩ : ∃ x, x = hp_sr (hp_nw h112 13 12) (z + 43) 16 (some (z + 58)) := ⟨_, rfl⟩
  rw [← eh114] at S114 ⊢
  rw [al S114 tz_114 (by decide) (by decide +kernel)]
  have S116 : Sh z tb_116 _ := (S114.nwm tz_114 13 12).sr 43 17 59
  obtain ⟨h116, eh116⟩ : ∃ x, x = hp_sr (hp_nw h114 13 12) (z + 43) 17 (some (z + 59)) := ⟨_, rfl⟩
  rw [← eh116] at S116 ⊢
  rw [al S116 tz_116 (by decide) (by decide +kernel)]
  have S118 : Sh z tb_118 _ := (S116.nwm tz_116 13 12).sr 43 18 60
  obtain ⟨h118, eh118⟩ : ∃ x, x = hp_sr (hp_nw h116 13 12) (z + 43) 18 (some (z + 60)) := ⟨_, rfl⟩
  rw [← eh118] at S118 ⊢
  rw [al S118 tz_118 (by decide) (by decide +kernel)]
  have S120 : Sh z tb_120 _ := (S118.nwm tz_118 13 12).sr 43 19 61
  obtain ⟨h120, eh120⟩ : ∃ x, x = hp_sr (hp_nw h118 13 12) (z + 43) 19 (some (z + 61)) := ⟨_, rfl⟩
  rw [← eh120] at S120 ⊢
  rw [al S120 tz_120 (by decide) (by decide +kernel)]
  have S122 : Sh z tb_122 _ := (S120.nwm tz_120 13 12).sr 43 20 62
  obtain ⟨h122, eh122⟩ : ∃ x, x = hp_sr (hp_nw h120 13 12) (z + 43) 20 (some (z + 62)) := ⟨_, rfl⟩
  rw [← eh122] at S122 ⊢
  rw [al S122 tz_122 (by decide) (by decide +kernel)]
  have S124 : Sh z tb_124 _ := (S122.nwm tz_122 13 12).sr 43 21 63
  obtain ⟨h124, eh124⟩ : ∃ x, x = hp_sr (hp_nw h122 13 12) (z + 43) 21 (some (z + 63)) := ⟨_, rfl⟩
  rw [← eh124] at S124 ⊢
  rw [al S124 tz_124 (by decide) (by decide +kernel)]
  have S126 : Sh z tb_126 _ := (S124.nwm tz_124 13 60).sr 43 27 64
  obtain ⟨h126, eh126⟩ : ∃ x, x = hp_sr (hp_nw h124 13 60) (z + 43) 27 (some (z + 64)) := ⟨_, rfl⟩
  rw [← eh126] at S126 ⊢
  rw [al S126 tz_126 (by decide) (by decide +kernel)]
  have S128 : Sh z tb_128 _ := (S126.nwm tz_126 13 60).sr 43 28 65
  obtain ⟨h128, eh128⟩ : ∃ x, x = hp_sr (hp_nw h126 13 60) (z + 43) 28 (some (z + 65)) := ⟨_, rfl⟩
  rw [← eh128] at S128 ⊢
  rw [al S128 tz_128 (by decide) (by decide +kernel)]
  have S130 : Sh z tb_130 _ := (S128.nwm tz_128 13 8).sr 43 29 66
  obtain ⟨h130, eh130⟩ : ∃ x, x = hp_sr (hp_nw h128 13 8) (z + 43) 29 (some (z + 66)) := ⟨_, rfl⟩
  rw [← eh130] at S130 ⊢
  rw [al S130 tz_130 (by decide) (by decide +kernel)]
  have S132 : Sh z tb_132 _ := (S130.nwm tz_130 13 8).sr 43 30 67
  obtain ⟨h132, eh132⟩ : ∃ x, x = hp_sr (hp_nw h130 13 8) (z + 43) 30 (some (z + 67)) := ⟨_, rfl⟩
  rw [← eh132] at S132 ⊢
  rw [al S132 tz_132 (by decide) (by decide +kernel)]
  have S134 : Sh z tb_134 _ := (S132.nwm tz_132 13 40).sr 43 36 68
  obtain ⟨h134, eh134⟩ : ∃ x, x = hp_sr (hp_nw h132 13 40) (z + 43) 36 (some (z + 68)) := ⟨_, rfl⟩
  rw [← eh134] at S134 ⊢
  rw [al S134 tz_134 (by decide) (by decide +kernel)]
  have S136 : Sh z tb_136 _ := (S134.nwm tz_134 14 40).sr 43 42 69
  obtain ⟨h136, eh136⟩ : ∃ x, x = hp_sr (hp_nw h134 14 40) (z + 43) 42 (some (z + 69)) := ⟨_, rfl⟩
  rw [← eh136] at S136 ⊢
  rw [al S136 tz_136 (by decide) (by decide +kernel)]
  have S138 : Sh z tb_138 _ := (S136.nwm tz_136 13 60).sr 43 43 70
  obtain ⟨h138, eh138⟩ : ∃ x, x = hp_sr (hp_nw h136 13 60) (z + 43) 43 (some (z + 70)) := ⟨_, rfl⟩
  rw [← eh138] at S138 ⊢
  rw [al S138 tz_138 (by decide) (by decide +kernel)]
  have S140 : Sh z tb_140 _ := (S138.nwm tz_138 13 60).sr 43 44 71
  obtain ⟨h140, eh140⟩ : ∃ x, x = hp_sr (hp_nw h138 13 60) (z + 43) 44 (some (z + 71)) := ⟨_, rfl⟩
  rw [← eh140] at S140 ⊢
  rw [al S140 tz_140 (by decide) (by decide +kernel)]
  have S142 : Sh z tb_142 _ := (S140.nwm tz_140 14 40).sr 43 45 72
  obtain ⟨h142, eh142⟩ : ∃ x, x = hp_sr (hp_nw h140 14 40) (z + 43) 45 (some (z + 72)) := ⟨_, rfl⟩
  rw [← eh142] at S142 ⊢
  rw [al S142 tz_142 (by decide) (by decide +kernel)]
  have S144 : Sh z tb_144 _ := (S142.nwm tz_142 14 40).sr 43 46 73
  obtain ⟨h144, eh144⟩ : ∃ x, x = hp_sr (hp_nw h142 14 40) (z + 43) 46 (some (z + 73)) := ⟨_, rfl⟩
  rw [← eh144] at S144 ⊢
  rw [al S144 tz_144 (by decide) (by decide +kernel)]
  have S146 : Sh z tb_146 _ := (S144.nwm tz_144 14 40).sr 43 47 74
  obtain ⟨h146, eh146⟩ : ∃ x, x = hp_sr (hp_nw h144 14 40) (z + 43) 47 (some (z + 74)) := ⟨_, rfl⟩
  rw [← eh146] at S146 ⊢
  rw [al S146 tz_146 (by decide) (by decide +kernel)]
  have S148 : Sh z tb_148 _ := (S146.nwm tz_146 13 6).sr 43 48 75
  obtain ⟨h148, eh148⟩ : ∃ x, x = hp_sr (hp_nw h146 13 6) (z + 43) 48 (some (z + 75)) := ⟨_, rfl⟩
  rw [← eh148] at S148 ⊢
  rw [al S148 tz_148 (by decide) (by decide +kernel)]
  have S150 : Sh z tb_150 _ := (S148.nwm tz_148 13 6).sr 43 49 76
  obtain ⟨h150, eh150⟩ : ∃ x, x = hp_sr (hp_nw h148 13 6) (z + 43) 49 (some (z + 76)) := ⟨_, rfl⟩
  rw [← eh150] at S150 ⊢
  rw [al S150 tz_150 (by decide) (by decide +kernel)]
  have S152 : Sh z tb_152 _ := (S150.nwm tz_150 13 24).sr 43 50 77
  obtain ⟨h152, eh152⟩ : ∃ x, x = hp_sr (hp_nw h150 13 24) (z + 43) 50 (some (z + 77)) := ⟨_, rfl⟩
  rw [← eh152] at S152 ⊢
  rw [al S152 tz_152 (by decide) (by decide +kernel)]
  have S154 : Sh z tb_154 _ := (S152.nwm tz_152 13 1792).sr 43 51 78
  obtain ⟨h154, eh154⟩ : ∃ x, x = hp_sr (hp_nw h152 13 1792) (z + 43) 51 (some (z + 78)) := ⟨_, rfl⟩
  rw [← eh154] at S154 ⊢
  rw [al S154 tz_154 (by decide) (by decide +kernel)]
  have S156 : Sh z tb_156 _ := (S154.nwm tz_154 13 256).sr 43 52 79
  obtain ⟨h156, eh156⟩ : ∃ x, x = hp_sr (hp_nw h154 13 256) (z + 43) 52 (some (z + 79)) := ⟨_, rfl⟩
  rw [← eh156] at S156 ⊢
  rw [al S156 tz_156 (by decide) (by decide +kernel)]
  have S158 : Sh z tb_158 _ := (S156.nwm tz_156 13 256).sr 43 55 80
  obtain ⟨h158, eh158⟩ : ∃ x, x = hp_sr (hp_nw h156 13 256) (z + 43) 55 (some (z + 80)) := ⟨_, rfl⟩
  rw [← eh158] at S158 ⊢
  rw [al S158 tz_158 (by decide) (by decide +kernel)]
  have S160 : Sh z tb_160 _ := (S158.nwm tz_158 13 8).sr 43 56 81
  obtain ⟨h160, eh160⟩ : ∃ x, x = hp_sr (hp_nw h158 13 8) (z + 43) 56 (some (z + 81)) := ⟨_, rfl⟩
  rw [← eh160] at S160 ⊢
  obtain ⟨h', e1, e2, e3, e4, e5, e6⟩ := in_317 (z := z) 8 0 NF h160 (by omega) (by omega) (S160.k (by rw [tz_160]; decide) (by decide +kernel)) (S160.r (by rw [tz_160]; decide) (by decide +kernel)) (S160.k (by rw [tz_160]; decide) (by decide +kernel)) (S160.l (by rw [tz_160]; decide) (by decide +kernel))
  exact ⟨h', e1, S160.fl e2 e3 e4 e5 (fun k => by rw [e6 k]; simp only [Nat.zero_le, true_and])⟩
theorem A_K : ∀ c, c < 82 → tb_161.1 c = KT c := by decide +kernel
theorem A_L : ∀ c, c < 82 → tb_161.2.1 c = LT c := by decide +kernel
theorem A_R : ∀ c k o, RT c k = some o → tb_161.2.2.2.1 c k = some o := by
  intro c k o h
  unfold RT at h
  split at h <;> first | (cases h; done) | (cases h; decide +kernel)
theorem A_22 : ∀ s, s < 256 → 1 ≤ s → tb_161.2.2.1 22 s = 500000000 := by decide +kernel
theorem A_w : ∀ k, k < 8 → tb_161.2.2.1 66 k = 1 ∧ tb_161.2.2.1 67 k = 0 ∧ tb_161.2.2.1 16 k = 1 ∧ tb_161.2.2.1 17 k = 0 := by decide +kernel
theorem A_0 : tb_161.2.2.1 43 0 = 0 ∧ tb_161.2.2.1 1 1 = 0 ∧ tb_161.2.2.1 43 15 = 0 ∧ tb_161.2.2.1 8 2 = 0 ∧ tb_161.2.2.1 22 0 = 0 ∧ tb_161.2.2.1 18 0 = 0 ∧ tb_161.2.2.1 43 31 = 0 ∧ tb_161.2.2.1 15 2 = 0 ∧ tb_161.2.2.1 35 0 = 0 ∧ tb_161.2.2.1 43 22 = 0 ∧ tb_161.2.2.1 35 4 = 0 ∧ tb_161.2.2.1 35 5 = 0 := by decide +kernel
theorem A_j : ∀ j, j < 6 → tb_161.2.2.1 (22 + j) 0 = 0 := by decide +kernel
theorem t74_145 (k : Nat) : tb_145.2.2.1 74 k = 0 := by show va_up tb_144.2.2.1 74 (fun _ => 0) 74 k = 0; rw [va_up_self]
theorem t74_146 (k : Nat) : tb_146.2.2.1 74 k = 0 := t74_145 k
theorem t74_147 (k : Nat) : tb_147.2.2.1 74 k = 0 := by show va_up tb_146.2.2.1 75 (fun _ => 0) 74 k = 0; rw [va_up_ne _ _ (show 74 ≠ 75 by decide)]; exact t74_146 k
theorem t74_148 (k : Nat) : tb_148.2.2.1 74 k = 0 := t74_147 k
theorem t74_149 (k : Nat) : tb_149.2.2.1 74 k = 0 := by show va_up tb_148.2.2.1 76 (fun _ => 0) 74 k = 0; rw [va_up_ne _ _ (show 74 ≠ 76 by decide)]; exact t74_148 k
theorem t74_150 (k : Nat) : tb_150.2.2.1 74 k = 0 := t74_149 k
theorem t74_151 (k : Nat) : tb_151.2.2.1 74 k = 0 := by show va_up tb_150.2.2.1 77 (fun _ => 0) 74 k = 0; rw [va_up_ne _ _ (show 74 ≠ 77 by decide)]; exact t74_150 k
theorem t74_152 (k : Nat) : tb_152.2.2.1 74 k = 0 := t74_151 k
theorem t74_153 (k : Nat) : tb_153.2.2.1 74 k = 0 := by show va_up tb_152.2.2.1 78 (fun _ => 0) 74 k = 0; rw [va_up_ne _ _ (show 74 ≠ 78 by decide)]; exact t74_152 k
theorem t74_154 (k : Nat) : tb_154.2.2.1 74 k = 0 := t74_153 k
theorem t74_155 (k : Nat) : tb_155.2.2.1 74 k = 0 := by show va_up tb_154.2.2.1 79 (fun _ => 0) 74 k = 0; rw [va_up_ne _ _ (show 74 ≠ 79 by decide)]; exact t74_154 k
theorem t74_156 (k : Nat) : tb_156.2.2.1 74 k = 0 := t74_155 k
theorem t74_157 (k : Nat) : tb_157.2.2.1 74 k = 0 := by show va_up tb_156.2.2.1 80 (fun _ => 0) 74 k = 0; rw [va_up_ne _ _ (show 74 ≠ 80 by decide)]; exact t74_156 k
theorem t74_158 (k : Nat) : tb_158.2.2.1 74 k = 0 := t74_157 k
theorem t74_159 (k : Nat) : tb_159.2.2.1 74 k = 0 := by show va_up tb_158.2.2.1 81 (fun _ => 0) 74 k = 0; rw [va_up_ne _ _ (show 74 ≠ 81 by decide)]; exact t74_158 k
theorem t74_160 (k : Nat) : tb_160.2.2.1 74 k = 0 := t74_159 k
theorem t74_161 (k : Nat) : tb_161.2.2.1 74 k = 0 := by show (if 74 = 66 ∧ k < 8 then (1 : Int32) else tb_160.2.2.1 74 k) = 0; rw [if_neg (fun r => absurd r.1 (by decide))]; exact t74_160 k
theorem rel_0 (S : Sh z tb_161 h) : Rel z h := by
  have hz : tb_161.2.2.2.2 = 82 := tz_161
  have hF : fxd z h := ⟨fun c hc => by rw [(S.2 c (by omega)).1]; exact A_K c hc, fun c hc => by rw [(S.2 c (by omega)).2.1]; exact A_L c hc, fun c k o ho => by
    have := (RT_lt c k o ho).1
    rw [(S.2 c (by omega)).2.2.2 k, A_R c k o ho]; rfl, by rw [S.1]; omega⟩
  have rd : ∀ c k, c < 82 → h.2.2.1 (z + c) k = tb_161.2.2.1 c k := fun c k hc => by rw [(S.2 c (by omega)).2.2.1]
  obtain ⟨a1, a2, a3, a4, a5, a6, a7, a8, a9, a10, a11, a12⟩ := A_0
  refine ⟨⟨tb_161.2.2.1, 0, 0, fun _ => 0, fun _ => 0, fun _ _ => 0, fun _ => 0, hF, fun c k hc _ => rd c k hc, ⟨by decide, a1, a2, fun p hp => absurd hp (Nat.not_lt_zero p), by decide, a3, a4, fun p hp => absurd hp (Nat.not_lt_zero p), fun k hk => ?_, t74_161, a5, fun s s1 s2 => ?_, fun j j1 j2 => ?_, a6, Or.inl ⟨a7, a8⟩⟩, ⟨fun p hp => absurd hp (Nat.not_lt_zero p), fun p q hp => absurd hp (Nat.not_lt_zero p), fun p q hp => absurd hp (Nat.not_lt_zero p), fun p q i j hp => absurd hp (Nat.not_lt_zero p), fun g hg => absurd hg (Nat.not_lt_zero g)⟩⟩, ?_⟩
  · obtain ⟨b1, b2', b3, b4⟩ := A_w k hk
    rw [b1, b2', b3, b4]
    exact ⟨⟨1, by decide, by decide, rfl⟩, ⟨0, by decide, by decide, rfl⟩, rfl, rfl⟩
  · unfold pv
    rw [if_pos (by omega)]
    exact A_22 s s2 s1
  · unfold pv
    rw [if_pos (by omega)]
    exact A_j j (by omega)
  · unfold Told vv
    rw [rd 35 0 (by decide), rd 43 22 (by decide), rd 35 4 (by decide), rd 35 5 (by decide), a9, a10, a11, a12]
    exact ⟨rfl, Or.inl ⟨rfl, rfl, rfl⟩⟩
end
