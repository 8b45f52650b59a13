section
variable {p : Program} {l : Launch} {e : Env} {R : Room} {s : State} {m : MethodId} {args : Array Value} {below : List Frame} {meth : Method} {c : Code} {H : Heap} {locs : List Loc} {cells slots : Nat} {Q : State → Prop}
variable {cc : ByteArray} {pc nL : Nat} {ls : Array Slot} {rest : List Value} {D : va_G} {cA : Nat → ClassId} {A : Nat → Prop} {a : Nat} {h : Hp}
theorem gf_X11_289 (cx : CallFix p m c cc nL s args tbG RX11) (hB : hp_B D cA A s h H locs) (hka : h.1 a = 12) (hdg : decode cc pc = .ok (.getfield 289, 3)) (kk : W p l e R s m args below meth c H locs cells slots Q (F0 m (pc + 3) ls (.int (h.2.2.1 a 31) :: rest))) : W p l e R s m args below meth c H locs cells slots Q (F0 m pc ls (.ref a :: rest)) :=
  hp_getI cx hB (ci := 11) 31 rfl inX11 (by decide) rfl (by decide) rfl qw_763 hka hdg kk
end
abbrev yX11_planned : MethodName := ⟨"SpokenMenusModel", "planned", "(II)I"⟩
theorem dX11_planned_0 : decode prog_13_method_57_code 0 = .ok (.iload_n 1, 1) := by decide +kernel
theorem dX11_planned_1 : decode prog_13_method_57_code 1 = .ok (.iconst 1, 1) := by decide +kernel
theorem dX11_planned_2 : decode prog_13_method_57_code 2 = .ok (.sipush 255, 3) := by decide +kernel
theorem dX11_planned_5 : decode prog_13_method_57_code 5 = .ok (.invokestatic 129, 3) := by decide +kernel
theorem dX11_planned_8 : decode prog_13_method_57_code 8 = .ok (.ifCond .eq 7, 3) := by decide +kernel
theorem dX11_planned_11 : decode prog_13_method_57_code 11 = .ok (.iload_n 2, 1) := by decide +kernel
theorem dX11_planned_12 : decode prog_13_method_57_code 12 = .ok (.ifCond .ge 5, 3) := by decide +kernel
theorem dX11_planned_15 : decode prog_13_method_57_code 15 = .ok (.iconst (-1), 1) := by decide +kernel
theorem dX11_planned_16 : decode prog_13_method_57_code 16 = .ok (.ireturn, 1) := by decide +kernel
theorem dX11_planned_17 : decode prog_13_method_57_code 17 = .ok (.aload_n 0, 1) := by decide +kernel
theorem dX11_planned_18 : decode prog_13_method_57_code 18 = .ok (.getfield 289, 3) := by decide +kernel
theorem dX11_planned_21 : decode prog_13_method_57_code 21 = .ok (.ifCond .ne 6, 3) := by decide +kernel
theorem dX11_planned_24 : decode prog_13_method_57_code 24 = .ok (.bipush (-2), 2) := by decide +kernel
theorem dX11_planned_26 : decode prog_13_method_57_code 26 = .ok (.ireturn, 1) := by decide +kernel
theorem dX11_planned_27 : decode prog_13_method_57_code 27 = .ok (.iload_n 1, 1) := by decide +kernel
theorem dX11_planned_28 : decode prog_13_method_57_code 28 = .ok (.iconst 1, 1) := by decide +kernel
theorem dX11_planned_29 : decode prog_13_method_57_code 29 = .ok (.aload_n 0, 1) := by decide +kernel
theorem dX11_planned_30 : decode prog_13_method_57_code 30 = .ok (.getfield 289, 3) := by decide +kernel
theorem dX11_planned_33 : decode prog_13_method_57_code 33 = .ok (.ishl, 1) := by decide +kernel
theorem dX11_planned_34 : decode prog_13_method_57_code 34 = .ok (.if_icmp .lt 5, 3) := by decide +kernel
theorem dX11_planned_37 : decode prog_13_method_57_code 37 = .ok (.iconst (-1), 1) := by decide +kernel
theorem dX11_planned_38 : decode prog_13_method_57_code 38 = .ok (.ireturn, 1) := by decide +kernel
theorem dX11_planned_39 : decode prog_13_method_57_code 39 = .ok (.iload_n 1, 1) := by decide +kernel
theorem dX11_planned_40 : decode prog_13_method_57_code 40 = .ok (.invokestatic 276, 3) := by decide +kernel
theorem dX11_planned_43 : decode prog_13_method_57_code 43 = .ok (.ifCond .eq 14, 3) := by decide +kernel
theorem dX11_planned_46 : decode prog_13_method_57_code 46 = .ok (.aload_n 0, 1) := by decide +kernel
theorem dX11_planned_47 : decode prog_13_method_57_code 47 = .ok (.getfield 289, 3) := by decide +kernel
theorem dX11_planned_50 : decode prog_13_method_57_code 50 = .ok (.iconst 1, 1) := by decide +kernel
theorem dX11_planned_51 : decode prog_13_method_57_code 51 = .ok (.if_icmp .le 6, 3) := by decide +kernel
theorem dX11_planned_54 : decode prog_13_method_57_code 54 = .ok (.bipush (-4), 2) := by decide +kernel
theorem dX11_planned_56 : decode prog_13_method_57_code 56 = .ok (.ireturn, 1) := by decide +kernel
theorem dX11_planned_57 : decode prog_13_method_57_code 57 = .ok (.iload_n 1, 1) := by decide +kernel
theorem dX11_planned_58 : decode prog_13_method_57_code 58 = .ok (.istore_n 3, 1) := by decide +kernel
theorem dX11_planned_59 : decode prog_13_method_57_code 59 = .ok (.aload_n 0, 1) := by decide +kernel
theorem dX11_planned_60 : decode prog_13_method_57_code 60 = .ok (.getfield 286, 3) := by decide +kernel
theorem dX11_planned_63 : decode prog_13_method_57_code 63 = .ok (.istore 4, 2) := by decide +kernel
theorem dX11_planned_65 : decode prog_13_method_57_code 65 = .ok (.iconst 0, 1) := by decide +kernel
theorem dX11_planned_66 : decode prog_13_method_57_code 66 = .ok (.istore 5, 2) := by decide +kernel
theorem dX11_planned_68 : decode prog_13_method_57_code 68 = .ok (.iload_n 3, 1) := by decide +kernel
theorem dX11_planned_69 : decode prog_13_method_57_code 69 = .ok (.ifCond .le 107, 3) := by decide +kernel
theorem dX11_planned_72 : decode prog_13_method_57_code 72 = .ok (.iload 5, 2) := by decide +kernel
theorem dX11_planned_74 : decode prog_13_method_57_code 74 = .ok (.ifCond .ne 12, 3) := by decide +kernel
theorem dX11_planned_77 : decode prog_13_method_57_code 77 = .ok (.aload_n 0, 1) := by decide +kernel
theorem dX11_planned_78 : decode prog_13_method_57_code 78 = .ok (.getfield 116, 3) := by decide +kernel
theorem dX11_planned_81 : decode prog_13_method_57_code 81 = .ok (.iload_n 1, 1) := by decide +kernel
theorem dX11_planned_82 : decode prog_13_method_57_code 82 = .ok (.iaload, 1) := by decide +kernel
theorem dX11_planned_83 : decode prog_13_method_57_code 83 = .ok (.goto 16, 3) := by decide +kernel
theorem dX11_planned_86 : decode prog_13_method_57_code 86 = .ok (.aload_n 0, 1) := by decide +kernel
theorem dX11_planned_87 : decode prog_13_method_57_code 87 = .ok (.getfield 113, 3) := by decide +kernel
theorem dX11_planned_90 : decode prog_13_method_57_code 90 = .ok (.sipush 256, 3) := by decide +kernel
theorem dX11_planned_93 : decode prog_13_method_57_code 93 = .ok (.iload 4, 2) := by decide +kernel
theorem dX11_planned_95 : decode prog_13_method_57_code 95 = .ok (.imul, 1) := by decide +kernel
theorem dX11_planned_96 : decode prog_13_method_57_code 96 = .ok (.iload_n 3, 1) := by decide +kernel
theorem dX11_planned_97 : decode prog_13_method_57_code 97 = .ok (.iadd, 1) := by decide +kernel
theorem dX11_planned_98 : decode prog_13_method_57_code 98 = .ok (.iaload, 1) := by decide +kernel
theorem dX11_planned_99 : decode prog_13_method_57_code 99 = .ok (.istore 6, 2) := by decide +kernel
theorem dX11_planned_101 : decode prog_13_method_57_code 101 = .ok (.iconst 1, 1) := by decide +kernel
theorem dX11_planned_102 : decode prog_13_method_57_code 102 = .ok (.istore 7, 2) := by decide +kernel
theorem dX11_planned_104 : decode prog_13_method_57_code 104 = .ok (.iload 7, 2) := by decide +kernel
theorem dX11_planned_106 : decode prog_13_method_57_code 106 = .ok (.iload_n 3, 1) := by decide +kernel
theorem dX11_planned_107 : decode prog_13_method_57_code 107 = .ok (.iconst (-1), 1) := by decide +kernel
theorem dX11_planned_108 : decode prog_13_method_57_code 108 = .ok (.ixor, 1) := by decide +kernel
theorem dX11_planned_109 : decode prog_13_method_57_code 109 = .ok (.iand, 1) := by decide +kernel
theorem dX11_planned_110 : decode prog_13_method_57_code 110 = .ok (.ifCond .ne 37, 3) := by decide +kernel
theorem dX11_planned_113 : decode prog_13_method_57_code 113 = .ok (.iload 5, 2) := by decide +kernel
theorem dX11_planned_115 : decode prog_13_method_57_code 115 = .ok (.ifCond .ne 16, 3) := by decide +kernel
theorem dX11_planned_118 : decode prog_13_method_57_code 118 = .ok (.iload 7, 2) := by decide +kernel
theorem dX11_planned_120 : decode prog_13_method_57_code 120 = .ok (.iload_n 3, 1) := by decide +kernel
theorem dX11_planned_121 : decode prog_13_method_57_code 121 = .ok (.if_icmp .ne 10, 3) := by decide +kernel
theorem dX11_planned_124 : decode prog_13_method_57_code 124 = .ok (.iload_n 3, 1) := by decide +kernel
theorem dX11_planned_125 : decode prog_13_method_57_code 125 = .ok (.invokestatic 276, 3) := by decide +kernel
theorem dX11_planned_128 : decode prog_13_method_57_code 128 = .ok (.ifCond .eq 19, 3) := by decide +kernel
theorem dX11_planned_131 : decode prog_13_method_57_code 131 = .ok (.aload_n 0, 1) := by decide +kernel
theorem dX11_planned_132 : decode prog_13_method_57_code 132 = .ok (.iload_n 3, 1) := by decide +kernel
theorem dX11_planned_133 : decode prog_13_method_57_code 133 = .ok (.iload 7, 2) := by decide +kernel
theorem dX11_planned_135 : decode prog_13_method_57_code 135 = .ok (.iload 4, 2) := by decide +kernel
theorem dX11_planned_137 : decode prog_13_method_57_code 137 = .ok (.iconst 1, 1) := by decide +kernel
theorem dX11_planned_138 : decode prog_13_method_57_code 138 = .ok (.isub, 1) := by decide +kernel
theorem dX11_planned_139 : decode prog_13_method_57_code 139 = .ok (.invokevirtual 282, 3) := by decide +kernel
theorem dX11_planned_142 : decode prog_13_method_57_code 142 = .ok (.iload 6, 2) := by decide +kernel
theorem dX11_planned_144 : decode prog_13_method_57_code 144 = .ok (.if_icmp .eq 9, 3) := by decide +kernel
theorem dX11_planned_147 : decode prog_13_method_57_code 147 = .ok (.iinc 7 1, 3) := by decide +kernel
theorem dX11_planned_150 : decode prog_13_method_57_code 150 = .ok (.goto (-46), 3) := by decide +kernel
theorem dX11_planned_153 : decode prog_13_method_57_code 153 = .ok (.iload 5, 2) := by decide +kernel
theorem dX11_planned_155 : decode prog_13_method_57_code 155 = .ok (.iload_n 2, 1) := by decide +kernel
theorem dX11_planned_156 : decode prog_13_method_57_code 156 = .ok (.if_icmp .ne 6, 3) := by decide +kernel
theorem dX11_planned_159 : decode prog_13_method_57_code 159 = .ok (.iload 7, 2) := by decide +kernel
theorem dX11_planned_161 : decode prog_13_method_57_code 161 = .ok (.ireturn, 1) := by decide +kernel
theorem dX11_planned_162 : decode prog_13_method_57_code 162 = .ok (.iload_n 3, 1) := by decide +kernel
theorem dX11_planned_163 : decode prog_13_method_57_code 163 = .ok (.iload 7, 2) := by decide +kernel
theorem dX11_planned_165 : decode prog_13_method_57_code 165 = .ok (.isub, 1) := by decide +kernel
theorem dX11_planned_166 : decode prog_13_method_57_code 166 = .ok (.istore_n 3, 1) := by decide +kernel
theorem dX11_planned_167 : decode prog_13_method_57_code 167 = .ok (.iinc 4 (-1), 3) := by decide +kernel
theorem dX11_planned_170 : decode prog_13_method_57_code 170 = .ok (.iinc 5 1, 3) := by decide +kernel
theorem dX11_planned_173 : decode prog_13_method_57_code 173 = .ok (.goto (-105), 3) := by decide +kernel
theorem dX11_planned_176 : decode prog_13_method_57_code 176 = .ok (.bipush (-4), 2) := by decide +kernel
theorem dX11_planned_178 : decode prog_13_method_57_code 178 = .ok (.ireturn, 1) := by decide +kernel
abbrev rmX11_planned : Room := { frames := 3, cells := 0, slots := 0, locals := 68 }
def fX11_planned_131 (rc68 : Nat → Int32 → Int32 → Int32 → Int32 → Int32 → Hp → Option (Int32 × Hp)) (rc104 : Nat → Int32 → Int32 → Int32 → Int32 → Int32 → Int32 → Int32 → Hp → Option (Int32 × Hp)) (t0 : Nat) (v1 : Int32) (v2 : Int32) (v3 : Int32) (v4 : Int32) (v5 : Int32) (v6 : Int32) (v7 : Int32) (h : Hp) : Option (Int32 × Hp) :=
  gk (h.1 t0) 12 <|
  b2 (fX11_lineCost t0 v3 v7 (v4 - 1) h) fun r4 g2 =>
  if r4 = v6 then
  (if v5 = v2 then
  (some (v7, g2))
  else
  (nm (v3 - v7) fun x8 =>
  nm (v4 + (-1)) fun x9 =>
  nm (v5 + 1) fun x10 =>
  rc68 t0 v1 v2 x8 x9 x10 g2))
  else
  (nm (v7 + 1) fun x11 =>
  rc104 t0 v1 v2 v3 v4 v5 v6 x11 g2)
def bX11_planned_104 (rc68 : Nat → Int32 → Int32 → Int32 → Int32 → Int32 → Hp → Option (Int32 × Hp)) (rc : Nat → Int32 → Int32 → Int32 → Int32 → Int32 → Int32 → Int32 → Hp → Option (Int32 × Hp)) (t0 : Nat) (v1 : Int32) (v2 : Int32) (v3 : Int32) (v4 : Int32) (v5 : Int32) (v6 : Int32) (v7 : Int32) (h : Hp) : Option (Int32 × Hp) :=
  if (v7 &&& (v3 ^^^ (-1))) = 0 then
  (if v5 = 0 then
  (if v7 = v3 then
  (b2 (fX11_isAlone v3 h) fun r7 g5 =>
  if r7 = 0 then
  (nm (v7 + 1) fun x10 =>
  rc t0 v1 v2 v3 v4 v5 v6 x10 g5)
  else
  (fX11_planned_131 rc68 rc t0 v1 v2 v3 v4 v5 v6 v7 g5))
  else
  (fX11_planned_131 rc68 rc t0 v1 v2 v3 v4 v5 v6 v7 h))
  else
  (fX11_planned_131 rc68 rc t0 v1 v2 v3 v4 v5 v6 v7 h))
  else
  (nm (v7 + 1) fun x2 =>
  rc t0 v1 v2 v3 v4 v5 v6 x2 h)
def fX11_planned_104 (rc68 : Nat → Int32 → Int32 → Int32 → Int32 → Int32 → Hp → Option (Int32 × Hp)) : Nat → Int32 → Int32 → Int32 → Int32 → Int32 → Int32 → Int32 → Hp → Option (Int32 × Hp) := fx (bX11_planned_104 rc68) (fun _ _ _ _ _ _ _ _ _ => none) NF
def bX11_planned_68  (rc : Nat → Int32 → Int32 → Int32 → Int32 → Int32 → Hp → Option (Int32 × Hp)) (t0 : Nat) (v1 : Int32) (v2 : Int32) (v3 : Int32) (v4 : Int32) (v5 : Int32) (h : Hp) : Option (Int32 × Hp) :=
  if v3 ≤ 0 then
  (some ((-4), h))
  else
  (if v5 = 0 then
  (gk (h.1 t0) 12 <|
  bd (h.2.2.2.1 t0 52) fun a10 =>
  gk (h.1 a10) 13 <|
  gd (ix v1 (h.2.1 a10)) <|
  nm (h.2.2.1 a10 (Int32.toNatClampNeg v1)) fun x14 =>
  fX11_planned_104 rc t0 v1 v2 v3 v4 v5 x14 1 h)
  else
  (gk (h.1 t0) 12 <|
  bd (h.2.2.2.1 t0 51) fun a4 =>
  gk (h.1 a4) 13 <|
  gd (ix ((256 * v4) + v3) (h.2.1 a4)) <|
  nm (h.2.2.1 a4 (Int32.toNatClampNeg ((256 * v4) + v3))) fun x8 =>
  fX11_planned_104 rc t0 v1 v2 v3 v4 v5 x8 1 h))
def fX11_planned_68  : Nat → Int32 → Int32 → Int32 → Int32 → Int32 → Hp → Option (Int32 × Hp) := fx (bX11_planned_68 ) (fun _ _ _ _ _ _ _ => none) NF
def fX11_planned  (t0 : Nat) (v1 : Int32) (v2 : Int32) (h : Hp) : Option (Int32 × Hp) :=
  b2 (fX11_in v1 1 255 h) fun r3 g1 =>
  if r3 = 0 then
  (some ((-1), g1))
  else
  (if 0 ≤ v2 then
  (gk (g1.1 t0) 12 <|
  if (g1.2.2.1 t0 31) = 0 then
  (some ((-2), g1))
  else
  (if v1 < (1 <<< ((g1.2.2.1 t0 31) &&& 31)) then
  (b2 (fX11_isAlone v1 g1) fun r12 g10 =>
  if r12 = 0 then
  (gk (g10.1 t0) 12 <|
  nm (g10.2.2.1 t0 54) fun x16 =>
  fX11_planned_68  t0 v1 v2 v1 x16 0 g10)
  else
  (gk (g10.1 t0) 12 <|
  if (g10.2.2.1 t0 31) ≤ 1 then
  (nm (g10.2.2.1 t0 54) fun x19 =>
  fX11_planned_68  t0 v1 v2 v1 x19 0 g10)
  else
  (some ((-4), g10))))
  else
  (some ((-1), g1))))
  else
  (some ((-1), g1)))
section
variable {p : Program} {l : Launch} {e : Env} {s : State} {m : MethodId} {args : Array Value} {below : List Frame} {meth : Method} {c : Code} {D : va_G} {cA : Nat → ClassId} {h0 h9 : Hp}
set_option maxHeartbeats 4000000 in
set_option maxRecDepth 100000 in
theorem tX11_planned_131 {rc68 : Nat → Int32 → Int32 → Int32 → Int32 → Int32 → Hp → Option (Int32 × Hp)} {rc104 : Nat → Int32 → Int32 → Int32 → Int32 → Int32 → Int32 → Int32 → Hp → Option (Int32 × Hp)} {r : Int32} (cx : CallFix p m c prog_13_method_57_code 8 s args tbG RX11) (hr : meth.sig.returnType = (Option.some FieldType.int)) (hlk : meth.locks = false) (hr68 : ∀ (t0 : Nat) (v1 : Int32) (v2 : Int32) (v3 : Int32) (v4 : Int32) (v5 : Int32) (h : Hp) (H : Heap) (locs : List Loc) (ls : Array Slot), hp_B D cA (hp_A h0) s h H locs → lv_has ls 8 [(0, .ref t0), (1, .int v1), (2, .int v2), (3, .int v3), (4, .int v4), (5, .int v5)] → rc68 t0 v1 v2 v3 v4 v5 h = some (r, h9) → W p l e rmX11_planned s m args below meth c H locs 0 0 (MQ below (hp_Qi D cA h0 h9 r) args s 0 0 (hp_A h0)) (F0 m 68 ls [])) (hr104 : ∀ (t0 : Nat) (v1 : Int32) (v2 : Int32) (v3 : Int32) (v4 : Int32) (v5 : Int32) (v6 : Int32) (v7 : Int32) (h : Hp) (H : Heap) (locs : List Loc) (ls : Array Slot), hp_B D cA (hp_A h0) s h H locs → lv_has ls 8 [(0, .ref t0), (1, .int v1), (2, .int v2), (3, .int v3), (4, .int v4), (5, .int v5), (6, .int v6), (7, .int v7)] → rc104 t0 v1 v2 v3 v4 v5 v6 v7 h = some (r, h9) → W p l e rmX11_planned s m args below meth c H locs 0 0 (MQ below (hp_Qi D cA h0 h9 r) args s 0 0 (hp_A h0)) (F0 m 104 ls [])) (t0 : Nat) (v1 : Int32) (v2 : Int32) (v3 : Int32) (v4 : Int32) (v5 : Int32) (v6 : Int32) (v7 : Int32) (h : Hp) (H : Heap) (locs : List Loc) (ls : Array Slot) (hB : hp_B D cA (hp_A h0) s h H locs) (hl : lv_has ls 8 [(0, .ref t0), (1, .int v1), (2, .int v2), (3, .int v3), (4, .int v4), (5, .int v5), (6, .int v6), (7, .int v7)]) (hf : fX11_planned_131 rc68 rc104 t0 v1 v2 v3 v4 v5 v6 v7 h = some (r, h9)) : W p l e rmX11_planned s m args below meth c H locs 0 0 (MQ below (hp_Qi D cA h0 h9 r) args s 0 0 (hp_A h0)) (F0 m 131 ls []) := by
  obtain ⟨hx, hb, -⟩ := id cx
  unfold fX11_planned_131 at hf
  refine lv_aload_n hx hb dX11_planned_131 rfl (lv_at hl 0 rfl) ?_
  refine lv_iload_n hx hb dX11_planned_132 rfl (lv_at hl 3 rfl) ?_
  refine lv_iload hx hb dX11_planned_133 (lv_at hl 7 rfl) ?_
  refine lv_iload hx hb dX11_planned_135 (lv_at hl 4 rfl) ?_
  refine lv_iconst (v := 1) hx hb dX11_planned_137 (by decide) ?_
  refine lv_isub hx hb dX11_planned_138 ?_
  obtain ⟨k1, hf⟩ := gk_ok hf
  obtain ⟨r4, g2, m3, hf⟩ := b2_ok hf
  refine hp_cI0 (cl_X11_282 cx hB (cX11_lineCost l D cA t0 v3 v7 (v4 - 1) h _ g2 m3) k1 ⟨Nat.le_of_ble_eq_true rfl, Nat.le_of_ble_eq_true rfl⟩ rfl hl.1 rfl (Nat.le_of_ble_eq_true rfl) ⟨Nat.le_of_ble_eq_true rfl, Nat.le_of_ble_eq_true rfl⟩ dX11_planned_139) rfl rfl hB (fun H locs hB => ?_)
  refine lv_iload hx hb dX11_planned_142 (lv_at hl 6 rfl) ?_
  refine lv_icmp_eq (tgt := 153) hx hb dX11_planned_144 (by decide) (fun c6 => ?_) (fun c6 => ?_)
  · replace hf := it_t c6 hf
    refine lv_iload hx hb dX11_planned_153 (lv_at hl 5 rfl) ?_
    refine lv_iload_n hx hb dX11_planned_155 rfl (lv_at hl 2 rfl) ?_
    refine lv_icmp_ne (tgt := 162) hx hb dX11_planned_156 (by decide) (fun c7 => ?_) (fun c7 => ?_)
    · replace hf := it_f c7 hf
      refine lv_iload_n hx hb dX11_planned_162 rfl (lv_at hl 3 rfl) ?_
      refine lv_iload hx hb dX11_planned_163 (lv_at hl 7 rfl) ?_
      refine lv_isub hx hb dX11_planned_165 ?_
      obtain ⟨x8, ex8, hf⟩ := nm_ok hf
      refine lv_ren ex8 ?_
      refine lv_istore_n (lv' := [(3, .int x8), (0, .ref t0), (1, .int v1), (2, .int v2), (4, .int v4), (5, .int v5), (6, .int v6), (7, .int v7)]) hx hb dX11_planned_166 rfl hl (by decide) rfl (fun ls hl => ?_)
      obtain ⟨x9, ex9, hf⟩ := nm_ok hf
      refine lv_iinc (v := x9) (lv' := [(4, .int x9), (3, .int x8), (0, .ref t0), (1, .int v1), (2, .int v2), (5, .int v5), (6, .int v6), (7, .int v7)]) hx hb dX11_planned_167 hl (k := 4) rfl (by rw [ex9]; rfl) (by decide) rfl (fun ls hl => ?_)
      obtain ⟨x10, ex10, hf⟩ := nm_ok hf
      refine lv_iinc (v := x10) (lv' := [(5, .int x10), (4, .int x9), (3, .int x8), (0, .ref t0), (1, .int v1), (2, .int v2), (6, .int v6), (7, .int v7)]) hx hb dX11_planned_170 hl (k := 5) rfl (by rw [ex10]; rfl) (by decide) rfl (fun ls hl => ?_)
      refine lv_goto (tgt := 68) hx hb dX11_planned_173 (by decide) ?_
      exact hr68 t0 v1 v2 x8 x9 x10 g2 _ _ _ hB (lv_sub hl [3, 4, 5, 2, 1, 0] rfl) hf
    · replace hf := it_t c7 hf
      refine lv_iload hx hb dX11_planned_159 (lv_at hl 7 rfl) ?_
      obtain ⟨rfl, rfl⟩ := rt_ok hf
      exact hp_iret cx hB hr hlk (Nat.le_of_ble_eq_true rfl) (Nat.le_of_ble_eq_true rfl) dX11_planned_161
  · replace hf := it_f c6 hf
    obtain ⟨x11, ex11, hf⟩ := nm_ok hf
    refine lv_iinc (v := x11) (lv' := [(7, .int x11), (0, .ref t0), (1, .int v1), (2, .int v2), (3, .int v3), (4, .int v4), (5, .int v5), (6, .int v6)]) hx hb dX11_planned_147 hl (k := 7) rfl (by rw [ex11]; rfl) (by decide) rfl (fun ls hl => ?_)
    refine lv_goto (tgt := 104) hx hb dX11_planned_150 (by decide) ?_
    exact hr104 t0 v1 v2 v3 v4 v5 v6 x11 g2 _ _ _ hB (lv_sub hl [1, 2, 3, 4, 5, 6, 7, 0] rfl) hf
set_option maxHeartbeats 4000000 in
set_option maxRecDepth 100000 in
theorem tX11_planned_104 {rc68 : Nat → Int32 → Int32 → Int32 → Int32 → Int32 → Hp → Option (Int32 × Hp)} {r : Int32} (cx : CallFix p m c prog_13_method_57_code 8 s args tbG RX11) (hr : meth.sig.returnType = (Option.some FieldType.int)) (hlk : meth.locks = false) (hr68 : ∀ (t0 : Nat) (v1 : Int32) (v2 : Int32) (v3 : Int32) (v4 : Int32) (v5 : Int32) (h : Hp) (H : Heap) (locs : List Loc) (ls : Array Slot), hp_B D cA (hp_A h0) s h H locs → lv_has ls 8 [(0, .ref t0), (1, .int v1), (2, .int v2), (3, .int v3), (4, .int v4), (5, .int v5)] → rc68 t0 v1 v2 v3 v4 v5 h = some (r, h9) → W p l e rmX11_planned s m args below meth c H locs 0 0 (MQ below (hp_Qi D cA h0 h9 r) args s 0 0 (hp_A h0)) (F0 m 68 ls [])) (n : Nat) : ∀ (t0 : Nat) (v1 : Int32) (v2 : Int32) (v3 : Int32) (v4 : Int32) (v5 : Int32) (v6 : Int32) (v7 : Int32) (h : Hp) (H : Heap) (locs : List Loc) (ls : Array Slot), hp_B D cA (hp_A h0) s h H locs → lv_has ls 8 [(0, .ref t0), (1, .int v1), (2, .int v2), (3, .int v3), (4, .int v4), (5, .int v5), (6, .int v6), (7, .int v7)] → fx (bX11_planned_104 rc68) (fun _ _ _ _ _ _ _ _ _ => none) n t0 v1 v2 v3 v4 v5 v6 v7 h = some (r, h9) → W p l e rmX11_planned s m args below meth c H locs 0 0 (MQ below (hp_Qi D cA h0 h9 r) args s 0 0 (hp_A h0)) (F0 m 104 ls []) := by
  obtain ⟨hx, hb, -⟩ := id cx
  induction n with
  | zero => intro t0 v1 v2 v3 v4 v5 v6 v7 h H locs ls hB hl hf; cases hf
  | succ n ih =>
    intro t0 v1 v2 v3 v4 v5 v6 v7 h H locs ls hB hl hf
    replace hf : bX11_planned_104 rc68 (fx (bX11_planned_104 rc68) (fun _ _ _ _ _ _ _ _ _ => none) n) t0 v1 v2 v3 v4 v5 v6 v7 h = some (r, h9) := hf
    unfold bX11_planned_104 at hf
    refine lv_iload hx hb dX11_planned_104 (lv_at hl 7 rfl) ?_
    refine lv_iload_n hx hb dX11_planned_106 rfl (lv_at hl 3 rfl) ?_
    refine lv_iconst (v := (-1)) hx hb dX11_planned_107 (by decide) ?_
    refine lv_ixor hx hb dX11_planned_108 ?_
    refine lv_iand hx hb dX11_planned_109 ?_
    refine lv_if_ne (tgt := 147) hx hb dX11_planned_110 (by decide) (fun c1 => ?_) (fun c1 => ?_)
    · replace hf := it_f c1 hf
      obtain ⟨x2, ex2, hf⟩ := nm_ok hf
      refine lv_iinc (v := x2) (lv' := [(7, .int x2), (0, .ref t0), (1, .int v1), (2, .int v2), (3, .int v3), (4, .int v4), (5, .int v5), (6, .int v6)]) hx hb dX11_planned_147 hl (k := 7) rfl (by rw [ex2]; rfl) (by decide) rfl (fun ls hl => ?_)
      refine lv_goto (tgt := 104) hx hb dX11_planned_150 (by decide) ?_
      exact ih t0 v1 v2 v3 v4 v5 v6 x2 h _ _ _ hB (lv_sub hl [1, 2, 3, 4, 5, 6, 7, 0] rfl) hf
    · replace hf := it_t c1 hf
      refine lv_iload hx hb dX11_planned_113 (lv_at hl 5 rfl) ?_
      refine lv_if_ne (tgt := 131) hx hb dX11_planned_115 (by decide) (fun c3 => ?_) (fun c3 => ?_)
      · replace hf := it_f c3 hf
        exact tX11_planned_131 cx hr hlk hr68 ih t0 v1 v2 v3 v4 v5 v6 v7 h _ _ _ hB (lv_sub hl [0, 1, 2, 3, 4, 5, 6, 7] rfl) hf
      · replace hf := it_t c3 hf
        refine lv_iload hx hb dX11_planned_118 (lv_at hl 7 rfl) ?_
        refine lv_iload_n hx hb dX11_planned_120 rfl (lv_at hl 3 rfl) ?_
        refine lv_icmp_ne (tgt := 131) hx hb dX11_planned_121 (by decide) (fun c4 => ?_) (fun c4 => ?_)
        · replace hf := it_f c4 hf
          exact tX11_planned_131 cx hr hlk hr68 ih t0 v1 v2 v3 v4 v5 v6 v7 h _ _ _ hB (lv_sub hl [0, 1, 2, 3, 4, 5, 6, 7] rfl) hf
        · replace hf := it_t c4 hf
          refine lv_iload_n hx hb dX11_planned_124 rfl (lv_at hl 3 rfl) ?_
          obtain ⟨r7, g5, m6, hf⟩ := b2_ok hf
          refine hp_cI0 (cl_X11_276 cx hB (cX11_isAlone l D cA v3 h _ g5 m6) ⟨Nat.le_of_ble_eq_true rfl, Nat.le_of_ble_eq_true rfl⟩ rfl hl.1 rfl (Nat.le_of_ble_eq_true rfl) ⟨Nat.le_of_ble_eq_true rfl, Nat.le_of_ble_eq_true rfl⟩ dX11_planned_125) rfl rfl hB (fun H locs hB => ?_)
          refine lv_if_eq (tgt := 147) hx hb dX11_planned_128 (by decide) (fun c9 => ?_) (fun c9 => ?_)
          · replace hf := it_t c9 hf
            obtain ⟨x10, ex10, hf⟩ := nm_ok hf
            refine lv_iinc (v := x10) (lv' := [(7, .int x10), (0, .ref t0), (1, .int v1), (2, .int v2), (3, .int v3), (4, .int v4), (5, .int v5), (6, .int v6)]) hx hb dX11_planned_147 hl (k := 7) rfl (by rw [ex10]; rfl) (by decide) rfl (fun ls hl => ?_)
            refine lv_goto (tgt := 104) hx hb dX11_planned_150 (by decide) ?_
            exact ih t0 v1 v2 v3 v4 v5 v6 x10 g5 _ _ _ hB (lv_sub hl [1, 2, 3, 4, 5, 6, 7, 0] rfl) hf
          · replace hf := it_f c9 hf
            exact tX11_planned_131 cx hr hlk hr68 ih t0 v1 v2 v3 v4 v5 v6 v7 g5 _ _ _ hB (lv_sub hl [0, 1, 2, 3, 4, 5, 6, 7] rfl) hf
set_option maxHeartbeats 4000000 in
set_option maxRecDepth 100000 in
theorem tX11_planned_68  {r : Int32} (cx : CallFix p m c prog_13_method_57_code 8 s args tbG RX11) (hr : meth.sig.returnType = (Option.some FieldType.int)) (hlk : meth.locks = false)  (n : Nat) : ∀ (t0 : Nat) (v1 : Int32) (v2 : Int32) (v3 : Int32) (v4 : Int32) (v5 : Int32) (h : Hp) (H : Heap) (locs : List Loc) (ls : Array Slot), hp_B D cA (hp_A h0) s h H locs → lv_has ls 8 [(0, .ref t0), (1, .int v1), (2, .int v2), (3, .int v3), (4, .int v4), (5, .int v5)] → fx (bX11_planned_68 ) (fun _ _ _ _ _ _ _ => none) n t0 v1 v2 v3 v4 v5 h = some (r, h9) → W p l e rmX11_planned s m args below meth c H locs 0 0 (MQ below (hp_Qi D cA h0 h9 r) args s 0 0 (hp_A h0)) (F0 m 68 ls []) := by
  obtain ⟨hx, hb, -⟩ := id cx
  induction n with
  | zero => intro t0 v1 v2 v3 v4 v5 h H locs ls hB hl hf; cases hf
  | succ n ih =>
    intro t0 v1 v2 v3 v4 v5 h H locs ls hB hl hf
    replace hf : bX11_planned_68  (fx (bX11_planned_68 ) (fun _ _ _ _ _ _ _ => none) n) t0 v1 v2 v3 v4 v5 h = some (r, h9) := hf
    unfold bX11_planned_68 at hf
    refine lv_iload_n hx hb dX11_planned_68 rfl (lv_at hl 3 rfl) ?_
    refine lv_if_le (tgt := 176) hx hb dX11_planned_69 (by decide) (fun c1 => ?_) (fun c1 => ?_)
    · replace hf := it_t c1 hf
      refine lv_bipush (v := (-4)) hx hb dX11_planned_176 (by decide) ?_
      obtain ⟨rfl, rfl⟩ := rt_ok hf
      exact hp_iret cx hB hr hlk (Nat.le_of_ble_eq_true rfl) (Nat.le_of_ble_eq_true rfl) dX11_planned_178
    · replace hf := it_f c1 hf
      refine lv_iload hx hb dX11_planned_72 (lv_at hl 5 rfl) ?_
      refine lv_if_ne (tgt := 86) hx hb dX11_planned_74 (by decide) (fun c2 => ?_) (fun c2 => ?_)
      · replace hf := it_f c2 hf
        refine lv_aload_n hx hb dX11_planned_86 rfl (lv_at hl 0 rfl) ?_
        obtain ⟨k3, hf⟩ := gk_ok hf
        obtain ⟨a4, q5, hf⟩ := bd_ok hf
        refine gf_X11_113 cx hB k3 q5 dX11_planned_87 ?_
        refine lv_sipush (v := 256) hx hb dX11_planned_90 (by decide) ?_
        refine lv_iload hx hb dX11_planned_93 (lv_at hl 4 rfl) ?_
        refine lv_imul hx hb dX11_planned_95 ?_
        refine lv_iload_n hx hb dX11_planned_96 rfl (lv_at hl 3 rfl) ?_
        refine lv_iadd hx hb dX11_planned_97 ?_
        obtain ⟨k6, hf⟩ := gk_ok hf
        obtain ⟨j7, hf⟩ := gd_ok hf
        refine hp_iald cx hB k6 j7 dX11_planned_98 ?_
        obtain ⟨x8, ex8, hf⟩ := nm_ok hf
        refine lv_ren ex8 ?_
        refine lv_istore (lv' := [(6, .int x8), (0, .ref t0), (1, .int v1), (2, .int v2), (3, .int v3), (4, .int v4), (5, .int v5)]) hx hb dX11_planned_99 hl (by decide) rfl (fun ls hl => ?_)
        refine lv_iconst (v := 1) hx hb dX11_planned_101 (by decide) ?_
        refine lv_istore (lv' := [(7, .int 1), (6, .int x8), (0, .ref t0), (1, .int v1), (2, .int v2), (3, .int v3), (4, .int v4), (5, .int v5)]) hx hb dX11_planned_102 hl (by decide) rfl (fun ls hl => ?_)
        exact tX11_planned_104 cx hr hlk ih NF t0 v1 v2 v3 v4 v5 x8 1 h _ _ _ hB (lv_sub hl [2, 3, 4, 5, 6, 7, 1, 0] rfl) hf
      · replace hf := it_t c2 hf
        refine lv_aload_n hx hb dX11_planned_77 rfl (lv_at hl 0 rfl) ?_
        obtain ⟨k9, hf⟩ := gk_ok hf
        obtain ⟨a10, q11, hf⟩ := bd_ok hf
        refine gf_X11_116 cx hB k9 q11 dX11_planned_78 ?_
        refine lv_iload_n hx hb dX11_planned_81 rfl (lv_at hl 1 rfl) ?_
        obtain ⟨k12, hf⟩ := gk_ok hf
        obtain ⟨j13, hf⟩ := gd_ok hf
        refine hp_iald cx hB k12 j13 dX11_planned_82 ?_
        refine lv_goto (tgt := 99) hx hb dX11_planned_83 (by decide) ?_
        obtain ⟨x14, ex14, hf⟩ := nm_ok hf
        refine lv_ren ex14 ?_
        refine lv_istore (lv' := [(6, .int x14), (0, .ref t0), (1, .int v1), (2, .int v2), (3, .int v3), (4, .int v4), (5, .int v5)]) hx hb dX11_planned_99 hl (by decide) rfl (fun ls hl => ?_)
        refine lv_iconst (v := 1) hx hb dX11_planned_101 (by decide) ?_
        refine lv_istore (lv' := [(7, .int 1), (6, .int x14), (0, .ref t0), (1, .int v1), (2, .int v2), (3, .int v3), (4, .int v4), (5, .int v5)]) hx hb dX11_planned_102 hl (by decide) rfl (fun ls hl => ?_)
        exact tX11_planned_104 cx hr hlk ih NF t0 v1 v2 v3 v4 v5 x14 1 h _ _ _ hB (lv_sub hl [2, 3, 4, 5, 6, 7, 1, 0] rfl) hf
set_option maxHeartbeats 4000000 in
set_option maxRecDepth 100000 in
theorem tX11_planned_0  {r : Int32} (cx : CallFix p m c prog_13_method_57_code 8 s args tbG RX11) (hr : meth.sig.returnType = (Option.some FieldType.int)) (hlk : meth.locks = false)  (t0 : Nat) (v1 : Int32) (v2 : Int32) (h : Hp) (H : Heap) (locs : List Loc) (ls : Array Slot) (hB : hp_B D cA (hp_A h0) s h H locs) (hl : lv_has ls 8 [(0, .ref t0), (1, .int v1), (2, .int v2)]) (hf : fX11_planned  t0 v1 v2 h = some (r, h9)) : W p l e rmX11_planned s m args below meth c H locs 0 0 (MQ below (hp_Qi D cA h0 h9 r) args s 0 0 (hp_A h0)) (F0 m 0 ls []) := by
  obtain ⟨hx, hb, -⟩ := id cx
  unfold fX11_planned at hf
  refine lv_iload_n hx hb dX11_planned_0 rfl (lv_at hl 1 rfl) ?_
  refine lv_iconst (v := 1) hx hb dX11_planned_1 (by decide) ?_
  refine lv_sipush (v := 255) hx hb dX11_planned_2 (by decide) ?_
  obtain ⟨r3, g1, m2, hf⟩ := b2_ok hf
  refine hp_cI0 (cl_X11_129 cx hB (cX11_in l D cA v1 1 255 h _ g1 m2) ⟨Nat.le_of_ble_eq_true rfl, Nat.le_of_ble_eq_true rfl⟩ rfl hl.1 rfl (Nat.le_of_ble_eq_true rfl) ⟨Nat.le_of_ble_eq_true rfl, Nat.le_of_ble_eq_true rfl⟩ dX11_planned_5) rfl rfl hB (fun H locs hB => ?_)
  refine lv_if_eq (tgt := 15) hx hb dX11_planned_8 (by decide) (fun c5 => ?_) (fun c5 => ?_)
  · replace hf := it_t c5 hf
    refine lv_iconst (v := (-1)) hx hb dX11_planned_15 (by decide) ?_
    obtain ⟨rfl, rfl⟩ := rt_ok hf
    exact hp_iret cx hB hr hlk (Nat.le_of_ble_eq_true rfl) (Nat.le_of_ble_eq_true rfl) dX11_planned_16
  · replace hf := it_f c5 hf
    refine lv_iload_n hx hb dX11_planned_11 rfl (lv_at hl 2 rfl) ?_
    refine lv_if_ge (tgt := 17) hx hb dX11_planned_12 (by decide) (fun c6 => ?_) (fun c6 => ?_)
    · replace hf := it_t c6 hf
      refine lv_aload_n hx hb dX11_planned_17 rfl (lv_at hl 0 rfl) ?_
      obtain ⟨k7, hf⟩ := gk_ok hf
      refine gf_X11_289 cx hB k7 dX11_planned_18 ?_
      refine lv_if_ne (tgt := 27) hx hb dX11_planned_21 (by decide) (fun c8 => ?_) (fun c8 => ?_)
      · replace hf := it_f c8 hf
        refine lv_iload_n hx hb dX11_planned_27 rfl (lv_at hl 1 rfl) ?_
        refine lv_iconst (v := 1) hx hb dX11_planned_28 (by decide) ?_
        refine lv_aload_n hx hb dX11_planned_29 rfl (lv_at hl 0 rfl) ?_
        refine gf_X11_289 cx hB k7 dX11_planned_30 ?_
        refine lv_ishl hx hb dX11_planned_33 ?_
        refine lv_icmp_lt (tgt := 39) hx hb dX11_planned_34 (by decide) (fun c9 => ?_) (fun c9 => ?_)
        · replace hf := it_t c9 hf
          refine lv_iload_n hx hb dX11_planned_39 rfl (lv_at hl 1 rfl) ?_
          obtain ⟨r12, g10, m11, hf⟩ := b2_ok hf
          refine hp_cI0 (cl_X11_276 cx hB (cX11_isAlone l D cA v1 g1 _ g10 m11) ⟨Nat.le_of_ble_eq_true rfl, Nat.le_of_ble_eq_true rfl⟩ rfl hl.1 rfl (Nat.le_of_ble_eq_true rfl) ⟨Nat.le_of_ble_eq_true rfl, Nat.le_of_ble_eq_true rfl⟩ dX11_planned_40) rfl rfl hB (fun H locs hB => ?_)
          refine lv_if_eq (tgt := 57) hx hb dX11_planned_43 (by decide) (fun c14 => ?_) (fun c14 => ?_)
          · replace hf := it_t c14 hf
            refine lv_iload_n hx hb dX11_planned_57 rfl (lv_at hl 1 rfl) ?_
            refine lv_istore_n (lv' := [(3, .int v1), (0, .ref t0), (1, .int v1), (2, .int v2)]) hx hb dX11_planned_58 rfl hl (by decide) rfl (fun ls hl => ?_)
            refine lv_aload_n hx hb dX11_planned_59 rfl (lv_at hl 1 rfl) ?_
            obtain ⟨k15, hf⟩ := gk_ok hf
            refine gf_X11_286 cx hB k15 dX11_planned_60 ?_
            obtain ⟨x16, ex16, hf⟩ := nm_ok hf
            refine lv_ren ex16 ?_
            refine lv_istore (lv' := [(4, .int x16), (3, .int v1), (0, .ref t0), (1, .int v1), (2, .int v2)]) hx hb dX11_planned_63 hl (by decide) rfl (fun ls hl => ?_)
            refine lv_iconst (v := 0) hx hb dX11_planned_65 (by decide) ?_
            refine lv_istore (lv' := [(5, .int 0), (4, .int x16), (3, .int v1), (0, .ref t0), (1, .int v1), (2, .int v2)]) hx hb dX11_planned_66 hl (by decide) rfl (fun ls hl => ?_)
            exact tX11_planned_68 cx hr hlk  NF t0 v1 v2 v1 x16 0 g10 _ _ _ hB (lv_sub hl [3, 4, 5, 2, 1, 0] rfl) hf
          · replace hf := it_f c14 hf
            refine lv_aload_n hx hb dX11_planned_46 rfl (lv_at hl 0 rfl) ?_
            obtain ⟨k17, hf⟩ := gk_ok hf
            refine gf_X11_289 cx hB k17 dX11_planned_47 ?_
            refine lv_iconst (v := 1) hx hb dX11_planned_50 (by decide) ?_
            refine lv_icmp_le (tgt := 57) hx hb dX11_planned_51 (by decide) (fun c18 => ?_) (fun c18 => ?_)
            · replace hf := it_t c18 hf
              refine lv_iload_n hx hb dX11_planned_57 rfl (lv_at hl 1 rfl) ?_
              refine lv_istore_n (lv' := [(3, .int v1), (0, .ref t0), (1, .int v1), (2, .int v2)]) hx hb dX11_planned_58 rfl hl (by decide) rfl (fun ls hl => ?_)
              refine lv_aload_n hx hb dX11_planned_59 rfl (lv_at hl 1 rfl) ?_
              refine gf_X11_286 cx hB k17 dX11_planned_60 ?_
              obtain ⟨x19, ex19, hf⟩ := nm_ok hf
              refine lv_ren ex19 ?_
              refine lv_istore (lv' := [(4, .int x19), (3, .int v1), (0, .ref t0), (1, .int v1), (2, .int v2)]) hx hb dX11_planned_63 hl (by decide) rfl (fun ls hl => ?_)
              refine lv_iconst (v := 0) hx hb dX11_planned_65 (by decide) ?_
              refine lv_istore (lv' := [(5, .int 0), (4, .int x19), (3, .int v1), (0, .ref t0), (1, .int v1), (2, .int v2)]) hx hb dX11_planned_66 hl (by decide) rfl (fun ls hl => ?_)
              exact tX11_planned_68 cx hr hlk  NF t0 v1 v2 v1 x19 0 g10 _ _ _ hB (lv_sub hl [3, 4, 5, 2, 1, 0] rfl) hf
            · replace hf := it_f c18 hf
              refine lv_bipush (v := (-4)) hx hb dX11_planned_54 (by decide) ?_
              obtain ⟨rfl, rfl⟩ := rt_ok hf
              exact hp_iret cx hB hr hlk (Nat.le_of_ble_eq_true rfl) (Nat.le_of_ble_eq_true rfl) dX11_planned_56
        · replace hf := it_f c9 hf
          refine lv_iconst (v := (-1)) hx hb dX11_planned_37 (by decide) ?_
          obtain ⟨rfl, rfl⟩ := rt_ok hf
          exact hp_iret cx hB hr hlk (Nat.le_of_ble_eq_true rfl) (Nat.le_of_ble_eq_true rfl) dX11_planned_38
      · replace hf := it_t c8 hf
        refine lv_bipush (v := (-2)) hx hb dX11_planned_24 (by decide) ?_
        obtain ⟨rfl, rfl⟩ := rt_ok hf
        exact hp_iret cx hB hr hlk (Nat.le_of_ble_eq_true rfl) (Nat.le_of_ble_eq_true rfl) dX11_planned_26
    · replace hf := it_f c6 hf
      refine lv_iconst (v := (-1)) hx hb dX11_planned_15 (by decide) ?_
      obtain ⟨rfl, rfl⟩ := rt_ok hf
      exact hp_iret cx hB hr hlk (Nat.le_of_ble_eq_true rfl) (Nat.le_of_ble_eq_true rfl) dX11_planned_16
end
set_option maxHeartbeats 4000000 in
set_option maxRecDepth 100000 in
theorem cX11_planned (l : Launch) (D : va_G) (cA : Nat → ClassId) (t0 : Nat) (v1 : Int32) (v2 : Int32) (h : Hp) (r : Int32) (h9 : Hp) (hf : fX11_planned t0 v1 v2 h = some (r, h9)) : hp_M l yX11_planned prog_13_method_57_code 8 (Option.some FieldType.int) rmX11_planned D cA h [.ref t0, .int v1, .int v2] (hp_Qi D cA h h9 r) := by
  refine Met.ofW (cc := prog_13_method_57_code) (maxL := 8) (ret := (Option.some FieldType.int)) (by decide) rfl ?_
  intro p e s m args below meth c s₁ B hml hv
  obtain ⟨rfl, hU⟩ := hv
  have hts := atoms_spec (ws := Cond.code yX11_planned prog_13_method_57_code 8 (Option.some FieldType.int) :: tbG) B.pre
  have hl := lv_entry ([.ref t0, .int v1, .int v2]) (n := 8) (Nat.le_of_ble_eq_true rfl)
  rw [lg_entry_eq]
  generalize (lg_sl ([.ref t0, .int v1, .int v2]) ++ List.replicate (8 - (lg_sl ([.ref t0, .int v1, .int v2])).length) Slot.unset).toArray = ls at hl ⊢
  exact tX11_planned_0 ⟨B.exec, B.bytes, hml, findClass_of_methodNamed B.named, fun w hw => hts w (List.mem_cons_of_mem _ hw)⟩ B.returns B.notSynchronized t0 v1 v2 h _ _ _ (hp_B.entry hU) hl hf
abbrev yX11_count : MethodName := ⟨"SpokenMenusModel", "count", "(I)I"⟩
theorem dX11_count_0 : decode prog_13_method_58_code 0 = .ok (.iconst 0, 1) := by decide +kernel
theorem dX11_count_1 : decode prog_13_method_58_code 1 = .ok (.istore_n 2, 1) := by decide +kernel
theorem dX11_count_2 : decode prog_13_method_58_code 2 = .ok (.iconst 0, 1) := by decide +kernel
theorem dX11_count_3 : decode prog_13_method_58_code 3 = .ok (.istore_n 3, 1) := by decide +kernel
theorem dX11_count_4 : decode prog_13_method_58_code 4 = .ok (.iload_n 3, 1) := by decide +kernel
theorem dX11_count_5 : decode prog_13_method_58_code 5 = .ok (.aload_n 0, 1) := by decide +kernel
theorem dX11_count_6 : decode prog_13_method_58_code 6 = .ok (.getfield 264, 3) := by decide +kernel
theorem dX11_count_9 : decode prog_13_method_58_code 9 = .ok (.if_icmp .ge 18, 3) := by decide +kernel
theorem dX11_count_12 : decode prog_13_method_58_code 12 = .ok (.iload_n 2, 1) := by decide +kernel
theorem dX11_count_13 : decode prog_13_method_58_code 13 = .ok (.aload_n 0, 1) := by decide +kernel
theorem dX11_count_14 : decode prog_13_method_58_code 14 = .ok (.getfield 52, 3) := by decide +kernel
theorem dX11_count_17 : decode prog_13_method_58_code 17 = .ok (.iload_n 3, 1) := by decide +kernel
theorem dX11_count_18 : decode prog_13_method_58_code 18 = .ok (.iaload, 1) := by decide +kernel
theorem dX11_count_19 : decode prog_13_method_58_code 19 = .ok (.iadd, 1) := by decide +kernel
theorem dX11_count_20 : decode prog_13_method_58_code 20 = .ok (.istore_n 2, 1) := by decide +kernel
theorem dX11_count_21 : decode prog_13_method_58_code 21 = .ok (.iinc 3 1, 3) := by decide +kernel
theorem dX11_count_24 : decode prog_13_method_58_code 24 = .ok (.goto (-20), 3) := by decide +kernel
theorem dX11_count_27 : decode prog_13_method_58_code 27 = .ok (.iload_n 1, 1) := by decide +kernel
theorem dX11_count_28 : decode prog_13_method_58_code 28 = .ok (.ifCond .ne 10, 3) := by decide +kernel
theorem dX11_count_31 : decode prog_13_method_58_code 31 = .ok (.aload_n 0, 1) := by decide +kernel
theorem dX11_count_32 : decode prog_13_method_58_code 32 = .ok (.getfield 125, 3) := by decide +kernel
theorem dX11_count_35 : decode prog_13_method_58_code 35 = .ok (.goto 25, 3) := by decide +kernel
theorem dX11_count_38 : decode prog_13_method_58_code 38 = .ok (.iload_n 1, 1) := by decide +kernel
theorem dX11_count_39 : decode prog_13_method_58_code 39 = .ok (.iconst 1, 1) := by decide +kernel
theorem dX11_count_40 : decode prog_13_method_58_code 40 = .ok (.if_icmp .ne 10, 3) := by decide +kernel
theorem dX11_count_43 : decode prog_13_method_58_code 43 = .ok (.aload_n 0, 1) := by decide +kernel
theorem dX11_count_44 : decode prog_13_method_58_code 44 = .ok (.getfield 264, 3) := by decide +kernel
theorem dX11_count_47 : decode prog_13_method_58_code 47 = .ok (.goto 13, 3) := by decide +kernel
theorem dX11_count_50 : decode prog_13_method_58_code 50 = .ok (.iload_n 1, 1) := by decide +kernel
theorem dX11_count_51 : decode prog_13_method_58_code 51 = .ok (.iconst 2, 1) := by decide +kernel
theorem dX11_count_52 : decode prog_13_method_58_code 52 = .ok (.if_icmp .ne 7, 3) := by decide +kernel
theorem dX11_count_55 : decode prog_13_method_58_code 55 = .ok (.iload_n 2, 1) := by decide +kernel
theorem dX11_count_56 : decode prog_13_method_58_code 56 = .ok (.goto 4, 3) := by decide +kernel
theorem dX11_count_59 : decode prog_13_method_58_code 59 = .ok (.iconst (-1), 1) := by decide +kernel
theorem dX11_count_60 : decode prog_13_method_58_code 60 = .ok (.ireturn, 1) := by decide +kernel
abbrev rmX11_count : Room := { frames := 0, cells := 0, slots := 0, locals := 0 }
def bX11_count_4  (rc : Nat → Int32 → Int32 → Int32 → Hp → Option (Int32 × Hp)) (t0 : Nat) (v1 : Int32) (v2 : Int32) (v3 : Int32) (h : Hp) : Option (Int32 × Hp) :=
  gk (h.1 t0) 12 <|
  if (h.2.2.1 t0 15) ≤ v3 then
  (if v1 = 0 then
  (some (h.2.2.1 t0 0, h))
  else
  (if v1 = 1 then
  (some (h.2.2.1 t0 15, h))
  else
  (if v1 = 2 then
  (some (v2, h))
  else
  (some ((-1), h)))))
  else
  (bd (h.2.2.2.1 t0 16) fun a6 =>
  gk (h.1 a6) 13 <|
  gd (ix v3 (h.2.1 a6)) <|
  nm (v2 + (h.2.2.1 a6 (Int32.toNatClampNeg v3))) fun x10 =>
  nm (v3 + 1) fun x11 =>
  rc t0 v1 x10 x11 h)
def fX11_count_4  : Nat → Int32 → Int32 → Int32 → Hp → Option (Int32 × Hp) := fx (bX11_count_4 ) (fun _ _ _ _ _ => none) NF
def fX11_count  (t0 : Nat) (v1 : Int32) (h : Hp) : Option (Int32 × Hp) :=
  fX11_count_4  t0 v1 0 0 h
section
variable {p : Program} {l : Launch} {e : Env} {s : State} {m : MethodId} {args : Array Value} {below : List Frame} {meth : Method} {c : Code} {D : va_G} {cA : Nat → ClassId} {h0 h9 : Hp}
set_option maxHeartbeats 4000000 in
set_option maxRecDepth 100000 in
theorem tX11_count_4  {r : Int32} (cx : CallFix p m c prog_13_method_58_code 4 s args tbG RX11) (hr : meth.sig.returnType = (Option.some FieldType.int)) (hlk : meth.locks = false)  (n : Nat) : ∀ (t0 : Nat) (v1 : Int32) (v2 : Int32) (v3 : Int32) (h : Hp) (H : Heap) (locs : List Loc) (ls : Array Slot), hp_B D cA (hp_A h0) s h H locs → lv_has ls 4 [(0, .ref t0), (1, .int v1), (2, .int v2), (3, .int v3)] → fx (bX11_count_4 ) (fun _ _ _ _ _ => none) n t0 v1 v2 v3 h = some (r, h9) → W p l e rmX11_count s m args below meth c H locs 0 0 (MQ below (hp_Qi D cA h0 h9 r) args s 0 0 (hp_A h0)) (F0 m 4 ls []) := by
  obtain ⟨hx, hb, -⟩ := id cx
  induction n with
  | zero => intro t0 v1 v2 v3 h H locs ls hB hl hf; cases hf
  | succ n ih =>
    intro t0 v1 v2 v3 h H locs ls hB hl hf
    replace hf : bX11_count_4  (fx (bX11_count_4 ) (fun _ _ _ _ _ => none) n) t0 v1 v2 v3 h = some (r, h9) := hf
    unfold bX11_count_4 at hf
    refine lv_iload_n hx hb dX11_count_4 rfl (lv_at hl 3 rfl) ?_
    refine lv_aload_n hx hb dX11_count_5 rfl (lv_at hl 0 rfl) ?_
    obtain ⟨k1, hf⟩ := gk_ok hf
    refine gf_X11_264 cx hB k1 dX11_count_6 ?_
    refine lv_icmp_ge (tgt := 27) hx hb dX11_count_9 (by decide) (fun c2 => ?_) (fun c2 => ?_)
    · replace hf := it_t c2 hf
      refine lv_iload_n hx hb dX11_count_27 rfl (lv_at hl 1 rfl) ?_
      refine lv_if_ne (tgt := 38) hx hb dX11_count_28 (by decide) (fun c3 => ?_) (fun c3 => ?_)
      · replace hf := it_f c3 hf
        refine lv_iload_n hx hb dX11_count_38 rfl (lv_at hl 1 rfl) ?_
        refine lv_iconst (v := 1) hx hb dX11_count_39 (by decide) ?_
        refine lv_icmp_ne (tgt := 50) hx hb dX11_count_40 (by decide) (fun c4 => ?_) (fun c4 => ?_)
        · replace hf := it_f c4 hf
          refine lv_iload_n hx hb dX11_count_50 rfl (lv_at hl 1 rfl) ?_
          refine lv_iconst (v := 2) hx hb dX11_count_51 (by decide) ?_
          refine lv_icmp_ne (tgt := 59) hx hb dX11_count_52 (by decide) (fun c5 => ?_) (fun c5 => ?_)
          · replace hf := it_f c5 hf
            refine lv_iconst (v := (-1)) hx hb dX11_count_59 (by decide) ?_
            obtain ⟨rfl, rfl⟩ := rt_ok hf
            exact hp_iret cx hB hr hlk (Nat.le_of_ble_eq_true rfl) (Nat.le_of_ble_eq_true rfl) dX11_count_60
          · replace hf := it_t c5 hf
            refine lv_iload_n hx hb dX11_count_55 rfl (lv_at hl 2 rfl) ?_
            refine lv_goto (tgt := 60) hx hb dX11_count_56 (by decide) ?_
            obtain ⟨rfl, rfl⟩ := rt_ok hf
            exact hp_iret cx hB hr hlk (Nat.le_of_ble_eq_true rfl) (Nat.le_of_ble_eq_true rfl) dX11_count_60
        · replace hf := it_t c4 hf
          refine lv_aload_n hx hb dX11_count_43 rfl (lv_at hl 0 rfl) ?_
          refine gf_X11_264 cx hB k1 dX11_count_44 ?_
          refine lv_goto (tgt := 60) hx hb dX11_count_47 (by decide) ?_
          obtain ⟨rfl, rfl⟩ := rt_ok hf
          exact hp_iret cx hB hr hlk (Nat.le_of_ble_eq_true rfl) (Nat.le_of_ble_eq_true rfl) dX11_count_60
      · replace hf := it_t c3 hf
        refine lv_aload_n hx hb dX11_count_31 rfl (lv_at hl 0 rfl) ?_
        refine gf_X11_125 cx hB k1 dX11_count_32 ?_
        refine lv_goto (tgt := 60) hx hb dX11_count_35 (by decide) ?_
        obtain ⟨rfl, rfl⟩ := rt_ok hf
        exact hp_iret cx hB hr hlk (Nat.le_of_ble_eq_true rfl) (Nat.le_of_ble_eq_true rfl) dX11_count_60
    · replace hf := it_f c2 hf
      refine lv_iload_n hx hb dX11_count_12 rfl (lv_at hl 2 rfl) ?_
      refine lv_aload_n hx hb dX11_count_13 rfl (lv_at hl 0 rfl) ?_
      obtain ⟨a6, q7, hf⟩ := bd_ok hf
      refine gf_X11_52 cx hB k1 q7 dX11_count_14 ?_
      refine lv_iload_n hx hb dX11_count_17 rfl (lv_at hl 3 rfl) ?_
      obtain ⟨k8, hf⟩ := gk_ok hf
      obtain ⟨j9, hf⟩ := gd_ok hf
      refine hp_iald cx hB k8 j9 dX11_count_18 ?_
      refine lv_iadd hx hb dX11_count_19 ?_
      obtain ⟨x10, ex10, hf⟩ := nm_ok hf
      refine lv_ren ex10 ?_
      refine lv_istore_n (lv' := [(2, .int x10), (0, .ref t0), (1, .int v1), (3, .int v3)]) hx hb dX11_count_20 rfl hl (by decide) rfl (fun ls hl => ?_)
      obtain ⟨x11, ex11, hf⟩ := nm_ok hf
      refine lv_iinc (v := x11) (lv' := [(3, .int x11), (2, .int x10), (0, .ref t0), (1, .int v1)]) hx hb dX11_count_21 hl (k := 3) rfl (by rw [ex11]; rfl) (by decide) rfl (fun ls hl => ?_)
      refine lv_goto (tgt := 4) hx hb dX11_count_24 (by decide) ?_
      exact ih t0 v1 x10 x11 h _ _ _ hB (lv_sub hl [2, 3, 1, 0] rfl) hf
set_option maxHeartbeats 4000000 in
set_option maxRecDepth 100000 in
theorem tX11_count_0  {r : Int32} (cx : CallFix p m c prog_13_method_58_code 4 s args tbG RX11) (hr : meth.sig.returnType = (Option.some FieldType.int)) (hlk : meth.locks = false)  (t0 : Nat) (v1 : Int32) (h : Hp) (H : Heap) (locs : List Loc) (ls : Array Slot) (hB : hp_B D cA (hp_A h0) s h H locs) (hl : lv_has ls 4 [(0, .ref t0), (1, .int v1)]) (hf : fX11_count  t0 v1 h = some (r, h9)) : W p l e rmX11_count s m args below meth c H locs 0 0 (MQ below (hp_Qi D cA h0 h9 r) args s 0 0 (hp_A h0)) (F0 m 0 ls []) := by
  obtain ⟨hx, hb, -⟩ := id cx
  unfold fX11_count at hf
  refine lv_iconst (v := 0) hx hb dX11_count_0 (by decide) ?_
  refine lv_istore_n (lv' := [(2, .int 0), (0, .ref t0), (1, .int v1)]) hx hb dX11_count_1 rfl hl (by decide) rfl (fun ls hl => ?_)
  refine lv_iconst (v := 0) hx hb dX11_count_2 (by decide) ?_
  refine lv_istore_n (lv' := [(3, .int 0), (2, .int 0), (0, .ref t0), (1, .int v1)]) hx hb dX11_count_3 rfl hl (by decide) rfl (fun ls hl => ?_)
  exact tX11_count_4 cx hr hlk  NF t0 v1 0 0 h _ _ _ hB (lv_sub hl [2, 3, 1, 0] rfl) hf
end
set_option maxHeartbeats 4000000 in
set_option maxRecDepth 100000 in
theorem cX11_count (l : Launch) (D : va_G) (cA : Nat → ClassId) (t0 : Nat) (v1 : Int32) (h : Hp) (r : Int32) (h9 : Hp) (hf : fX11_count t0 v1 h = some (r, h9)) : hp_M l yX11_count prog_13_method_58_code 4 (Option.some FieldType.int) rmX11_count D cA h [.ref t0, .int v1] (hp_Qi D cA h h9 r) := by
  refine Met.ofW (cc := prog_13_method_58_code) (maxL := 4) (ret := (Option.some FieldType.int)) (by decide) rfl ?_
  intro p e s m args below meth c s₁ B hml hv
  obtain ⟨rfl, hU⟩ := hv
  have hts := atoms_spec (ws := Cond.code yX11_count prog_13_method_58_code 4 (Option.some FieldType.int) :: tbG) B.pre
  have hl := lv_entry ([.ref t0, .int v1]) (n := 4) (Nat.le_of_ble_eq_true rfl)
  rw [lg_entry_eq]
  generalize (lg_sl ([.ref t0, .int v1]) ++ List.replicate (4 - (lg_sl ([.ref t0, .int v1])).length) Slot.unset).toArray = ls at hl ⊢
  exact tX11_count_0 ⟨B.exec, B.bytes, hml, findClass_of_methodNamed B.named, fun w hw => hts w (List.mem_cons_of_mem _ hw)⟩ B.returns B.notSynchronized t0 v1 h _ _ _ (hp_B.entry hU) hl hf
