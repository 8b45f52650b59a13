section
variable {p : Program} {l : Launch} {e : Env} {R : Room} {s : State} {m : MethodId} {args : Array Value} {below : List Frame} {meth : Method} {c : Code} {H : Heap} {locs : List Loc} {cells slots : Nat} {Q : State → Prop}
variable {cc : ByteArray} {pc nL : Nat} {ls : Array Slot} {rest : List Value} {D : va_G} {cA : Nat → ClassId} {A : Nat → Prop} {a : Nat} {h : Hp}
theorem gf_X9_52 (cx : CallFix p m c cc nL s args tbG RX9) (hB : hp_B D cA A s h H locs) (hka : h.1 a = 6) (hdg : decode cc pc = .ok (.getfield 52, 3)) (kk : W p l e R s m args below meth c H locs cells slots Q (F0 m (pc + 3) ls (.int (h.2.2.1 a 0) :: rest))) : W p l e R s m args below meth c H locs cells slots Q (F0 m pc ls (.ref a :: rest)) :=
  hp_getI cx hB (ci := 5) 0 rfl inX5 (by decide) rfl (by decide) rfl qw_248 hka hdg kk
theorem cl_X9_55 {As st0 : List Value} {b : Nat} {Qc : Array Value → State → Outcome → State → Prop} (cx : CallFix p m c cc nL s args tbG RX9) (hB : hp_B D cA A s h H locs) (hM : hp_M l yX9_leastAtMenu prog_11_method_6_code 4 (Option.some FieldType.int) rmX9_leastAtMenu D cA h (.ref b :: As) Qc) (hkb : h.1 b = 10) (hR : rmX9_leastAtMenu.frames + 1 ≤ R.frames ∧ 8 + (4 + 11) + rmX9_leastAtMenu.locals ≤ R.locals) (hn : As.length = 1) (hls : ls.size = nL) (hst : st0 = As.reverse ++ .ref b :: rest) (hW : (rest.map fun v => v.category).sum ≤ 8) (hf : cells + rmX9_leastAtMenu.cells ≤ R.cells ∧ slots + rmX9_leastAtMenu.slots ≤ R.slots) (hdg : decode cc pc = .ok (.invokevirtual 55, 3)) :
    va_Run p l e R s m args below meth c H locs cells slots rmX9_leastAtMenu.cells rmX9_leastAtMenu.slots (F0 m pc ls st0) rest (Qc (Value.ref b :: As).toArray) (hp_A h) :=
  hp_runV cx hB hM (ci := 9) rfl (by decide) hkb qw_464 qw_461 qw_463 qp_1 qw_3 (by decide +kernel) hR hn hls hst hW hf hdg
theorem gf_X9_59 (cx : CallFix p m c cc nL s args tbG RX9) (hB : hp_B D cA A s h H locs) (hka : h.1 a = 1) (hdg : decode cc pc = .ok (.getfield 59, 3)) (kk : W p l e R s m args below meth c H locs cells slots Q (F0 m (pc + 3) ls (.int (h.2.2.1 a 0) :: rest))) : W p l e R s m args below meth c H locs cells slots Q (F0 m pc ls (.ref a :: rest)) :=
  hp_getI cx hB (ci := 0) 0 rfl inX0 (by decide) rfl (by decide) rfl qw_422 hka hdg kk
theorem cl_X9_64 {As st0 : List Value} {b : Nat} {Qc : Array Value → State → Outcome → State → Prop} (cx : CallFix p m c cc nL s args tbG RX9) (hB : hp_B D cA A s h H locs) (hM : hp_M l yX5_serves prog_7_method_7_code 2 (Option.some FieldType.boolean) rmX5_serves D cA h (.ref b :: As) Qc) (hkb : h.1 b = 6) (hR : rmX5_serves.frames + 1 ≤ R.frames ∧ 8 + (2 + 11) + rmX5_serves.locals ≤ R.locals) (hn : As.length = 1) (hls : ls.size = nL) (hst : st0 = As.reverse ++ .ref b :: rest) (hW : (rest.map fun v => v.category).sum ≤ 8) (hf : cells + rmX5_serves.cells ≤ R.cells ∧ slots + rmX5_serves.slots ≤ R.slots) (hdg : decode cc pc = .ok (.invokevirtual 64, 3)) :
    va_Run p l e R s m args below meth c H locs cells slots rmX5_serves.cells rmX5_serves.slots (F0 m pc ls st0) rest (Qc (Value.ref b :: As).toArray) (hp_A h) :=
  hp_runV cx hB hM (ci := 5) rfl (by decide) hkb qw_483 qw_480 qw_481 qw_482 qw_11 (by decide +kernel) hR hn hls hst hW hf hdg
theorem gf_X9_68 (cx : CallFix p m c cc nL s args tbG RX9) (hB : hp_B D cA A s h H locs) (hka : h.1 a = 6) (hdg : decode cc pc = .ok (.getfield 68, 3)) (kk : W p l e R s m args below meth c H locs cells slots Q (F0 m (pc + 3) ls (.int (h.2.2.1 a 1) :: rest))) : W p l e R s m args below meth c H locs cells slots Q (F0 m pc ls (.ref a :: rest)) :=
  hp_getI cx hB (ci := 5) 1 rfl inX5 (by decide) rfl (by decide) rfl qw_253 hka hdg kk
theorem gf_X9_71 (cx : CallFix p m c cc nL s args tbG RX9) (hB : hp_B D cA A s h H locs) (hka : h.1 a = 1) (hdg : decode cc pc = .ok (.getfield 71, 3)) (kk : W p l e R s m args below meth c H locs cells slots Q (F0 m (pc + 3) ls (.int (h.2.2.1 a 3) :: rest))) : W p l e R s m args below meth c H locs cells slots Q (F0 m pc ls (.ref a :: rest)) :=
  hp_getI cx hB (ci := 0) 3 rfl inX0 (by decide) rfl (by decide) rfl qw_431 hka hdg kk
theorem cl_X9_74 {As st0 : List Value} {b : Nat} {Qc : Array Value → State → Outcome → State → Prop} (cx : CallFix p m c cc nL s args tbG RX9) (hB : hp_B D cA A s h H locs) (hM : hp_M l yX5_nextAtHour prog_7_method_8_code 3 (Option.some FieldType.int) rmX5_nextAtHour D cA h (.ref b :: As) Qc) (hkb : h.1 b = 6) (hR : rmX5_nextAtHour.frames + 1 ≤ R.frames ∧ 8 + (3 + 11) + rmX5_nextAtHour.locals ≤ R.locals) (hn : As.length = 1) (hls : ls.size = nL) (hst : st0 = As.reverse ++ .ref b :: rest) (hW : (rest.map fun v => v.category).sum ≤ 8) (hf : cells + rmX5_nextAtHour.cells ≤ R.cells ∧ slots + rmX5_nextAtHour.slots ≤ R.slots) (hdg : decode cc pc = .ok (.invokevirtual 74, 3)) :
    va_Run p l e R s m args below meth c H locs cells slots rmX5_nextAtHour.cells rmX5_nextAtHour.slots (F0 m pc ls st0) rest (Qc (Value.ref b :: As).toArray) (hp_A h) :=
  hp_runV cx hB hM (ci := 5) rfl (by decide) hkb qw_487 qw_484 qw_485 qw_486 qw_11 (by decide +kernel) hR hn hls hst hW hf hdg
theorem gf_X9_77 (cx : CallFix p m c cc nL s args tbG RX9) (hB : hp_B D cA A s h H locs) (hka : h.1 a = 1) (hdg : decode cc pc = .ok (.getfield 77, 3)) (kk : W p l e R s m args below meth c H locs cells slots Q (F0 m (pc + 3) ls (.int (h.2.2.1 a 1) :: rest))) : W p l e R s m args below meth c H locs cells slots Q (F0 m pc ls (.ref a :: rest)) :=
  hp_getI cx hB (ci := 0) 1 rfl inX0 (by decide) rfl (by decide) rfl qw_426 hka hdg kk
theorem cl_X9_80 {As st0 : List Value} {b : Nat} {Qc : Array Value → State → Outcome → State → Prop} (cx : CallFix p m c cc nL s args tbG RX9) (hB : hp_B D cA A s h H locs) (hM : hp_M l yX5_ticksOfTries prog_7_method_11_code 4 (Option.some FieldType.int) rmX5_ticksOfTries D cA h (.ref b :: As) Qc) (hkb : h.1 b = 6) (hR : rmX5_ticksOfTries.frames + 1 ≤ R.frames ∧ 8 + (4 + 11) + rmX5_ticksOfTries.locals ≤ R.locals) (hn : As.length = 2) (hls : ls.size = nL) (hst : st0 = As.reverse ++ .ref b :: rest) (hW : (rest.map fun v => v.category).sum ≤ 8) (hf : cells + rmX5_ticksOfTries.cells ≤ R.cells ∧ slots + rmX5_ticksOfTries.slots ≤ R.slots) (hdg : decode cc pc = .ok (.invokevirtual 80, 3)) :
    va_Run p l e R s m args below meth c H locs cells slots rmX5_ticksOfTries.cells rmX5_ticksOfTries.slots (F0 m pc ls st0) rest (Qc (Value.ref b :: As).toArray) (hp_A h) :=
  hp_runV cx hB hM (ci := 5) rfl (by decide) hkb qw_491 qw_488 qw_489 qw_490 qw_11 (by decide +kernel) hR hn hls hst hW hf hdg
theorem cl_X9_84 {As st0 : List Value} {b : Nat} {Qc : Array Value → State → Outcome → State → Prop} (cx : CallFix p m c cc nL s args tbG RX9) (hB : hp_B D cA A s h H locs) (hM : hp_M l yX5_nextForNumber prog_7_method_10_code 2 (Option.some FieldType.int) rmX5_nextForNumber D cA h (.ref b :: As) Qc) (hkb : h.1 b = 6) (hR : rmX5_nextForNumber.frames + 1 ≤ R.frames ∧ 8 + (2 + 11) + rmX5_nextForNumber.locals ≤ R.locals) (hn : As.length = 1) (hls : ls.size = nL) (hst : st0 = As.reverse ++ .ref b :: rest) (hW : (rest.map fun v => v.category).sum ≤ 8) (hf : cells + rmX5_nextForNumber.cells ≤ R.cells ∧ slots + rmX5_nextForNumber.slots ≤ R.slots) (hdg : decode cc pc = .ok (.invokevirtual 84, 3)) :
    va_Run p l e R s m args below meth c H locs cells slots rmX5_nextForNumber.cells rmX5_nextForNumber.slots (F0 m pc ls st0) rest (Qc (Value.ref b :: As).toArray) (hp_A h) :=
  hp_runV cx hB hM (ci := 5) rfl (by decide) hkb qw_499 qw_496 qw_497 qw_498 qw_11 (by decide +kernel) hR hn hls hst hW hf hdg
end
abbrev yX9_leastAt : MethodName := ⟨"SpokenMenus$Ways", "leastAt", "(LSpokenMenus$Place;LSpokenMenus$Caller;)I"⟩
theorem dX9_leastAt_0 : decode prog_11_method_5_code 0 = .ok (.aload_n 1, 1) := by decide +kernel
theorem dX9_leastAt_1 : decode prog_11_method_5_code 1 = .ok (.getfield 52, 3) := by decide +kernel
theorem dX9_leastAt_4 : decode prog_11_method_5_code 4 = .ok (.tableswitch 104 0 3 #[32, 38, 59, 91], 32) := by decide +kernel
theorem dX9_leastAt_36 : decode prog_11_method_5_code 36 = .ok (.aload_n 0, 1) := by decide +kernel
theorem dX9_leastAt_37 : decode prog_11_method_5_code 37 = .ok (.aload_n 1, 1) := by decide +kernel
theorem dX9_leastAt_38 : decode prog_11_method_5_code 38 = .ok (.invokevirtual 55, 3) := by decide +kernel
theorem dX9_leastAt_41 : decode prog_11_method_5_code 41 = .ok (.ireturn, 1) := by decide +kernel
theorem dX9_leastAt_42 : decode prog_11_method_5_code 42 = .ok (.aload_n 1, 1) := by decide +kernel
theorem dX9_leastAt_43 : decode prog_11_method_5_code 43 = .ok (.aload_n 2, 1) := by decide +kernel
theorem dX9_leastAt_44 : decode prog_11_method_5_code 44 = .ok (.getfield 59, 3) := by decide +kernel
theorem dX9_leastAt_47 : decode prog_11_method_5_code 47 = .ok (.invokevirtual 64, 3) := by decide +kernel
theorem dX9_leastAt_50 : decode prog_11_method_5_code 50 = .ok (.ifCond .eq 10, 3) := by decide +kernel
theorem dX9_leastAt_53 : decode prog_11_method_5_code 53 = .ok (.aload_n 1, 1) := by decide +kernel
theorem dX9_leastAt_54 : decode prog_11_method_5_code 54 = .ok (.getfield 68, 3) := by decide +kernel
theorem dX9_leastAt_57 : decode prog_11_method_5_code 57 = .ok (.goto 5, 3) := by decide +kernel
theorem dX9_leastAt_60 : decode prog_11_method_5_code 60 = .ok (.ldc 15, 2) := by decide +kernel
theorem dX9_leastAt_62 : decode prog_11_method_5_code 62 = .ok (.ireturn, 1) := by decide +kernel
theorem dX9_leastAt_63 : decode prog_11_method_5_code 63 = .ok (.aload_n 1, 1) := by decide +kernel
theorem dX9_leastAt_64 : decode prog_11_method_5_code 64 = .ok (.aload_n 2, 1) := by decide +kernel
theorem dX9_leastAt_65 : decode prog_11_method_5_code 65 = .ok (.getfield 59, 3) := by decide +kernel
theorem dX9_leastAt_68 : decode prog_11_method_5_code 68 = .ok (.invokevirtual 64, 3) := by decide +kernel
theorem dX9_leastAt_71 : decode prog_11_method_5_code 71 = .ok (.ifCond .eq 10, 3) := by decide +kernel
theorem dX9_leastAt_74 : decode prog_11_method_5_code 74 = .ok (.aload_n 1, 1) := by decide +kernel
theorem dX9_leastAt_75 : decode prog_11_method_5_code 75 = .ok (.getfield 68, 3) := by decide +kernel
theorem dX9_leastAt_78 : decode prog_11_method_5_code 78 = .ok (.goto 16, 3) := by decide +kernel
theorem dX9_leastAt_81 : decode prog_11_method_5_code 81 = .ok (.aload_n 1, 1) := by decide +kernel
theorem dX9_leastAt_82 : decode prog_11_method_5_code 82 = .ok (.getfield 68, 3) := by decide +kernel
theorem dX9_leastAt_85 : decode prog_11_method_5_code 85 = .ok (.aload_n 0, 1) := by decide +kernel
theorem dX9_leastAt_86 : decode prog_11_method_5_code 86 = .ok (.aload_n 1, 1) := by decide +kernel
theorem dX9_leastAt_87 : decode prog_11_method_5_code 87 = .ok (.getfield 70, 3) := by decide +kernel
theorem dX9_leastAt_90 : decode prog_11_method_5_code 90 = .ok (.invokevirtual 36, 3) := by decide +kernel
theorem dX9_leastAt_93 : decode prog_11_method_5_code 93 = .ok (.iadd, 1) := by decide +kernel
theorem dX9_leastAt_94 : decode prog_11_method_5_code 94 = .ok (.ireturn, 1) := by decide +kernel
theorem dX9_leastAt_95 : decode prog_11_method_5_code 95 = .ok (.aload_n 0, 1) := by decide +kernel
theorem dX9_leastAt_96 : decode prog_11_method_5_code 96 = .ok (.aload_n 1, 1) := by decide +kernel
theorem dX9_leastAt_97 : decode prog_11_method_5_code 97 = .ok (.aload_n 2, 1) := by decide +kernel
theorem dX9_leastAt_98 : decode prog_11_method_5_code 98 = .ok (.getfield 71, 3) := by decide +kernel
theorem dX9_leastAt_101 : decode prog_11_method_5_code 101 = .ok (.invokevirtual 74, 3) := by decide +kernel
theorem dX9_leastAt_104 : decode prog_11_method_5_code 104 = .ok (.invokevirtual 36, 3) := by decide +kernel
theorem dX9_leastAt_107 : decode prog_11_method_5_code 107 = .ok (.ireturn, 1) := by decide +kernel
theorem dX9_leastAt_108 : decode prog_11_method_5_code 108 = .ok (.aload_n 1, 1) := by decide +kernel
theorem dX9_leastAt_109 : decode prog_11_method_5_code 109 = .ok (.aload_n 2, 1) := by decide +kernel
theorem dX9_leastAt_110 : decode prog_11_method_5_code 110 = .ok (.getfield 77, 3) := by decide +kernel
theorem dX9_leastAt_113 : decode prog_11_method_5_code 113 = .ok (.iconst 1, 1) := by decide +kernel
theorem dX9_leastAt_114 : decode prog_11_method_5_code 114 = .ok (.invokevirtual 80, 3) := by decide +kernel
theorem dX9_leastAt_117 : decode prog_11_method_5_code 117 = .ok (.aload_n 0, 1) := by decide +kernel
theorem dX9_leastAt_118 : decode prog_11_method_5_code 118 = .ok (.aload_n 1, 1) := by decide +kernel
theorem dX9_leastAt_119 : decode prog_11_method_5_code 119 = .ok (.aload_n 2, 1) := by decide +kernel
theorem dX9_leastAt_120 : decode prog_11_method_5_code 120 = .ok (.getfield 77, 3) := by decide +kernel
theorem dX9_leastAt_123 : decode prog_11_method_5_code 123 = .ok (.invokevirtual 84, 3) := by decide +kernel
theorem dX9_leastAt_126 : decode prog_11_method_5_code 126 = .ok (.invokevirtual 36, 3) := by decide +kernel
theorem dX9_leastAt_129 : decode prog_11_method_5_code 129 = .ok (.iadd, 1) := by decide +kernel
theorem dX9_leastAt_130 : decode prog_11_method_5_code 130 = .ok (.ireturn, 1) := by decide +kernel
abbrev rmX9_leastAt : Room := { frames := 3, cells := 0, slots := 0, locals := 66 }
def fX9_leastAt  (t0 : Nat) (w1 : Option Nat) (w2 : Option Nat) (h : Hp) : Option (Int32 × Hp) :=
  bd w1 fun a1 =>
  gk (h.1 a1) 6 <|
  nm (h.2.2.1 a1 0) fun x3 =>
  if x3 = 0 then
  (gk (h.1 t0) 10 <|
  b2 (fX9_leastAtMenu t0 (some a1) h) fun r8 g6 =>
  some (r8, g6))
  else
  if x3 = 1 then
  (bd w2 fun a11 =>
  gk (h.1 a11) 1 <|
  b2 (fX5_serves a1 (h.2.2.1 a11 0) h) fun r15 g13 =>
  if r15 = 0 then
  (some (1000000, g13))
  else
  (gk (g13.1 a1) 6 <|
  some (g13.2.2.1 a1 1, g13)))
  else
  if x3 = 2 then
  (bd w2 fun a20 =>
  gk (h.1 a20) 1 <|
  b2 (fX5_serves a1 (h.2.2.1 a20 0) h) fun r24 g22 =>
  if r24 = 0 then
  (gk (g22.1 a1) 6 <|
  gk (g22.1 t0) 10 <|
  b2 (fX9_ticksFrom t0 (g22.2.2.1 a1 3) g22) fun r31 g29 =>
  some ((g22.2.2.1 a1 1) + r31, g29))
  else
  (gk (g22.1 a1) 6 <|
  some (g22.2.2.1 a1 1, g22)))
  else
  if x3 = 3 then
  (bd w2 fun a35 =>
  gk (h.1 a35) 1 <|
  b2 (fX5_nextAtHour a1 (h.2.2.1 a35 3) h) fun r39 g37 =>
  gk (g37.1 t0) 10 <|
  b2 (fX9_ticksFrom t0 r39 g37) fun r44 g42 =>
  some (r44, g42))
  else
  (bd w2 fun a46 =>
  gk (h.1 a46) 1 <|
  b2 (fX5_ticksOfTries a1 (h.2.2.1 a46 1) 1 h) fun r50 g48 =>
  gk (g48.1 a46) 1 <|
  gk (g48.1 a1) 6 <|
  b2 (fX5_nextForNumber a1 (g48.2.2.1 a46 1) g48) fun r56 g54 =>
  gk (g54.1 t0) 10 <|
  b2 (fX9_ticksFrom t0 r56 g54) fun r61 g59 =>
  some (r50 + r61, g59))
section
variable {p : Program} {l : Launch} {e : Env} {s : State} {m : MethodId} {args : Array Value} {below : List Frame} {meth : Method} {c : Code} {D : va_G} {cA : Nat → ClassId} {h0 h9 : Hp}
set_option maxHeartbeats 4000000 in
set_option maxRecDepth 100000 in
theorem tX9_leastAt_0  {r : Int32} (cx : CallFix p m c prog_11_method_5_code 3 s args tbG RX9) (hr : meth.sig.returnType = (Option.some FieldType.int)) (hlk : meth.locks = false)  (t0 : Nat) (w1 : Option Nat) (w2 : Option Nat) (h : Hp) (H : Heap) (locs : List Loc) (ls : Array Slot) (hB : hp_B D cA (hp_A h0) s h H locs) (hl : lv_has ls 3 [(0, .ref t0), (1, va_rf w1), (2, va_rf w2)]) (hf : fX9_leastAt  t0 w1 w2 h = some (r, h9)) : W p l e rmX9_leastAt s m args below meth c H locs 0 0 (MQ below (hp_Qi D cA h0 h9 r) args s 0 0 (hp_A h0)) (F0 m 0 ls []) := by
  obtain ⟨hx, hb, -⟩ := id cx
  unfold fX9_leastAt at hf
  refine lq_aload_n hx hb dX9_leastAt_0 rfl (lv_at hl 1 rfl) ?_
  obtain ⟨a1, eo, hf⟩ := bd_ok hf
  subst eo
  obtain ⟨k2, hf⟩ := gk_ok hf
  refine gf_X9_52 cx hB k2 dX9_leastAt_1 ?_
  obtain ⟨x3, ex3, hf⟩ := nm_ok hf
  refine lv_ren ex3 ?_
  by_cases c4 : x3 = 0
  · replace hf := it_t c4 hf
    refine lv_tableIn (off := 32) (tgt := 36) hx hb dX9_leastAt_4 (by rw [c4]; decide) (by rw [c4]; decide) (by rw [c4]; rfl) (by decide) ?_
    refine lv_aload_n hx hb dX9_leastAt_36 rfl (lv_at hl 0 rfl) ?_
    refine lv_aload_n hx hb dX9_leastAt_37 rfl (lv_at hl 1 rfl) ?_
    obtain ⟨k5, hf⟩ := gk_ok hf
    obtain ⟨r8, g6, m7, hf⟩ := b2_ok hf
    refine hp_cI0 (cl_X9_55 cx hB (cX9_leastAtMenu l D cA t0 (some a1) h _ g6 m7) k5 ⟨Nat.le_of_ble_eq_true rfl, Nat.le_of_ble_eq_true rfl⟩ rfl hl.1 rfl (Nat.le_of_ble_eq_true rfl) ⟨Nat.le_of_ble_eq_true rfl, Nat.le_of_ble_eq_true rfl⟩ dX9_leastAt_38) rfl rfl hB (fun H locs hB => ?_)
    obtain ⟨rfl, rfl⟩ := rt_ok hf
    exact hp_iret cx hB hr hlk (Nat.le_of_ble_eq_true rfl) (Nat.le_of_ble_eq_true rfl) dX9_leastAt_41
  · replace hf := it_f c4 hf
    by_cases c10 : x3 = 1
    · replace hf := it_t c10 hf
      refine lv_tableIn (off := 38) (tgt := 42) hx hb dX9_leastAt_4 (by rw [c10]; decide) (by rw [c10]; decide) (by rw [c10]; rfl) (by decide) ?_
      refine lv_aload_n hx hb dX9_leastAt_42 rfl (lv_at hl 1 rfl) ?_
      refine lq_aload_n hx hb dX9_leastAt_43 rfl (lv_at hl 2 rfl) ?_
      obtain ⟨a11, eo, hf⟩ := bd_ok hf
      subst eo
      obtain ⟨k12, hf⟩ := gk_ok hf
      refine gf_X9_59 cx hB k12 dX9_leastAt_44 ?_
      obtain ⟨r15, g13, m14, hf⟩ := b2_ok hf
      refine hp_cI0 (cl_X9_64 cx hB (cX5_serves l D cA a1 (h.2.2.1 a11 0) h _ g13 m14) k2 ⟨Nat.le_of_ble_eq_true rfl, Nat.le_of_ble_eq_true rfl⟩ rfl hl.1 rfl (Nat.le_of_ble_eq_true rfl) ⟨Nat.le_of_ble_eq_true rfl, Nat.le_of_ble_eq_true rfl⟩ dX9_leastAt_47) rfl rfl hB (fun H locs hB => ?_)
      refine lv_if_eq (tgt := 60) hx hb dX9_leastAt_50 (by decide) (fun c17 => ?_) (fun c17 => ?_)
      · replace hf := it_t c17 hf
        refine lv_ldc (v := 1000000) hx hb cx.2.2.2.1 (cx.2.2.2.2 _ (tb_in qw_455 rfl)) dX9_leastAt_60 ?_
        obtain ⟨rfl, rfl⟩ := rt_ok hf
        exact hp_iret cx hB hr hlk (Nat.le_of_ble_eq_true rfl) (Nat.le_of_ble_eq_true rfl) dX9_leastAt_62
      · replace hf := it_f c17 hf
        refine lv_aload_n hx hb dX9_leastAt_53 rfl (lv_at hl 1 rfl) ?_
        obtain ⟨k18, hf⟩ := gk_ok hf
        refine gf_X9_68 cx hB k18 dX9_leastAt_54 ?_
        refine lv_goto (tgt := 62) hx hb dX9_leastAt_57 (by decide) ?_
        obtain ⟨rfl, rfl⟩ := rt_ok hf
        exact hp_iret cx hB hr hlk (Nat.le_of_ble_eq_true rfl) (Nat.le_of_ble_eq_true rfl) dX9_leastAt_62
    · replace hf := it_f c10 hf
      by_cases c19 : x3 = 2
      · replace hf := it_t c19 hf
        refine lv_tableIn (off := 59) (tgt := 63) hx hb dX9_leastAt_4 (by rw [c19]; decide) (by rw [c19]; decide) (by rw [c19]; rfl) (by decide) ?_
        refine lv_aload_n hx hb dX9_leastAt_63 rfl (lv_at hl 1 rfl) ?_
        refine lq_aload_n hx hb dX9_leastAt_64 rfl (lv_at hl 2 rfl) ?_
        obtain ⟨a20, eo, hf⟩ := bd_ok hf
        subst eo
        obtain ⟨k21, hf⟩ := gk_ok hf
        refine gf_X9_59 cx hB k21 dX9_leastAt_65 ?_
        obtain ⟨r24, g22, m23, hf⟩ := b2_ok hf
        refine hp_cI0 (cl_X9_64 cx hB (cX5_serves l D cA a1 (h.2.2.1 a20 0) h _ g22 m23) k2 ⟨Nat.le_of_ble_eq_true rfl, Nat.le_of_ble_eq_true rfl⟩ rfl hl.1 rfl (Nat.le_of_ble_eq_true rfl) ⟨Nat.le_of_ble_eq_true rfl, Nat.le_of_ble_eq_true rfl⟩ dX9_leastAt_68) rfl rfl hB (fun H locs hB => ?_)
        refine lv_if_eq (tgt := 81) hx hb dX9_leastAt_71 (by decide) (fun c26 => ?_) (fun c26 => ?_)
        · replace hf := it_t c26 hf
          refine lv_aload_n hx hb dX9_leastAt_81 rfl (lv_at hl 1 rfl) ?_
          obtain ⟨k27, hf⟩ := gk_ok hf
          refine gf_X9_68 cx hB k27 dX9_leastAt_82 ?_
          refine lv_aload_n hx hb dX9_leastAt_85 rfl (lv_at hl 0 rfl) ?_
          refine lv_aload_n hx hb dX9_leastAt_86 rfl (lv_at hl 1 rfl) ?_
          refine gf_X9_70 cx hB k27 dX9_leastAt_87 ?_
          obtain ⟨k28, hf⟩ := gk_ok hf
          obtain ⟨r31, g29, m30, hf⟩ := b2_ok hf
          refine hp_cI0 (cl_X9_36 cx hB (cX9_ticksFrom l D cA t0 (g22.2.2.1 a1 3) g22 _ g29 m30) k28 ⟨Nat.le_of_ble_eq_true rfl, Nat.le_of_ble_eq_true rfl⟩ rfl hl.1 rfl (Nat.le_of_ble_eq_true rfl) ⟨Nat.le_of_ble_eq_true rfl, Nat.le_of_ble_eq_true rfl⟩ dX9_leastAt_90) rfl rfl hB (fun H locs hB => ?_)
          refine lv_iadd hx hb dX9_leastAt_93 ?_
          obtain ⟨rfl, rfl⟩ := rt_ok hf
          exact hp_iret cx hB hr hlk (Nat.le_of_ble_eq_true rfl) (Nat.le_of_ble_eq_true rfl) dX9_leastAt_94
        · replace hf := it_f c26 hf
          refine lv_aload_n hx hb dX9_leastAt_74 rfl (lv_at hl 1 rfl) ?_
          obtain ⟨k33, hf⟩ := gk_ok hf
          refine gf_X9_68 cx hB k33 dX9_leastAt_75 ?_
          refine lv_goto (tgt := 94) hx hb dX9_leastAt_78 (by decide) ?_
          obtain ⟨rfl, rfl⟩ := rt_ok hf
          exact hp_iret cx hB hr hlk (Nat.le_of_ble_eq_true rfl) (Nat.le_of_ble_eq_true rfl) dX9_leastAt_94
      · replace hf := it_f c19 hf
        by_cases c34 : x3 = 3
        · replace hf := it_t c34 hf
          refine lv_tableIn (off := 91) (tgt := 95) hx hb dX9_leastAt_4 (by rw [c34]; decide) (by rw [c34]; decide) (by rw [c34]; rfl) (by decide) ?_
          refine lv_aload_n hx hb dX9_leastAt_95 rfl (lv_at hl 0 rfl) ?_
          refine lv_aload_n hx hb dX9_leastAt_96 rfl (lv_at hl 1 rfl) ?_
          refine lq_aload_n hx hb dX9_leastAt_97 rfl (lv_at hl 2 rfl) ?_
          obtain ⟨a35, eo, hf⟩ := bd_ok hf
          subst eo
          obtain ⟨k36, hf⟩ := gk_ok hf
          refine gf_X9_71 cx hB k36 dX9_leastAt_98 ?_
          obtain ⟨r39, g37, m38, hf⟩ := b2_ok hf
          refine hp_cI0 (cl_X9_74 cx hB (cX5_nextAtHour l D cA a1 (h.2.2.1 a35 3) h _ g37 m38) k2 ⟨Nat.le_of_ble_eq_true rfl, Nat.le_of_ble_eq_true rfl⟩ rfl hl.1 rfl (Nat.le_of_ble_eq_true rfl) ⟨Nat.le_of_ble_eq_true rfl, Nat.le_of_ble_eq_true rfl⟩ dX9_leastAt_101) rfl rfl hB (fun H locs hB => ?_)
          obtain ⟨k41, hf⟩ := gk_ok hf
          obtain ⟨r44, g42, m43, hf⟩ := b2_ok hf
          refine hp_cI0 (cl_X9_36 cx hB (cX9_ticksFrom l D cA t0 r39 g37 _ g42 m43) k41 ⟨Nat.le_of_ble_eq_true rfl, Nat.le_of_ble_eq_true rfl⟩ rfl hl.1 rfl (Nat.le_of_ble_eq_true rfl) ⟨Nat.le_of_ble_eq_true rfl, Nat.le_of_ble_eq_true rfl⟩ dX9_leastAt_104) rfl rfl hB (fun H locs hB => ?_)
          obtain ⟨rfl, rfl⟩ := rt_ok hf
          exact hp_iret cx hB hr hlk (Nat.le_of_ble_eq_true rfl) (Nat.le_of_ble_eq_true rfl) dX9_leastAt_107
        · replace hf := it_f c34 hf
          refine lv_tableOut (tgt := 108) hx hb dX9_leastAt_4 (by have nc4 := lv_neT c4 (a := 0) rfl; have nc10 := lv_neT c10 (a := 1) rfl; have nc19 := lv_neT c19 (a := 2) rfl; have nc34 := lv_neT c34 (a := 3) rfl; omega) (by decide) ?_
          refine lv_aload_n hx hb dX9_leastAt_108 rfl (lv_at hl 1 rfl) ?_
          refine lq_aload_n hx hb dX9_leastAt_109 rfl (lv_at hl 2 rfl) ?_
          obtain ⟨a46, eo, hf⟩ := bd_ok hf
          subst eo
          obtain ⟨k47, hf⟩ := gk_ok hf
          refine gf_X9_77 cx hB k47 dX9_leastAt_110 ?_
          refine lv_iconst (v := 1) hx hb dX9_leastAt_113 (by decide) ?_
          obtain ⟨r50, g48, m49, hf⟩ := b2_ok hf
          refine hp_cI0 (cl_X9_80 cx hB (cX5_ticksOfTries l D cA a1 (h.2.2.1 a46 1) 1 h _ g48 m49) k2 ⟨Nat.le_of_ble_eq_true rfl, Nat.le_of_ble_eq_true rfl⟩ rfl hl.1 rfl (Nat.le_of_ble_eq_true rfl) ⟨Nat.le_of_ble_eq_true rfl, Nat.le_of_ble_eq_true rfl⟩ dX9_leastAt_114) rfl rfl hB (fun H locs hB => ?_)
          refine lv_aload_n hx hb dX9_leastAt_117 rfl (lv_at hl 0 rfl) ?_
          refine lv_aload_n hx hb dX9_leastAt_118 rfl (lv_at hl 1 rfl) ?_
          refine lv_aload_n hx hb dX9_leastAt_119 rfl (lv_at hl 2 rfl) ?_
          obtain ⟨k52, hf⟩ := gk_ok hf
          refine gf_X9_77 cx hB k52 dX9_leastAt_120 ?_
          obtain ⟨k53, hf⟩ := gk_ok hf
          obtain ⟨r56, g54, m55, hf⟩ := b2_ok hf
          refine hp_cI0 (cl_X9_84 cx hB (cX5_nextForNumber l D cA a1 (g48.2.2.1 a46 1) g48 _ g54 m55) k53 ⟨Nat.le_of_ble_eq_true rfl, Nat.le_of_ble_eq_true rfl⟩ rfl hl.1 rfl (Nat.le_of_ble_eq_true rfl) ⟨Nat.le_of_ble_eq_true rfl, Nat.le_of_ble_eq_true rfl⟩ dX9_leastAt_123) rfl rfl hB (fun H locs hB => ?_)
          obtain ⟨k58, hf⟩ := gk_ok hf
          obtain ⟨r61, g59, m60, hf⟩ := b2_ok hf
          refine hp_cI0 (cl_X9_36 cx hB (cX9_ticksFrom l D cA t0 r56 g54 _ g59 m60) k58 ⟨Nat.le_of_ble_eq_true rfl, Nat.le_of_ble_eq_true rfl⟩ rfl hl.1 rfl (Nat.le_of_ble_eq_true rfl) ⟨Nat.le_of_ble_eq_true rfl, Nat.le_of_ble_eq_true rfl⟩ dX9_leastAt_126) rfl rfl hB (fun H locs hB => ?_)
          refine lv_iadd hx hb dX9_leastAt_129 ?_
          obtain ⟨rfl, rfl⟩ := rt_ok hf
          exact hp_iret cx hB hr hlk (Nat.le_of_ble_eq_true rfl) (Nat.le_of_ble_eq_true rfl) dX9_leastAt_130
end
set_option maxHeartbeats 4000000 in
set_option maxRecDepth 100000 in
theorem cX9_leastAt (l : Launch) (D : va_G) (cA : Nat → ClassId) (t0 : Nat) (w1 : Option Nat) (w2 : Option Nat) (h : Hp) (r : Int32) (h9 : Hp) (hf : fX9_leastAt t0 w1 w2 h = some (r, h9)) : hp_M l yX9_leastAt prog_11_method_5_code 3 (Option.some FieldType.int) rmX9_leastAt D cA h [.ref t0, va_rf w1, va_rf w2] (hp_Qi D cA h h9 r) := by
  refine Met.ofW (cc := prog_11_method_5_code) (maxL := 3) (ret := (Option.some FieldType.int)) (by decide) rfl ?_
  intro p e s m args below meth c s₁ B hml hv
  obtain ⟨rfl, hU⟩ := hv
  have hts := atoms_spec (ws := Cond.code yX9_leastAt prog_11_method_5_code 3 (Option.some FieldType.int) :: tbG) B.pre
  have hl := lv_entry ([.ref t0, va_rf w1, va_rf w2]) (n := 3) (by simp [lg_sl, va_rf_cat, cat_i, cat_r, cat_n])
  rw [show lv_args 0 ([.ref t0, va_rf w1, va_rf w2]) = [(0, .ref t0), (1, va_rf w1), (2, va_rf w2)] by simp [lv_args, va_rf_cat, cat_i, cat_r, cat_n]] at hl
  rw [lg_entry_eq]
  generalize (lg_sl ([.ref t0, va_rf w1, va_rf w2]) ++ List.replicate (3 - (lg_sl ([.ref t0, va_rf w1, va_rf w2])).length) Slot.unset).toArray = ls at hl ⊢
  exact tX9_leastAt_0 ⟨B.exec, B.bytes, hml, findClass_of_methodNamed B.named, fun w hw => hts w (List.mem_cons_of_mem _ hw)⟩ B.returns B.notSynchronized t0 w1 w2 h _ _ _ (hp_B.entry hU) hl hf
section
variable {p : Program} {l : Launch} {e : Env} {R : Room} {s : State} {m : MethodId} {args : Array Value} {below : List Frame} {meth : Method} {c : Code} {H : Heap} {locs : List Loc} {cells slots : Nat} {Q : State → Prop}
variable {cc : ByteArray} {pc nL : Nat} {ls : Array Slot} {rest : List Value} {D : va_G} {cA : Nat → ClassId} {A : Nat → Prop} {a : Nat} {h : Hp}
theorem cl_X9_16 {As st0 : List Value} {Qc : Array Value → State → Outcome → State → Prop} (cx : CallFix p m c cc nL s args tbG RX9) (hB : hp_B D cA A s h H locs) (hM : hp_M l yJ7_fill_53178 prog_16_method_103_code 4 none rmJ7_fill_53178 D cA h As Qc) (hR : rmJ7_fill_53178.frames + 1 ≤ R.frames ∧ 8 + (4 + 11) + rmJ7_fill_53178.locals ≤ R.locals) (hn : As.length = 2) (hls : ls.size = nL) (hst : st0 = As.reverse ++ rest) (hW : (rest.map fun v => v.category).sum ≤ 8) (hf : cells + rmJ7_fill_53178.cells ≤ R.cells ∧ slots + rmJ7_fill_53178.slots ≤ R.slots) (hdg : decode cc pc = .ok (.invokestatic 16, 3)) :
    va_Run p l e R s m args below meth c H locs cells slots rmJ7_fill_53178.cells rmJ7_fill_53178.slots (F0 m pc ls st0) rest (Qc As.toArray) (hp_A h) :=
  hp_runS cx hB hM qw_119 qw_456 qw_118 qw_8 (by decide +kernel) hR hn hls hst hW hf hdg
theorem gf_X9_22 (cx : CallFix p m c cc nL s args tbG RX9) (hB : hp_B D cA A s h H locs) (hka : h.1 a = 3) (hdg : decode cc pc = .ok (.getfield 22, 3)) (kk : W p l e R s m args below meth c H locs cells slots Q (F0 m (pc + 3) ls (.int (h.2.2.1 a 1) :: rest))) : W p l e R s m args below meth c H locs cells slots Q (F0 m pc ls (.ref a :: rest)) :=
  hp_getI cx hB (ci := 2) 1 rfl inX2 (by decide) rfl (by decide) rfl qw_36 hka hdg kk
theorem gf_X9_28 (cx : CallFix p m c cc nL s args tbG RX9) (hB : hp_B D cA A s h H locs) (hka : h.1 a = 3) {b : Nat} (ho : h.2.2.2.1 a 0 = some b) (hdg : decode cc pc = .ok (.getfield 28, 3)) (kk : W p l e R s m args below meth c H locs cells slots Q (F0 m (pc + 3) ls (.ref b :: rest))) : W p l e R s m args below meth c H locs cells slots Q (F0 m pc ls (.ref a :: rest)) :=
  hp_getR cx hB (ci := 2) 0 rfl inX2 (by decide) rfl (by decide) rfl qw_33 hka (o := some b) ho.symm hdg kk
theorem cl_X9_32 {As st0 : List Value} {b : Nat} {Qc : Array Value → State → Outcome → State → Prop} (cx : CallFix p m c cc nL s args tbG RX9) (hB : hp_B D cA A s h H locs) (hM : hp_M l yX9_leastAt prog_11_method_5_code 3 (Option.some FieldType.int) rmX9_leastAt D cA h (.ref b :: As) Qc) (hkb : h.1 b = 10) (hR : rmX9_leastAt.frames + 1 ≤ R.frames ∧ 8 + (3 + 11) + rmX9_leastAt.locals ≤ R.locals) (hn : As.length = 2) (hls : ls.size = nL) (hst : st0 = As.reverse ++ .ref b :: rest) (hW : (rest.map fun v => v.category).sum ≤ 8) (hf : cells + rmX9_leastAt.cells ≤ R.cells ∧ slots + rmX9_leastAt.slots ≤ R.slots) (hdg : decode cc pc = .ok (.invokevirtual 32, 3)) :
    va_Run p l e R s m args below meth c H locs cells slots rmX9_leastAt.cells rmX9_leastAt.slots (F0 m pc ls st0) rest (Qc (Value.ref b :: As).toArray) (hp_A h) :=
  hp_runV cx hB hM (ci := 9) rfl (by decide) hkb qw_460 qw_457 qw_459 qp_0 qw_3 (by decide +kernel) hR hn hls hst hW hf hdg
end
abbrev yX9_measure : MethodName := ⟨"SpokenMenus$Ways", "measure", "(LSpokenMenus$House;LSpokenMenus$Caller;)V"⟩
theorem dX9_measure_0 : decode prog_11_method_2_code 0 = .ok (.aload_n 0, 1) := by decide +kernel
theorem dX9_measure_1 : decode prog_11_method_2_code 1 = .ok (.getfield 9, 3) := by decide +kernel
theorem dX9_measure_4 : decode prog_11_method_2_code 4 = .ok (.ldc 15, 2) := by decide +kernel
theorem dX9_measure_6 : decode prog_11_method_2_code 6 = .ok (.invokestatic 16, 3) := by decide +kernel
theorem dX9_measure_9 : decode prog_11_method_2_code 9 = .ok (.iconst 1, 1) := by decide +kernel
theorem dX9_measure_10 : decode prog_11_method_2_code 10 = .ok (.istore_n 3, 1) := by decide +kernel
theorem dX9_measure_11 : decode prog_11_method_2_code 11 = .ok (.iconst 0, 1) := by decide +kernel
theorem dX9_measure_12 : decode prog_11_method_2_code 12 = .ok (.istore 4, 2) := by decide +kernel
theorem dX9_measure_14 : decode prog_11_method_2_code 14 = .ok (.iload 4, 2) := by decide +kernel
theorem dX9_measure_16 : decode prog_11_method_2_code 16 = .ok (.aload_n 1, 1) := by decide +kernel
theorem dX9_measure_17 : decode prog_11_method_2_code 17 = .ok (.getfield 22, 3) := by decide +kernel
theorem dX9_measure_20 : decode prog_11_method_2_code 20 = .ok (.if_icmp .ge 71, 3) := by decide +kernel
theorem dX9_measure_23 : decode prog_11_method_2_code 23 = .ok (.iload_n 3, 1) := by decide +kernel
theorem dX9_measure_24 : decode prog_11_method_2_code 24 = .ok (.ifCond .eq 67, 3) := by decide +kernel
theorem dX9_measure_27 : decode prog_11_method_2_code 27 = .ok (.iconst 0, 1) := by decide +kernel
theorem dX9_measure_28 : decode prog_11_method_2_code 28 = .ok (.istore_n 3, 1) := by decide +kernel
theorem dX9_measure_29 : decode prog_11_method_2_code 29 = .ok (.aload_n 1, 1) := by decide +kernel
theorem dX9_measure_30 : decode prog_11_method_2_code 30 = .ok (.getfield 22, 3) := by decide +kernel
theorem dX9_measure_33 : decode prog_11_method_2_code 33 = .ok (.iconst 1, 1) := by decide +kernel
theorem dX9_measure_34 : decode prog_11_method_2_code 34 = .ok (.isub, 1) := by decide +kernel
theorem dX9_measure_35 : decode prog_11_method_2_code 35 = .ok (.istore 5, 2) := by decide +kernel
theorem dX9_measure_37 : decode prog_11_method_2_code 37 = .ok (.iload 5, 2) := by decide +kernel
theorem dX9_measure_39 : decode prog_11_method_2_code 39 = .ok (.ifCond .lt 46, 3) := by decide +kernel
theorem dX9_measure_42 : decode prog_11_method_2_code 42 = .ok (.aload_n 0, 1) := by decide +kernel
theorem dX9_measure_43 : decode prog_11_method_2_code 43 = .ok (.aload_n 1, 1) := by decide +kernel
theorem dX9_measure_44 : decode prog_11_method_2_code 44 = .ok (.getfield 28, 3) := by decide +kernel
theorem dX9_measure_47 : decode prog_11_method_2_code 47 = .ok (.iload 5, 2) := by decide +kernel
theorem dX9_measure_49 : decode prog_11_method_2_code 49 = .ok (.aaload, 1) := by decide +kernel
theorem dX9_measure_50 : decode prog_11_method_2_code 50 = .ok (.aload_n 2, 1) := by decide +kernel
theorem dX9_measure_51 : decode prog_11_method_2_code 51 = .ok (.invokevirtual 32, 3) := by decide +kernel
theorem dX9_measure_54 : decode prog_11_method_2_code 54 = .ok (.istore 6, 2) := by decide +kernel
theorem dX9_measure_56 : decode prog_11_method_2_code 56 = .ok (.iload 6, 2) := by decide +kernel
theorem dX9_measure_58 : decode prog_11_method_2_code 58 = .ok (.aload_n 0, 1) := by decide +kernel
theorem dX9_measure_59 : decode prog_11_method_2_code 59 = .ok (.getfield 9, 3) := by decide +kernel
theorem dX9_measure_62 : decode prog_11_method_2_code 62 = .ok (.iload 5, 2) := by decide +kernel
theorem dX9_measure_64 : decode prog_11_method_2_code 64 = .ok (.iaload, 1) := by decide +kernel
theorem dX9_measure_65 : decode prog_11_method_2_code 65 = .ok (.if_icmp .ge 14, 3) := by decide +kernel
theorem dX9_measure_68 : decode prog_11_method_2_code 68 = .ok (.aload_n 0, 1) := by decide +kernel
theorem dX9_measure_69 : decode prog_11_method_2_code 69 = .ok (.getfield 9, 3) := by decide +kernel
theorem dX9_measure_72 : decode prog_11_method_2_code 72 = .ok (.iload 5, 2) := by decide +kernel
theorem dX9_measure_74 : decode prog_11_method_2_code 74 = .ok (.iload 6, 2) := by decide +kernel
theorem dX9_measure_76 : decode prog_11_method_2_code 76 = .ok (.iastore, 1) := by decide +kernel
theorem dX9_measure_77 : decode prog_11_method_2_code 77 = .ok (.iconst 1, 1) := by decide +kernel
theorem dX9_measure_78 : decode prog_11_method_2_code 78 = .ok (.istore_n 3, 1) := by decide +kernel
theorem dX9_measure_79 : decode prog_11_method_2_code 79 = .ok (.iinc 5 (-1), 3) := by decide +kernel
theorem dX9_measure_82 : decode prog_11_method_2_code 82 = .ok (.goto (-45), 3) := by decide +kernel
theorem dX9_measure_85 : decode prog_11_method_2_code 85 = .ok (.iinc 4 1, 3) := by decide +kernel
theorem dX9_measure_88 : decode prog_11_method_2_code 88 = .ok (.goto (-74), 3) := by decide +kernel
theorem dX9_measure_91 : decode prog_11_method_2_code 91 = .ok (.return_, 1) := by decide +kernel
abbrev rmX9_measure : Room := { frames := 4, cells := 0, slots := 0, locals := 88 }
def bX9_measure_37 (rc14 : Nat → Option Nat → Option Nat → Int32 → Int32 → Hp → Option (Unit × Hp)) (rc : Nat → Nat → Option Nat → Int32 → Int32 → Int32 → Hp → Option (Unit × Hp)) (t0 : Nat) (t1 : Nat) (w2 : Option Nat) (v3 : Int32) (v4 : Int32) (v5 : Int32) (h : Hp) : Option (Unit × Hp) :=
  if v5 < 0 then
  (nm (v4 + 1) fun x2 =>
  rc14 t0 (some t1) w2 v3 x2 h)
  else
  (gk (h.1 t1) 3 <|
  bd (h.2.2.2.1 t1 0) fun a4 =>
  gk (h.1 a4) 17 <|
  gd (ix v5 (h.2.1 a4)) <|
  bd (h.2.2.2.1 a4 (Int32.toNatClampNeg v5)) fun a8 =>
  gk (h.1 t0) 10 <|
  b2 (fX9_leastAt t0 (some a8) w2 h) fun r13 g11 =>
  gk (g11.1 t0) 10 <|
  bd (g11.2.2.2.1 t0 0) fun a16 =>
  gk (g11.1 a16) 13 <|
  gd (ix v5 (g11.2.1 a16)) <|
  if (g11.2.2.1 a16 (Int32.toNatClampNeg v5)) ≤ r13 then
  (nm (v5 + (-1)) fun x21 =>
  rc t0 t1 w2 v3 v4 x21 g11)
  else
  (gd (ix v5 (g11.2.1 a16)) <|
  nm (hp_si g11 a16 (Int32.toNatClampNeg v5) r13) fun g23 =>
  nm (v5 + (-1)) fun x24 =>
  rc t0 t1 w2 1 v4 x24 g23))
def fX9_measure_37 (rc14 : Nat → Option Nat → Option Nat → Int32 → Int32 → Hp → Option (Unit × Hp)) : Nat → Nat → Option Nat → Int32 → Int32 → Int32 → Hp → Option (Unit × Hp) := fx (bX9_measure_37 rc14) (fun _ _ _ _ _ _ _ => none) NF
def bX9_measure_14  (rc : Nat → Option Nat → Option Nat → Int32 → Int32 → Hp → Option (Unit × Hp)) (t0 : Nat) (w1 : Option Nat) (w2 : Option Nat) (v3 : Int32) (v4 : Int32) (h : Hp) : Option (Unit × Hp) :=
  bd w1 fun a1 =>
  gk (h.1 a1) 3 <|
  if (h.2.2.1 a1 1) ≤ v4 then
  (some ((), h))
  else
  (if v3 = 0 then
  (some ((), h))
  else
  (nm ((h.2.2.1 a1 1) - 1) fun x5 =>
  fX9_measure_37 rc t0 a1 w2 0 v4 x5 h))
def fX9_measure_14  : Nat → Option Nat → Option Nat → Int32 → Int32 → Hp → Option (Unit × Hp) := fx (bX9_measure_14 ) (fun _ _ _ _ _ _ => none) NF
def fX9_measure  (t0 : Nat) (w1 : Option Nat) (w2 : Option Nat) (h : Hp) : Option (Unit × Hp) :=
  gk (h.1 t0) 10 <|
  bd (h.2.2.2.1 t0 0) fun a2 =>
  b2 (fJ7_fill_53178 (some a2) 1000000 h) fun _ g4 =>
  fX9_measure_14  t0 w1 w2 1 0 g4
section
variable {p : Program} {l : Launch} {e : Env} {s : State} {m : MethodId} {args : Array Value} {below : List Frame} {meth : Method} {c : Code} {D : va_G} {cA : Nat → ClassId} {h0 h9 : Hp}
set_option maxHeartbeats 4000000 in
set_option maxRecDepth 100000 in
theorem tX9_measure_37 {rc14 : Nat → Option Nat → Option Nat → Int32 → Int32 → Hp → Option (Unit × Hp)} (cx : CallFix p m c prog_11_method_2_code 7 s args tbG RX9) (hr : meth.sig.returnType = none) (hlk : meth.locks = false) (hr14 : ∀ (t0 : Nat) (w1 : Option Nat) (w2 : Option Nat) (v3 : Int32) (v4 : Int32) (h : Hp) (H : Heap) (locs : List Loc) (ls : Array Slot), hp_B D cA (hp_A h0) s h H locs → lv_has ls 7 [(0, .ref t0), (1, va_rf w1), (2, va_rf w2), (3, .int v3), (4, .int v4)] → rc14 t0 w1 w2 v3 v4 h = some ((), h9) → W p l e rmX9_measure s m args below meth c H locs 0 0 (MQ below (hp_Qv D cA h0 h9) args s 0 0 (hp_A h0)) (F0 m 14 ls [])) (n : Nat) : ∀ (t0 : Nat) (t1 : Nat) (w2 : Option Nat) (v3 : Int32) (v4 : Int32) (v5 : Int32) (h : Hp) (H : Heap) (locs : List Loc) (ls : Array Slot), hp_B D cA (hp_A h0) s h H locs → lv_has ls 7 [(0, .ref t0), (1, .ref t1), (2, va_rf w2), (3, .int v3), (4, .int v4), (5, .int v5)] → fx (bX9_measure_37 rc14) (fun _ _ _ _ _ _ _ => none) n t0 t1 w2 v3 v4 v5 h = some ((), h9) → W p l e rmX9_measure s m args below meth c H locs 0 0 (MQ below (hp_Qv D cA h0 h9) args s 0 0 (hp_A h0)) (F0 m 37 ls []) := by
  obtain ⟨hx, hb, -⟩ := id cx
  induction n with
  | zero => intro t0 t1 w2 v3 v4 v5 h H locs ls hB hl hf; cases hf
  | succ n ih =>
    intro t0 t1 w2 v3 v4 v5 h H locs ls hB hl hf
    replace hf : bX9_measure_37 rc14 (fx (bX9_measure_37 rc14) (fun _ _ _ _ _ _ _ => none) n) t0 t1 w2 v3 v4 v5 h = some ((), h9) := hf
    unfold bX9_measure_37 at hf
    refine lv_iload hx hb dX9_measure_37 (lv_at hl 5 rfl) ?_
    refine lv_if_lt (tgt := 85) hx hb dX9_measure_39 (by decide) (fun c1 => ?_) (fun c1 => ?_)
    · replace hf := it_t c1 hf
      obtain ⟨x2, ex2, hf⟩ := nm_ok hf
      refine lv_iinc (v := x2) (lv' := [(4, .int x2), (0, .ref t0), (1, .ref t1), (2, va_rf w2), (3, .int v3), (5, .int v5)]) hx hb dX9_measure_85 hl (k := 4) rfl (by rw [ex2]; rfl) (by decide) rfl (fun ls hl => ?_)
      refine lv_goto (tgt := 14) hx hb dX9_measure_88 (by decide) ?_
      exact hr14 t0 (some t1) w2 v3 x2 h _ _ _ hB (lv_sub hl [1, 2, 3, 4, 0] rfl) hf
    · replace hf := it_f c1 hf
      refine lv_aload_n hx hb dX9_measure_42 rfl (lv_at hl 0 rfl) ?_
      refine lv_aload_n hx hb dX9_measure_43 rfl (lv_at hl 1 rfl) ?_
      obtain ⟨k3, hf⟩ := gk_ok hf
      obtain ⟨a4, q5, hf⟩ := bd_ok hf
      refine gf_X9_28 cx hB k3 q5 dX9_measure_44 ?_
      refine lv_iload hx hb dX9_measure_47 (lv_at hl 5 rfl) ?_
      obtain ⟨k6, hf⟩ := gk_ok hf
      obtain ⟨j7, hf⟩ := gd_ok hf
      obtain ⟨a8, q9, hf⟩ := bd_ok hf
      refine hp_aald cx hB 17 (.object RX5) (by decide) rfl rfl k6 j7 (o := some a8) q9.symm dX9_measure_49 ?_
      refine lq_aload_n hx hb dX9_measure_50 rfl (lv_at hl 2 rfl) ?_
      obtain ⟨k10, hf⟩ := gk_ok hf
      obtain ⟨r13, g11, m12, hf⟩ := b2_ok hf
      refine hp_cI0 (cl_X9_32 cx hB (cX9_leastAt l D cA t0 (some a8) w2 h _ g11 m12) k10 ⟨Nat.le_of_ble_eq_true rfl, Nat.le_of_ble_eq_true rfl⟩ rfl hl.1 rfl (Nat.le_of_ble_eq_true rfl) ⟨Nat.le_of_ble_eq_true rfl, Nat.le_of_ble_eq_true rfl⟩ dX9_measure_51) rfl rfl hB (fun H locs hB => ?_)
      refine lv_istore (lv' := [(6, .int r13), (0, .ref t0), (1, .ref t1), (2, va_rf w2), (3, .int v3), (4, .int v4), (5, .int v5)]) hx hb dX9_measure_54 hl (by decide) rfl (fun ls hl => ?_)
      refine lv_iload hx hb dX9_measure_56 (lv_at hl 0 rfl) ?_
      refine lv_aload_n hx hb dX9_measure_58 rfl (lv_at hl 1 rfl) ?_
      obtain ⟨k15, hf⟩ := gk_ok hf
      obtain ⟨a16, q17, hf⟩ := bd_ok hf
      refine gf_X9_9 cx hB k15 q17 dX9_measure_59 ?_
      refine lv_iload hx hb dX9_measure_62 (lv_at hl 6 rfl) ?_
      obtain ⟨k18, hf⟩ := gk_ok hf
      obtain ⟨j19, hf⟩ := gd_ok hf
      refine hp_iald cx hB k18 j19 dX9_measure_64 ?_
      refine lv_icmp_ge (tgt := 79) hx hb dX9_measure_65 (by decide) (fun c20 => ?_) (fun c20 => ?_)
      · replace hf := it_t c20 hf
        obtain ⟨x21, ex21, hf⟩ := nm_ok hf
        refine lv_iinc (v := x21) (lv' := [(5, .int x21), (6, .int r13), (0, .ref t0), (1, .ref t1), (2, va_rf w2), (3, .int v3), (4, .int v4)]) hx hb dX9_measure_79 hl (k := 6) rfl (by rw [ex21]; rfl) (by decide) rfl (fun ls hl => ?_)
        refine lv_goto (tgt := 37) hx hb dX9_measure_82 (by decide) ?_
        exact ih t0 t1 w2 v3 v4 x21 g11 _ _ _ hB (lv_sub hl [2, 3, 4, 5, 6, 0] rfl) hf
      · replace hf := it_f c20 hf
        refine lv_aload_n hx hb dX9_measure_68 rfl (lv_at hl 1 rfl) ?_
        refine gf_X9_9 cx hB k15 q17 dX9_measure_69 ?_
        refine lv_iload hx hb dX9_measure_72 (lv_at hl 6 rfl) ?_
        refine lv_iload hx hb dX9_measure_74 (lv_at hl 0 rfl) ?_
        obtain ⟨j22, hf⟩ := gd_ok hf
        obtain ⟨g23, eg23, hf⟩ := nm_ok hf
        refine hp_iast cx hB k18 j22 dX9_measure_76 (fun H locs hB => ?_)
        rw [← eg23] at hB
        refine lv_iconst (v := 1) hx hb dX9_measure_77 (by decide) ?_
        refine lv_istore_n (lv' := [(3, .int 1), (6, .int r13), (0, .ref t0), (1, .ref t1), (2, va_rf w2), (4, .int v4), (5, .int v5)]) hx hb dX9_measure_78 rfl hl (by decide) (by cases w2 <;> rfl) (fun ls hl => ?_)
        obtain ⟨x24, ex24, hf⟩ := nm_ok hf
        refine lv_iinc (v := x24) (lv' := [(5, .int x24), (3, .int 1), (6, .int r13), (0, .ref t0), (1, .ref t1), (2, va_rf w2), (4, .int v4)]) hx hb dX9_measure_79 hl (k := 6) rfl (by rw [ex24]; rfl) (by decide) rfl (fun ls hl => ?_)
        refine lv_goto (tgt := 37) hx hb dX9_measure_82 (by decide) ?_
        exact ih t0 t1 w2 1 v4 x24 g23 _ _ _ hB (lv_sub hl [3, 4, 5, 1, 6, 0] rfl) hf
set_option maxHeartbeats 4000000 in
set_option maxRecDepth 100000 in
theorem tX9_measure_14  (cx : CallFix p m c prog_11_method_2_code 7 s args tbG RX9) (hr : meth.sig.returnType = none) (hlk : meth.locks = false)  (n : Nat) : ∀ (t0 : Nat) (w1 : Option Nat) (w2 : Option Nat) (v3 : Int32) (v4 : Int32) (h : Hp) (H : Heap) (locs : List Loc) (ls : Array Slot), hp_B D cA (hp_A h0) s h H locs → lv_has ls 7 [(0, .ref t0), (1, va_rf w1), (2, va_rf w2), (3, .int v3), (4, .int v4)] → fx (bX9_measure_14 ) (fun _ _ _ _ _ _ => none) n t0 w1 w2 v3 v4 h = some ((), h9) → W p l e rmX9_measure s m args below meth c H locs 0 0 (MQ below (hp_Qv D cA h0 h9) args s 0 0 (hp_A h0)) (F0 m 14 ls []) := by
  obtain ⟨hx, hb, -⟩ := id cx
  induction n with
  | zero => intro t0 w1 w2 v3 v4 h H locs ls hB hl hf; cases hf
  | succ n ih =>
    intro t0 w1 w2 v3 v4 h H locs ls hB hl hf
    replace hf : bX9_measure_14  (fx (bX9_measure_14 ) (fun _ _ _ _ _ _ => none) n) t0 w1 w2 v3 v4 h = some ((), h9) := hf
    unfold bX9_measure_14 at hf
    refine lv_iload hx hb dX9_measure_14 (lv_at hl 4 rfl) ?_
    refine lq_aload_n hx hb dX9_measure_16 rfl (lv_at hl 1 rfl) ?_
    obtain ⟨a1, eo, hf⟩ := bd_ok hf
    subst eo
    obtain ⟨k2, hf⟩ := gk_ok hf
    refine gf_X9_22 cx hB k2 dX9_measure_17 ?_
    refine lv_icmp_ge (tgt := 91) hx hb dX9_measure_20 (by decide) (fun c3 => ?_) (fun c3 => ?_)
    · replace hf := it_t c3 hf
      obtain ⟨-, rfl⟩ := rt_ok hf
      exact hp_vret cx hB hr hlk (Nat.le_of_ble_eq_true rfl) (Nat.le_of_ble_eq_true rfl) dX9_measure_91
    · replace hf := it_f c3 hf
      refine lv_iload_n hx hb dX9_measure_23 rfl (lv_at hl 3 rfl) ?_
      refine lv_if_eq (tgt := 91) hx hb dX9_measure_24 (by decide) (fun c4 => ?_) (fun c4 => ?_)
      · replace hf := it_t c4 hf
        obtain ⟨-, rfl⟩ := rt_ok hf
        exact hp_vret cx hB hr hlk (Nat.le_of_ble_eq_true rfl) (Nat.le_of_ble_eq_true rfl) dX9_measure_91
      · replace hf := it_f c4 hf
        refine lv_iconst (v := 0) hx hb dX9_measure_27 (by decide) ?_
        refine lv_istore_n (lv' := [(3, .int 0), (0, .ref t0), (1, .ref a1), (2, va_rf w2), (4, .int v4)]) hx hb dX9_measure_28 rfl hl (by decide) (by cases w2 <;> rfl) (fun ls hl => ?_)
        refine lv_aload_n hx hb dX9_measure_29 rfl (lv_at hl 2 rfl) ?_
        refine gf_X9_22 cx hB k2 dX9_measure_30 ?_
        refine lv_iconst (v := 1) hx hb dX9_measure_33 (by decide) ?_
        refine lv_isub hx hb dX9_measure_34 ?_
        obtain ⟨x5, ex5, hf⟩ := nm_ok hf
        refine lv_ren ex5 ?_
        refine lv_istore (lv' := [(5, .int x5), (3, .int 0), (0, .ref t0), (1, .ref a1), (2, va_rf w2), (4, .int v4)]) hx hb dX9_measure_35 hl (by decide) rfl (fun ls hl => ?_)
        exact tX9_measure_37 cx hr hlk ih NF t0 a1 w2 0 v4 x5 h _ _ _ hB (lv_sub hl [2, 3, 4, 1, 5, 0] rfl) hf
set_option maxHeartbeats 4000000 in
set_option maxRecDepth 100000 in
theorem tX9_measure_0  (cx : CallFix p m c prog_11_method_2_code 7 s args tbG RX9) (hr : meth.sig.returnType = none) (hlk : meth.locks = false)  (t0 : Nat) (w1 : Option Nat) (w2 : Option Nat) (h : Hp) (H : Heap) (locs : List Loc) (ls : Array Slot) (hB : hp_B D cA (hp_A h0) s h H locs) (hl : lv_has ls 7 [(0, .ref t0), (1, va_rf w1), (2, va_rf w2)]) (hf : fX9_measure  t0 w1 w2 h = some ((), h9)) : W p l e rmX9_measure s m args below meth c H locs 0 0 (MQ below (hp_Qv D cA h0 h9) args s 0 0 (hp_A h0)) (F0 m 0 ls []) := by
  obtain ⟨hx, hb, -⟩ := id cx
  unfold fX9_measure at hf
  refine lv_aload_n hx hb dX9_measure_0 rfl (lv_at hl 0 rfl) ?_
  obtain ⟨k1, hf⟩ := gk_ok hf
  obtain ⟨a2, q3, hf⟩ := bd_ok hf
  refine gf_X9_9 cx hB k1 q3 dX9_measure_1 ?_
  refine lv_ldc (v := 1000000) hx hb cx.2.2.2.1 (cx.2.2.2.2 _ (tb_in qw_455 rfl)) dX9_measure_4 ?_
  obtain ⟨uu, g4, m5, hf⟩ := b2_ok hf
  refine hp_cV0 (cl_X9_16 cx hB (cJ7_fill_53178 l D cA (some a2) 1000000 h _ g4 m5) ⟨Nat.le_of_ble_eq_true rfl, Nat.le_of_ble_eq_true rfl⟩ rfl hl.1 rfl (Nat.le_of_ble_eq_true rfl) ⟨Nat.le_of_ble_eq_true rfl, Nat.le_of_ble_eq_true rfl⟩ dX9_measure_6) rfl rfl hB (fun H locs hB => ?_)
  refine lv_iconst (v := 1) hx hb dX9_measure_9 (by decide) ?_
  refine lv_istore_n (lv' := [(3, .int 1), (0, .ref t0), (1, va_rf w1), (2, va_rf w2)]) hx hb dX9_measure_10 rfl hl (by decide) (by cases w2 <;> rfl) (fun ls hl => ?_)
  refine lv_iconst (v := 0) hx hb dX9_measure_11 (by decide) ?_
  refine lv_istore (lv' := [(4, .int 0), (3, .int 1), (0, .ref t0), (1, va_rf w1), (2, va_rf w2)]) hx hb dX9_measure_12 hl (by decide) rfl (fun ls hl => ?_)
  exact tX9_measure_14 cx hr hlk  NF t0 w1 w2 1 0 g4 _ _ _ hB (lv_sub hl [2, 3, 4, 1, 0] rfl) hf
end
set_option maxHeartbeats 4000000 in
set_option maxRecDepth 100000 in
theorem cX9_measure (l : Launch) (D : va_G) (cA : Nat → ClassId) (t0 : Nat) (w1 : Option Nat) (w2 : Option Nat) (h : Hp) (_u : Unit) (h9 : Hp) (hf : fX9_measure t0 w1 w2 h = some (_u, h9)) : hp_M l yX9_measure prog_11_method_2_code 7 none rmX9_measure D cA h [.ref t0, va_rf w1, va_rf w2] (hp_Qv D cA h h9) := by
  refine Met.ofW (cc := prog_11_method_2_code) (maxL := 7) (ret := none) (by decide) rfl ?_
  intro p e s m args below meth c s₁ B hml hv
  obtain ⟨rfl, hU⟩ := hv
  have hts := atoms_spec (ws := Cond.code yX9_measure prog_11_method_2_code 7 none :: tbG) B.pre
  have hl := lv_entry ([.ref t0, va_rf w1, va_rf w2]) (n := 7) (by simp [lg_sl, va_rf_cat, cat_i, cat_r, cat_n])
  rw [show lv_args 0 ([.ref t0, va_rf w1, va_rf w2]) = [(0, .ref t0), (1, va_rf w1), (2, va_rf w2)] by simp [lv_args, va_rf_cat, cat_i, cat_r, cat_n]] at hl
  rw [lg_entry_eq]
  generalize (lg_sl ([.ref t0, va_rf w1, va_rf w2]) ++ List.replicate (7 - (lg_sl ([.ref t0, va_rf w1, va_rf w2])).length) Slot.unset).toArray = ls at hl ⊢
  exact tX9_measure_0 ⟨B.exec, B.bytes, hml, findClass_of_methodNamed B.named, fun w hw => hts w (List.mem_cons_of_mem _ hw)⟩ B.returns B.notSynchronized t0 w1 w2 h _ _ _ (hp_B.entry hU) hl hf
section
variable {p : Program} {l : Launch} {e : Env} {R : Room} {s : State} {m : MethodId} {args : Array Value} {below : List Frame} {meth : Method} {c : Code} {H : Heap} {locs : List Loc} {cells slots : Nat} {Q : State → Prop}
variable {cc : ByteArray} {pc nL : Nat} {ls : Array Slot} {rest : List Value} {D : va_G} {cA : Nat → ClassId} {A : Nat → Prop} {a : Nat} {h : Hp}
theorem gf_X8_38 (cx : CallFix p m c cc nL s args tbG RX8) (hB : hp_B D cA A s h H locs) (hka : h.1 a = 9) {b : Nat} (ho : h.2.2.2.1 a 8 = some b) (hdg : decode cc pc = .ok (.getfield 38, 3)) (kk : W p l e R s m args below meth c H locs cells slots Q (F0 m (pc + 3) ls (.ref b :: rest))) : W p l e R s m args below meth c H locs cells slots Q (F0 m pc ls (.ref a :: rest)) :=
  hp_getR cx hB (ci := 8) 8 rfl inX8 (by decide) rfl (by decide) rfl qw_177 hka (o := some b) ho.symm hdg kk
theorem cl_X8_87 {As st0 : List Value} {Qc : Array Value → State → Outcome → State → Prop} (cx : CallFix p m c cc nL s args tbG RX8) (hB : hp_B D cA A s h H locs) (hM : hp_M l yX10_clear prog_1_method_33_code 2 none rmX10_clear D cA h As Qc) (hR : rmX10_clear.frames + 1 ≤ R.frames ∧ 8 + (2 + 11) + rmX10_clear.locals ≤ R.locals) (hn : As.length = 1) (hls : ls.size = nL) (hst : st0 = As.reverse ++ rest) (hW : (rest.map fun v => v.category).sum ≤ 8) (hf : cells + rmX10_clear.cells ≤ R.cells ∧ slots + rmX10_clear.slots ≤ R.slots) (hdg : decode cc pc = .ok (.invokestatic 87, 3)) :
    va_Run p l e R s m args below meth c H locs cells slots rmX10_clear.cells rmX10_clear.slots (F0 m pc ls st0) rest (Qc As.toArray) (hp_A h) :=
  hp_runSN (host := "SpokenMenus") cx hB hM qw_512 (by decide +kernel) qw_511 qw_1 (by decide +kernel) hR hn hls hst hW hf hdg
end
abbrev yX8_begin : MethodName := ⟨"SpokenMenus$Walk", "begin", "()V"⟩
theorem dX8_begin_0 : decode prog_10_method_5_code 0 = .ok (.aload_n 0, 1) := by decide +kernel
theorem dX8_begin_1 : decode prog_10_method_5_code 1 = .ok (.iconst 1, 1) := by decide +kernel
theorem dX8_begin_2 : decode prog_10_method_5_code 2 = .ok (.putfield 9, 3) := by decide +kernel
theorem dX8_begin_5 : decode prog_10_method_5_code 5 = .ok (.aload_n 0, 1) := by decide +kernel
theorem dX8_begin_6 : decode prog_10_method_5_code 6 = .ok (.iconst (-1), 1) := by decide +kernel
theorem dX8_begin_7 : decode prog_10_method_5_code 7 = .ok (.putfield 15, 3) := by decide +kernel
theorem dX8_begin_10 : decode prog_10_method_5_code 10 = .ok (.aload_n 0, 1) := by decide +kernel
theorem dX8_begin_11 : decode prog_10_method_5_code 11 = .ok (.iconst 0, 1) := by decide +kernel
theorem dX8_begin_12 : decode prog_10_method_5_code 12 = .ok (.putfield 19, 3) := by decide +kernel
theorem dX8_begin_15 : decode prog_10_method_5_code 15 = .ok (.aload_n 0, 1) := by decide +kernel
theorem dX8_begin_16 : decode prog_10_method_5_code 16 = .ok (.iconst 0, 1) := by decide +kernel
theorem dX8_begin_17 : decode prog_10_method_5_code 17 = .ok (.putfield 22, 3) := by decide +kernel
theorem dX8_begin_20 : decode prog_10_method_5_code 20 = .ok (.aload_n 0, 1) := by decide +kernel
theorem dX8_begin_21 : decode prog_10_method_5_code 21 = .ok (.iconst 0, 1) := by decide +kernel
theorem dX8_begin_22 : decode prog_10_method_5_code 22 = .ok (.putfield 25, 3) := by decide +kernel
theorem dX8_begin_25 : decode prog_10_method_5_code 25 = .ok (.aload_n 0, 1) := by decide +kernel
theorem dX8_begin_26 : decode prog_10_method_5_code 26 = .ok (.iconst 0, 1) := by decide +kernel
theorem dX8_begin_27 : decode prog_10_method_5_code 27 = .ok (.putfield 28, 3) := by decide +kernel
theorem dX8_begin_30 : decode prog_10_method_5_code 30 = .ok (.aload_n 0, 1) := by decide +kernel
theorem dX8_begin_31 : decode prog_10_method_5_code 31 = .ok (.iconst 0, 1) := by decide +kernel
theorem dX8_begin_32 : decode prog_10_method_5_code 32 = .ok (.putfield 42, 3) := by decide +kernel
theorem dX8_begin_35 : decode prog_10_method_5_code 35 = .ok (.aload_n 0, 1) := by decide +kernel
theorem dX8_begin_36 : decode prog_10_method_5_code 36 = .ok (.getfield 38, 3) := by decide +kernel
theorem dX8_begin_39 : decode prog_10_method_5_code 39 = .ok (.invokestatic 87, 3) := by decide +kernel
theorem dX8_begin_42 : decode prog_10_method_5_code 42 = .ok (.return_, 1) := by decide +kernel
abbrev rmX8_begin : Room := { frames := 1, cells := 0, slots := 0, locals := 21 }
def fX8_begin  (t0 : Nat) (h : Hp) : Option (Unit × Hp) :=
  gk (h.1 t0) 9 <|
  nm (hp_si h t0 0 1) fun g2 =>
  nm (hp_si g2 t0 1 (-1)) fun g4 =>
  nm (hp_si g4 t0 2 0) fun g6 =>
  nm (hp_si g6 t0 3 0) fun g8 =>
  nm (hp_si g8 t0 4 0) fun g10 =>
  nm (hp_si g10 t0 5 0) fun g12 =>
  nm (hp_si g12 t0 9 0) fun g14 =>
  bd (g14.2.2.2.1 t0 8) fun a16 =>
  b2 (fX10_clear (some a16) g14) fun _ g18 =>
  some ((), g18)
section
variable {p : Program} {l : Launch} {e : Env} {s : State} {m : MethodId} {args : Array Value} {below : List Frame} {meth : Method} {c : Code} {D : va_G} {cA : Nat → ClassId} {h0 h9 : Hp}
set_option maxHeartbeats 4000000 in
set_option maxRecDepth 100000 in
theorem tX8_begin_0  (cx : CallFix p m c prog_10_method_5_code 1 s args tbG RX8) (hr : meth.sig.returnType = none) (hlk : meth.locks = false)  (t0 : Nat) (h : Hp) (H : Heap) (locs : List Loc) (ls : Array Slot) (hB : hp_B D cA (hp_A h0) s h H locs) (hl : lv_has ls 1 [(0, .ref t0)]) (hf : fX8_begin  t0 h = some ((), h9)) : W p l e rmX8_begin s m args below meth c H locs 0 0 (MQ below (hp_Qv D cA h0 h9) args s 0 0 (hp_A h0)) (F0 m 0 ls []) := by
  obtain ⟨hx, hb, -⟩ := id cx
  unfold fX8_begin at hf
  refine lv_aload_n hx hb dX8_begin_0 rfl (lv_at hl 0 rfl) ?_
  refine lv_iconst (v := 1) hx hb dX8_begin_1 (by decide) ?_
  obtain ⟨k1, hf⟩ := gk_ok hf
  obtain ⟨g2, eg2, hf⟩ := nm_ok hf
  refine pf_X8_9 cx hB k1 rfl dX8_begin_2 (fun H locs hB => ?_)
  rw [← eg2] at hB
  refine lv_aload_n hx hb dX8_begin_5 rfl (lv_at hl 0 rfl) ?_
  refine lv_iconst (v := (-1)) hx hb dX8_begin_6 (by decide) ?_
  have k3 : g2.1 t0 = 9 := by rw [eg2]; exact k1
  obtain ⟨g4, eg4, hf⟩ := nm_ok hf
  refine pf_X8_15 cx hB k3 dX8_begin_7 (fun H locs hB => ?_)
  rw [← eg4] at hB
  refine lv_aload_n hx hb dX8_begin_10 rfl (lv_at hl 0 rfl) ?_
  refine lv_iconst (v := 0) hx hb dX8_begin_11 (by decide) ?_
  have k5 : g4.1 t0 = 9 := by rw [eg4]; exact k3
  obtain ⟨g6, eg6, hf⟩ := nm_ok hf
  refine pf_X8_19 cx hB k5 dX8_begin_12 (fun H locs hB => ?_)
  rw [← eg6] at hB
  refine lv_aload_n hx hb dX8_begin_15 rfl (lv_at hl 0 rfl) ?_
  refine lv_iconst (v := 0) hx hb dX8_begin_16 (by decide) ?_
  have k7 : g6.1 t0 = 9 := by rw [eg6]; exact k5
  obtain ⟨g8, eg8, hf⟩ := nm_ok hf
  refine pf_X8_22 cx hB k7 dX8_begin_17 (fun H locs hB => ?_)
  rw [← eg8] at hB
  refine lv_aload_n hx hb dX8_begin_20 rfl (lv_at hl 0 rfl) ?_
  refine lv_iconst (v := 0) hx hb dX8_begin_21 (by decide) ?_
  have k9 : g8.1 t0 = 9 := by rw [eg8]; exact k7
  obtain ⟨g10, eg10, hf⟩ := nm_ok hf
  refine pf_X8_25 cx hB k9 dX8_begin_22 (fun H locs hB => ?_)
  rw [← eg10] at hB
  refine lv_aload_n hx hb dX8_begin_25 rfl (lv_at hl 0 rfl) ?_
  refine lv_iconst (v := 0) hx hb dX8_begin_26 (by decide) ?_
  have k11 : g10.1 t0 = 9 := by rw [eg10]; exact k9
  obtain ⟨g12, eg12, hf⟩ := nm_ok hf
  refine pf_X8_28 cx hB k11 dX8_begin_27 (fun H locs hB => ?_)
  rw [← eg12] at hB
  refine lv_aload_n hx hb dX8_begin_30 rfl (lv_at hl 0 rfl) ?_
  refine lv_iconst (v := 0) hx hb dX8_begin_31 (by decide) ?_
  have k13 : g12.1 t0 = 9 := by rw [eg12]; exact k11
  obtain ⟨g14, eg14, hf⟩ := nm_ok hf
  refine pf_X8_42 cx hB k13 dX8_begin_32 (fun H locs hB => ?_)
  rw [← eg14] at hB
  refine lv_aload_n hx hb dX8_begin_35 rfl (lv_at hl 0 rfl) ?_
  have k15 : g14.1 t0 = 9 := by rw [eg14]; exact k13
  obtain ⟨a16, q17, hf⟩ := bd_ok hf
  refine gf_X8_38 cx hB k15 q17 dX8_begin_36 ?_
  obtain ⟨uu, g18, m19, hf⟩ := b2_ok hf
  refine hp_cV0 (cl_X8_87 cx hB (cX10_clear l D cA (some a16) g14 _ g18 m19) ⟨Nat.le_of_ble_eq_true rfl, Nat.le_of_ble_eq_true rfl⟩ rfl hl.1 rfl (Nat.le_of_ble_eq_true rfl) ⟨Nat.le_of_ble_eq_true rfl, Nat.le_of_ble_eq_true rfl⟩ dX8_begin_39) rfl rfl hB (fun H locs hB => ?_)
  obtain ⟨-, rfl⟩ := rt_ok hf
  exact hp_vret cx hB hr hlk (Nat.le_of_ble_eq_true rfl) (Nat.le_of_ble_eq_true rfl) dX8_begin_42
end
set_option maxHeartbeats 4000000 in
set_option maxRecDepth 100000 in
theorem cX8_begin (l : Launch) (D : va_G) (cA : Nat → ClassId) (t0 : Nat) (h : Hp) (_u : Unit) (h9 : Hp) (hf : fX8_begin t0 h = some (_u, h9)) : hp_M l yX8_begin prog_10_method_5_code 1 none rmX8_begin D cA h [.ref t0] (hp_Qv D cA h h9) := by
  refine Met.ofW (cc := prog_10_method_5_code) (maxL := 1) (ret := none) (by decide) rfl ?_
  intro p e s m args below meth c s₁ B hml hv
  obtain ⟨rfl, hU⟩ := hv
  have hts := atoms_spec (ws := Cond.code yX8_begin prog_10_method_5_code 1 none :: tbG) B.pre
  have hl := lv_entry ([.ref t0]) (n := 1) (Nat.le_of_ble_eq_true rfl)
  rw [lg_entry_eq]
  generalize (lg_sl ([.ref t0]) ++ List.replicate (1 - (lg_sl ([.ref t0])).length) Slot.unset).toArray = ls at hl ⊢
  exact tX8_begin_0 ⟨B.exec, B.bytes, hml, findClass_of_methodNamed B.named, fun w hw => hts w (List.mem_cons_of_mem _ hw)⟩ B.returns B.notSynchronized t0 h _ _ _ (hp_B.entry hU) hl hf
section
variable {p : Program} {l : Launch} {e : Env} {R : Room} {s : State} {m : MethodId} {args : Array Value} {below : List Frame} {meth : Method} {c : Code} {H : Heap} {locs : List Loc} {cells slots : Nat} {Q : State → Prop}
variable {cc : ByteArray} {pc nL : Nat} {ls : Array Slot} {rest : List Value} {D : va_G} {cA : Nat → ClassId} {A : Nat → Prop} {a : Nat} {h : Hp}
theorem gf_X8_25 (cx : CallFix p m c cc nL s args tbG RX8) (hB : hp_B D cA A s h H locs) (hka : h.1 a = 9) (hdg : decode cc pc = .ok (.getfield 25, 3)) (kk : W p l e R s m args below meth c H locs cells slots Q (F0 m (pc + 3) ls (.int (h.2.2.1 a 4) :: rest))) : W p l e R s m args below meth c H locs cells slots Q (F0 m pc ls (.ref a :: rest)) :=
  hp_getI cx hB (ci := 8) 4 rfl inX8 (by decide) rfl (by decide) rfl qw_169 hka hdg kk
theorem gf_X8_31 (cx : CallFix p m c cc nL s args tbG RX8) (hB : hp_B D cA A s h H locs) (hka : h.1 a = 9) {b : Nat} (ho : h.2.2.2.1 a 6 = some b) (hdg : decode cc pc = .ok (.getfield 31, 3)) (kk : W p l e R s m args below meth c H locs cells slots Q (F0 m (pc + 3) ls (.ref b :: rest))) : W p l e R s m args below meth c H locs cells slots Q (F0 m pc ls (.ref a :: rest)) :=
  hp_getR cx hB (ci := 8) 6 rfl inX8 (by decide) rfl (by decide) rfl qw_173 hka (o := some b) ho.symm hdg kk
theorem gf_X8_42 (cx : CallFix p m c cc nL s args tbG RX8) (hB : hp_B D cA A s h H locs) (hka : h.1 a = 9) (hdg : decode cc pc = .ok (.getfield 42, 3)) (kk : W p l e R s m args below meth c H locs cells slots Q (F0 m (pc + 3) ls (.int (h.2.2.1 a 9) :: rest))) : W p l e R s m args below meth c H locs cells slots Q (F0 m pc ls (.ref a :: rest)) :=
  hp_getI cx hB (ci := 8) 9 rfl inX8 (by decide) rfl (by decide) rfl qw_178 hka hdg kk
end
abbrev yX8_come : MethodName := ⟨"SpokenMenus$Walk", "come", "(II)V"⟩
theorem dX8_come_0 : decode prog_10_method_6_code 0 = .ok (.aload_n 0, 1) := by decide +kernel
theorem dX8_come_1 : decode prog_10_method_6_code 1 = .ok (.iload_n 1, 1) := by decide +kernel
theorem dX8_come_2 : decode prog_10_method_6_code 2 = .ok (.putfield 22, 3) := by decide +kernel
theorem dX8_come_5 : decode prog_10_method_6_code 5 = .ok (.iload_n 1, 1) := by decide +kernel
theorem dX8_come_6 : decode prog_10_method_6_code 6 = .ok (.ifCond .lt 16, 3) := by decide +kernel
theorem dX8_come_9 : decode prog_10_method_6_code 9 = .ok (.iload_n 1, 1) := by decide +kernel
theorem dX8_come_10 : decode prog_10_method_6_code 10 = .ok (.bipush 40, 2) := by decide +kernel
theorem dX8_come_12 : decode prog_10_method_6_code 12 = .ok (.if_icmp .ge 10, 3) := by decide +kernel
theorem dX8_come_15 : decode prog_10_method_6_code 15 = .ok (.aload_n 0, 1) := by decide +kernel
theorem dX8_come_16 : decode prog_10_method_6_code 16 = .ok (.getfield 38, 3) := by decide +kernel
theorem dX8_come_19 : decode prog_10_method_6_code 19 = .ok (.iload_n 1, 1) := by decide +kernel
theorem dX8_come_20 : decode prog_10_method_6_code 20 = .ok (.iconst 1, 1) := by decide +kernel
theorem dX8_come_21 : decode prog_10_method_6_code 21 = .ok (.bastore, 1) := by decide +kernel
theorem dX8_come_22 : decode prog_10_method_6_code 22 = .ok (.aload_n 0, 1) := by decide +kernel
theorem dX8_come_23 : decode prog_10_method_6_code 23 = .ok (.getfield 25, 3) := by decide +kernel
theorem dX8_come_26 : decode prog_10_method_6_code 26 = .ok (.bipush 60, 2) := by decide +kernel
theorem dX8_come_28 : decode prog_10_method_6_code 28 = .ok (.if_icmp .ge 13, 3) := by decide +kernel
theorem dX8_come_31 : decode prog_10_method_6_code 31 = .ok (.aload_n 0, 1) := by decide +kernel
theorem dX8_come_32 : decode prog_10_method_6_code 32 = .ok (.getfield 31, 3) := by decide +kernel
theorem dX8_come_35 : decode prog_10_method_6_code 35 = .ok (.aload_n 0, 1) := by decide +kernel
theorem dX8_come_36 : decode prog_10_method_6_code 36 = .ok (.getfield 25, 3) := by decide +kernel
theorem dX8_come_39 : decode prog_10_method_6_code 39 = .ok (.iload_n 1, 1) := by decide +kernel
theorem dX8_come_40 : decode prog_10_method_6_code 40 = .ok (.iastore, 1) := by decide +kernel
theorem dX8_come_41 : decode prog_10_method_6_code 41 = .ok (.aload_n 0, 1) := by decide +kernel
theorem dX8_come_42 : decode prog_10_method_6_code 42 = .ok (.dup, 1) := by decide +kernel
theorem dX8_come_43 : decode prog_10_method_6_code 43 = .ok (.getfield 25, 3) := by decide +kernel
theorem dX8_come_46 : decode prog_10_method_6_code 46 = .ok (.iconst 1, 1) := by decide +kernel
theorem dX8_come_47 : decode prog_10_method_6_code 47 = .ok (.iadd, 1) := by decide +kernel
theorem dX8_come_48 : decode prog_10_method_6_code 48 = .ok (.putfield 25, 3) := by decide +kernel
theorem dX8_come_51 : decode prog_10_method_6_code 51 = .ok (.aload_n 0, 1) := by decide +kernel
theorem dX8_come_52 : decode prog_10_method_6_code 52 = .ok (.iload_n 2, 1) := by decide +kernel
theorem dX8_come_53 : decode prog_10_method_6_code 53 = .ok (.iconst 3, 1) := by decide +kernel
theorem dX8_come_54 : decode prog_10_method_6_code 54 = .ok (.if_icmp .ne 12, 3) := by decide +kernel
theorem dX8_come_57 : decode prog_10_method_6_code 57 = .ok (.aload_n 0, 1) := by decide +kernel
theorem dX8_come_58 : decode prog_10_method_6_code 58 = .ok (.getfield 42, 3) := by decide +kernel
theorem dX8_come_61 : decode prog_10_method_6_code 61 = .ok (.iconst 1, 1) := by decide +kernel
theorem dX8_come_62 : decode prog_10_method_6_code 62 = .ok (.iadd, 1) := by decide +kernel
theorem dX8_come_63 : decode prog_10_method_6_code 63 = .ok (.goto 4, 3) := by decide +kernel
theorem dX8_come_66 : decode prog_10_method_6_code 66 = .ok (.iconst 0, 1) := by decide +kernel
theorem dX8_come_67 : decode prog_10_method_6_code 67 = .ok (.putfield 42, 3) := by decide +kernel
theorem dX8_come_70 : decode prog_10_method_6_code 70 = .ok (.aload_n 0, 1) := by decide +kernel
theorem dX8_come_71 : decode prog_10_method_6_code 71 = .ok (.getfield 42, 3) := by decide +kernel
theorem dX8_come_74 : decode prog_10_method_6_code 74 = .ok (.bipush 41, 2) := by decide +kernel
theorem dX8_come_76 : decode prog_10_method_6_code 76 = .ok (.if_icmp .lt 8, 3) := by decide +kernel
theorem dX8_come_79 : decode prog_10_method_6_code 79 = .ok (.aload_n 0, 1) := by decide +kernel
theorem dX8_come_80 : decode prog_10_method_6_code 80 = .ok (.iconst 3, 1) := by decide +kernel
theorem dX8_come_81 : decode prog_10_method_6_code 81 = .ok (.putfield 15, 3) := by decide +kernel
theorem dX8_come_84 : decode prog_10_method_6_code 84 = .ok (.return_, 1) := by decide +kernel
abbrev rmX8_come : Room := { frames := 0, cells := 0, slots := 0, locals := 0 }
def fX8_come_41  (t0 : Nat) (v2 : Int32) (h : Hp) : Option (Unit × Hp) :=
  gk (h.1 t0) 9 <|
  nm (hp_si h t0 4 ((h.2.2.1 t0 4) + 1)) fun g2 =>
  if v2 = 3 then
  (nm (hp_si g2 t0 9 ((g2.2.2.1 t0 9) + 1)) fun g10 =>
  if (g10.2.2.1 t0 9) < 41 then
  (some ((), g10))
  else
  (nm (hp_si g10 t0 1 3) fun g13 =>
  some ((), g13)))
  else
  (nm (hp_si g2 t0 9 0) fun g5 =>
  if (g5.2.2.1 t0 9) < 41 then
  (some ((), g5))
  else
  (nm (hp_si g5 t0 1 3) fun g8 =>
  some ((), g8)))
def fX8_come  (t0 : Nat) (v1 : Int32) (v2 : Int32) (h : Hp) : Option (Unit × Hp) :=
  gk (h.1 t0) 9 <|
  nm (hp_si h t0 3 v1) fun g2 =>
  if v1 < 0 then
  (if 60 ≤ (g2.2.2.1 t0 4) then
  (fX8_come_41  t0 v2 g2)
  else
  (bd (g2.2.2.2.1 t0 6) fun a6 =>
  gk (g2.1 a6) 13 <|
  gd (ix (g2.2.2.1 t0 4) (g2.2.1 a6)) <|
  nm (hp_si g2 a6 (Int32.toNatClampNeg (g2.2.2.1 t0 4)) v1) fun g10 =>
  fX8_come_41  t0 v2 g10))
  else
  (if 40 ≤ v1 then
  (if 60 ≤ (g2.2.2.1 t0 4) then
  (fX8_come_41  t0 v2 g2)
  else
  (bd (g2.2.2.2.1 t0 6) fun a14 =>
  gk (g2.1 a14) 13 <|
  gd (ix (g2.2.2.1 t0 4) (g2.2.1 a14)) <|
  nm (hp_si g2 a14 (Int32.toNatClampNeg (g2.2.2.1 t0 4)) v1) fun g18 =>
  fX8_come_41  t0 v2 g18))
  else
  (bd (g2.2.2.2.1 t0 8) fun a20 =>
  gk (g2.1 a20) 14 <|
  gd (ix v1 (g2.2.1 a20)) <|
  nm (hp_si g2 a20 (Int32.toNatClampNeg v1) 1) fun g24 =>
  if 60 ≤ (g24.2.2.1 t0 4) then
  (fX8_come_41  t0 v2 g24)
  else
  (bd (g24.2.2.2.1 t0 6) fun a27 =>
  gk (g24.1 a27) 13 <|
  gd (ix (g24.2.2.1 t0 4) (g24.2.1 a27)) <|
  nm (hp_si g24 a27 (Int32.toNatClampNeg (g24.2.2.1 t0 4)) v1) fun g31 =>
  fX8_come_41  t0 v2 g31)))
section
variable {p : Program} {l : Launch} {e : Env} {s : State} {m : MethodId} {args : Array Value} {below : List Frame} {meth : Method} {c : Code} {D : va_G} {cA : Nat → ClassId} {h0 h9 : Hp}
set_option maxHeartbeats 4000000 in
set_option maxRecDepth 100000 in
theorem tX8_come_41  (cx : CallFix p m c prog_10_method_6_code 3 s args tbG RX8) (hr : meth.sig.returnType = none) (hlk : meth.locks = false)  (t0 : Nat) (v2 : Int32) (h : Hp) (H : Heap) (locs : List Loc) (ls : Array Slot) (hB : hp_B D cA (hp_A h0) s h H locs) (hl : lv_has ls 3 [(0, .ref t0), (2, .int v2)]) (hf : fX8_come_41  t0 v2 h = some ((), h9)) : W p l e rmX8_come s m args below meth c H locs 0 0 (MQ below (hp_Qv D cA h0 h9) args s 0 0 (hp_A h0)) (F0 m 41 ls []) := by
  obtain ⟨hx, hb, -⟩ := id cx
  unfold fX8_come_41 at hf
  refine lv_aload_n hx hb dX8_come_41 rfl (lv_at hl 0 rfl) ?_
  refine lv_dup hx hb dX8_come_42 rfl ?_
  obtain ⟨k1, hf⟩ := gk_ok hf
  refine gf_X8_25 cx hB k1 dX8_come_43 ?_
  refine lv_iconst (v := 1) hx hb dX8_come_46 (by decide) ?_
  refine lv_iadd hx hb dX8_come_47 ?_
  obtain ⟨g2, eg2, hf⟩ := nm_ok hf
  refine pf_X8_25 cx hB k1 dX8_come_48 (fun H locs hB => ?_)
  rw [← eg2] at hB
  refine lv_aload_n hx hb dX8_come_51 rfl (lv_at hl 0 rfl) ?_
  refine lv_iload_n hx hb dX8_come_52 rfl (lv_at hl 1 rfl) ?_
  refine lv_iconst (v := 3) hx hb dX8_come_53 (by decide) ?_
  refine lv_icmp_ne (tgt := 66) hx hb dX8_come_54 (by decide) (fun c3 => ?_) (fun c3 => ?_)
  · replace hf := it_f c3 hf
    refine lv_iconst (v := 0) hx hb dX8_come_66 (by decide) ?_
    have k4 : g2.1 t0 = 9 := by rw [eg2]; exact k1
    obtain ⟨g5, eg5, hf⟩ := nm_ok hf
    refine pf_X8_42 cx hB k4 dX8_come_67 (fun H locs hB => ?_)
    rw [← eg5] at hB
    refine lv_aload_n hx hb dX8_come_70 rfl (lv_at hl 0 rfl) ?_
    have k6 : g5.1 t0 = 9 := by rw [eg5]; exact k4
    refine gf_X8_42 cx hB k6 dX8_come_71 ?_
    refine lv_bipush (v := 41) hx hb dX8_come_74 (by decide) ?_
    refine lv_icmp_lt (tgt := 84) hx hb dX8_come_76 (by decide) (fun c7 => ?_) (fun c7 => ?_)
    · replace hf := it_t c7 hf
      obtain ⟨-, rfl⟩ := rt_ok hf
      exact hp_vret cx hB hr hlk (Nat.le_of_ble_eq_true rfl) (Nat.le_of_ble_eq_true rfl) dX8_come_84
    · replace hf := it_f c7 hf
      refine lv_aload_n hx hb dX8_come_79 rfl (lv_at hl 0 rfl) ?_
      refine lv_iconst (v := 3) hx hb dX8_come_80 (by decide) ?_
      obtain ⟨g8, eg8, hf⟩ := nm_ok hf
      refine pf_X8_15 cx hB k6 dX8_come_81 (fun H locs hB => ?_)
      rw [← eg8] at hB
      obtain ⟨-, rfl⟩ := rt_ok hf
      exact hp_vret cx hB hr hlk (Nat.le_of_ble_eq_true rfl) (Nat.le_of_ble_eq_true rfl) dX8_come_84
  · replace hf := it_t c3 hf
    refine lv_aload_n hx hb dX8_come_57 rfl (lv_at hl 0 rfl) ?_
    have k9 : g2.1 t0 = 9 := by rw [eg2]; exact k1
    refine gf_X8_42 cx hB k9 dX8_come_58 ?_
    refine lv_iconst (v := 1) hx hb dX8_come_61 (by decide) ?_
    refine lv_iadd hx hb dX8_come_62 ?_
    refine lv_goto (tgt := 67) hx hb dX8_come_63 (by decide) ?_
    obtain ⟨g10, eg10, hf⟩ := nm_ok hf
    refine pf_X8_42 cx hB k9 dX8_come_67 (fun H locs hB => ?_)
    rw [← eg10] at hB
    refine lv_aload_n hx hb dX8_come_70 rfl (lv_at hl 0 rfl) ?_
    have k11 : g10.1 t0 = 9 := by rw [eg10]; exact k9
    refine gf_X8_42 cx hB k11 dX8_come_71 ?_
    refine lv_bipush (v := 41) hx hb dX8_come_74 (by decide) ?_
    refine lv_icmp_lt (tgt := 84) hx hb dX8_come_76 (by decide) (fun c12 => ?_) (fun c12 => ?_)
    · replace hf := it_t c12 hf
      obtain ⟨-, rfl⟩ := rt_ok hf
      exact hp_vret cx hB hr hlk (Nat.le_of_ble_eq_true rfl) (Nat.le_of_ble_eq_true rfl) dX8_come_84
    · replace hf := it_f c12 hf
      refine lv_aload_n hx hb dX8_come_79 rfl (lv_at hl 0 rfl) ?_
      refine lv_iconst (v := 3) hx hb dX8_come_80 (by decide) ?_
      obtain ⟨g13, eg13, hf⟩ := nm_ok hf
      refine pf_X8_15 cx hB k11 dX8_come_81 (fun H locs hB => ?_)
      rw [← eg13] at hB
      obtain ⟨-, rfl⟩ := rt_ok hf
      exact hp_vret cx hB hr hlk (Nat.le_of_ble_eq_true rfl) (Nat.le_of_ble_eq_true rfl) dX8_come_84
set_option maxHeartbeats 4000000 in
set_option maxRecDepth 100000 in
theorem tX8_come_0  (cx : CallFix p m c prog_10_method_6_code 3 s args tbG RX8) (hr : meth.sig.returnType = none) (hlk : meth.locks = false)  (t0 : Nat) (v1 : Int32) (v2 : Int32) (h : Hp) (H : Heap) (locs : List Loc) (ls : Array Slot) (hB : hp_B D cA (hp_A h0) s h H locs) (hl : lv_has ls 3 [(0, .ref t0), (1, .int v1), (2, .int v2)]) (hf : fX8_come  t0 v1 v2 h = some ((), h9)) : W p l e rmX8_come s m args below meth c H locs 0 0 (MQ below (hp_Qv D cA h0 h9) args s 0 0 (hp_A h0)) (F0 m 0 ls []) := by
  obtain ⟨hx, hb, -⟩ := id cx
  unfold fX8_come at hf
  refine lv_aload_n hx hb dX8_come_0 rfl (lv_at hl 0 rfl) ?_
  refine lv_iload_n hx hb dX8_come_1 rfl (lv_at hl 1 rfl) ?_
  obtain ⟨k1, hf⟩ := gk_ok hf
  obtain ⟨g2, eg2, hf⟩ := nm_ok hf
  refine pf_X8_22 cx hB k1 dX8_come_2 (fun H locs hB => ?_)
  rw [← eg2] at hB
  refine lv_iload_n hx hb dX8_come_5 rfl (lv_at hl 1 rfl) ?_
  refine lv_if_lt (tgt := 22) hx hb dX8_come_6 (by decide) (fun c3 => ?_) (fun c3 => ?_)
  · replace hf := it_t c3 hf
    refine lv_aload_n hx hb dX8_come_22 rfl (lv_at hl 0 rfl) ?_
    have k4 : g2.1 t0 = 9 := by rw [eg2]; exact k1
    refine gf_X8_25 cx hB k4 dX8_come_23 ?_
    refine lv_bipush (v := 60) hx hb dX8_come_26 (by decide) ?_
    refine lv_icmp_ge (tgt := 41) hx hb dX8_come_28 (by decide) (fun c5 => ?_) (fun c5 => ?_)
    · replace hf := it_t c5 hf
      exact tX8_come_41 cx hr hlk  t0 v2 g2 _ _ _ hB (lv_sub hl [0, 2] rfl) hf
    · replace hf := it_f c5 hf
      refine lv_aload_n hx hb dX8_come_31 rfl (lv_at hl 0 rfl) ?_
      obtain ⟨a6, q7, hf⟩ := bd_ok hf
      refine gf_X8_31 cx hB k4 q7 dX8_come_32 ?_
      refine lv_aload_n hx hb dX8_come_35 rfl (lv_at hl 0 rfl) ?_
      refine gf_X8_25 cx hB k4 dX8_come_36 ?_
      refine lv_iload_n hx hb dX8_come_39 rfl (lv_at hl 1 rfl) ?_
      obtain ⟨k8, hf⟩ := gk_ok hf
      obtain ⟨j9, hf⟩ := gd_ok hf
      obtain ⟨g10, eg10, hf⟩ := nm_ok hf
      refine hp_iast cx hB k8 j9 dX8_come_40 (fun H locs hB => ?_)
      rw [← eg10] at hB
      exact tX8_come_41 cx hr hlk  t0 v2 g10 _ _ _ hB (lv_sub hl [0, 2] rfl) hf
  · replace hf := it_f c3 hf
    refine lv_iload_n hx hb dX8_come_9 rfl (lv_at hl 1 rfl) ?_
    refine lv_bipush (v := 40) hx hb dX8_come_10 (by decide) ?_
    refine lv_icmp_ge (tgt := 22) hx hb dX8_come_12 (by decide) (fun c11 => ?_) (fun c11 => ?_)
    · replace hf := it_t c11 hf
      refine lv_aload_n hx hb dX8_come_22 rfl (lv_at hl 0 rfl) ?_
      have k12 : g2.1 t0 = 9 := by rw [eg2]; exact k1
      refine gf_X8_25 cx hB k12 dX8_come_23 ?_
      refine lv_bipush (v := 60) hx hb dX8_come_26 (by decide) ?_
      refine lv_icmp_ge (tgt := 41) hx hb dX8_come_28 (by decide) (fun c13 => ?_) (fun c13 => ?_)
      · replace hf := it_t c13 hf
        exact tX8_come_41 cx hr hlk  t0 v2 g2 _ _ _ hB (lv_sub hl [0, 2] rfl) hf
      · replace hf := it_f c13 hf
        refine lv_aload_n hx hb dX8_come_31 rfl (lv_at hl 0 rfl) ?_
        obtain ⟨a14, q15, hf⟩ := bd_ok hf
        refine gf_X8_31 cx hB k12 q15 dX8_come_32 ?_
        refine lv_aload_n hx hb dX8_come_35 rfl (lv_at hl 0 rfl) ?_
        refine gf_X8_25 cx hB k12 dX8_come_36 ?_
        refine lv_iload_n hx hb dX8_come_39 rfl (lv_at hl 1 rfl) ?_
        obtain ⟨k16, hf⟩ := gk_ok hf
        obtain ⟨j17, hf⟩ := gd_ok hf
        obtain ⟨g18, eg18, hf⟩ := nm_ok hf
        refine hp_iast cx hB k16 j17 dX8_come_40 (fun H locs hB => ?_)
        rw [← eg18] at hB
        exact tX8_come_41 cx hr hlk  t0 v2 g18 _ _ _ hB (lv_sub hl [0, 2] rfl) hf
    · replace hf := it_f c11 hf
      refine lv_aload_n hx hb dX8_come_15 rfl (lv_at hl 0 rfl) ?_
      have k19 : g2.1 t0 = 9 := by rw [eg2]; exact k1
      obtain ⟨a20, q21, hf⟩ := bd_ok hf
      refine gf_X8_38 cx hB k19 q21 dX8_come_16 ?_
      refine lv_iload_n hx hb dX8_come_19 rfl (lv_at hl 1 rfl) ?_
      refine lv_iconst (v := 1) hx hb dX8_come_20 (by decide) ?_
      obtain ⟨k22, hf⟩ := gk_ok hf
      obtain ⟨j23, hf⟩ := gd_ok hf
      obtain ⟨g24, eg24, hf⟩ := nm_ok hf
      refine hp_zast cx hB k22 j23 rfl dX8_come_21 (fun H locs hB => ?_)
      rw [← eg24] at hB
      refine lv_aload_n hx hb dX8_come_22 rfl (lv_at hl 0 rfl) ?_
      have k25 : g24.1 t0 = 9 := by rw [eg24]; exact k19
      refine gf_X8_25 cx hB k25 dX8_come_23 ?_
      refine lv_bipush (v := 60) hx hb dX8_come_26 (by decide) ?_
      refine lv_icmp_ge (tgt := 41) hx hb dX8_come_28 (by decide) (fun c26 => ?_) (fun c26 => ?_)
      · replace hf := it_t c26 hf
        exact tX8_come_41 cx hr hlk  t0 v2 g24 _ _ _ hB (lv_sub hl [0, 2] rfl) hf
      · replace hf := it_f c26 hf
        refine lv_aload_n hx hb dX8_come_31 rfl (lv_at hl 0 rfl) ?_
        obtain ⟨a27, q28, hf⟩ := bd_ok hf
        refine gf_X8_31 cx hB k25 q28 dX8_come_32 ?_
        refine lv_aload_n hx hb dX8_come_35 rfl (lv_at hl 0 rfl) ?_
        refine gf_X8_25 cx hB k25 dX8_come_36 ?_
        refine lv_iload_n hx hb dX8_come_39 rfl (lv_at hl 1 rfl) ?_
        obtain ⟨k29, hf⟩ := gk_ok hf
        obtain ⟨j30, hf⟩ := gd_ok hf
        obtain ⟨g31, eg31, hf⟩ := nm_ok hf
        refine hp_iast cx hB k29 j30 dX8_come_40 (fun H locs hB => ?_)
        rw [← eg31] at hB
        exact tX8_come_41 cx hr hlk  t0 v2 g31 _ _ _ hB (lv_sub hl [0, 2] rfl) hf
end
set_option maxHeartbeats 4000000 in
set_option maxRecDepth 100000 in
theorem cX8_come (l : Launch) (D : va_G) (cA : Nat → ClassId) (t0 : Nat) (v1 : Int32) (v2 : Int32) (h : Hp) (_u : Unit) (h9 : Hp) (hf : fX8_come t0 v1 v2 h = some (_u, h9)) : hp_M l yX8_come prog_10_method_6_code 3 none rmX8_come D cA h [.ref t0, .int v1, .int v2] (hp_Qv D cA h h9) := by
  refine Met.ofW (cc := prog_10_method_6_code) (maxL := 3) (ret := none) (by decide) rfl ?_
  intro p e s m args below meth c s₁ B hml hv
  obtain ⟨rfl, hU⟩ := hv
  have hts := atoms_spec (ws := Cond.code yX8_come prog_10_method_6_code 3 none :: tbG) B.pre
  have hl := lv_entry ([.ref t0, .int v1, .int v2]) (n := 3) (Nat.le_of_ble_eq_true rfl)
  rw [lg_entry_eq]
  generalize (lg_sl ([.ref t0, .int v1, .int v2]) ++ List.replicate (3 - (lg_sl ([.ref t0, .int v1, .int v2])).length) Slot.unset).toArray = ls at hl ⊢
  exact tX8_come_0 ⟨B.exec, B.bytes, hml, findClass_of_methodNamed B.named, fun w hw => hts w (List.mem_cons_of_mem _ hw)⟩ B.returns B.notSynchronized t0 v1 v2 h _ _ _ (hp_B.entry hU) hl hf
abbrev yX9_bestLine : MethodName := ⟨"SpokenMenus$Ways", "bestLine", "(LSpokenMenus$Place;I)I"⟩
theorem dX9_bestLine_0 : decode prog_11_method_4_code 0 = .ok (.aload_n 0, 1) := by decide +kernel
theorem dX9_bestLine_1 : decode prog_11_method_4_code 1 = .ok (.iload_n 2, 1) := by decide +kernel
theorem dX9_bestLine_2 : decode prog_11_method_4_code 2 = .ok (.invokevirtual 36, 3) := by decide +kernel
theorem dX9_bestLine_5 : decode prog_11_method_4_code 5 = .ok (.istore_n 3, 1) := by decide +kernel
theorem dX9_bestLine_6 : decode prog_11_method_4_code 6 = .ok (.iconst 0, 1) := by decide +kernel
theorem dX9_bestLine_7 : decode prog_11_method_4_code 7 = .ok (.istore 4, 2) := by decide +kernel
theorem dX9_bestLine_9 : decode prog_11_method_4_code 9 = .ok (.iload 4, 2) := by decide +kernel
theorem dX9_bestLine_11 : decode prog_11_method_4_code 11 = .ok (.aload_n 1, 1) := by decide +kernel
theorem dX9_bestLine_12 : decode prog_11_method_4_code 12 = .ok (.getfield 40, 3) := by decide +kernel
theorem dX9_bestLine_15 : decode prog_11_method_4_code 15 = .ok (.if_icmp .ge 32, 3) := by decide +kernel
theorem dX9_bestLine_18 : decode prog_11_method_4_code 18 = .ok (.iconst 1, 1) := by decide +kernel
theorem dX9_bestLine_19 : decode prog_11_method_4_code 19 = .ok (.aload_n 0, 1) := by decide +kernel
theorem dX9_bestLine_20 : decode prog_11_method_4_code 20 = .ok (.aload_n 1, 1) := by decide +kernel
theorem dX9_bestLine_21 : decode prog_11_method_4_code 21 = .ok (.getfield 43, 3) := by decide +kernel
theorem dX9_bestLine_24 : decode prog_11_method_4_code 24 = .ok (.iload 4, 2) := by decide +kernel
theorem dX9_bestLine_26 : decode prog_11_method_4_code 26 = .ok (.aaload, 1) := by decide +kernel
theorem dX9_bestLine_27 : decode prog_11_method_4_code 27 = .ok (.getfield 47, 3) := by decide +kernel
theorem dX9_bestLine_30 : decode prog_11_method_4_code 30 = .ok (.invokevirtual 36, 3) := by decide +kernel
theorem dX9_bestLine_33 : decode prog_11_method_4_code 33 = .ok (.iadd, 1) := by decide +kernel
theorem dX9_bestLine_34 : decode prog_11_method_4_code 34 = .ok (.iload_n 3, 1) := by decide +kernel
theorem dX9_bestLine_35 : decode prog_11_method_4_code 35 = .ok (.if_icmp .ne 6, 3) := by decide +kernel
theorem dX9_bestLine_38 : decode prog_11_method_4_code 38 = .ok (.iload 4, 2) := by decide +kernel
theorem dX9_bestLine_40 : decode prog_11_method_4_code 40 = .ok (.ireturn, 1) := by decide +kernel
theorem dX9_bestLine_41 : decode prog_11_method_4_code 41 = .ok (.iinc 4 1, 3) := by decide +kernel
theorem dX9_bestLine_44 : decode prog_11_method_4_code 44 = .ok (.goto (-35), 3) := by decide +kernel
theorem dX9_bestLine_47 : decode prog_11_method_4_code 47 = .ok (.iconst (-1), 1) := by decide +kernel
theorem dX9_bestLine_48 : decode prog_11_method_4_code 48 = .ok (.ireturn, 1) := by decide +kernel
abbrev rmX9_bestLine : Room := { frames := 1, cells := 0, slots := 0, locals := 21 }
def bX9_bestLine_9  (rc : Nat → Option Nat → Int32 → Int32 → Hp → Option (Int32 × Hp)) (t0 : Nat) (w1 : Option Nat) (v3 : Int32) (v4 : Int32) (h : Hp) : Option (Int32 × Hp) :=
  bd w1 fun a1 =>
  gk (h.1 a1) 6 <|
  if (h.2.2.1 a1 6) ≤ v4 then
  (some ((-1), h))
  else
  (bd (h.2.2.2.1 a1 5) fun a4 =>
  gk (h.1 a4) 16 <|
  gd (ix v4 (h.2.1 a4)) <|
  bd (h.2.2.2.1 a4 (Int32.toNatClampNeg v4)) fun a8 =>
  gk (h.1 a8) 4 <|
  gk (h.1 t0) 10 <|
  b2 (fX9_ticksFrom t0 (h.2.2.1 a8 3) h) fun r14 g12 =>
  if (1 + r14) = v3 then
  (some (v4, g12))
  else
  (nm (v4 + 1) fun x17 =>
  rc t0 (some a1) v3 x17 g12))
def fX9_bestLine_9  : Nat → Option Nat → Int32 → Int32 → Hp → Option (Int32 × Hp) := fx (bX9_bestLine_9 ) (fun _ _ _ _ _ => none) NF
def fX9_bestLine  (t0 : Nat) (w1 : Option Nat) (v2 : Int32) (h : Hp) : Option (Int32 × Hp) :=
  gk (h.1 t0) 10 <|
  b2 (fX9_ticksFrom t0 v2 h) fun r4 g2 =>
  fX9_bestLine_9  t0 w1 r4 0 g2
section
variable {p : Program} {l : Launch} {e : Env} {s : State} {m : MethodId} {args : Array Value} {below : List Frame} {meth : Method} {c : Code} {D : va_G} {cA : Nat → ClassId} {h0 h9 : Hp}
set_option maxHeartbeats 4000000 in
set_option maxRecDepth 100000 in
theorem tX9_bestLine_9  {r : Int32} (cx : CallFix p m c prog_11_method_4_code 5 s args tbG RX9) (hr : meth.sig.returnType = (Option.some FieldType.int)) (hlk : meth.locks = false)  (n : Nat) : ∀ (t0 : Nat) (w1 : Option Nat) (v3 : Int32) (v4 : Int32) (h : Hp) (H : Heap) (locs : List Loc) (ls : Array Slot), hp_B D cA (hp_A h0) s h H locs → lv_has ls 5 [(0, .ref t0), (1, va_rf w1), (3, .int v3), (4, .int v4)] → fx (bX9_bestLine_9 ) (fun _ _ _ _ _ => none) n t0 w1 v3 v4 h = some (r, h9) → W p l e rmX9_bestLine s m args below meth c H locs 0 0 (MQ below (hp_Qi D cA h0 h9 r) args s 0 0 (hp_A h0)) (F0 m 9 ls []) := by
  obtain ⟨hx, hb, -⟩ := id cx
  induction n with
  | zero => intro t0 w1 v3 v4 h H locs ls hB hl hf; cases hf
  | succ n ih =>
    intro t0 w1 v3 v4 h H locs ls hB hl hf
    replace hf : bX9_bestLine_9  (fx (bX9_bestLine_9 ) (fun _ _ _ _ _ => none) n) t0 w1 v3 v4 h = some (r, h9) := hf
    unfold bX9_bestLine_9 at hf
    refine lv_iload hx hb dX9_bestLine_9 (lv_at hl 3 rfl) ?_
    refine lq_aload_n hx hb dX9_bestLine_11 rfl (lv_at hl 1 rfl) ?_
    obtain ⟨a1, eo, hf⟩ := bd_ok hf
    subst eo
    obtain ⟨k2, hf⟩ := gk_ok hf
    refine gf_X9_40 cx hB k2 dX9_bestLine_12 ?_
    refine lv_icmp_ge (tgt := 47) hx hb dX9_bestLine_15 (by decide) (fun c3 => ?_) (fun c3 => ?_)
    · replace hf := it_t c3 hf
      refine lv_iconst (v := (-1)) hx hb dX9_bestLine_47 (by decide) ?_
      obtain ⟨rfl, rfl⟩ := rt_ok hf
      exact hp_iret cx hB hr hlk (Nat.le_of_ble_eq_true rfl) (Nat.le_of_ble_eq_true rfl) dX9_bestLine_48
    · replace hf := it_f c3 hf
      refine lv_iconst (v := 1) hx hb dX9_bestLine_18 (by decide) ?_
      refine lv_aload_n hx hb dX9_bestLine_19 rfl (lv_at hl 0 rfl) ?_
      refine lv_aload_n hx hb dX9_bestLine_20 rfl (lv_at hl 1 rfl) ?_
      obtain ⟨a4, q5, hf⟩ := bd_ok hf
      refine gf_X9_43 cx hB k2 q5 dX9_bestLine_21 ?_
      refine lv_iload hx hb dX9_bestLine_24 (lv_at hl 3 rfl) ?_
      obtain ⟨k6, hf⟩ := gk_ok hf
      obtain ⟨j7, hf⟩ := gd_ok hf
      obtain ⟨a8, q9, hf⟩ := bd_ok hf
      refine hp_aald cx hB 16 (.object RX3) (by decide) rfl rfl k6 j7 (o := some a8) q9.symm dX9_bestLine_26 ?_
      obtain ⟨k10, hf⟩ := gk_ok hf
      refine gf_X9_47 cx hB k10 dX9_bestLine_27 ?_
      obtain ⟨k11, hf⟩ := gk_ok hf
      obtain ⟨r14, g12, m13, hf⟩ := b2_ok hf
      refine hp_cI0 (cl_X9_36 cx hB (cX9_ticksFrom l D cA t0 (h.2.2.1 a8 3) h _ g12 m13) k11 ⟨Nat.le_of_ble_eq_true rfl, Nat.le_of_ble_eq_true rfl⟩ rfl hl.1 rfl (Nat.le_of_ble_eq_true rfl) ⟨Nat.le_of_ble_eq_true rfl, Nat.le_of_ble_eq_true rfl⟩ dX9_bestLine_30) rfl rfl hB (fun H locs hB => ?_)
      refine lv_iadd hx hb dX9_bestLine_33 ?_
      refine lv_iload_n hx hb dX9_bestLine_34 rfl (lv_at hl 2 rfl) ?_
      refine lv_icmp_ne (tgt := 41) hx hb dX9_bestLine_35 (by decide) (fun c16 => ?_) (fun c16 => ?_)
      · replace hf := it_f c16 hf
        obtain ⟨x17, ex17, hf⟩ := nm_ok hf
        refine lv_iinc (v := x17) (lv' := [(4, .int x17), (0, .ref t0), (1, .ref a1), (3, .int v3)]) hx hb dX9_bestLine_41 hl (k := 3) rfl (by rw [ex17]; rfl) (by decide) rfl (fun ls hl => ?_)
        refine lv_goto (tgt := 9) hx hb dX9_bestLine_44 (by decide) ?_
        exact ih t0 (some a1) v3 x17 g12 _ _ _ hB (lv_sub hl [1, 2, 3, 0] rfl) hf
      · replace hf := it_t c16 hf
        refine lv_iload hx hb dX9_bestLine_38 (lv_at hl 3 rfl) ?_
        obtain ⟨rfl, rfl⟩ := rt_ok hf
        exact hp_iret cx hB hr hlk (Nat.le_of_ble_eq_true rfl) (Nat.le_of_ble_eq_true rfl) dX9_bestLine_40
set_option maxHeartbeats 4000000 in
set_option maxRecDepth 100000 in
theorem tX9_bestLine_0  {r : Int32} (cx : CallFix p m c prog_11_method_4_code 5 s args tbG RX9) (hr : meth.sig.returnType = (Option.some FieldType.int)) (hlk : meth.locks = false)  (t0 : Nat) (w1 : Option Nat) (v2 : Int32) (h : Hp) (H : Heap) (locs : List Loc) (ls : Array Slot) (hB : hp_B D cA (hp_A h0) s h H locs) (hl : lv_has ls 5 [(0, .ref t0), (1, va_rf w1), (2, .int v2)]) (hf : fX9_bestLine  t0 w1 v2 h = some (r, h9)) : W p l e rmX9_bestLine s m args below meth c H locs 0 0 (MQ below (hp_Qi D cA h0 h9 r) args s 0 0 (hp_A h0)) (F0 m 0 ls []) := by
  obtain ⟨hx, hb, -⟩ := id cx
  unfold fX9_bestLine at hf
  refine lv_aload_n hx hb dX9_bestLine_0 rfl (lv_at hl 0 rfl) ?_
  refine lv_iload_n hx hb dX9_bestLine_1 rfl (lv_at hl 2 rfl) ?_
  obtain ⟨k1, hf⟩ := gk_ok hf
  obtain ⟨r4, g2, m3, hf⟩ := b2_ok hf
  refine hp_cI0 (cl_X9_36 cx hB (cX9_ticksFrom l D cA t0 v2 h _ g2 m3) k1 ⟨Nat.le_of_ble_eq_true rfl, Nat.le_of_ble_eq_true rfl⟩ rfl hl.1 rfl (Nat.le_of_ble_eq_true rfl) ⟨Nat.le_of_ble_eq_true rfl, Nat.le_of_ble_eq_true rfl⟩ dX9_bestLine_2) rfl rfl hB (fun H locs hB => ?_)
  refine lv_istore_n (lv' := [(3, .int r4), (0, .ref t0), (1, va_rf w1), (2, .int v2)]) hx hb dX9_bestLine_5 rfl hl (by decide) rfl (fun ls hl => ?_)
  refine lv_iconst (v := 0) hx hb dX9_bestLine_6 (by decide) ?_
  refine lv_istore (lv' := [(4, .int 0), (3, .int r4), (0, .ref t0), (1, va_rf w1), (2, .int v2)]) hx hb dX9_bestLine_7 hl (by decide) rfl (fun ls hl => ?_)
  exact tX9_bestLine_9 cx hr hlk  NF t0 w1 r4 0 g2 _ _ _ hB (lv_sub hl [2, 3, 1, 0] rfl) hf
end
set_option maxHeartbeats 4000000 in
set_option maxRecDepth 100000 in
theorem cX9_bestLine (l : Launch) (D : va_G) (cA : Nat → ClassId) (t0 : Nat) (w1 : Option Nat) (v2 : Int32) (h : Hp) (r : Int32) (h9 : Hp) (hf : fX9_bestLine t0 w1 v2 h = some (r, h9)) : hp_M l yX9_bestLine prog_11_method_4_code 5 (Option.some FieldType.int) rmX9_bestLine D cA h [.ref t0, va_rf w1, .int v2] (hp_Qi D cA h h9 r) := by
  refine Met.ofW (cc := prog_11_method_4_code) (maxL := 5) (ret := (Option.some FieldType.int)) (by decide) rfl ?_
  intro p e s m args below meth c s₁ B hml hv
  obtain ⟨rfl, hU⟩ := hv
  have hts := atoms_spec (ws := Cond.code yX9_bestLine prog_11_method_4_code 5 (Option.some FieldType.int) :: tbG) B.pre
  have hl := lv_entry ([.ref t0, va_rf w1, .int v2]) (n := 5) (by simp [lg_sl, va_rf_cat, cat_i, cat_r, cat_n])
  rw [show lv_args 0 ([.ref t0, va_rf w1, .int v2]) = [(0, .ref t0), (1, va_rf w1), (2, .int v2)] by simp [lv_args, va_rf_cat, cat_i, cat_r, cat_n]] at hl
  rw [lg_entry_eq]
  generalize (lg_sl ([.ref t0, va_rf w1, .int v2]) ++ List.replicate (5 - (lg_sl ([.ref t0, va_rf w1, .int v2])).length) Slot.unset).toArray = ls at hl ⊢
  exact tX9_bestLine_0 ⟨B.exec, B.bytes, hml, findClass_of_methodNamed B.named, fun w hw => hts w (List.mem_cons_of_mem _ hw)⟩ B.returns B.notSynchronized t0 w1 v2 h _ _ _ (hp_B.entry hU) hl hf
section
variable {p : Program} {l : Launch} {e : Env} {R : Room} {s : State} {m : MethodId} {args : Array Value} {below : List Frame} {meth : Method} {c : Code} {H : Heap} {locs : List Loc} {cells slots : Nat} {Q : State → Prop}
variable {cc : ByteArray} {pc nL : Nat} {ls : Array Slot} {rest : List Value} {D : va_G} {cA : Nat → ClassId} {A : Nat → Prop} {a : Nat} {h : Hp}
theorem gf_X8_19 (cx : CallFix p m c cc nL s args tbG RX8) (hB : hp_B D cA A s h H locs) (hka : h.1 a = 9) (hdg : decode cc pc = .ok (.getfield 19, 3)) (kk : W p l e R s m args below meth c H locs cells slots Q (F0 m (pc + 3) ls (.int (h.2.2.1 a 2) :: rest))) : W p l e R s m args below meth c H locs cells slots Q (F0 m pc ls (.ref a :: rest)) :=
  hp_getI cx hB (ci := 8) 2 rfl inX8 (by decide) rfl (by decide) rfl qw_165 hka hdg kk
theorem gf_X8_159 (cx : CallFix p m c cc nL s args tbG RX8) (hB : hp_B D cA A s h H locs) (hka : h.1 a = 1) (hdg : decode cc pc = .ok (.getfield 159, 3)) (kk : W p l e R s m args below meth c H locs cells slots Q (F0 m (pc + 3) ls (.int (h.2.2.1 a 2) :: rest))) : W p l e R s m args below meth c H locs cells slots Q (F0 m pc ls (.ref a :: rest)) :=
  hp_getI cx hB (ci := 0) 2 rfl inX0 (by decide) rfl (by decide) rfl qw_429 hka hdg kk
end
abbrev yX8_spend : MethodName := ⟨"SpokenMenus$Walk", "spend", "(ILSpokenMenus$Caller;)V"⟩
theorem dX8_spend_0 : decode prog_10_method_9_code 0 = .ok (.aload_n 0, 1) := by decide +kernel
theorem dX8_spend_1 : decode prog_10_method_9_code 1 = .ok (.dup, 1) := by decide +kernel
theorem dX8_spend_2 : decode prog_10_method_9_code 2 = .ok (.getfield 19, 3) := by decide +kernel
theorem dX8_spend_5 : decode prog_10_method_9_code 5 = .ok (.iload_n 1, 1) := by decide +kernel
theorem dX8_spend_6 : decode prog_10_method_9_code 6 = .ok (.iadd, 1) := by decide +kernel
theorem dX8_spend_7 : decode prog_10_method_9_code 7 = .ok (.putfield 19, 3) := by decide +kernel
theorem dX8_spend_10 : decode prog_10_method_9_code 10 = .ok (.aload_n 0, 1) := by decide +kernel
theorem dX8_spend_11 : decode prog_10_method_9_code 11 = .ok (.getfield 19, 3) := by decide +kernel
theorem dX8_spend_14 : decode prog_10_method_9_code 14 = .ok (.aload_n 2, 1) := by decide +kernel
theorem dX8_spend_15 : decode prog_10_method_9_code 15 = .ok (.getfield 159, 3) := by decide +kernel
theorem dX8_spend_18 : decode prog_10_method_9_code 18 = .ok (.if_icmp .le 16, 3) := by decide +kernel
theorem dX8_spend_21 : decode prog_10_method_9_code 21 = .ok (.aload_n 0, 1) := by decide +kernel
theorem dX8_spend_22 : decode prog_10_method_9_code 22 = .ok (.aload_n 2, 1) := by decide +kernel
theorem dX8_spend_23 : decode prog_10_method_9_code 23 = .ok (.getfield 159, 3) := by decide +kernel
theorem dX8_spend_26 : decode prog_10_method_9_code 26 = .ok (.putfield 19, 3) := by decide +kernel
theorem dX8_spend_29 : decode prog_10_method_9_code 29 = .ok (.aload_n 0, 1) := by decide +kernel
theorem dX8_spend_30 : decode prog_10_method_9_code 30 = .ok (.iconst 2, 1) := by decide +kernel
theorem dX8_spend_31 : decode prog_10_method_9_code 31 = .ok (.putfield 15, 3) := by decide +kernel
theorem dX8_spend_34 : decode prog_10_method_9_code 34 = .ok (.return_, 1) := by decide +kernel
abbrev rmX8_spend : Room := { frames := 0, cells := 0, slots := 0, locals := 0 }
def fX8_spend  (t0 : Nat) (v1 : Int32) (w2 : Option Nat) (h : Hp) : Option (Unit × Hp) :=
  gk (h.1 t0) 9 <|
  nm (hp_si h t0 2 ((h.2.2.1 t0 2) + v1)) fun g2 =>
  bd w2 fun a4 =>
  gk (g2.1 a4) 1 <|
  if (g2.2.2.1 t0 2) ≤ (g2.2.2.1 a4 2) then
  (some ((), g2))
  else
  (nm (hp_si g2 t0 2 (g2.2.2.1 a4 2)) fun g7 =>
  nm (hp_si g7 t0 1 2) fun g9 =>
  some ((), g9))
section
variable {p : Program} {l : Launch} {e : Env} {s : State} {m : MethodId} {args : Array Value} {below : List Frame} {meth : Method} {c : Code} {D : va_G} {cA : Nat → ClassId} {h0 h9 : Hp}
set_option maxHeartbeats 4000000 in
set_option maxRecDepth 100000 in
theorem tX8_spend_0  (cx : CallFix p m c prog_10_method_9_code 3 s args tbG RX8) (hr : meth.sig.returnType = none) (hlk : meth.locks = false)  (t0 : Nat) (v1 : Int32) (w2 : Option Nat) (h : Hp) (H : Heap) (locs : List Loc) (ls : Array Slot) (hB : hp_B D cA (hp_A h0) s h H locs) (hl : lv_has ls 3 [(0, .ref t0), (1, .int v1), (2, va_rf w2)]) (hf : fX8_spend  t0 v1 w2 h = some ((), h9)) : W p l e rmX8_spend s m args below meth c H locs 0 0 (MQ below (hp_Qv D cA h0 h9) args s 0 0 (hp_A h0)) (F0 m 0 ls []) := by
  obtain ⟨hx, hb, -⟩ := id cx
  unfold fX8_spend at hf
  refine lv_aload_n hx hb dX8_spend_0 rfl (lv_at hl 0 rfl) ?_
  refine lv_dup hx hb dX8_spend_1 rfl ?_
  obtain ⟨k1, hf⟩ := gk_ok hf
  refine gf_X8_19 cx hB k1 dX8_spend_2 ?_
  refine lv_iload_n hx hb dX8_spend_5 rfl (lv_at hl 1 rfl) ?_
  refine lv_iadd hx hb dX8_spend_6 ?_
  obtain ⟨g2, eg2, hf⟩ := nm_ok hf
  refine pf_X8_19 cx hB k1 dX8_spend_7 (fun H locs hB => ?_)
  rw [← eg2] at hB
  refine lv_aload_n hx hb dX8_spend_10 rfl (lv_at hl 0 rfl) ?_
  have k3 : g2.1 t0 = 9 := by rw [eg2]; exact k1
  refine gf_X8_19 cx hB k3 dX8_spend_11 ?_
  refine lq_aload_n hx hb dX8_spend_14 rfl (lv_at hl 2 rfl) ?_
  obtain ⟨a4, eo, hf⟩ := bd_ok hf
  subst eo
  obtain ⟨k5, hf⟩ := gk_ok hf
  refine gf_X8_159 cx hB k5 dX8_spend_15 ?_
  refine lv_icmp_le (tgt := 34) hx hb dX8_spend_18 (by decide) (fun c6 => ?_) (fun c6 => ?_)
  · replace hf := it_t c6 hf
    obtain ⟨-, rfl⟩ := rt_ok hf
    exact hp_vret cx hB hr hlk (Nat.le_of_ble_eq_true rfl) (Nat.le_of_ble_eq_true rfl) dX8_spend_34
  · replace hf := it_f c6 hf
    refine lv_aload_n hx hb dX8_spend_21 rfl (lv_at hl 0 rfl) ?_
    refine lv_aload_n hx hb dX8_spend_22 rfl (lv_at hl 2 rfl) ?_
    refine gf_X8_159 cx hB k5 dX8_spend_23 ?_
    obtain ⟨g7, eg7, hf⟩ := nm_ok hf
    refine pf_X8_19 cx hB k3 dX8_spend_26 (fun H locs hB => ?_)
    rw [← eg7] at hB
    refine lv_aload_n hx hb dX8_spend_29 rfl (lv_at hl 0 rfl) ?_
    refine lv_iconst (v := 2) hx hb dX8_spend_30 (by decide) ?_
    have k8 : g7.1 t0 = 9 := by rw [eg7]; exact k3
    obtain ⟨g9, eg9, hf⟩ := nm_ok hf
    refine pf_X8_15 cx hB k8 dX8_spend_31 (fun H locs hB => ?_)
    rw [← eg9] at hB
    obtain ⟨-, rfl⟩ := rt_ok hf
    exact hp_vret cx hB hr hlk (Nat.le_of_ble_eq_true rfl) (Nat.le_of_ble_eq_true rfl) dX8_spend_34
end
set_option maxHeartbeats 4000000 in
set_option maxRecDepth 100000 in
theorem cX8_spend (l : Launch) (D : va_G) (cA : Nat → ClassId) (t0 : Nat) (v1 : Int32) (w2 : Option Nat) (h : Hp) (_u : Unit) (h9 : Hp) (hf : fX8_spend t0 v1 w2 h = some (_u, h9)) : hp_M l yX8_spend prog_10_method_9_code 3 none rmX8_spend D cA h [.ref t0, .int v1, va_rf w2] (hp_Qv D cA h h9) := by
  refine Met.ofW (cc := prog_10_method_9_code) (maxL := 3) (ret := none) (by decide) rfl ?_
  intro p e s m args below meth c s₁ B hml hv
  obtain ⟨rfl, hU⟩ := hv
  have hts := atoms_spec (ws := Cond.code yX8_spend prog_10_method_9_code 3 none :: tbG) B.pre
  have hl := lv_entry ([.ref t0, .int v1, va_rf w2]) (n := 3) (by simp [lg_sl, va_rf_cat, cat_i, cat_r, cat_n])
  rw [show lv_args 0 ([.ref t0, .int v1, va_rf w2]) = [(0, .ref t0), (1, .int v1), (2, va_rf w2)] by simp [lv_args, va_rf_cat, cat_i, cat_r, cat_n]] at hl
  rw [lg_entry_eq]
  generalize (lg_sl ([.ref t0, .int v1, va_rf w2]) ++ List.replicate (3 - (lg_sl ([.ref t0, .int v1, va_rf w2])).length) Slot.unset).toArray = ls at hl ⊢
  exact tX8_spend_0 ⟨B.exec, B.bytes, hml, findClass_of_methodNamed B.named, fun w hw => hts w (List.mem_cons_of_mem _ hw)⟩ B.returns B.notSynchronized t0 v1 w2 h _ _ _ (hp_B.entry hU) hl hf
section
variable {p : Program} {l : Launch} {e : Env} {R : Room} {s : State} {m : MethodId} {args : Array Value} {below : List Frame} {meth : Method} {c : Code} {H : Heap} {locs : List Loc} {cells slots : Nat} {Q : State → Prop}
variable {cc : ByteArray} {pc nL : Nat} {ls : Array Slot} {rest : List Value} {D : va_G} {cA : Nat → ClassId} {A : Nat → Prop} {a : Nat} {h : Hp}
theorem gf_X8_15 (cx : CallFix p m c cc nL s args tbG RX8) (hB : hp_B D cA A s h H locs) (hka : h.1 a = 9) (hdg : decode cc pc = .ok (.getfield 15, 3)) (kk : W p l e R s m args below meth c H locs cells slots Q (F0 m (pc + 3) ls (.int (h.2.2.1 a 1) :: rest))) : W p l e R s m args below meth c H locs cells slots Q (F0 m pc ls (.ref a :: rest)) :=
  hp_getI cx hB (ci := 8) 1 rfl inX8 (by decide) rfl (by decide) rfl qw_163 hka hdg kk
theorem gf_X8_28 (cx : CallFix p m c cc nL s args tbG RX8) (hB : hp_B D cA A s h H locs) (hka : h.1 a = 9) (hdg : decode cc pc = .ok (.getfield 28, 3)) (kk : W p l e R s m args below meth c H locs cells slots Q (F0 m (pc + 3) ls (.int (h.2.2.1 a 5) :: rest))) : W p l e R s m args below meth c H locs cells slots Q (F0 m pc ls (.ref a :: rest)) :=
  hp_getI cx hB (ci := 8) 5 rfl inX8 (by decide) rfl (by decide) rfl qw_171 hka hdg kk
theorem gf_X8_35 (cx : CallFix p m c cc nL s args tbG RX8) (hB : hp_B D cA A s h H locs) (hka : h.1 a = 9) {b : Nat} (ho : h.2.2.2.1 a 7 = some b) (hdg : decode cc pc = .ok (.getfield 35, 3)) (kk : W p l e R s m args below meth c H locs cells slots Q (F0 m (pc + 3) ls (.ref b :: rest))) : W p l e R s m args below meth c H locs cells slots Q (F0 m pc ls (.ref a :: rest)) :=
  hp_getR cx hB (ci := 8) 7 rfl inX8 (by decide) rfl (by decide) rfl qw_175 hka (o := some b) ho.symm hdg kk
theorem cl_X8_95 {As st0 : List Value} {b : Nat} {Qc : Array Value → State → Outcome → State → Prop} (cx : CallFix p m c cc nL s args tbG RX8) (hB : hp_B D cA A s h H locs) (hM : hp_M l yX8_spend prog_10_method_9_code 3 none rmX8_spend D cA h (.ref b :: As) Qc) (hkb : h.1 b = 9) (hR : rmX8_spend.frames + 1 ≤ R.frames ∧ 8 + (3 + 11) + rmX8_spend.locals ≤ R.locals) (hn : As.length = 2) (hls : ls.size = nL) (hst : st0 = As.reverse ++ .ref b :: rest) (hW : (rest.map fun v => v.category).sum ≤ 8) (hf : cells + rmX8_spend.cells ≤ R.cells ∧ slots + rmX8_spend.slots ≤ R.slots) (hdg : decode cc pc = .ok (.invokevirtual 95, 3)) :
    va_Run p l e R s m args below meth c H locs cells slots rmX8_spend.cells rmX8_spend.slots (F0 m pc ls st0) rest (Qc (Value.ref b :: As).toArray) (hp_A h) :=
  hp_runV cx hB hM (ci := 8) rfl (by decide) hkb qw_542 qw_539 qw_541 qp_6 qw_9 (by decide +kernel) hR hn hls hst hW hf hdg
end
abbrev yX8_press : MethodName := ⟨"SpokenMenus$Walk", "press", "(ILSpokenMenus$Caller;)V"⟩
theorem dX8_press_0 : decode prog_10_method_10_code 0 = .ok (.aload_n 0, 1) := by decide +kernel
theorem dX8_press_1 : decode prog_10_method_10_code 1 = .ok (.getfield 15, 3) := by decide +kernel
theorem dX8_press_4 : decode prog_10_method_10_code 4 = .ok (.iconst (-1), 1) := by decide +kernel
theorem dX8_press_5 : decode prog_10_method_10_code 5 = .ok (.if_icmp .eq 4, 3) := by decide +kernel
theorem dX8_press_8 : decode prog_10_method_10_code 8 = .ok (.return_, 1) := by decide +kernel
theorem dX8_press_9 : decode prog_10_method_10_code 9 = .ok (.aload_n 0, 1) := by decide +kernel
theorem dX8_press_10 : decode prog_10_method_10_code 10 = .ok (.getfield 28, 3) := by decide +kernel
theorem dX8_press_13 : decode prog_10_method_10_code 13 = .ok (.bipush 60, 2) := by decide +kernel
theorem dX8_press_15 : decode prog_10_method_10_code 15 = .ok (.if_icmp .ge 13, 3) := by decide +kernel
theorem dX8_press_18 : decode prog_10_method_10_code 18 = .ok (.aload_n 0, 1) := by decide +kernel
theorem dX8_press_19 : decode prog_10_method_10_code 19 = .ok (.getfield 35, 3) := by decide +kernel
theorem dX8_press_22 : decode prog_10_method_10_code 22 = .ok (.aload_n 0, 1) := by decide +kernel
theorem dX8_press_23 : decode prog_10_method_10_code 23 = .ok (.getfield 28, 3) := by decide +kernel
theorem dX8_press_26 : decode prog_10_method_10_code 26 = .ok (.iload_n 1, 1) := by decide +kernel
theorem dX8_press_27 : decode prog_10_method_10_code 27 = .ok (.iastore, 1) := by decide +kernel
theorem dX8_press_28 : decode prog_10_method_10_code 28 = .ok (.aload_n 0, 1) := by decide +kernel
theorem dX8_press_29 : decode prog_10_method_10_code 29 = .ok (.dup, 1) := by decide +kernel
theorem dX8_press_30 : decode prog_10_method_10_code 30 = .ok (.getfield 28, 3) := by decide +kernel
theorem dX8_press_33 : decode prog_10_method_10_code 33 = .ok (.iconst 1, 1) := by decide +kernel
theorem dX8_press_34 : decode prog_10_method_10_code 34 = .ok (.iadd, 1) := by decide +kernel
theorem dX8_press_35 : decode prog_10_method_10_code 35 = .ok (.putfield 28, 3) := by decide +kernel
theorem dX8_press_38 : decode prog_10_method_10_code 38 = .ok (.aload_n 0, 1) := by decide +kernel
theorem dX8_press_39 : decode prog_10_method_10_code 39 = .ok (.iconst 1, 1) := by decide +kernel
theorem dX8_press_40 : decode prog_10_method_10_code 40 = .ok (.aload_n 2, 1) := by decide +kernel
theorem dX8_press_41 : decode prog_10_method_10_code 41 = .ok (.invokevirtual 95, 3) := by decide +kernel
theorem dX8_press_44 : decode prog_10_method_10_code 44 = .ok (.return_, 1) := by decide +kernel
abbrev rmX8_press : Room := { frames := 1, cells := 0, slots := 0, locals := 22 }
def fX8_press_28  (t0 : Nat) (w2 : Option Nat) (h : Hp) : Option (Unit × Hp) :=
  gk (h.1 t0) 9 <|
  nm (hp_si h t0 5 ((h.2.2.1 t0 5) + 1)) fun g2 =>
  b2 (fX8_spend t0 1 w2 g2) fun _ g4 =>
  some ((), g4)
def fX8_press  (t0 : Nat) (v1 : Int32) (w2 : Option Nat) (h : Hp) : Option (Unit × Hp) :=
  gk (h.1 t0) 9 <|
  if (h.2.2.1 t0 1) = (-1) then
  (if 60 ≤ (h.2.2.1 t0 5) then
  (fX8_press_28  t0 w2 h)
  else
  (bd (h.2.2.2.1 t0 7) fun a4 =>
  gk (h.1 a4) 13 <|
  gd (ix (h.2.2.1 t0 5) (h.2.1 a4)) <|
  nm (hp_si h a4 (Int32.toNatClampNeg (h.2.2.1 t0 5)) v1) fun g8 =>
  fX8_press_28  t0 w2 g8))
  else
  (some ((), h))
section
variable {p : Program} {l : Launch} {e : Env} {s : State} {m : MethodId} {args : Array Value} {below : List Frame} {meth : Method} {c : Code} {D : va_G} {cA : Nat → ClassId} {h0 h9 : Hp}
set_option maxHeartbeats 4000000 in
set_option maxRecDepth 100000 in
theorem tX8_press_28  (cx : CallFix p m c prog_10_method_10_code 3 s args tbG RX8) (hr : meth.sig.returnType = none) (hlk : meth.locks = false)  (t0 : Nat) (w2 : Option Nat) (h : Hp) (H : Heap) (locs : List Loc) (ls : Array Slot) (hB : hp_B D cA (hp_A h0) s h H locs) (hl : lv_has ls 3 [(0, .ref t0), (2, va_rf w2)]) (hf : fX8_press_28  t0 w2 h = some ((), h9)) : W p l e rmX8_press s m args below meth c H locs 0 0 (MQ below (hp_Qv D cA h0 h9) args s 0 0 (hp_A h0)) (F0 m 28 ls []) := by
  obtain ⟨hx, hb, -⟩ := id cx
  unfold fX8_press_28 at hf
  refine lv_aload_n hx hb dX8_press_28 rfl (lv_at hl 0 rfl) ?_
  refine lv_dup hx hb dX8_press_29 rfl ?_
  obtain ⟨k1, hf⟩ := gk_ok hf
  refine gf_X8_28 cx hB k1 dX8_press_30 ?_
  refine lv_iconst (v := 1) hx hb dX8_press_33 (by decide) ?_
  refine lv_iadd hx hb dX8_press_34 ?_
  obtain ⟨g2, eg2, hf⟩ := nm_ok hf
  refine pf_X8_28 cx hB k1 dX8_press_35 (fun H locs hB => ?_)
  rw [← eg2] at hB
  refine lv_aload_n hx hb dX8_press_38 rfl (lv_at hl 0 rfl) ?_
  refine lv_iconst (v := 1) hx hb dX8_press_39 (by decide) ?_
  refine lq_aload_n hx hb dX8_press_40 rfl (lv_at hl 1 rfl) ?_
  have k3 : g2.1 t0 = 9 := by rw [eg2]; exact k1
  obtain ⟨uu, g4, m5, hf⟩ := b2_ok hf
  refine hp_cV0 (cl_X8_95 cx hB (cX8_spend l D cA t0 1 w2 g2 _ g4 m5) k3 ⟨Nat.le_of_ble_eq_true rfl, Nat.le_of_ble_eq_true rfl⟩ rfl hl.1 rfl (Nat.le_of_ble_eq_true rfl) ⟨Nat.le_of_ble_eq_true rfl, Nat.le_of_ble_eq_true rfl⟩ dX8_press_41) rfl rfl hB (fun H locs hB => ?_)
  obtain ⟨-, rfl⟩ := rt_ok hf
  exact hp_vret cx hB hr hlk (Nat.le_of_ble_eq_true rfl) (Nat.le_of_ble_eq_true rfl) dX8_press_44
set_option maxHeartbeats 4000000 in
set_option maxRecDepth 100000 in
theorem tX8_press_0  (cx : CallFix p m c prog_10_method_10_code 3 s args tbG RX8) (hr : meth.sig.returnType = none) (hlk : meth.locks = false)  (t0 : Nat) (v1 : Int32) (w2 : Option Nat) (h : Hp) (H : Heap) (locs : List Loc) (ls : Array Slot) (hB : hp_B D cA (hp_A h0) s h H locs) (hl : lv_has ls 3 [(0, .ref t0), (1, .int v1), (2, va_rf w2)]) (hf : fX8_press  t0 v1 w2 h = some ((), h9)) : W p l e rmX8_press s m args below meth c H locs 0 0 (MQ below (hp_Qv D cA h0 h9) args s 0 0 (hp_A h0)) (F0 m 0 ls []) := by
  obtain ⟨hx, hb, -⟩ := id cx
  unfold fX8_press at hf
  refine lv_aload_n hx hb dX8_press_0 rfl (lv_at hl 0 rfl) ?_
  obtain ⟨k1, hf⟩ := gk_ok hf
  refine gf_X8_15 cx hB k1 dX8_press_1 ?_
  refine lv_iconst (v := (-1)) hx hb dX8_press_4 (by decide) ?_
  refine lv_icmp_eq (tgt := 9) hx hb dX8_press_5 (by decide) (fun c2 => ?_) (fun c2 => ?_)
  · replace hf := it_t c2 hf
    refine lv_aload_n hx hb dX8_press_9 rfl (lv_at hl 0 rfl) ?_
    refine gf_X8_28 cx hB k1 dX8_press_10 ?_
    refine lv_bipush (v := 60) hx hb dX8_press_13 (by decide) ?_
    refine lv_icmp_ge (tgt := 28) hx hb dX8_press_15 (by decide) (fun c3 => ?_) (fun c3 => ?_)
    · replace hf := it_t c3 hf
      exact tX8_press_28 cx hr hlk  t0 w2 h _ _ _ hB (lv_sub hl [0, 2] rfl) hf
    · replace hf := it_f c3 hf
      refine lv_aload_n hx hb dX8_press_18 rfl (lv_at hl 0 rfl) ?_
      obtain ⟨a4, q5, hf⟩ := bd_ok hf
      refine gf_X8_35 cx hB k1 q5 dX8_press_19 ?_
      refine lv_aload_n hx hb dX8_press_22 rfl (lv_at hl 0 rfl) ?_
      refine gf_X8_28 cx hB k1 dX8_press_23 ?_
      refine lv_iload_n hx hb dX8_press_26 rfl (lv_at hl 1 rfl) ?_
      obtain ⟨k6, hf⟩ := gk_ok hf
      obtain ⟨j7, hf⟩ := gd_ok hf
      obtain ⟨g8, eg8, hf⟩ := nm_ok hf
      refine hp_iast cx hB k6 j7 dX8_press_27 (fun H locs hB => ?_)
      rw [← eg8] at hB
      exact tX8_press_28 cx hr hlk  t0 w2 g8 _ _ _ hB (lv_sub hl [0, 2] rfl) hf
  · replace hf := it_f c2 hf
    obtain ⟨-, rfl⟩ := rt_ok hf
    exact hp_vret cx hB hr hlk (Nat.le_of_ble_eq_true rfl) (Nat.le_of_ble_eq_true rfl) dX8_press_8
end
set_option maxHeartbeats 4000000 in
set_option maxRecDepth 100000 in
theorem cX8_press (l : Launch) (D : va_G) (cA : Nat → ClassId) (t0 : Nat) (v1 : Int32) (w2 : Option Nat) (h : Hp) (_u : Unit) (h9 : Hp) (hf : fX8_press t0 v1 w2 h = some (_u, h9)) : hp_M l yX8_press prog_10_method_10_code 3 none rmX8_press D cA h [.ref t0, .int v1, va_rf w2] (hp_Qv D cA h h9) := by
  refine Met.ofW (cc := prog_10_method_10_code) (maxL := 3) (ret := none) (by decide) rfl ?_
  intro p e s m args below meth c s₁ B hml hv
  obtain ⟨rfl, hU⟩ := hv
  have hts := atoms_spec (ws := Cond.code yX8_press prog_10_method_10_code 3 none :: tbG) B.pre
  have hl := lv_entry ([.ref t0, .int v1, va_rf w2]) (n := 3) (by simp [lg_sl, va_rf_cat, cat_i, cat_r, cat_n])
  rw [show lv_args 0 ([.ref t0, .int v1, va_rf w2]) = [(0, .ref t0), (1, .int v1), (2, va_rf w2)] by simp [lv_args, va_rf_cat, cat_i, cat_r, cat_n]] at hl
  rw [lg_entry_eq]
  generalize (lg_sl ([.ref t0, .int v1, va_rf w2]) ++ List.replicate (3 - (lg_sl ([.ref t0, .int v1, va_rf w2])).length) Slot.unset).toArray = ls at hl ⊢
  exact tX8_press_0 ⟨B.exec, B.bytes, hml, findClass_of_methodNamed B.named, fun w hw => hts w (List.mem_cons_of_mem _ hw)⟩ B.returns B.notSynchronized t0 v1 w2 h _ _ _ (hp_B.entry hU) hl hf
section
variable {p : Program} {l : Launch} {e : Env} {R : Room} {s : State} {m : MethodId} {args : Array Value} {below : List Frame} {meth : Method} {c : Code} {H : Heap} {locs : List Loc} {cells slots : Nat} {Q : State → Prop}
variable {cc : ByteArray} {pc nL : Nat} {ls : Array Slot} {rest : List Value} {D : va_G} {cA : Nat → ClassId} {A : Nat → Prop} {a : Nat} {h : Hp}
theorem gf_X8_99 (cx : CallFix p m c cc nL s args tbG RX8) (hB : hp_B D cA A s h H locs) (hka : h.1 a = 1) (hdg : decode cc pc = .ok (.getfield 99, 3)) (kk : W p l e R s m args below meth c H locs cells slots Q (F0 m (pc + 3) ls (.int (h.2.2.1 a 0) :: rest))) : W p l e R s m args below meth c H locs cells slots Q (F0 m pc ls (.ref a :: rest)) :=
  hp_getI cx hB (ci := 0) 0 rfl inX0 (by decide) rfl (by decide) rfl qw_423 hka hdg kk
theorem cl_X8_133 {As st0 : List Value} {b : Nat} {Qc : Array Value → State → Outcome → State → Prop} (cx : CallFix p m c cc nL s args tbG RX8) (hB : hp_B D cA A s h H locs) (hM : hp_M l yX5_firstLineFor prog_7_method_4_code 3 (Option.some FieldType.int) rmX5_firstLineFor D cA h (.ref b :: As) Qc) (hkb : h.1 b = 6) (hR : rmX5_firstLineFor.frames + 1 ≤ R.frames ∧ 8 + (3 + 11) + rmX5_firstLineFor.locals ≤ R.locals) (hn : As.length = 1) (hls : ls.size = nL) (hst : st0 = As.reverse ++ .ref b :: rest) (hW : (rest.map fun v => v.category).sum ≤ 8) (hf : cells + rmX5_firstLineFor.cells ≤ R.cells ∧ slots + rmX5_firstLineFor.slots ≤ R.slots) (hdg : decode cc pc = .ok (.invokevirtual 133, 3)) :
    va_Run p l e R s m args below meth c H locs cells slots rmX5_firstLineFor.cells rmX5_firstLineFor.slots (F0 m pc ls st0) rest (Qc (Value.ref b :: As).toArray) (hp_A h) :=
  hp_runV cx hB hM (ci := 5) rfl (by decide) hkb qw_533 qw_530 qw_531 qw_532 qw_11 (by decide +kernel) hR hn hls hst hW hf hdg
theorem gf_X8_22 (cx : CallFix p m c cc nL s args tbG RX8) (hB : hp_B D cA A s h H locs) (hka : h.1 a = 9) (hdg : decode cc pc = .ok (.getfield 22, 3)) (kk : W p l e R s m args below meth c H locs cells slots Q (F0 m (pc + 3) ls (.int (h.2.2.1 a 3) :: rest))) : W p l e R s m args below meth c H locs cells slots Q (F0 m pc ls (.ref a :: rest)) :=
  hp_getI cx hB (ci := 8) 3 rfl inX8 (by decide) rfl (by decide) rfl qw_167 hka hdg kk
theorem cl_X8_129 {As st0 : List Value} {b : Nat} {Qc : Array Value → State → Outcome → State → Prop} (cx : CallFix p m c cc nL s args tbG RX8) (hB : hp_B D cA A s h H locs) (hM : hp_M l yX9_bestLine prog_11_method_4_code 5 (Option.some FieldType.int) rmX9_bestLine D cA h (.ref b :: As) Qc) (hkb : h.1 b = 10) (hR : rmX9_bestLine.frames + 1 ≤ R.frames ∧ 8 + (5 + 11) + rmX9_bestLine.locals ≤ R.locals) (hn : As.length = 2) (hls : ls.size = nL) (hst : st0 = As.reverse ++ .ref b :: rest) (hW : (rest.map fun v => v.category).sum ≤ 8) (hf : cells + rmX9_bestLine.cells ≤ R.cells ∧ slots + rmX9_bestLine.slots ≤ R.slots) (hdg : decode cc pc = .ok (.invokevirtual 129, 3)) :
    va_Run p l e R s m args below meth c H locs cells slots rmX9_bestLine.cells rmX9_bestLine.slots (F0 m pc ls st0) rest (Qc (Value.ref b :: As).toArray) (hp_A h) :=
  hp_runV cx hB hM (ci := 9) rfl (by decide) hkb qw_529 qw_526 qw_527 qw_528 qw_3 (by decide +kernel) hR hn hls hst hW hf hdg
theorem gf_X8_136 (cx : CallFix p m c cc nL s args tbG RX8) (hB : hp_B D cA A s h H locs) (hka : h.1 a = 6) (hdg : decode cc pc = .ok (.getfield 136, 3)) (kk : W p l e R s m args below meth c H locs cells slots Q (F0 m (pc + 3) ls (.int (h.2.2.1 a 6) :: rest))) : W p l e R s m args below meth c H locs cells slots Q (F0 m pc ls (.ref a :: rest)) :=
  hp_getI cx hB (ci := 5) 6 rfl inX5 (by decide) rfl (by decide) rfl qw_275 hka hdg kk
theorem cl_X8_143 {As st0 : List Value} {b : Nat} {Qc : Array Value → State → Outcome → State → Prop} (cx : CallFix p m c cc nL s args tbG RX8) (hB : hp_B D cA A s h H locs) (hM : hp_M l yX5_ticksOfLines prog_7_method_5_code 4 (Option.some FieldType.int) rmX5_ticksOfLines D cA h (.ref b :: As) Qc) (hkb : h.1 b = 6) (hR : rmX5_ticksOfLines.frames + 1 ≤ R.frames ∧ 8 + (4 + 11) + rmX5_ticksOfLines.locals ≤ R.locals) (hn : As.length = 1) (hls : ls.size = nL) (hst : st0 = As.reverse ++ .ref b :: rest) (hW : (rest.map fun v => v.category).sum ≤ 8) (hf : cells + rmX5_ticksOfLines.cells ≤ R.cells ∧ slots + rmX5_ticksOfLines.slots ≤ R.slots) (hdg : decode cc pc = .ok (.invokevirtual 143, 3)) :
    va_Run p l e R s m args below meth c H locs cells slots rmX5_ticksOfLines.cells rmX5_ticksOfLines.slots (F0 m pc ls st0) rest (Qc (Value.ref b :: As).toArray) (hp_A h) :=
  hp_runV cx hB hM (ci := 5) rfl (by decide) hkb qw_472 qw_543 qw_470 qw_471 qw_11 (by decide +kernel) hR hn hls hst hW hf hdg
theorem cl_X8_139 {As st0 : List Value} {b : Nat} {Qc : Array Value → State → Outcome → State → Prop} (cx : CallFix p m c cc nL s args tbG RX8) (hB : hp_B D cA A s h H locs) (hM : hp_M l yX5_ticksOfHearingAll prog_7_method_6_code 1 (Option.some FieldType.int) rmX5_ticksOfHearingAll D cA h (.ref b :: As) Qc) (hkb : h.1 b = 6) (hR : rmX5_ticksOfHearingAll.frames + 1 ≤ R.frames ∧ 8 + (1 + 11) + rmX5_ticksOfHearingAll.locals ≤ R.locals) (hn : As.length = 0) (hls : ls.size = nL) (hst : st0 = As.reverse ++ .ref b :: rest) (hW : (rest.map fun v => v.category).sum ≤ 8) (hf : cells + rmX5_ticksOfHearingAll.cells ≤ R.cells ∧ slots + rmX5_ticksOfHearingAll.slots ≤ R.slots) (hdg : decode cc pc = .ok (.invokevirtual 139, 3)) :
    va_Run p l e R s m args below meth c H locs cells slots rmX5_ticksOfHearingAll.cells rmX5_ticksOfHearingAll.slots (F0 m pc ls st0) rest (Qc (Value.ref b :: As).toArray) (hp_A h) :=
  hp_runV cx hB hM (ci := 5) rfl (by decide) hkb qw_468 qw_538 qw_466 qw_467 qw_11 (by decide +kernel) hR hn hls hst hW hf hdg
theorem gf_X8_110 (cx : CallFix p m c cc nL s args tbG RX8) (hB : hp_B D cA A s h H locs) (hka : h.1 a = 6) (hdg : decode cc pc = .ok (.getfield 110, 3)) (kk : W p l e R s m args below meth c H locs cells slots Q (F0 m (pc + 3) ls (.int (h.2.2.1 a 3) :: rest))) : W p l e R s m args below meth c H locs cells slots Q (F0 m pc ls (.ref a :: rest)) :=
  hp_getI cx hB (ci := 5) 3 rfl inX5 (by decide) rfl (by decide) rfl qw_260 hka hdg kk
theorem gf_X8_146 (cx : CallFix p m c cc nL s args tbG RX8) (hB : hp_B D cA A s h H locs) (hka : h.1 a = 6) {b : Nat} (ho : h.2.2.2.1 a 5 = some b) (hdg : decode cc pc = .ok (.getfield 146, 3)) (kk : W p l e R s m args below meth c H locs cells slots Q (F0 m (pc + 3) ls (.ref b :: rest))) : W p l e R s m args below meth c H locs cells slots Q (F0 m pc ls (.ref a :: rest)) :=
  hp_getR cx hB (ci := 5) 5 rfl inX5 (by decide) rfl (by decide) rfl qw_268 hka (o := some b) ho.symm hdg kk
theorem gf_X8_150 (cx : CallFix p m c cc nL s args tbG RX8) (hB : hp_B D cA A s h H locs) (hka : h.1 a = 4) (hdg : decode cc pc = .ok (.getfield 150, 3)) (kk : W p l e R s m args below meth c H locs cells slots Q (F0 m (pc + 3) ls (.int (h.2.2.1 a 1) :: rest))) : W p l e R s m args below meth c H locs cells slots Q (F0 m pc ls (.ref a :: rest)) :=
  hp_getI cx hB (ci := 3) 1 rfl inX3 (by decide) rfl (by decide) rfl qw_341 hka hdg kk
theorem cl_X8_155 {As st0 : List Value} {b : Nat} {Qc : Array Value → State → Outcome → State → Prop} (cx : CallFix p m c cc nL s args tbG RX8) (hB : hp_B D cA A s h H locs) (hM : hp_M l yX8_press prog_10_method_10_code 3 none rmX8_press D cA h (.ref b :: As) Qc) (hkb : h.1 b = 9) (hR : rmX8_press.frames + 1 ≤ R.frames ∧ 8 + (3 + 11) + rmX8_press.locals ≤ R.locals) (hn : As.length = 2) (hls : ls.size = nL) (hst : st0 = As.reverse ++ .ref b :: rest) (hW : (rest.map fun v => v.category).sum ≤ 8) (hf : cells + rmX8_press.cells ≤ R.cells ∧ slots + rmX8_press.slots ≤ R.slots) (hdg : decode cc pc = .ok (.invokevirtual 155, 3)) :
    va_Run p l e R s m args below meth c H locs cells slots rmX8_press.cells rmX8_press.slots (F0 m pc ls st0) rest (Qc (Value.ref b :: As).toArray) (hp_A h) :=
  hp_runV cx hB hM (ci := 8) rfl (by decide) hkb qw_547 qw_544 qw_546 qp_7 qw_9 (by decide +kernel) hR hn hls hst hW hf hdg
theorem gf_X8_158 (cx : CallFix p m c cc nL s args tbG RX8) (hB : hp_B D cA A s h H locs) (hka : h.1 a = 4) (hdg : decode cc pc = .ok (.getfield 158, 3)) (kk : W p l e R s m args below meth c H locs cells slots Q (F0 m (pc + 3) ls (.int (h.2.2.1 a 3) :: rest))) : W p l e R s m args below meth c H locs cells slots Q (F0 m pc ls (.ref a :: rest)) :=
  hp_getI cx hB (ci := 3) 3 rfl inX3 (by decide) rfl (by decide) rfl qw_348 hka hdg kk
end
abbrev yX8_passMenu : MethodName := ⟨"SpokenMenus$Walk", "passMenu", "(LSpokenMenus$Place;LSpokenMenus$Ways;LSpokenMenus$Caller;)I"⟩
theorem dX8_passMenu_0 : decode prog_10_method_8_code 0 = .ok (.aload_n 2, 1) := by decide +kernel
theorem dX8_passMenu_1 : decode prog_10_method_8_code 1 = .ok (.ifnull 15, 3) := by decide +kernel
theorem dX8_passMenu_4 : decode prog_10_method_8_code 4 = .ok (.aload_n 2, 1) := by decide +kernel
theorem dX8_passMenu_5 : decode prog_10_method_8_code 5 = .ok (.aload_n 1, 1) := by decide +kernel
theorem dX8_passMenu_6 : decode prog_10_method_8_code 6 = .ok (.aload_n 0, 1) := by decide +kernel
theorem dX8_passMenu_7 : decode prog_10_method_8_code 7 = .ok (.getfield 22, 3) := by decide +kernel
theorem dX8_passMenu_10 : decode prog_10_method_8_code 10 = .ok (.invokevirtual 129, 3) := by decide +kernel
theorem dX8_passMenu_13 : decode prog_10_method_8_code 13 = .ok (.goto 11, 3) := by decide +kernel
theorem dX8_passMenu_16 : decode prog_10_method_8_code 16 = .ok (.aload_n 1, 1) := by decide +kernel
theorem dX8_passMenu_17 : decode prog_10_method_8_code 17 = .ok (.aload_n 3, 1) := by decide +kernel
theorem dX8_passMenu_18 : decode prog_10_method_8_code 18 = .ok (.getfield 99, 3) := by decide +kernel
theorem dX8_passMenu_21 : decode prog_10_method_8_code 21 = .ok (.invokevirtual 133, 3) := by decide +kernel
theorem dX8_passMenu_24 : decode prog_10_method_8_code 24 = .ok (.istore 4, 2) := by decide +kernel
theorem dX8_passMenu_26 : decode prog_10_method_8_code 26 = .ok (.iload 4, 2) := by decide +kernel
theorem dX8_passMenu_28 : decode prog_10_method_8_code 28 = .ok (.ifCond .lt 12, 3) := by decide +kernel
theorem dX8_passMenu_31 : decode prog_10_method_8_code 31 = .ok (.iload 4, 2) := by decide +kernel
theorem dX8_passMenu_33 : decode prog_10_method_8_code 33 = .ok (.aload_n 1, 1) := by decide +kernel
theorem dX8_passMenu_34 : decode prog_10_method_8_code 34 = .ok (.getfield 136, 3) := by decide +kernel
theorem dX8_passMenu_37 : decode prog_10_method_8_code 37 = .ok (.if_icmp .lt 17, 3) := by decide +kernel
theorem dX8_passMenu_40 : decode prog_10_method_8_code 40 = .ok (.aload_n 0, 1) := by decide +kernel
theorem dX8_passMenu_41 : decode prog_10_method_8_code 41 = .ok (.aload_n 1, 1) := by decide +kernel
theorem dX8_passMenu_42 : decode prog_10_method_8_code 42 = .ok (.invokevirtual 139, 3) := by decide +kernel
theorem dX8_passMenu_45 : decode prog_10_method_8_code 45 = .ok (.aload_n 3, 1) := by decide +kernel
theorem dX8_passMenu_46 : decode prog_10_method_8_code 46 = .ok (.invokevirtual 95, 3) := by decide +kernel
theorem dX8_passMenu_49 : decode prog_10_method_8_code 49 = .ok (.aload_n 1, 1) := by decide +kernel
theorem dX8_passMenu_50 : decode prog_10_method_8_code 50 = .ok (.getfield 110, 3) := by decide +kernel
theorem dX8_passMenu_53 : decode prog_10_method_8_code 53 = .ok (.ireturn, 1) := by decide +kernel
theorem dX8_passMenu_54 : decode prog_10_method_8_code 54 = .ok (.aload_n 2, 1) := by decide +kernel
theorem dX8_passMenu_55 : decode prog_10_method_8_code 55 = .ok (.ifnonnull 16, 3) := by decide +kernel
theorem dX8_passMenu_58 : decode prog_10_method_8_code 58 = .ok (.aload_n 0, 1) := by decide +kernel
theorem dX8_passMenu_59 : decode prog_10_method_8_code 59 = .ok (.aload_n 1, 1) := by decide +kernel
theorem dX8_passMenu_60 : decode prog_10_method_8_code 60 = .ok (.iload 4, 2) := by decide +kernel
theorem dX8_passMenu_62 : decode prog_10_method_8_code 62 = .ok (.iconst 1, 1) := by decide +kernel
theorem dX8_passMenu_63 : decode prog_10_method_8_code 63 = .ok (.iadd, 1) := by decide +kernel
theorem dX8_passMenu_64 : decode prog_10_method_8_code 64 = .ok (.invokevirtual 143, 3) := by decide +kernel
theorem dX8_passMenu_67 : decode prog_10_method_8_code 67 = .ok (.aload_n 3, 1) := by decide +kernel
theorem dX8_passMenu_68 : decode prog_10_method_8_code 68 = .ok (.invokevirtual 95, 3) := by decide +kernel
theorem dX8_passMenu_71 : decode prog_10_method_8_code 71 = .ok (.aload_n 0, 1) := by decide +kernel
theorem dX8_passMenu_72 : decode prog_10_method_8_code 72 = .ok (.aload_n 1, 1) := by decide +kernel
theorem dX8_passMenu_73 : decode prog_10_method_8_code 73 = .ok (.getfield 146, 3) := by decide +kernel
theorem dX8_passMenu_76 : decode prog_10_method_8_code 76 = .ok (.iload 4, 2) := by decide +kernel
theorem dX8_passMenu_78 : decode prog_10_method_8_code 78 = .ok (.aaload, 1) := by decide +kernel
theorem dX8_passMenu_79 : decode prog_10_method_8_code 79 = .ok (.getfield 150, 3) := by decide +kernel
theorem dX8_passMenu_82 : decode prog_10_method_8_code 82 = .ok (.aload_n 3, 1) := by decide +kernel
theorem dX8_passMenu_83 : decode prog_10_method_8_code 83 = .ok (.invokevirtual 155, 3) := by decide +kernel
theorem dX8_passMenu_86 : decode prog_10_method_8_code 86 = .ok (.aload_n 1, 1) := by decide +kernel
theorem dX8_passMenu_87 : decode prog_10_method_8_code 87 = .ok (.getfield 146, 3) := by decide +kernel
theorem dX8_passMenu_90 : decode prog_10_method_8_code 90 = .ok (.iload 4, 2) := by decide +kernel
theorem dX8_passMenu_92 : decode prog_10_method_8_code 92 = .ok (.aaload, 1) := by decide +kernel
theorem dX8_passMenu_93 : decode prog_10_method_8_code 93 = .ok (.getfield 158, 3) := by decide +kernel
theorem dX8_passMenu_96 : decode prog_10_method_8_code 96 = .ok (.ireturn, 1) := by decide +kernel
abbrev rmX8_passMenu : Room := { frames := 2, cells := 0, slots := 0, locals := 45 }
def fX8_passMenu_40  (t0 : Nat) (w1 : Option Nat) (w3 : Option Nat) (h : Hp) : Option (Int32 × Hp) :=
  bd w1 fun a1 =>
  gk (h.1 a1) 6 <|
  b2 (fX5_ticksOfHearingAll a1 h) fun r5 g3 =>
  gk (g3.1 t0) 9 <|
  b2 (fX8_spend t0 r5 w3 g3) fun _ g8 =>
  gk (g8.1 a1) 6 <|
  some (g8.2.2.1 a1 3, g8)
def fX8_passMenu_71  (t0 : Nat) (t1 : Nat) (w3 : Option Nat) (v4 : Int32) (h : Hp) : Option (Int32 × Hp) :=
  gk (h.1 t1) 6 <|
  bd (h.2.2.2.1 t1 5) fun a2 =>
  gk (h.1 a2) 16 <|
  gd (ix v4 (h.2.1 a2)) <|
  bd (h.2.2.2.1 a2 (Int32.toNatClampNeg v4)) fun a6 =>
  gk (h.1 a6) 4 <|
  gk (h.1 t0) 9 <|
  b2 (fX8_press t0 (h.2.2.1 a6 1) w3 h) fun _ g10 =>
  gk (g10.1 t1) 6 <|
  bd (g10.2.2.2.1 t1 5) fun a15 =>
  gk (g10.1 a15) 16 <|
  gd (ix v4 (g10.2.1 a15)) <|
  bd (g10.2.2.2.1 a15 (Int32.toNatClampNeg v4)) fun a19 =>
  gk (g10.1 a19) 4 <|
  some (g10.2.2.1 a19 3, g10)
def fX8_passMenu_24  (t0 : Nat) (w1 : Option Nat) (w2 : Option Nat) (w3 : Option Nat) (s0 : Int32) (h : Hp) : Option (Int32 × Hp) :=
  if s0 < 0 then
  (fX8_passMenu_40  t0 w1 w3 h)
  else
  (bd w1 fun a2 =>
  gk (h.1 a2) 6 <|
  if s0 < (h.2.2.1 a2 6) then
  (rn w2
  (b2 (fX5_ticksOfLines a2 (s0 + 1) h) fun r8 g6 =>
  gk (g6.1 t0) 9 <|
  b2 (fX8_spend t0 r8 w3 g6) fun _ g11 =>
  fX8_passMenu_71  t0 a2 w3 s0 g11)
  (fun a5 =>
  fX8_passMenu_71  t0 a2 w3 s0 h))
  else
  (fX8_passMenu_40  t0 (some a2) w3 h))
def fX8_passMenu  (t0 : Nat) (w1 : Option Nat) (w2 : Option Nat) (w3 : Option Nat) (h : Hp) : Option (Int32 × Hp) :=
  rn w2
  (bd w3 fun a2 =>
  gk (h.1 a2) 1 <|
  bd w1 fun a4 =>
  gk (h.1 a4) 6 <|
  b2 (fX5_firstLineFor a4 (h.2.2.1 a2 0) h) fun r8 g6 =>
  fX8_passMenu_24  t0 (some a4) none (some a2) r8 g6)
  (fun a1 =>
  gk (h.1 t0) 9 <|
  gk (h.1 a1) 10 <|
  b2 (fX9_bestLine a1 w1 (h.2.2.1 t0 3) h) fun r14 g12 =>
  fX8_passMenu_24  t0 w1 (some a1) w3 r14 g12)
section
variable {p : Program} {l : Launch} {e : Env} {s : State} {m : MethodId} {args : Array Value} {below : List Frame} {meth : Method} {c : Code} {D : va_G} {cA : Nat → ClassId} {h0 h9 : Hp}
set_option maxHeartbeats 4000000 in
set_option maxRecDepth 100000 in
theorem tX8_passMenu_40  {r : Int32} (cx : CallFix p m c prog_10_method_8_code 5 s args tbG RX8) (hr : meth.sig.returnType = (Option.some FieldType.int)) (hlk : meth.locks = false)  (t0 : Nat) (w1 : Option Nat) (w3 : Option Nat) (h : Hp) (H : Heap) (locs : List Loc) (ls : Array Slot) (hB : hp_B D cA (hp_A h0) s h H locs) (hl : lv_has ls 5 [(0, .ref t0), (1, va_rf w1), (3, va_rf w3)]) (hf : fX8_passMenu_40  t0 w1 w3 h = some (r, h9)) : W p l e rmX8_passMenu s m args below meth c H locs 0 0 (MQ below (hp_Qi D cA h0 h9 r) args s 0 0 (hp_A h0)) (F0 m 40 ls []) := by
  obtain ⟨hx, hb, -⟩ := id cx
  unfold fX8_passMenu_40 at hf
  refine lv_aload_n hx hb dX8_passMenu_40 rfl (lv_at hl 0 rfl) ?_
  refine lq_aload_n hx hb dX8_passMenu_41 rfl (lv_at hl 1 rfl) ?_
  obtain ⟨a1, eo, hf⟩ := bd_ok hf
  subst eo
  obtain ⟨k2, hf⟩ := gk_ok hf
  obtain ⟨r5, g3, m4, hf⟩ := b2_ok hf
  refine hp_cI0 (cl_X8_139 cx hB (cX5_ticksOfHearingAll l D cA a1 h _ g3 m4) k2 ⟨Nat.le_of_ble_eq_true rfl, Nat.le_of_ble_eq_true rfl⟩ rfl hl.1 rfl (Nat.le_of_ble_eq_true rfl) ⟨Nat.le_of_ble_eq_true rfl, Nat.le_of_ble_eq_true rfl⟩ dX8_passMenu_42) rfl rfl hB (fun H locs hB => ?_)
  refine lq_aload_n hx hb dX8_passMenu_45 rfl (lv_at hl 2 rfl) ?_
  obtain ⟨k7, hf⟩ := gk_ok hf
  obtain ⟨uu, g8, m9, hf⟩ := b2_ok hf
  refine hp_cV0 (cl_X8_95 cx hB (cX8_spend l D cA t0 r5 w3 g3 _ g8 m9) k7 ⟨Nat.le_of_ble_eq_true rfl, Nat.le_of_ble_eq_true rfl⟩ rfl hl.1 rfl (Nat.le_of_ble_eq_true rfl) ⟨Nat.le_of_ble_eq_true rfl, Nat.le_of_ble_eq_true rfl⟩ dX8_passMenu_46) rfl rfl hB (fun H locs hB => ?_)
  refine lv_aload_n hx hb dX8_passMenu_49 rfl (lv_at hl 1 rfl) ?_
  obtain ⟨k12, hf⟩ := gk_ok hf
  refine gf_X8_110 cx hB k12 dX8_passMenu_50 ?_
  obtain ⟨rfl, rfl⟩ := rt_ok hf
  exact hp_iret cx hB hr hlk (Nat.le_of_ble_eq_true rfl) (Nat.le_of_ble_eq_true rfl) dX8_passMenu_53
set_option maxHeartbeats 4000000 in
set_option maxRecDepth 100000 in
theorem tX8_passMenu_71  {r : Int32} (cx : CallFix p m c prog_10_method_8_code 5 s args tbG RX8) (hr : meth.sig.returnType = (Option.some FieldType.int)) (hlk : meth.locks = false)  (t0 : Nat) (t1 : Nat) (w3 : Option Nat) (v4 : Int32) (h : Hp) (H : Heap) (locs : List Loc) (ls : Array Slot) (hB : hp_B D cA (hp_A h0) s h H locs) (hl : lv_has ls 5 [(0, .ref t0), (1, .ref t1), (3, va_rf w3), (4, .int v4)]) (hf : fX8_passMenu_71  t0 t1 w3 v4 h = some (r, h9)) : W p l e rmX8_passMenu s m args below meth c H locs 0 0 (MQ below (hp_Qi D cA h0 h9 r) args s 0 0 (hp_A h0)) (F0 m 71 ls []) := by
  obtain ⟨hx, hb, -⟩ := id cx
  unfold fX8_passMenu_71 at hf
  refine lv_aload_n hx hb dX8_passMenu_71 rfl (lv_at hl 0 rfl) ?_
  refine lv_aload_n hx hb dX8_passMenu_72 rfl (lv_at hl 1 rfl) ?_
  obtain ⟨k1, hf⟩ := gk_ok hf
  obtain ⟨a2, q3, hf⟩ := bd_ok hf
  refine gf_X8_146 cx hB k1 q3 dX8_passMenu_73 ?_
  refine lv_iload hx hb dX8_passMenu_76 (lv_at hl 3 rfl) ?_
  obtain ⟨k4, hf⟩ := gk_ok hf
  obtain ⟨j5, hf⟩ := gd_ok hf
  obtain ⟨a6, q7, hf⟩ := bd_ok hf
  refine hp_aald cx hB 16 (.object RX3) (by decide) rfl rfl k4 j5 (o := some a6) q7.symm dX8_passMenu_78 ?_
  obtain ⟨k8, hf⟩ := gk_ok hf
  refine gf_X8_150 cx hB k8 dX8_passMenu_79 ?_
  refine lq_aload_n hx hb dX8_passMenu_82 rfl (lv_at hl 2 rfl) ?_
  obtain ⟨k9, hf⟩ := gk_ok hf
  obtain ⟨uu, g10, m11, hf⟩ := b2_ok hf
  refine hp_cV0 (cl_X8_155 cx hB (cX8_press l D cA t0 (h.2.2.1 a6 1) w3 h _ g10 m11) k9 ⟨Nat.le_of_ble_eq_true rfl, Nat.le_of_ble_eq_true rfl⟩ rfl hl.1 rfl (Nat.le_of_ble_eq_true rfl) ⟨Nat.le_of_ble_eq_true rfl, Nat.le_of_ble_eq_true rfl⟩ dX8_passMenu_83) rfl rfl hB (fun H locs hB => ?_)
  refine lv_aload_n hx hb dX8_passMenu_86 rfl (lv_at hl 1 rfl) ?_
  obtain ⟨k14, hf⟩ := gk_ok hf
  obtain ⟨a15, q16, hf⟩ := bd_ok hf
  refine gf_X8_146 cx hB k14 q16 dX8_passMenu_87 ?_
  refine lv_iload hx hb dX8_passMenu_90 (lv_at hl 3 rfl) ?_
  obtain ⟨k17, hf⟩ := gk_ok hf
  obtain ⟨j18, hf⟩ := gd_ok hf
  obtain ⟨a19, q20, hf⟩ := bd_ok hf
  refine hp_aald cx hB 16 (.object RX3) (by decide) rfl rfl k17 j18 (o := some a19) q20.symm dX8_passMenu_92 ?_
  obtain ⟨k21, hf⟩ := gk_ok hf
  refine gf_X8_158 cx hB k21 dX8_passMenu_93 ?_
  obtain ⟨rfl, rfl⟩ := rt_ok hf
  exact hp_iret cx hB hr hlk (Nat.le_of_ble_eq_true rfl) (Nat.le_of_ble_eq_true rfl) dX8_passMenu_96
set_option maxHeartbeats 4000000 in
set_option maxRecDepth 100000 in
theorem tX8_passMenu_24  {r : Int32} (cx : CallFix p m c prog_10_method_8_code 5 s args tbG RX8) (hr : meth.sig.returnType = (Option.some FieldType.int)) (hlk : meth.locks = false)  (t0 : Nat) (w1 : Option Nat) (w2 : Option Nat) (w3 : Option Nat) (s0 : Int32) (h : Hp) (H : Heap) (locs : List Loc) (ls : Array Slot) (hB : hp_B D cA (hp_A h0) s h H locs) (hl : lv_has ls 5 [(0, .ref t0), (1, va_rf w1), (2, va_rf w2), (3, va_rf w3)]) (hf : fX8_passMenu_24  t0 w1 w2 w3 s0 h = some (r, h9)) : W p l e rmX8_passMenu s m args below meth c H locs 0 0 (MQ below (hp_Qi D cA h0 h9 r) args s 0 0 (hp_A h0)) (F0 m 24 ls [.int s0]) := by
  obtain ⟨hx, hb, -⟩ := id cx
  unfold fX8_passMenu_24 at hf
  refine lv_istore (lv' := [(4, .int s0), (0, .ref t0), (1, va_rf w1), (2, va_rf w2), (3, va_rf w3)]) hx hb dX8_passMenu_24 hl (by decide) (by cases w3 <;> rfl) (fun ls hl => ?_)
  refine lv_iload hx hb dX8_passMenu_26 (lv_at hl 0 rfl) ?_
  refine lv_if_lt (tgt := 40) hx hb dX8_passMenu_28 (by decide) (fun c1 => ?_) (fun c1 => ?_)
  · replace hf := it_t c1 hf
    exact tX8_passMenu_40 cx hr hlk  t0 w1 w3 h _ _ _ hB (lv_sub hl [1, 2, 4] rfl) hf
  · replace hf := it_f c1 hf
    refine lv_iload hx hb dX8_passMenu_31 (lv_at hl 0 rfl) ?_
    refine lq_aload_n hx hb dX8_passMenu_33 rfl (lv_at hl 2 rfl) ?_
    obtain ⟨a2, eo, hf⟩ := bd_ok hf
    subst eo
    obtain ⟨k3, hf⟩ := gk_ok hf
    refine gf_X8_136 cx hB k3 dX8_passMenu_34 ?_
    refine lv_icmp_lt (tgt := 54) hx hb dX8_passMenu_37 (by decide) (fun c4 => ?_) (fun c4 => ?_)
    · replace hf := it_t c4 hf
      refine lq_aload_n hx hb dX8_passMenu_54 rfl (lv_at hl 3 rfl) ?_
      refine lq_ifnonnull (tgt := 71) hx hb dX8_passMenu_55 (by decide) (fun eo => ?_) (fun a5 eo => ?_)
      · subst eo
        replace hf := rn_n hf
        refine lv_aload_n hx hb dX8_passMenu_58 rfl (lv_at hl 1 rfl) ?_
        refine lv_aload_n hx hb dX8_passMenu_59 rfl (lv_at hl 2 rfl) ?_
        refine lv_iload hx hb dX8_passMenu_60 (lv_at hl 0 rfl) ?_
        refine lv_iconst (v := 1) hx hb dX8_passMenu_62 (by decide) ?_
        refine lv_iadd hx hb dX8_passMenu_63 ?_
        obtain ⟨r8, g6, m7, hf⟩ := b2_ok hf
        refine hp_cI0 (cl_X8_143 cx hB (cX5_ticksOfLines l D cA a2 (s0 + 1) h _ g6 m7) k3 ⟨Nat.le_of_ble_eq_true rfl, Nat.le_of_ble_eq_true rfl⟩ rfl hl.1 rfl (Nat.le_of_ble_eq_true rfl) ⟨Nat.le_of_ble_eq_true rfl, Nat.le_of_ble_eq_true rfl⟩ dX8_passMenu_64) rfl rfl hB (fun H locs hB => ?_)
        refine lq_aload_n hx hb dX8_passMenu_67 rfl (lv_at hl 4 rfl) ?_
        obtain ⟨k10, hf⟩ := gk_ok hf
        obtain ⟨uu, g11, m12, hf⟩ := b2_ok hf
        refine hp_cV0 (cl_X8_95 cx hB (cX8_spend l D cA t0 r8 w3 g6 _ g11 m12) k10 ⟨Nat.le_of_ble_eq_true rfl, Nat.le_of_ble_eq_true rfl⟩ rfl hl.1 rfl (Nat.le_of_ble_eq_true rfl) ⟨Nat.le_of_ble_eq_true rfl, Nat.le_of_ble_eq_true rfl⟩ dX8_passMenu_68) rfl rfl hB (fun H locs hB => ?_)
        exact tX8_passMenu_71 cx hr hlk  t0 a2 w3 s0 g11 _ _ _ hB (lv_sub hl [1, 2, 4, 0] rfl) hf
      · subst eo
        replace hf := rn_s hf
        exact tX8_passMenu_71 cx hr hlk  t0 a2 w3 s0 h _ _ _ hB (lv_sub hl [1, 2, 4, 0] rfl) hf
    · replace hf := it_f c4 hf
      exact tX8_passMenu_40 cx hr hlk  t0 (some a2) w3 h _ _ _ hB (lv_sub hl [1, 2, 4] rfl) hf
set_option maxHeartbeats 4000000 in
set_option maxRecDepth 100000 in
theorem tX8_passMenu_0  {r : Int32} (cx : CallFix p m c prog_10_method_8_code 5 s args tbG RX8) (hr : meth.sig.returnType = (Option.some FieldType.int)) (hlk : meth.locks = false)  (t0 : Nat) (w1 : Option Nat) (w2 : Option Nat) (w3 : Option Nat) (h : Hp) (H : Heap) (locs : List Loc) (ls : Array Slot) (hB : hp_B D cA (hp_A h0) s h H locs) (hl : lv_has ls 5 [(0, .ref t0), (1, va_rf w1), (2, va_rf w2), (3, va_rf w3)]) (hf : fX8_passMenu  t0 w1 w2 w3 h = some (r, h9)) : W p l e rmX8_passMenu s m args below meth c H locs 0 0 (MQ below (hp_Qi D cA h0 h9 r) args s 0 0 (hp_A h0)) (F0 m 0 ls []) := by
  obtain ⟨hx, hb, -⟩ := id cx
  unfold fX8_passMenu at hf
  refine lq_aload_n hx hb dX8_passMenu_0 rfl (lv_at hl 2 rfl) ?_
  refine lq_ifnull (tgt := 16) hx hb dX8_passMenu_1 (by decide) (fun eo => ?_) (fun a1 eo => ?_)
  · subst eo
    replace hf := rn_n hf
    refine lq_aload_n hx hb dX8_passMenu_16 rfl (lv_at hl 1 rfl) ?_
    refine lq_aload_n hx hb dX8_passMenu_17 rfl (lv_at hl 3 rfl) ?_
    obtain ⟨a2, eo, hf⟩ := bd_ok hf
    subst eo
    obtain ⟨k3, hf⟩ := gk_ok hf
    refine gf_X8_99 cx hB k3 dX8_passMenu_18 ?_
    obtain ⟨a4, eo, hf⟩ := bd_ok hf
    subst eo
    obtain ⟨k5, hf⟩ := gk_ok hf
    obtain ⟨r8, g6, m7, hf⟩ := b2_ok hf
    refine hp_cI0 (cl_X8_133 cx hB (cX5_firstLineFor l D cA a4 (h.2.2.1 a2 0) h _ g6 m7) k5 ⟨Nat.le_of_ble_eq_true rfl, Nat.le_of_ble_eq_true rfl⟩ rfl hl.1 rfl (Nat.le_of_ble_eq_true rfl) ⟨Nat.le_of_ble_eq_true rfl, Nat.le_of_ble_eq_true rfl⟩ dX8_passMenu_21) rfl rfl hB (fun H locs hB => ?_)
    exact tX8_passMenu_24 cx hr hlk  t0 (some a4) none (some a2) r8 g6 _ _ _ hB (lv_sub hl [0, 1, 2, 3] rfl) hf
  · subst eo
    replace hf := rn_s hf
    refine lv_aload_n hx hb dX8_passMenu_4 rfl (lv_at hl 2 rfl) ?_
    refine lq_aload_n hx hb dX8_passMenu_5 rfl (lv_at hl 1 rfl) ?_
    refine lv_aload_n hx hb dX8_passMenu_6 rfl (lv_at hl 0 rfl) ?_
    obtain ⟨k10, hf⟩ := gk_ok hf
    refine gf_X8_22 cx hB k10 dX8_passMenu_7 ?_
    obtain ⟨k11, hf⟩ := gk_ok hf
    obtain ⟨r14, g12, m13, hf⟩ := b2_ok hf
    refine hp_cI0 (cl_X8_129 cx hB (cX9_bestLine l D cA a1 w1 (h.2.2.1 t0 3) h _ g12 m13) k11 ⟨Nat.le_of_ble_eq_true rfl, Nat.le_of_ble_eq_true rfl⟩ rfl hl.1 rfl (Nat.le_of_ble_eq_true rfl) ⟨Nat.le_of_ble_eq_true rfl, Nat.le_of_ble_eq_true rfl⟩ dX8_passMenu_10) rfl rfl hB (fun H locs hB => ?_)
    refine lv_goto (tgt := 24) hx hb dX8_passMenu_13 (by decide) ?_
    exact tX8_passMenu_24 cx hr hlk  t0 w1 (some a1) w3 r14 g12 _ _ _ hB (lv_sub hl [0, 1, 2, 3] rfl) hf
end
set_option maxHeartbeats 4000000 in
set_option maxRecDepth 100000 in
theorem cX8_passMenu (l : Launch) (D : va_G) (cA : Nat → ClassId) (t0 : Nat) (w1 : Option Nat) (w2 : Option Nat) (w3 : Option Nat) (h : Hp) (r : Int32) (h9 : Hp) (hf : fX8_passMenu t0 w1 w2 w3 h = some (r, h9)) : hp_M l yX8_passMenu prog_10_method_8_code 5 (Option.some FieldType.int) rmX8_passMenu D cA h [.ref t0, va_rf w1, va_rf w2, va_rf w3] (hp_Qi D cA h h9 r) := by
  refine Met.ofW (cc := prog_10_method_8_code) (maxL := 5) (ret := (Option.some FieldType.int)) (by decide) rfl ?_
  intro p e s m args below meth c s₁ B hml hv
  obtain ⟨rfl, hU⟩ := hv
  have hts := atoms_spec (ws := Cond.code yX8_passMenu prog_10_method_8_code 5 (Option.some FieldType.int) :: tbG) B.pre
  have hl := lv_entry ([.ref t0, va_rf w1, va_rf w2, va_rf w3]) (n := 5) (by simp [lg_sl, va_rf_cat, cat_i, cat_r, cat_n])
  rw [show lv_args 0 ([.ref t0, va_rf w1, va_rf w2, va_rf w3]) = [(0, .ref t0), (1, va_rf w1), (2, va_rf w2), (3, va_rf w3)] by simp [lv_args, va_rf_cat, cat_i, cat_r, cat_n]] at hl
  rw [lg_entry_eq]
  generalize (lg_sl ([.ref t0, va_rf w1, va_rf w2, va_rf w3]) ++ List.replicate (5 - (lg_sl ([.ref t0, va_rf w1, va_rf w2, va_rf w3])).length) Slot.unset).toArray = ls at hl ⊢
  exact tX8_passMenu_0 ⟨B.exec, B.bytes, hml, findClass_of_methodNamed B.named, fun w hw => hts w (List.mem_cons_of_mem _ hw)⟩ B.returns B.notSynchronized t0 w1 w2 w3 h _ _ _ (hp_B.entry hU) hl hf
abbrev yX8_finish : MethodName := ⟨"SpokenMenus$Walk", "finish", "(I)V"⟩
theorem dX8_finish_0 : decode prog_10_method_11_code 0 = .ok (.aload_n 0, 1) := by decide +kernel
theorem dX8_finish_1 : decode prog_10_method_11_code 1 = .ok (.getfield 15, 3) := by decide +kernel
theorem dX8_finish_4 : decode prog_10_method_11_code 4 = .ok (.iconst (-1), 1) := by decide +kernel
theorem dX8_finish_5 : decode prog_10_method_11_code 5 = .ok (.if_icmp .ne 8, 3) := by decide +kernel
theorem dX8_finish_8 : decode prog_10_method_11_code 8 = .ok (.aload_n 0, 1) := by decide +kernel
theorem dX8_finish_9 : decode prog_10_method_11_code 9 = .ok (.iload_n 1, 1) := by decide +kernel
theorem dX8_finish_10 : decode prog_10_method_11_code 10 = .ok (.putfield 15, 3) := by decide +kernel
theorem dX8_finish_13 : decode prog_10_method_11_code 13 = .ok (.return_, 1) := by decide +kernel
abbrev rmX8_finish : Room := { frames := 0, cells := 0, slots := 0, locals := 0 }
def fX8_finish  (t0 : Nat) (v1 : Int32) (h : Hp) : Option (Unit × Hp) :=
  gk (h.1 t0) 9 <|
  if (h.2.2.1 t0 1) = (-1) then
  (nm (hp_si h t0 1 v1) fun g3 =>
  some ((), g3))
  else
  (some ((), h))
section
variable {p : Program} {l : Launch} {e : Env} {s : State} {m : MethodId} {args : Array Value} {below : List Frame} {meth : Method} {c : Code} {D : va_G} {cA : Nat → ClassId} {h0 h9 : Hp}
set_option maxHeartbeats 4000000 in
set_option maxRecDepth 100000 in
theorem tX8_finish_0  (cx : CallFix p m c prog_10_method_11_code 2 s args tbG RX8) (hr : meth.sig.returnType = none) (hlk : meth.locks = false)  (t0 : Nat) (v1 : Int32) (h : Hp) (H : Heap) (locs : List Loc) (ls : Array Slot) (hB : hp_B D cA (hp_A h0) s h H locs) (hl : lv_has ls 2 [(0, .ref t0), (1, .int v1)]) (hf : fX8_finish  t0 v1 h = some ((), h9)) : W p l e rmX8_finish s m args below meth c H locs 0 0 (MQ below (hp_Qv D cA h0 h9) args s 0 0 (hp_A h0)) (F0 m 0 ls []) := by
  obtain ⟨hx, hb, -⟩ := id cx
  unfold fX8_finish at hf
  refine lv_aload_n hx hb dX8_finish_0 rfl (lv_at hl 0 rfl) ?_
  obtain ⟨k1, hf⟩ := gk_ok hf
  refine gf_X8_15 cx hB k1 dX8_finish_1 ?_
  refine lv_iconst (v := (-1)) hx hb dX8_finish_4 (by decide) ?_
  refine lv_icmp_ne (tgt := 13) hx hb dX8_finish_5 (by decide) (fun c2 => ?_) (fun c2 => ?_)
  · replace hf := it_f c2 hf
    obtain ⟨-, rfl⟩ := rt_ok hf
    exact hp_vret cx hB hr hlk (Nat.le_of_ble_eq_true rfl) (Nat.le_of_ble_eq_true rfl) dX8_finish_13
  · replace hf := it_t c2 hf
    refine lv_aload_n hx hb dX8_finish_8 rfl (lv_at hl 0 rfl) ?_
    refine lv_iload_n hx hb dX8_finish_9 rfl (lv_at hl 1 rfl) ?_
    obtain ⟨g3, eg3, hf⟩ := nm_ok hf
    refine pf_X8_15 cx hB k1 dX8_finish_10 (fun H locs hB => ?_)
    rw [← eg3] at hB
    obtain ⟨-, rfl⟩ := rt_ok hf
    exact hp_vret cx hB hr hlk (Nat.le_of_ble_eq_true rfl) (Nat.le_of_ble_eq_true rfl) dX8_finish_13
end
set_option maxHeartbeats 4000000 in
set_option maxRecDepth 100000 in
theorem cX8_finish (l : Launch) (D : va_G) (cA : Nat → ClassId) (t0 : Nat) (v1 : Int32) (h : Hp) (_u : Unit) (h9 : Hp) (hf : fX8_finish t0 v1 h = some (_u, h9)) : hp_M l yX8_finish prog_10_method_11_code 2 none rmX8_finish D cA h [.ref t0, .int v1] (hp_Qv D cA h h9) := by
  refine Met.ofW (cc := prog_10_method_11_code) (maxL := 2) (ret := none) (by decide) rfl ?_
  intro p e s m args below meth c s₁ B hml hv
  obtain ⟨rfl, hU⟩ := hv
  have hts := atoms_spec (ws := Cond.code yX8_finish prog_10_method_11_code 2 none :: tbG) B.pre
  have hl := lv_entry ([.ref t0, .int v1]) (n := 2) (Nat.le_of_ble_eq_true rfl)
  rw [lg_entry_eq]
  generalize (lg_sl ([.ref t0, .int v1]) ++ List.replicate (2 - (lg_sl ([.ref t0, .int v1])).length) Slot.unset).toArray = ls at hl ⊢
  exact tX8_finish_0 ⟨B.exec, B.bytes, hml, findClass_of_methodNamed B.named, fun w hw => hts w (List.mem_cons_of_mem _ hw)⟩ B.returns B.notSynchronized t0 v1 h _ _ _ (hp_B.entry hU) hl hf
section
variable {p : Program} {l : Launch} {e : Env} {R : Room} {s : State} {m : MethodId} {args : Array Value} {below : List Frame} {meth : Method} {c : Code} {H : Heap} {locs : List Loc} {cells slots : Nat} {Q : State → Prop}
variable {cc : ByteArray} {pc nL : Nat} {ls : Array Slot} {rest : List Value} {D : va_G} {cA : Nat → ClassId} {A : Nat → Prop} {a : Nat} {h : Hp}
theorem gf_X8_74 (cx : CallFix p m c cc nL s args tbG RX8) (hB : hp_B D cA A s h H locs) (hka : h.1 a = 6) (hdg : decode cc pc = .ok (.getfield 74, 3)) (kk : W p l e R s m args below meth c H locs cells slots Q (F0 m (pc + 3) ls (.int (h.2.2.1 a 0) :: rest))) : W p l e R s m args below meth c H locs cells slots Q (F0 m pc ls (.ref a :: rest)) :=
  hp_getI cx hB (ci := 5) 0 rfl inX5 (by decide) rfl (by decide) rfl qw_247 hka hdg kk
theorem cl_X8_91 {As st0 : List Value} {b : Nat} {Qc : Array Value → State → Outcome → State → Prop} (cx : CallFix p m c cc nL s args tbG RX8) (hB : hp_B D cA A s h H locs) (hM : hp_M l yX8_passMenu prog_10_method_8_code 5 (Option.some FieldType.int) rmX8_passMenu D cA h (.ref b :: As) Qc) (hkb : h.1 b = 9) (hR : rmX8_passMenu.frames + 1 ≤ R.frames ∧ 8 + (5 + 11) + rmX8_passMenu.locals ≤ R.locals) (hn : As.length = 3) (hls : ls.size = nL) (hst : st0 = As.reverse ++ .ref b :: rest) (hW : (rest.map fun v => v.category).sum ≤ 8) (hf : cells + rmX8_passMenu.cells ≤ R.cells ∧ slots + rmX8_passMenu.slots ≤ R.slots) (hdg : decode cc pc = .ok (.invokevirtual 91, 3)) :
    va_Run p l e R s m args below meth c H locs cells slots rmX8_passMenu.cells rmX8_passMenu.slots (F0 m pc ls st0) rest (Qc (Value.ref b :: As).toArray) (hp_A h) :=
  hp_runV cx hB hM (ci := 8) rfl (by decide) hkb qw_525 qw_522 qw_524 qp_5 qw_9 (by decide +kernel) hR hn hls hst hW hf hdg
theorem gf_X8_94 (cx : CallFix p m c cc nL s args tbG RX8) (hB : hp_B D cA A s h H locs) (hka : h.1 a = 6) (hdg : decode cc pc = .ok (.getfield 94, 3)) (kk : W p l e R s m args below meth c H locs cells slots Q (F0 m (pc + 3) ls (.int (h.2.2.1 a 1) :: rest))) : W p l e R s m args below meth c H locs cells slots Q (F0 m pc ls (.ref a :: rest)) :=
  hp_getI cx hB (ci := 5) 1 rfl inX5 (by decide) rfl (by decide) rfl qw_254 hka hdg kk
theorem cl_X8_102 {As st0 : List Value} {b : Nat} {Qc : Array Value → State → Outcome → State → Prop} (cx : CallFix p m c cc nL s args tbG RX8) (hB : hp_B D cA A s h H locs) (hM : hp_M l yX5_serves prog_7_method_7_code 2 (Option.some FieldType.boolean) rmX5_serves D cA h (.ref b :: As) Qc) (hkb : h.1 b = 6) (hR : rmX5_serves.frames + 1 ≤ R.frames ∧ 8 + (2 + 11) + rmX5_serves.locals ≤ R.locals) (hn : As.length = 1) (hls : ls.size = nL) (hst : st0 = As.reverse ++ .ref b :: rest) (hW : (rest.map fun v => v.category).sum ≤ 8) (hf : cells + rmX5_serves.cells ≤ R.cells ∧ slots + rmX5_serves.slots ≤ R.slots) (hdg : decode cc pc = .ok (.invokevirtual 102, 3)) :
    va_Run p l e R s m args below meth c H locs cells slots rmX5_serves.cells rmX5_serves.slots (F0 m pc ls st0) rest (Qc (Value.ref b :: As).toArray) (hp_A h) :=
  hp_runV cx hB hM (ci := 5) rfl (by decide) hkb qw_483 qw_548 qw_481 qw_482 qw_11 (by decide +kernel) hR hn hls hst hW hf hdg
theorem cl_X8_106 {As st0 : List Value} {b : Nat} {Qc : Array Value → State → Outcome → State → Prop} (cx : CallFix p m c cc nL s args tbG RX8) (hB : hp_B D cA A s h H locs) (hM : hp_M l yX8_finish prog_10_method_11_code 2 none rmX8_finish D cA h (.ref b :: As) Qc) (hkb : h.1 b = 9) (hR : rmX8_finish.frames + 1 ≤ R.frames ∧ 8 + (2 + 11) + rmX8_finish.locals ≤ R.locals) (hn : As.length = 1) (hls : ls.size = nL) (hst : st0 = As.reverse ++ .ref b :: rest) (hW : (rest.map fun v => v.category).sum ≤ 8) (hf : cells + rmX8_finish.cells ≤ R.cells ∧ slots + rmX8_finish.slots ≤ R.slots) (hdg : decode cc pc = .ok (.invokevirtual 106, 3)) :
    va_Run p l e R s m args below meth c H locs cells slots rmX8_finish.cells rmX8_finish.slots (F0 m pc ls st0) rest (Qc (Value.ref b :: As).toArray) (hp_A h) :=
  hp_runV cx hB hM (ci := 8) rfl (by decide) hkb qw_552 qw_549 qw_551 qp_8 qw_9 (by decide +kernel) hR hn hls hst hW hf hdg
theorem gf_X8_113 (cx : CallFix p m c cc nL s args tbG RX8) (hB : hp_B D cA A s h H locs) (hka : h.1 a = 1) (hdg : decode cc pc = .ok (.getfield 113, 3)) (kk : W p l e R s m args below meth c H locs cells slots Q (F0 m (pc + 3) ls (.int (h.2.2.1 a 3) :: rest))) : W p l e R s m args below meth c H locs cells slots Q (F0 m pc ls (.ref a :: rest)) :=
  hp_getI cx hB (ci := 0) 3 rfl inX0 (by decide) rfl (by decide) rfl qw_432 hka hdg kk
theorem cl_X8_116 {As st0 : List Value} {b : Nat} {Qc : Array Value → State → Outcome → State → Prop} (cx : CallFix p m c cc nL s args tbG RX8) (hB : hp_B D cA A s h H locs) (hM : hp_M l yX5_nextAtHour prog_7_method_8_code 3 (Option.some FieldType.int) rmX5_nextAtHour D cA h (.ref b :: As) Qc) (hkb : h.1 b = 6) (hR : rmX5_nextAtHour.frames + 1 ≤ R.frames ∧ 8 + (3 + 11) + rmX5_nextAtHour.locals ≤ R.locals) (hn : As.length = 1) (hls : ls.size = nL) (hst : st0 = As.reverse ++ .ref b :: rest) (hW : (rest.map fun v => v.category).sum ≤ 8) (hf : cells + rmX5_nextAtHour.cells ≤ R.cells ∧ slots + rmX5_nextAtHour.slots ≤ R.slots) (hdg : decode cc pc = .ok (.invokevirtual 116, 3)) :
    va_Run p l e R s m args below meth c H locs cells slots rmX5_nextAtHour.cells rmX5_nextAtHour.slots (F0 m pc ls st0) rest (Qc (Value.ref b :: As).toArray) (hp_A h) :=
  hp_runV cx hB hM (ci := 5) rfl (by decide) hkb qw_487 qw_553 qw_485 qw_486 qw_11 (by decide +kernel) hR hn hls hst hW hf hdg
theorem gf_X8_119 (cx : CallFix p m c cc nL s args tbG RX8) (hB : hp_B D cA A s h H locs) (hka : h.1 a = 1) (hdg : decode cc pc = .ok (.getfield 119, 3)) (kk : W p l e R s m args below meth c H locs cells slots Q (F0 m (pc + 3) ls (.int (h.2.2.1 a 1) :: rest))) : W p l e R s m args below meth c H locs cells slots Q (F0 m pc ls (.ref a :: rest)) :=
  hp_getI cx hB (ci := 0) 1 rfl inX0 (by decide) rfl (by decide) rfl qw_427 hka hdg kk
theorem cl_X8_122 {As st0 : List Value} {b : Nat} {Qc : Array Value → State → Outcome → State → Prop} (cx : CallFix p m c cc nL s args tbG RX8) (hB : hp_B D cA A s h H locs) (hM : hp_M l yX5_ticksOfTries prog_7_method_11_code 4 (Option.some FieldType.int) rmX5_ticksOfTries D cA h (.ref b :: As) Qc) (hkb : h.1 b = 6) (hR : rmX5_ticksOfTries.frames + 1 ≤ R.frames ∧ 8 + (4 + 11) + rmX5_ticksOfTries.locals ≤ R.locals) (hn : As.length = 2) (hls : ls.size = nL) (hst : st0 = As.reverse ++ .ref b :: rest) (hW : (rest.map fun v => v.category).sum ≤ 8) (hf : cells + rmX5_ticksOfTries.cells ≤ R.cells ∧ slots + rmX5_ticksOfTries.slots ≤ R.slots) (hdg : decode cc pc = .ok (.invokevirtual 122, 3)) :
    va_Run p l e R s m args below meth c H locs cells slots rmX5_ticksOfTries.cells rmX5_ticksOfTries.slots (F0 m pc ls st0) rest (Qc (Value.ref b :: As).toArray) (hp_A h) :=
  hp_runV cx hB hM (ci := 5) rfl (by decide) hkb qw_491 qw_554 qw_489 qw_490 qw_11 (by decide +kernel) hR hn hls hst hW hf hdg
theorem cl_X8_126 {As st0 : List Value} {b : Nat} {Qc : Array Value → State → Outcome → State → Prop} (cx : CallFix p m c cc nL s args tbG RX8) (hB : hp_B D cA A s h H locs) (hM : hp_M l yX5_nextForNumber prog_7_method_10_code 2 (Option.some FieldType.int) rmX5_nextForNumber D cA h (.ref b :: As) Qc) (hkb : h.1 b = 6) (hR : rmX5_nextForNumber.frames + 1 ≤ R.frames ∧ 8 + (2 + 11) + rmX5_nextForNumber.locals ≤ R.locals) (hn : As.length = 1) (hls : ls.size = nL) (hst : st0 = As.reverse ++ .ref b :: rest) (hW : (rest.map fun v => v.category).sum ≤ 8) (hf : cells + rmX5_nextForNumber.cells ≤ R.cells ∧ slots + rmX5_nextForNumber.slots ≤ R.slots) (hdg : decode cc pc = .ok (.invokevirtual 126, 3)) :
    va_Run p l e R s m args below meth c H locs cells slots rmX5_nextForNumber.cells rmX5_nextForNumber.slots (F0 m pc ls st0) rest (Qc (Value.ref b :: As).toArray) (hp_A h) :=
  hp_runV cx hB hM (ci := 5) rfl (by decide) hkb qw_499 qw_555 qw_497 qw_498 qw_11 (by decide +kernel) hR hn hls hst hW hf hdg
end
abbrev yX8_pass : MethodName := ⟨"SpokenMenus$Walk", "pass", "(LSpokenMenus$Place;LSpokenMenus$Ways;LSpokenMenus$Caller;)I"⟩
theorem dX8_pass_0 : decode prog_10_method_7_code 0 = .ok (.aload_n 1, 1) := by decide +kernel
theorem dX8_pass_1 : decode prog_10_method_7_code 1 = .ok (.getfield 74, 3) := by decide +kernel
theorem dX8_pass_4 : decode prog_10_method_7_code 4 = .ok (.tableswitch 110 0 3 #[32, 40, 71, 101], 32) := by decide +kernel
theorem dX8_pass_36 : decode prog_10_method_7_code 36 = .ok (.aload_n 0, 1) := by decide +kernel
theorem dX8_pass_37 : decode prog_10_method_7_code 37 = .ok (.aload_n 1, 1) := by decide +kernel
theorem dX8_pass_38 : decode prog_10_method_7_code 38 = .ok (.aload_n 2, 1) := by decide +kernel
theorem dX8_pass_39 : decode prog_10_method_7_code 39 = .ok (.aload_n 3, 1) := by decide +kernel
theorem dX8_pass_40 : decode prog_10_method_7_code 40 = .ok (.invokevirtual 91, 3) := by decide +kernel
theorem dX8_pass_43 : decode prog_10_method_7_code 43 = .ok (.ireturn, 1) := by decide +kernel
theorem dX8_pass_44 : decode prog_10_method_7_code 44 = .ok (.aload_n 0, 1) := by decide +kernel
theorem dX8_pass_45 : decode prog_10_method_7_code 45 = .ok (.aload_n 1, 1) := by decide +kernel
theorem dX8_pass_46 : decode prog_10_method_7_code 46 = .ok (.getfield 94, 3) := by decide +kernel
theorem dX8_pass_49 : decode prog_10_method_7_code 49 = .ok (.aload_n 3, 1) := by decide +kernel
theorem dX8_pass_50 : decode prog_10_method_7_code 50 = .ok (.invokevirtual 95, 3) := by decide +kernel
theorem dX8_pass_53 : decode prog_10_method_7_code 53 = .ok (.aload_n 0, 1) := by decide +kernel
theorem dX8_pass_54 : decode prog_10_method_7_code 54 = .ok (.aload_n 1, 1) := by decide +kernel
theorem dX8_pass_55 : decode prog_10_method_7_code 55 = .ok (.aload_n 3, 1) := by decide +kernel
theorem dX8_pass_56 : decode prog_10_method_7_code 56 = .ok (.getfield 99, 3) := by decide +kernel
theorem dX8_pass_59 : decode prog_10_method_7_code 59 = .ok (.invokevirtual 102, 3) := by decide +kernel
theorem dX8_pass_62 : decode prog_10_method_7_code 62 = .ok (.ifCond .eq 7, 3) := by decide +kernel
theorem dX8_pass_65 : decode prog_10_method_7_code 65 = .ok (.iconst 0, 1) := by decide +kernel
theorem dX8_pass_66 : decode prog_10_method_7_code 66 = .ok (.goto 4, 3) := by decide +kernel
theorem dX8_pass_69 : decode prog_10_method_7_code 69 = .ok (.iconst 1, 1) := by decide +kernel
theorem dX8_pass_70 : decode prog_10_method_7_code 70 = .ok (.invokevirtual 106, 3) := by decide +kernel
theorem dX8_pass_73 : decode prog_10_method_7_code 73 = .ok (.iconst (-1), 1) := by decide +kernel
theorem dX8_pass_74 : decode prog_10_method_7_code 74 = .ok (.ireturn, 1) := by decide +kernel
theorem dX8_pass_75 : decode prog_10_method_7_code 75 = .ok (.aload_n 0, 1) := by decide +kernel
theorem dX8_pass_76 : decode prog_10_method_7_code 76 = .ok (.aload_n 1, 1) := by decide +kernel
theorem dX8_pass_77 : decode prog_10_method_7_code 77 = .ok (.getfield 94, 3) := by decide +kernel
theorem dX8_pass_80 : decode prog_10_method_7_code 80 = .ok (.aload_n 3, 1) := by decide +kernel
theorem dX8_pass_81 : decode prog_10_method_7_code 81 = .ok (.invokevirtual 95, 3) := by decide +kernel
theorem dX8_pass_84 : decode prog_10_method_7_code 84 = .ok (.aload_n 1, 1) := by decide +kernel
theorem dX8_pass_85 : decode prog_10_method_7_code 85 = .ok (.aload_n 3, 1) := by decide +kernel
theorem dX8_pass_86 : decode prog_10_method_7_code 86 = .ok (.getfield 99, 3) := by decide +kernel
theorem dX8_pass_89 : decode prog_10_method_7_code 89 = .ok (.invokevirtual 102, 3) := by decide +kernel
theorem dX8_pass_92 : decode prog_10_method_7_code 92 = .ok (.ifCond .eq 8, 3) := by decide +kernel
theorem dX8_pass_95 : decode prog_10_method_7_code 95 = .ok (.aload_n 0, 1) := by decide +kernel
theorem dX8_pass_96 : decode prog_10_method_7_code 96 = .ok (.iconst 0, 1) := by decide +kernel
theorem dX8_pass_97 : decode prog_10_method_7_code 97 = .ok (.invokevirtual 106, 3) := by decide +kernel
theorem dX8_pass_100 : decode prog_10_method_7_code 100 = .ok (.aload_n 1, 1) := by decide +kernel
theorem dX8_pass_101 : decode prog_10_method_7_code 101 = .ok (.getfield 110, 3) := by decide +kernel
theorem dX8_pass_104 : decode prog_10_method_7_code 104 = .ok (.ireturn, 1) := by decide +kernel
theorem dX8_pass_105 : decode prog_10_method_7_code 105 = .ok (.aload_n 1, 1) := by decide +kernel
theorem dX8_pass_106 : decode prog_10_method_7_code 106 = .ok (.aload_n 3, 1) := by decide +kernel
theorem dX8_pass_107 : decode prog_10_method_7_code 107 = .ok (.getfield 113, 3) := by decide +kernel
theorem dX8_pass_110 : decode prog_10_method_7_code 110 = .ok (.invokevirtual 116, 3) := by decide +kernel
theorem dX8_pass_113 : decode prog_10_method_7_code 113 = .ok (.ireturn, 1) := by decide +kernel
theorem dX8_pass_114 : decode prog_10_method_7_code 114 = .ok (.aload_n 0, 1) := by decide +kernel
theorem dX8_pass_115 : decode prog_10_method_7_code 115 = .ok (.aload_n 1, 1) := by decide +kernel
theorem dX8_pass_116 : decode prog_10_method_7_code 116 = .ok (.aload_n 3, 1) := by decide +kernel
theorem dX8_pass_117 : decode prog_10_method_7_code 117 = .ok (.getfield 119, 3) := by decide +kernel
theorem dX8_pass_120 : decode prog_10_method_7_code 120 = .ok (.aload_n 2, 1) := by decide +kernel
theorem dX8_pass_121 : decode prog_10_method_7_code 121 = .ok (.ifnull 7, 3) := by decide +kernel
theorem dX8_pass_124 : decode prog_10_method_7_code 124 = .ok (.iconst 1, 1) := by decide +kernel
theorem dX8_pass_125 : decode prog_10_method_7_code 125 = .ok (.goto 4, 3) := by decide +kernel
theorem dX8_pass_128 : decode prog_10_method_7_code 128 = .ok (.iconst 0, 1) := by decide +kernel
theorem dX8_pass_129 : decode prog_10_method_7_code 129 = .ok (.invokevirtual 122, 3) := by decide +kernel
theorem dX8_pass_132 : decode prog_10_method_7_code 132 = .ok (.aload_n 3, 1) := by decide +kernel
theorem dX8_pass_133 : decode prog_10_method_7_code 133 = .ok (.invokevirtual 95, 3) := by decide +kernel
theorem dX8_pass_136 : decode prog_10_method_7_code 136 = .ok (.aload_n 1, 1) := by decide +kernel
theorem dX8_pass_137 : decode prog_10_method_7_code 137 = .ok (.aload_n 3, 1) := by decide +kernel
theorem dX8_pass_138 : decode prog_10_method_7_code 138 = .ok (.getfield 119, 3) := by decide +kernel
theorem dX8_pass_141 : decode prog_10_method_7_code 141 = .ok (.invokevirtual 126, 3) := by decide +kernel
theorem dX8_pass_144 : decode prog_10_method_7_code 144 = .ok (.ireturn, 1) := by decide +kernel
abbrev rmX8_pass : Room := { frames := 3, cells := 0, slots := 0, locals := 69 }
def fX8_pass_129  (t1 : Nat) (t3 : Nat) (s0 : Int32) (s1 : Int32) (u2 : Nat) (u3 : Nat) (h : Hp) : Option (Int32 × Hp) :=
  gk (h.1 u2) 6 <|
  b2 (fX5_ticksOfTries u2 s1 s0 h) fun r4 g2 =>
  gk (g2.1 u3) 9 <|
  b2 (fX8_spend u3 r4 (some t3) g2) fun _ g7 =>
  gk (g7.1 t3) 1 <|
  gk (g7.1 t1) 6 <|
  b2 (fX5_nextForNumber t1 (g7.2.2.1 t3 1) g7) fun r15 g13 =>
  some (r15, g13)
def fX8_pass  (t0 : Nat) (w1 : Option Nat) (w2 : Option Nat) (w3 : Option Nat) (h : Hp) : Option (Int32 × Hp) :=
  bd w1 fun a1 =>
  gk (h.1 a1) 6 <|
  nm (h.2.2.1 a1 0) fun x3 =>
  if x3 = 0 then
  (gk (h.1 t0) 9 <|
  b2 (fX8_passMenu t0 (some a1) w2 w3 h) fun r8 g6 =>
  some (r8, g6))
  else
  if x3 = 1 then
  (gk (h.1 t0) 9 <|
  b2 (fX8_spend t0 (h.2.2.1 a1 1) w3 h) fun _ g12 =>
  bd w3 fun a16 =>
  gk (g12.1 a16) 1 <|
  gk (g12.1 a1) 6 <|
  b2 (fX5_serves a1 (g12.2.2.1 a16 0) g12) fun r21 g19 =>
  if r21 = 0 then
  (gk (g19.1 t0) 9 <|
  b2 (fX8_finish t0 1 g19) fun _ g25 =>
  some ((-1), g25))
  else
  (gk (g19.1 t0) 9 <|
  b2 (fX8_finish t0 0 g19) fun _ g30 =>
  some ((-1), g30)))
  else
  if x3 = 2 then
  (gk (h.1 t0) 9 <|
  b2 (fX8_spend t0 (h.2.2.1 a1 1) w3 h) fun _ g36 =>
  bd w3 fun a40 =>
  gk (g36.1 a40) 1 <|
  gk (g36.1 a1) 6 <|
  b2 (fX5_serves a1 (g36.2.2.1 a40 0) g36) fun r45 g43 =>
  if r45 = 0 then
  (gk (g43.1 a1) 6 <|
  some (g43.2.2.1 a1 3, g43))
  else
  (gk (g43.1 t0) 9 <|
  b2 (fX8_finish t0 0 g43) fun _ g50 =>
  gk (g50.1 a1) 6 <|
  some (g50.2.2.1 a1 3, g50)))
  else
  if x3 = 3 then
  (bd w3 fun a56 =>
  gk (h.1 a56) 1 <|
  b2 (fX5_nextAtHour a1 (h.2.2.1 a56 3) h) fun r60 g58 =>
  some (r60, g58))
  else
  (bd w3 fun a62 =>
  gk (h.1 a62) 1 <|
  rn w2
  (fX8_pass_129  a1 a62 0 (h.2.2.1 a62 1) a1 t0 h)
  (fun a64 =>
  fX8_pass_129  a1 a62 1 (h.2.2.1 a62 1) a1 t0 h))
section
variable {p : Program} {l : Launch} {e : Env} {s : State} {m : MethodId} {args : Array Value} {below : List Frame} {meth : Method} {c : Code} {D : va_G} {cA : Nat → ClassId} {h0 h9 : Hp}
set_option maxHeartbeats 4000000 in
set_option maxRecDepth 100000 in
theorem tX8_pass_129  {r : Int32} (cx : CallFix p m c prog_10_method_7_code 4 s args tbG RX8) (hr : meth.sig.returnType = (Option.some FieldType.int)) (hlk : meth.locks = false)  (t1 : Nat) (t3 : Nat) (s0 : Int32) (s1 : Int32) (u2 : Nat) (u3 : Nat) (h : Hp) (H : Heap) (locs : List Loc) (ls : Array Slot) (hB : hp_B D cA (hp_A h0) s h H locs) (hl : lv_has ls 4 [(1, .ref t1), (3, .ref t3)]) (hf : fX8_pass_129  t1 t3 s0 s1 u2 u3 h = some (r, h9)) : W p l e rmX8_pass s m args below meth c H locs 0 0 (MQ below (hp_Qi D cA h0 h9 r) args s 0 0 (hp_A h0)) (F0 m 129 ls [.int s0, .int s1, .ref u2, .ref u3]) := by
  obtain ⟨hx, hb, -⟩ := id cx
  unfold fX8_pass_129 at hf
  obtain ⟨k1, hf⟩ := gk_ok hf
  obtain ⟨r4, g2, m3, hf⟩ := b2_ok hf
  refine hp_cI0 (cl_X8_122 cx hB (cX5_ticksOfTries l D cA u2 s1 s0 h _ g2 m3) k1 ⟨Nat.le_of_ble_eq_true rfl, Nat.le_of_ble_eq_true rfl⟩ rfl hl.1 rfl (Nat.le_of_ble_eq_true rfl) ⟨Nat.le_of_ble_eq_true rfl, Nat.le_of_ble_eq_true rfl⟩ dX8_pass_129) rfl rfl hB (fun H locs hB => ?_)
  refine lv_aload_n hx hb dX8_pass_132 rfl (lv_at hl 1 rfl) ?_
  obtain ⟨k6, hf⟩ := gk_ok hf
  obtain ⟨uu, g7, m8, hf⟩ := b2_ok hf
  refine hp_cV0 (cl_X8_95 cx hB (cX8_spend l D cA u3 r4 (some t3) g2 _ g7 m8) k6 ⟨Nat.le_of_ble_eq_true rfl, Nat.le_of_ble_eq_true rfl⟩ rfl hl.1 rfl (Nat.le_of_ble_eq_true rfl) ⟨Nat.le_of_ble_eq_true rfl, Nat.le_of_ble_eq_true rfl⟩ dX8_pass_133) rfl rfl hB (fun H locs hB => ?_)
  refine lv_aload_n hx hb dX8_pass_136 rfl (lv_at hl 0 rfl) ?_
  refine lv_aload_n hx hb dX8_pass_137 rfl (lv_at hl 1 rfl) ?_
  obtain ⟨k11, hf⟩ := gk_ok hf
  refine gf_X8_119 cx hB k11 dX8_pass_138 ?_
  obtain ⟨k12, hf⟩ := gk_ok hf
  obtain ⟨r15, g13, m14, hf⟩ := b2_ok hf
  refine hp_cI0 (cl_X8_126 cx hB (cX5_nextForNumber l D cA t1 (g7.2.2.1 t3 1) g7 _ g13 m14) k12 ⟨Nat.le_of_ble_eq_true rfl, Nat.le_of_ble_eq_true rfl⟩ rfl hl.1 rfl (Nat.le_of_ble_eq_true rfl) ⟨Nat.le_of_ble_eq_true rfl, Nat.le_of_ble_eq_true rfl⟩ dX8_pass_141) rfl rfl hB (fun H locs hB => ?_)
  obtain ⟨rfl, rfl⟩ := rt_ok hf
  exact hp_iret cx hB hr hlk (Nat.le_of_ble_eq_true rfl) (Nat.le_of_ble_eq_true rfl) dX8_pass_144
set_option maxHeartbeats 4000000 in
set_option maxRecDepth 100000 in
theorem tX8_pass_0  {r : Int32} (cx : CallFix p m c prog_10_method_7_code 4 s args tbG RX8) (hr : meth.sig.returnType = (Option.some FieldType.int)) (hlk : meth.locks = false)  (t0 : Nat) (w1 : Option Nat) (w2 : Option Nat) (w3 : Option Nat) (h : Hp) (H : Heap) (locs : List Loc) (ls : Array Slot) (hB : hp_B D cA (hp_A h0) s h H locs) (hl : lv_has ls 4 [(0, .ref t0), (1, va_rf w1), (2, va_rf w2), (3, va_rf w3)]) (hf : fX8_pass  t0 w1 w2 w3 h = some (r, h9)) : W p l e rmX8_pass s m args below meth c H locs 0 0 (MQ below (hp_Qi D cA h0 h9 r) args s 0 0 (hp_A h0)) (F0 m 0 ls []) := by
  obtain ⟨hx, hb, -⟩ := id cx
  unfold fX8_pass at hf
  refine lq_aload_n hx hb dX8_pass_0 rfl (lv_at hl 1 rfl) ?_
  obtain ⟨a1, eo, hf⟩ := bd_ok hf
  subst eo
  obtain ⟨k2, hf⟩ := gk_ok hf
  refine gf_X8_74 cx hB k2 dX8_pass_1 ?_
  obtain ⟨x3, ex3, hf⟩ := nm_ok hf
  refine lv_ren ex3 ?_
  by_cases c4 : x3 = 0
  · replace hf := it_t c4 hf
    refine lv_tableIn (off := 32) (tgt := 36) hx hb dX8_pass_4 (by rw [c4]; decide) (by rw [c4]; decide) (by rw [c4]; rfl) (by decide) ?_
    refine lv_aload_n hx hb dX8_pass_36 rfl (lv_at hl 0 rfl) ?_
    refine lv_aload_n hx hb dX8_pass_37 rfl (lv_at hl 1 rfl) ?_
    refine lq_aload_n hx hb dX8_pass_38 rfl (lv_at hl 2 rfl) ?_
    refine lq_aload_n hx hb dX8_pass_39 rfl (lv_at hl 3 rfl) ?_
    obtain ⟨k5, hf⟩ := gk_ok hf
    obtain ⟨r8, g6, m7, hf⟩ := b2_ok hf
    refine hp_cI0 (cl_X8_91 cx hB (cX8_passMenu l D cA t0 (some a1) w2 w3 h _ g6 m7) k5 ⟨Nat.le_of_ble_eq_true rfl, Nat.le_of_ble_eq_true rfl⟩ rfl hl.1 rfl (Nat.le_of_ble_eq_true rfl) ⟨Nat.le_of_ble_eq_true rfl, Nat.le_of_ble_eq_true rfl⟩ dX8_pass_40) rfl rfl hB (fun H locs hB => ?_)
    obtain ⟨rfl, rfl⟩ := rt_ok hf
    exact hp_iret cx hB hr hlk (Nat.le_of_ble_eq_true rfl) (Nat.le_of_ble_eq_true rfl) dX8_pass_43
  · replace hf := it_f c4 hf
    by_cases c10 : x3 = 1
    · replace hf := it_t c10 hf
      refine lv_tableIn (off := 40) (tgt := 44) hx hb dX8_pass_4 (by rw [c10]; decide) (by rw [c10]; decide) (by rw [c10]; rfl) (by decide) ?_
      refine lv_aload_n hx hb dX8_pass_44 rfl (lv_at hl 0 rfl) ?_
      refine lv_aload_n hx hb dX8_pass_45 rfl (lv_at hl 1 rfl) ?_
      refine gf_X8_94 cx hB k2 dX8_pass_46 ?_
      refine lq_aload_n hx hb dX8_pass_49 rfl (lv_at hl 3 rfl) ?_
      obtain ⟨k11, hf⟩ := gk_ok hf
      obtain ⟨uu, g12, m13, hf⟩ := b2_ok hf
      refine hp_cV0 (cl_X8_95 cx hB (cX8_spend l D cA t0 (h.2.2.1 a1 1) w3 h _ g12 m13) k11 ⟨Nat.le_of_ble_eq_true rfl, Nat.le_of_ble_eq_true rfl⟩ rfl hl.1 rfl (Nat.le_of_ble_eq_true rfl) ⟨Nat.le_of_ble_eq_true rfl, Nat.le_of_ble_eq_true rfl⟩ dX8_pass_50) rfl rfl hB (fun H locs hB => ?_)
      refine lv_aload_n hx hb dX8_pass_53 rfl (lv_at hl 0 rfl) ?_
      refine lv_aload_n hx hb dX8_pass_54 rfl (lv_at hl 1 rfl) ?_
      refine lq_aload_n hx hb dX8_pass_55 rfl (lv_at hl 3 rfl) ?_
      obtain ⟨a16, eo, hf⟩ := bd_ok hf
      subst eo
      obtain ⟨k17, hf⟩ := gk_ok hf
      refine gf_X8_99 cx hB k17 dX8_pass_56 ?_
      obtain ⟨k18, hf⟩ := gk_ok hf
      obtain ⟨r21, g19, m20, hf⟩ := b2_ok hf
      refine hp_cI0 (cl_X8_102 cx hB (cX5_serves l D cA a1 (g12.2.2.1 a16 0) g12 _ g19 m20) k18 ⟨Nat.le_of_ble_eq_true rfl, Nat.le_of_ble_eq_true rfl⟩ rfl hl.1 rfl (Nat.le_of_ble_eq_true rfl) ⟨Nat.le_of_ble_eq_true rfl, Nat.le_of_ble_eq_true rfl⟩ dX8_pass_59) rfl rfl hB (fun H locs hB => ?_)
      refine lv_if_eq (tgt := 69) hx hb dX8_pass_62 (by decide) (fun c23 => ?_) (fun c23 => ?_)
      · replace hf := it_t c23 hf
        refine lv_iconst (v := 1) hx hb dX8_pass_69 (by decide) ?_
        obtain ⟨k24, hf⟩ := gk_ok hf
        obtain ⟨uu, g25, m26, hf⟩ := b2_ok hf
        refine hp_cV0 (cl_X8_106 cx hB (cX8_finish l D cA t0 1 g19 _ g25 m26) k24 ⟨Nat.le_of_ble_eq_true rfl, Nat.le_of_ble_eq_true rfl⟩ rfl hl.1 rfl (Nat.le_of_ble_eq_true rfl) ⟨Nat.le_of_ble_eq_true rfl, Nat.le_of_ble_eq_true rfl⟩ dX8_pass_70) rfl rfl hB (fun H locs hB => ?_)
        refine lv_iconst (v := (-1)) hx hb dX8_pass_73 (by decide) ?_
        obtain ⟨rfl, rfl⟩ := rt_ok hf
        exact hp_iret cx hB hr hlk (Nat.le_of_ble_eq_true rfl) (Nat.le_of_ble_eq_true rfl) dX8_pass_74
      · replace hf := it_f c23 hf
        refine lv_iconst (v := 0) hx hb dX8_pass_65 (by decide) ?_
        refine lv_goto (tgt := 70) hx hb dX8_pass_66 (by decide) ?_
        obtain ⟨k29, hf⟩ := gk_ok hf
        obtain ⟨uu, g30, m31, hf⟩ := b2_ok hf
        refine hp_cV0 (cl_X8_106 cx hB (cX8_finish l D cA t0 0 g19 _ g30 m31) k29 ⟨Nat.le_of_ble_eq_true rfl, Nat.le_of_ble_eq_true rfl⟩ rfl hl.1 rfl (Nat.le_of_ble_eq_true rfl) ⟨Nat.le_of_ble_eq_true rfl, Nat.le_of_ble_eq_true rfl⟩ dX8_pass_70) rfl rfl hB (fun H locs hB => ?_)
        refine lv_iconst (v := (-1)) hx hb dX8_pass_73 (by decide) ?_
        obtain ⟨rfl, rfl⟩ := rt_ok hf
        exact hp_iret cx hB hr hlk (Nat.le_of_ble_eq_true rfl) (Nat.le_of_ble_eq_true rfl) dX8_pass_74
    · replace hf := it_f c10 hf
      by_cases c34 : x3 = 2
      · replace hf := it_t c34 hf
        refine lv_tableIn (off := 71) (tgt := 75) hx hb dX8_pass_4 (by rw [c34]; decide) (by rw [c34]; decide) (by rw [c34]; rfl) (by decide) ?_
        refine lv_aload_n hx hb dX8_pass_75 rfl (lv_at hl 0 rfl) ?_
        refine lv_aload_n hx hb dX8_pass_76 rfl (lv_at hl 1 rfl) ?_
        refine gf_X8_94 cx hB k2 dX8_pass_77 ?_
        refine lq_aload_n hx hb dX8_pass_80 rfl (lv_at hl 3 rfl) ?_
        obtain ⟨k35, hf⟩ := gk_ok hf
        obtain ⟨uu, g36, m37, hf⟩ := b2_ok hf
        refine hp_cV0 (cl_X8_95 cx hB (cX8_spend l D cA t0 (h.2.2.1 a1 1) w3 h _ g36 m37) k35 ⟨Nat.le_of_ble_eq_true rfl, Nat.le_of_ble_eq_true rfl⟩ rfl hl.1 rfl (Nat.le_of_ble_eq_true rfl) ⟨Nat.le_of_ble_eq_true rfl, Nat.le_of_ble_eq_true rfl⟩ dX8_pass_81) rfl rfl hB (fun H locs hB => ?_)
        refine lv_aload_n hx hb dX8_pass_84 rfl (lv_at hl 1 rfl) ?_
        refine lq_aload_n hx hb dX8_pass_85 rfl (lv_at hl 3 rfl) ?_
        obtain ⟨a40, eo, hf⟩ := bd_ok hf
        subst eo
        obtain ⟨k41, hf⟩ := gk_ok hf
        refine gf_X8_99 cx hB k41 dX8_pass_86 ?_
        obtain ⟨k42, hf⟩ := gk_ok hf
        obtain ⟨r45, g43, m44, hf⟩ := b2_ok hf
        refine hp_cI0 (cl_X8_102 cx hB (cX5_serves l D cA a1 (g36.2.2.1 a40 0) g36 _ g43 m44) k42 ⟨Nat.le_of_ble_eq_true rfl, Nat.le_of_ble_eq_true rfl⟩ rfl hl.1 rfl (Nat.le_of_ble_eq_true rfl) ⟨Nat.le_of_ble_eq_true rfl, Nat.le_of_ble_eq_true rfl⟩ dX8_pass_89) rfl rfl hB (fun H locs hB => ?_)
        refine lv_if_eq (tgt := 100) hx hb dX8_pass_92 (by decide) (fun c47 => ?_) (fun c47 => ?_)
        · replace hf := it_t c47 hf
          refine lv_aload_n hx hb dX8_pass_100 rfl (lv_at hl 1 rfl) ?_
          obtain ⟨k48, hf⟩ := gk_ok hf
          refine gf_X8_110 cx hB k48 dX8_pass_101 ?_
          obtain ⟨rfl, rfl⟩ := rt_ok hf
          exact hp_iret cx hB hr hlk (Nat.le_of_ble_eq_true rfl) (Nat.le_of_ble_eq_true rfl) dX8_pass_104
        · replace hf := it_f c47 hf
          refine lv_aload_n hx hb dX8_pass_95 rfl (lv_at hl 0 rfl) ?_
          refine lv_iconst (v := 0) hx hb dX8_pass_96 (by decide) ?_
          obtain ⟨k49, hf⟩ := gk_ok hf
          obtain ⟨uu, g50, m51, hf⟩ := b2_ok hf
          refine hp_cV0 (cl_X8_106 cx hB (cX8_finish l D cA t0 0 g43 _ g50 m51) k49 ⟨Nat.le_of_ble_eq_true rfl, Nat.le_of_ble_eq_true rfl⟩ rfl hl.1 rfl (Nat.le_of_ble_eq_true rfl) ⟨Nat.le_of_ble_eq_true rfl, Nat.le_of_ble_eq_true rfl⟩ dX8_pass_97) rfl rfl hB (fun H locs hB => ?_)
          refine lv_aload_n hx hb dX8_pass_100 rfl (lv_at hl 1 rfl) ?_
          obtain ⟨k54, hf⟩ := gk_ok hf
          refine gf_X8_110 cx hB k54 dX8_pass_101 ?_
          obtain ⟨rfl, rfl⟩ := rt_ok hf
          exact hp_iret cx hB hr hlk (Nat.le_of_ble_eq_true rfl) (Nat.le_of_ble_eq_true rfl) dX8_pass_104
      · replace hf := it_f c34 hf
        by_cases c55 : x3 = 3
        · replace hf := it_t c55 hf
          refine lv_tableIn (off := 101) (tgt := 105) hx hb dX8_pass_4 (by rw [c55]; decide) (by rw [c55]; decide) (by rw [c55]; rfl) (by decide) ?_
          refine lv_aload_n hx hb dX8_pass_105 rfl (lv_at hl 1 rfl) ?_
          refine lq_aload_n hx hb dX8_pass_106 rfl (lv_at hl 3 rfl) ?_
          obtain ⟨a56, eo, hf⟩ := bd_ok hf
          subst eo
          obtain ⟨k57, hf⟩ := gk_ok hf
          refine gf_X8_113 cx hB k57 dX8_pass_107 ?_
          obtain ⟨r60, g58, m59, hf⟩ := b2_ok hf
          refine hp_cI0 (cl_X8_116 cx hB (cX5_nextAtHour l D cA a1 (h.2.2.1 a56 3) h _ g58 m59) k2 ⟨Nat.le_of_ble_eq_true rfl, Nat.le_of_ble_eq_true rfl⟩ rfl hl.1 rfl (Nat.le_of_ble_eq_true rfl) ⟨Nat.le_of_ble_eq_true rfl, Nat.le_of_ble_eq_true rfl⟩ dX8_pass_110) rfl rfl hB (fun H locs hB => ?_)
          obtain ⟨rfl, rfl⟩ := rt_ok hf
          exact hp_iret cx hB hr hlk (Nat.le_of_ble_eq_true rfl) (Nat.le_of_ble_eq_true rfl) dX8_pass_113
        · replace hf := it_f c55 hf
          refine lv_tableOut (tgt := 114) hx hb dX8_pass_4 (by have nc4 := lv_neT c4 (a := 0) rfl; have nc10 := lv_neT c10 (a := 1) rfl; have nc34 := lv_neT c34 (a := 2) rfl; have nc55 := lv_neT c55 (a := 3) rfl; omega) (by decide) ?_
          refine lv_aload_n hx hb dX8_pass_114 rfl (lv_at hl 0 rfl) ?_
          refine lv_aload_n hx hb dX8_pass_115 rfl (lv_at hl 1 rfl) ?_
          refine lq_aload_n hx hb dX8_pass_116 rfl (lv_at hl 3 rfl) ?_
          obtain ⟨a62, eo, hf⟩ := bd_ok hf
          subst eo
          obtain ⟨k63, hf⟩ := gk_ok hf
          refine gf_X8_119 cx hB k63 dX8_pass_117 ?_
          refine lq_aload_n hx hb dX8_pass_120 rfl (lv_at hl 2 rfl) ?_
          refine lq_ifnull (tgt := 128) hx hb dX8_pass_121 (by decide) (fun eo => ?_) (fun a64 eo => ?_)
          · subst eo
            replace hf := rn_n hf
            refine lv_iconst (v := 0) hx hb dX8_pass_128 (by decide) ?_
            exact tX8_pass_129 cx hr hlk  a1 a62 0 (h.2.2.1 a62 1) a1 t0 h _ _ _ hB (lv_sub hl [1, 3] rfl) hf
          · subst eo
            replace hf := rn_s hf
            refine lv_iconst (v := 1) hx hb dX8_pass_124 (by decide) ?_
            refine lv_goto (tgt := 129) hx hb dX8_pass_125 (by decide) ?_
            exact tX8_pass_129 cx hr hlk  a1 a62 1 (h.2.2.1 a62 1) a1 t0 h _ _ _ hB (lv_sub hl [1, 3] rfl) hf
end
set_option maxHeartbeats 4000000 in
set_option maxRecDepth 100000 in
theorem cX8_pass (l : Launch) (D : va_G) (cA : Nat → ClassId) (t0 : Nat) (w1 : Option Nat) (w2 : Option Nat) (w3 : Option Nat) (h : Hp) (r : Int32) (h9 : Hp) (hf : fX8_pass t0 w1 w2 w3 h = some (r, h9)) : hp_M l yX8_pass prog_10_method_7_code 4 (Option.some FieldType.int) rmX8_pass D cA h [.ref t0, va_rf w1, va_rf w2, va_rf w3] (hp_Qi D cA h h9 r) := by
  refine Met.ofW (cc := prog_10_method_7_code) (maxL := 4) (ret := (Option.some FieldType.int)) (by decide) rfl ?_
  intro p e s m args below meth c s₁ B hml hv
  obtain ⟨rfl, hU⟩ := hv
  have hts := atoms_spec (ws := Cond.code yX8_pass prog_10_method_7_code 4 (Option.some FieldType.int) :: tbG) B.pre
  have hl := lv_entry ([.ref t0, va_rf w1, va_rf w2, va_rf w3]) (n := 4) (by simp [lg_sl, va_rf_cat, cat_i, cat_r, cat_n])
  rw [show lv_args 0 ([.ref t0, va_rf w1, va_rf w2, va_rf w3]) = [(0, .ref t0), (1, va_rf w1), (2, va_rf w2), (3, va_rf w3)] by simp [lv_args, va_rf_cat, cat_i, cat_r, cat_n]] at hl
  rw [lg_entry_eq]
  generalize (lg_sl ([.ref t0, va_rf w1, va_rf w2, va_rf w3]) ++ List.replicate (4 - (lg_sl ([.ref t0, va_rf w1, va_rf w2, va_rf w3])).length) Slot.unset).toArray = ls at hl ⊢
  exact tX8_pass_0 ⟨B.exec, B.bytes, hml, findClass_of_methodNamed B.named, fun w hw => hts w (List.mem_cons_of_mem _ hw)⟩ B.returns B.notSynchronized t0 w1 w2 w3 h _ _ _ (hp_B.entry hU) hl hf
section
variable {p : Program} {l : Launch} {e : Env} {R : Room} {s : State} {m : MethodId} {args : Array Value} {below : List Frame} {meth : Method} {c : Code} {H : Heap} {locs : List Loc} {cells slots : Nat} {Q : State → Prop}
variable {cc : ByteArray} {pc nL : Nat} {ls : Array Slot} {rest : List Value} {D : va_G} {cA : Nat → ClassId} {A : Nat → Prop} {a : Nat} {h : Hp}
theorem cl_X8_65 {As st0 : List Value} {b : Nat} {Qc : Array Value → State → Outcome → State → Prop} (cx : CallFix p m c cc nL s args tbG RX8) (hB : hp_B D cA A s h H locs) (hM : hp_M l yX8_begin prog_10_method_5_code 1 none rmX8_begin D cA h (.ref b :: As) Qc) (hkb : h.1 b = 9) (hR : rmX8_begin.frames + 1 ≤ R.frames ∧ 8 + (1 + 11) + rmX8_begin.locals ≤ R.locals) (hn : As.length = 0) (hls : ls.size = nL) (hst : st0 = As.reverse ++ .ref b :: rest) (hW : (rest.map fun v => v.category).sum ≤ 8) (hf : cells + rmX8_begin.cells ≤ R.cells ∧ slots + rmX8_begin.slots ≤ R.slots) (hdg : decode cc pc = .ok (.invokevirtual 65, 3)) :
    va_Run p l e R s m args below meth c H locs cells slots rmX8_begin.cells rmX8_begin.slots (F0 m pc ls st0) rest (Qc (Value.ref b :: As).toArray) (hp_A h) :=
  hp_runV cx hB hM (ci := 8) rfl (by decide) hkb qw_509 qw_506 qw_508 qp_2 qw_9 (by decide +kernel) hR hn hls hst hW hf hdg
theorem cl_X8_68 {As st0 : List Value} {b : Nat} {Qc : Array Value → State → Outcome → State → Prop} (cx : CallFix p m c cc nL s args tbG RX8) (hB : hp_B D cA A s h H locs) (hM : hp_M l yX2_at prog_4_method_4_code 2 (Option.some (FieldType.object "SpokenMenus$Place")) rmX2_at D cA h (.ref b :: As) Qc) (hkb : h.1 b = 3) (hR : rmX2_at.frames + 1 ≤ R.frames ∧ 8 + (2 + 11) + rmX2_at.locals ≤ R.locals) (hn : As.length = 1) (hls : ls.size = nL) (hst : st0 = As.reverse ++ .ref b :: rest) (hW : (rest.map fun v => v.category).sum ≤ 8) (hf : cells + rmX2_at.cells ≤ R.cells ∧ slots + rmX2_at.slots ≤ R.slots) (hdg : decode cc pc = .ok (.invokevirtual 68, 3)) :
    va_Run p l e R s m args below meth c H locs cells slots rmX2_at.cells rmX2_at.slots (F0 m pc ls st0) rest (Qc (Value.ref b :: As).toArray) (hp_A h) :=
  hp_runV cx hB hM (ci := 2) rfl (by decide) hkb qw_323 qw_513 qw_321 qw_322 qw_2 (by decide +kernel) hR hn hls hst hW hf hdg
theorem cl_X8_79 {As st0 : List Value} {b : Nat} {Qc : Array Value → State → Outcome → State → Prop} (cx : CallFix p m c cc nL s args tbG RX8) (hB : hp_B D cA A s h H locs) (hM : hp_M l yX8_come prog_10_method_6_code 3 none rmX8_come D cA h (.ref b :: As) Qc) (hkb : h.1 b = 9) (hR : rmX8_come.frames + 1 ≤ R.frames ∧ 8 + (3 + 11) + rmX8_come.locals ≤ R.locals) (hn : As.length = 2) (hls : ls.size = nL) (hst : st0 = As.reverse ++ .ref b :: rest) (hW : (rest.map fun v => v.category).sum ≤ 8) (hf : cells + rmX8_come.cells ≤ R.cells ∧ slots + rmX8_come.slots ≤ R.slots) (hdg : decode cc pc = .ok (.invokevirtual 79, 3)) :
    va_Run p l e R s m args below meth c H locs cells slots rmX8_come.cells rmX8_come.slots (F0 m pc ls st0) rest (Qc (Value.ref b :: As).toArray) (hp_A h) :=
  hp_runV cx hB hM (ci := 8) rfl (by decide) hkb qw_517 qw_514 qw_516 qp_3 qw_9 (by decide +kernel) hR hn hls hst hW hf hdg
theorem cl_X8_83 {As st0 : List Value} {b : Nat} {Qc : Array Value → State → Outcome → State → Prop} (cx : CallFix p m c cc nL s args tbG RX8) (hB : hp_B D cA A s h H locs) (hM : hp_M l yX8_pass prog_10_method_7_code 4 (Option.some FieldType.int) rmX8_pass D cA h (.ref b :: As) Qc) (hkb : h.1 b = 9) (hR : rmX8_pass.frames + 1 ≤ R.frames ∧ 8 + (4 + 11) + rmX8_pass.locals ≤ R.locals) (hn : As.length = 3) (hls : ls.size = nL) (hst : st0 = As.reverse ++ .ref b :: rest) (hW : (rest.map fun v => v.category).sum ≤ 8) (hf : cells + rmX8_pass.cells ≤ R.cells ∧ slots + rmX8_pass.slots ≤ R.slots) (hdg : decode cc pc = .ok (.invokevirtual 83, 3)) :
    va_Run p l e R s m args below meth c H locs cells slots rmX8_pass.cells rmX8_pass.slots (F0 m pc ls st0) rest (Qc (Value.ref b :: As).toArray) (hp_A h) :=
  hp_runV cx hB hM (ci := 8) rfl (by decide) hkb qw_521 qw_518 qw_520 qp_4 qw_9 (by decide +kernel) hR hn hls hst hW hf hdg
end
abbrev yX8_goThrough : MethodName := ⟨"SpokenMenus$Walk", "goThrough", "(LSpokenMenus$House;LSpokenMenus$Ways;LSpokenMenus$Caller;)V"⟩
theorem dX8_goThrough_0 : decode prog_10_method_3_code 0 = .ok (.aload_n 0, 1) := by decide +kernel
theorem dX8_goThrough_1 : decode prog_10_method_3_code 1 = .ok (.invokevirtual 65, 3) := by decide +kernel
theorem dX8_goThrough_4 : decode prog_10_method_3_code 4 = .ok (.iconst 0, 1) := by decide +kernel
theorem dX8_goThrough_5 : decode prog_10_method_3_code 5 = .ok (.istore 4, 2) := by decide +kernel
theorem dX8_goThrough_7 : decode prog_10_method_3_code 7 = .ok (.iconst 0, 1) := by decide +kernel
theorem dX8_goThrough_8 : decode prog_10_method_3_code 8 = .ok (.istore 5, 2) := by decide +kernel
theorem dX8_goThrough_10 : decode prog_10_method_3_code 10 = .ok (.iload 5, 2) := by decide +kernel
theorem dX8_goThrough_12 : decode prog_10_method_3_code 12 = .ok (.ldc 60, 2) := by decide +kernel
theorem dX8_goThrough_14 : decode prog_10_method_3_code 14 = .ok (.if_icmp .ge 59, 3) := by decide +kernel
theorem dX8_goThrough_17 : decode prog_10_method_3_code 17 = .ok (.aload_n 0, 1) := by decide +kernel
theorem dX8_goThrough_18 : decode prog_10_method_3_code 18 = .ok (.getfield 15, 3) := by decide +kernel
theorem dX8_goThrough_21 : decode prog_10_method_3_code 21 = .ok (.iconst (-1), 1) := by decide +kernel
theorem dX8_goThrough_22 : decode prog_10_method_3_code 22 = .ok (.if_icmp .ne 51, 3) := by decide +kernel
theorem dX8_goThrough_25 : decode prog_10_method_3_code 25 = .ok (.aload_n 1, 1) := by decide +kernel
theorem dX8_goThrough_26 : decode prog_10_method_3_code 26 = .ok (.iload 4, 2) := by decide +kernel
theorem dX8_goThrough_28 : decode prog_10_method_3_code 28 = .ok (.invokevirtual 68, 3) := by decide +kernel
theorem dX8_goThrough_31 : decode prog_10_method_3_code 31 = .ok (.astore 6, 2) := by decide +kernel
theorem dX8_goThrough_33 : decode prog_10_method_3_code 33 = .ok (.aload 6, 2) := by decide +kernel
theorem dX8_goThrough_35 : decode prog_10_method_3_code 35 = .ok (.ifnonnull 11, 3) := by decide +kernel
theorem dX8_goThrough_38 : decode prog_10_method_3_code 38 = .ok (.aload_n 0, 1) := by decide +kernel
theorem dX8_goThrough_39 : decode prog_10_method_3_code 39 = .ok (.iconst 1, 1) := by decide +kernel
theorem dX8_goThrough_40 : decode prog_10_method_3_code 40 = .ok (.putfield 15, 3) := by decide +kernel
theorem dX8_goThrough_43 : decode prog_10_method_3_code 43 = .ok (.goto 24, 3) := by decide +kernel
theorem dX8_goThrough_46 : decode prog_10_method_3_code 46 = .ok (.aload_n 0, 1) := by decide +kernel
theorem dX8_goThrough_47 : decode prog_10_method_3_code 47 = .ok (.iload 4, 2) := by decide +kernel
theorem dX8_goThrough_49 : decode prog_10_method_3_code 49 = .ok (.aload 6, 2) := by decide +kernel
theorem dX8_goThrough_51 : decode prog_10_method_3_code 51 = .ok (.getfield 74, 3) := by decide +kernel
theorem dX8_goThrough_54 : decode prog_10_method_3_code 54 = .ok (.invokevirtual 79, 3) := by decide +kernel
theorem dX8_goThrough_57 : decode prog_10_method_3_code 57 = .ok (.aload_n 0, 1) := by decide +kernel
theorem dX8_goThrough_58 : decode prog_10_method_3_code 58 = .ok (.aload 6, 2) := by decide +kernel
theorem dX8_goThrough_60 : decode prog_10_method_3_code 60 = .ok (.aload_n 2, 1) := by decide +kernel
theorem dX8_goThrough_61 : decode prog_10_method_3_code 61 = .ok (.aload_n 3, 1) := by decide +kernel
theorem dX8_goThrough_62 : decode prog_10_method_3_code 62 = .ok (.invokevirtual 83, 3) := by decide +kernel
theorem dX8_goThrough_65 : decode prog_10_method_3_code 65 = .ok (.istore 4, 2) := by decide +kernel
theorem dX8_goThrough_67 : decode prog_10_method_3_code 67 = .ok (.iinc 5 1, 3) := by decide +kernel
theorem dX8_goThrough_70 : decode prog_10_method_3_code 70 = .ok (.goto (-60), 3) := by decide +kernel
theorem dX8_goThrough_73 : decode prog_10_method_3_code 73 = .ok (.return_, 1) := by decide +kernel
abbrev rmX8_goThrough : Room := { frames := 4, cells := 0, slots := 0, locals := 92 }
def bX8_goThrough_10  (rc : Nat → Option Nat → Option Nat → Option Nat → Int32 → Int32 → Hp → Option (Unit × Hp)) (t0 : Nat) (w1 : Option Nat) (w2 : Option Nat) (w3 : Option Nat) (v4 : Int32) (v5 : Int32) (h : Hp) : Option (Unit × Hp) :=
  if 1000000 ≤ v5 then
  (some ((), h))
  else
  (gk (h.1 t0) 9 <|
  if (h.2.2.1 t0 1) = (-1) then
  (bd w1 fun a4 =>
  gk (h.1 a4) 3 <|
  b2 (fX2_at a4 v4 h) fun o9 g6 =>
  rn o9
  (gk (g6.1 t0) 9 <|
  nm (hp_si g6 t0 1 1) fun g12 =>
  nm (v5 + 1) fun x13 =>
  rc t0 (some a4) w2 w3 v4 x13 g12)
  (fun a10 =>
  gk (g6.1 a10) 6 <|
  gk (g6.1 t0) 9 <|
  b2 (fX8_come t0 v4 (g6.2.2.1 a10 0) g6) fun _ g16 =>
  gk (g16.1 t0) 9 <|
  b2 (fX8_pass t0 (some a10) w2 w3 g16) fun r23 g21 =>
  nm (v5 + 1) fun x25 =>
  rc t0 (some a4) w2 w3 r23 x25 g21))
  else
  (some ((), h)))
def fX8_goThrough_10  : Nat → Option Nat → Option Nat → Option Nat → Int32 → Int32 → Hp → Option (Unit × Hp) := fx (bX8_goThrough_10 ) (fun _ _ _ _ _ _ _ => none) NF
def fX8_goThrough  (t0 : Nat) (w1 : Option Nat) (w2 : Option Nat) (w3 : Option Nat) (h : Hp) : Option (Unit × Hp) :=
  gk (h.1 t0) 9 <|
  b2 (fX8_begin t0 h) fun _ g2 =>
  fX8_goThrough_10  t0 w1 w2 w3 0 0 g2
section
variable {p : Program} {l : Launch} {e : Env} {s : State} {m : MethodId} {args : Array Value} {below : List Frame} {meth : Method} {c : Code} {D : va_G} {cA : Nat → ClassId} {h0 h9 : Hp}
set_option maxHeartbeats 4000000 in
set_option maxRecDepth 100000 in
theorem tX8_goThrough_10  (cx : CallFix p m c prog_10_method_3_code 7 s args tbG RX8) (hr : meth.sig.returnType = none) (hlk : meth.locks = false)  (n : Nat) : ∀ (t0 : Nat) (w1 : Option Nat) (w2 : Option Nat) (w3 : Option Nat) (v4 : Int32) (v5 : Int32) (h : Hp) (H : Heap) (locs : List Loc) (ls : Array Slot), hp_B D cA (hp_A h0) s h H locs → lv_has ls 7 [(0, .ref t0), (1, va_rf w1), (2, va_rf w2), (3, va_rf w3), (4, .int v4), (5, .int v5)] → fx (bX8_goThrough_10 ) (fun _ _ _ _ _ _ _ => none) n t0 w1 w2 w3 v4 v5 h = some ((), h9) → W p l e rmX8_goThrough s m args below meth c H locs 0 0 (MQ below (hp_Qv D cA h0 h9) args s 0 0 (hp_A h0)) (F0 m 10 ls []) := by
  obtain ⟨hx, hb, -⟩ := id cx
  induction n with
  | zero => intro t0 w1 w2 w3 v4 v5 h H locs ls hB hl hf; cases hf
  | succ n ih =>
    intro t0 w1 w2 w3 v4 v5 h H locs ls hB hl hf
    replace hf : bX8_goThrough_10  (fx (bX8_goThrough_10 ) (fun _ _ _ _ _ _ _ => none) n) t0 w1 w2 w3 v4 v5 h = some ((), h9) := hf
    unfold bX8_goThrough_10 at hf
    refine lv_iload hx hb dX8_goThrough_10 (lv_at hl 5 rfl) ?_
    refine lv_ldc (v := 1000000) hx hb cx.2.2.2.1 (cx.2.2.2.2 _ (tb_in qw_501 rfl)) dX8_goThrough_12 ?_
    refine lv_icmp_ge (tgt := 73) hx hb dX8_goThrough_14 (by decide) (fun c1 => ?_) (fun c1 => ?_)
    · replace hf := it_t c1 hf
      obtain ⟨-, rfl⟩ := rt_ok hf
      exact hp_vret cx hB hr hlk (Nat.le_of_ble_eq_true rfl) (Nat.le_of_ble_eq_true rfl) dX8_goThrough_73
    · replace hf := it_f c1 hf
      refine lv_aload_n hx hb dX8_goThrough_17 rfl (lv_at hl 0 rfl) ?_
      obtain ⟨k2, hf⟩ := gk_ok hf
      refine gf_X8_15 cx hB k2 dX8_goThrough_18 ?_
      refine lv_iconst (v := (-1)) hx hb dX8_goThrough_21 (by decide) ?_
      refine lv_icmp_ne (tgt := 73) hx hb dX8_goThrough_22 (by decide) (fun c3 => ?_) (fun c3 => ?_)
      · replace hf := it_f c3 hf
        obtain ⟨-, rfl⟩ := rt_ok hf
        exact hp_vret cx hB hr hlk (Nat.le_of_ble_eq_true rfl) (Nat.le_of_ble_eq_true rfl) dX8_goThrough_73
      · replace hf := it_t c3 hf
        refine lq_aload_n hx hb dX8_goThrough_25 rfl (lv_at hl 1 rfl) ?_
        refine lv_iload hx hb dX8_goThrough_26 (lv_at hl 4 rfl) ?_
        obtain ⟨a4, eo, hf⟩ := bd_ok hf
        subst eo
        obtain ⟨k5, hf⟩ := gk_ok hf
        obtain ⟨o9, g6, m7, hf⟩ := b2_ok hf
        refine hp_cR0 (cl_X8_68 cx hB (cX2_at l D cA a4 v4 h _ g6 m7) k5 ⟨Nat.le_of_ble_eq_true rfl, Nat.le_of_ble_eq_true rfl⟩ rfl hl.1 rfl (Nat.le_of_ble_eq_true rfl) ⟨Nat.le_of_ble_eq_true rfl, Nat.le_of_ble_eq_true rfl⟩ dX8_goThrough_28) rfl rfl hB (fun H locs hB => ?_)
        refine lq_astore (lv' := [(6, va_rf o9), (0, .ref t0), (1, .ref a4), (2, va_rf w2), (3, va_rf w3), (4, .int v4), (5, .int v5)]) hx hb dX8_goThrough_31 hl (by decide) rfl (fun ls hl => ?_)
        refine lq_aload hx hb dX8_goThrough_33 (lv_at hl 0 rfl) ?_
        refine lq_ifnonnull (tgt := 46) hx hb dX8_goThrough_35 (by decide) (fun eo => ?_) (fun a10 eo => ?_)
        · subst eo
          replace hf := rn_n hf
          refine lv_aload_n hx hb dX8_goThrough_38 rfl (lv_at hl 1 rfl) ?_
          refine lv_iconst (v := 1) hx hb dX8_goThrough_39 (by decide) ?_
          obtain ⟨k11, hf⟩ := gk_ok hf
          obtain ⟨g12, eg12, hf⟩ := nm_ok hf
          refine pf_X8_15 cx hB k11 dX8_goThrough_40 (fun H locs hB => ?_)
          rw [← eg12] at hB
          refine lv_goto (tgt := 67) hx hb dX8_goThrough_43 (by decide) ?_
          obtain ⟨x13, ex13, hf⟩ := nm_ok hf
          refine lv_iinc (v := x13) (lv' := [(5, .int x13), (6, .null), (0, .ref t0), (1, .ref a4), (2, va_rf w2), (3, va_rf w3), (4, .int v4)]) hx hb dX8_goThrough_67 hl (k := 6) rfl (by rw [ex13]; rfl) (by decide) rfl (fun ls hl => ?_)
          refine lv_goto (tgt := 10) hx hb dX8_goThrough_70 (by decide) ?_
          exact ih t0 (some a4) w2 w3 v4 x13 g12 _ _ _ hB (lv_sub hl [2, 3, 4, 5, 6, 0] rfl) hf
        · subst eo
          replace hf := rn_s hf
          refine lv_aload_n hx hb dX8_goThrough_46 rfl (lv_at hl 1 rfl) ?_
          refine lv_iload hx hb dX8_goThrough_47 (lv_at hl 5 rfl) ?_
          refine lv_aload hx hb dX8_goThrough_49 (lv_at hl 0 rfl) ?_
          obtain ⟨k14, hf⟩ := gk_ok hf
          refine gf_X8_74 cx hB k14 dX8_goThrough_51 ?_
          obtain ⟨k15, hf⟩ := gk_ok hf
          obtain ⟨uu, g16, m17, hf⟩ := b2_ok hf
          refine hp_cV0 (cl_X8_79 cx hB (cX8_come l D cA t0 v4 (g6.2.2.1 a10 0) g6 _ g16 m17) k15 ⟨Nat.le_of_ble_eq_true rfl, Nat.le_of_ble_eq_true rfl⟩ rfl hl.1 rfl (Nat.le_of_ble_eq_true rfl) ⟨Nat.le_of_ble_eq_true rfl, Nat.le_of_ble_eq_true rfl⟩ dX8_goThrough_54) rfl rfl hB (fun H locs hB => ?_)
          refine lv_aload_n hx hb dX8_goThrough_57 rfl (lv_at hl 1 rfl) ?_
          refine lv_aload hx hb dX8_goThrough_58 (lv_at hl 0 rfl) ?_
          refine lq_aload_n hx hb dX8_goThrough_60 rfl (lv_at hl 3 rfl) ?_
          refine lq_aload_n hx hb dX8_goThrough_61 rfl (lv_at hl 4 rfl) ?_
          obtain ⟨k20, hf⟩ := gk_ok hf
          obtain ⟨r23, g21, m22, hf⟩ := b2_ok hf
          refine hp_cI0 (cl_X8_83 cx hB (cX8_pass l D cA t0 (some a10) w2 w3 g16 _ g21 m22) k20 ⟨Nat.le_of_ble_eq_true rfl, Nat.le_of_ble_eq_true rfl⟩ rfl hl.1 rfl (Nat.le_of_ble_eq_true rfl) ⟨Nat.le_of_ble_eq_true rfl, Nat.le_of_ble_eq_true rfl⟩ dX8_goThrough_62) rfl rfl hB (fun H locs hB => ?_)
          refine lv_istore (lv' := [(4, .int r23), (6, .ref a10), (0, .ref t0), (1, .ref a4), (2, va_rf w2), (3, va_rf w3), (5, .int v5)]) hx hb dX8_goThrough_65 hl (by decide) (by cases w3 <;> rfl) (fun ls hl => ?_)
          obtain ⟨x25, ex25, hf⟩ := nm_ok hf
          refine lv_iinc (v := x25) (lv' := [(5, .int x25), (4, .int r23), (6, .ref a10), (0, .ref t0), (1, .ref a4), (2, va_rf w2), (3, va_rf w3)]) hx hb dX8_goThrough_67 hl (k := 6) rfl (by rw [ex25]; rfl) (by decide) rfl (fun ls hl => ?_)
          refine lv_goto (tgt := 10) hx hb dX8_goThrough_70 (by decide) ?_
          exact ih t0 (some a4) w2 w3 r23 x25 g21 _ _ _ hB (lv_sub hl [3, 4, 5, 6, 1, 0] rfl) hf
set_option maxHeartbeats 4000000 in
set_option maxRecDepth 100000 in
theorem tX8_goThrough_0  (cx : CallFix p m c prog_10_method_3_code 7 s args tbG RX8) (hr : meth.sig.returnType = none) (hlk : meth.locks = false)  (t0 : Nat) (w1 : Option Nat) (w2 : Option Nat) (w3 : Option Nat) (h : Hp) (H : Heap) (locs : List Loc) (ls : Array Slot) (hB : hp_B D cA (hp_A h0) s h H locs) (hl : lv_has ls 7 [(0, .ref t0), (1, va_rf w1), (2, va_rf w2), (3, va_rf w3)]) (hf : fX8_goThrough  t0 w1 w2 w3 h = some ((), h9)) : W p l e rmX8_goThrough s m args below meth c H locs 0 0 (MQ below (hp_Qv D cA h0 h9) args s 0 0 (hp_A h0)) (F0 m 0 ls []) := by
  obtain ⟨hx, hb, -⟩ := id cx
  unfold fX8_goThrough at hf
  refine lv_aload_n hx hb dX8_goThrough_0 rfl (lv_at hl 0 rfl) ?_
  obtain ⟨k1, hf⟩ := gk_ok hf
  obtain ⟨uu, g2, m3, hf⟩ := b2_ok hf
  refine hp_cV0 (cl_X8_65 cx hB (cX8_begin l D cA t0 h _ g2 m3) k1 ⟨Nat.le_of_ble_eq_true rfl, Nat.le_of_ble_eq_true rfl⟩ rfl hl.1 rfl (Nat.le_of_ble_eq_true rfl) ⟨Nat.le_of_ble_eq_true rfl, Nat.le_of_ble_eq_true rfl⟩ dX8_goThrough_1) rfl rfl hB (fun H locs hB => ?_)
  refine lv_iconst (v := 0) hx hb dX8_goThrough_4 (by decide) ?_
  refine lv_istore (lv' := [(4, .int 0), (0, .ref t0), (1, va_rf w1), (2, va_rf w2), (3, va_rf w3)]) hx hb dX8_goThrough_5 hl (by decide) (by cases w3 <;> rfl) (fun ls hl => ?_)
  refine lv_iconst (v := 0) hx hb dX8_goThrough_7 (by decide) ?_
  refine lv_istore (lv' := [(5, .int 0), (4, .int 0), (0, .ref t0), (1, va_rf w1), (2, va_rf w2), (3, va_rf w3)]) hx hb dX8_goThrough_8 hl (by decide) rfl (fun ls hl => ?_)
  exact tX8_goThrough_10 cx hr hlk  NF t0 w1 w2 w3 0 0 g2 _ _ _ hB (lv_sub hl [2, 3, 4, 5, 1, 0] rfl) hf
end
set_option maxHeartbeats 4000000 in
set_option maxRecDepth 100000 in
theorem cX8_goThrough (l : Launch) (D : va_G) (cA : Nat → ClassId) (t0 : Nat) (w1 : Option Nat) (w2 : Option Nat) (w3 : Option Nat) (h : Hp) (_u : Unit) (h9 : Hp) (hf : fX8_goThrough t0 w1 w2 w3 h = some (_u, h9)) : hp_M l yX8_goThrough prog_10_method_3_code 7 none rmX8_goThrough D cA h [.ref t0, va_rf w1, va_rf w2, va_rf w3] (hp_Qv D cA h h9) := by
  refine Met.ofW (cc := prog_10_method_3_code) (maxL := 7) (ret := none) (by decide) rfl ?_
  intro p e s m args below meth c s₁ B hml hv
  obtain ⟨rfl, hU⟩ := hv
  have hts := atoms_spec (ws := Cond.code yX8_goThrough prog_10_method_3_code 7 none :: tbG) B.pre
  have hl := lv_entry ([.ref t0, va_rf w1, va_rf w2, va_rf w3]) (n := 7) (by simp [lg_sl, va_rf_cat, cat_i, cat_r, cat_n])
  rw [show lv_args 0 ([.ref t0, va_rf w1, va_rf w2, va_rf w3]) = [(0, .ref t0), (1, va_rf w1), (2, va_rf w2), (3, va_rf w3)] by simp [lv_args, va_rf_cat, cat_i, cat_r, cat_n]] at hl
  rw [lg_entry_eq]
  generalize (lg_sl ([.ref t0, va_rf w1, va_rf w2, va_rf w3]) ++ List.replicate (7 - (lg_sl ([.ref t0, va_rf w1, va_rf w2, va_rf w3])).length) Slot.unset).toArray = ls at hl ⊢
  exact tX8_goThrough_0 ⟨B.exec, B.bytes, hml, findClass_of_methodNamed B.named, fun w hw => hts w (List.mem_cons_of_mem _ hw)⟩ B.returns B.notSynchronized t0 w1 w2 w3 h _ _ _ (hp_B.entry hU) hl hf
section
variable {p : Program} {l : Launch} {e : Env} {R : Room} {s : State} {m : MethodId} {args : Array Value} {below : List Frame} {meth : Method} {c : Code} {H : Heap} {locs : List Loc} {cells slots : Nat} {Q : State → Prop}
variable {cc : ByteArray} {pc nL : Nat} {ls : Array Slot} {rest : List Value} {D : va_G} {cA : Nat → ClassId} {A : Nat → Prop} {a : Nat} {h : Hp}
theorem gf_X8_45 (cx : CallFix p m c cc nL s args tbG RX8) (hB : hp_B D cA A s h H locs) (hka : h.1 a = 1) (hdg : decode cc pc = .ok (.getfield 45, 3)) (kk : W p l e R s m args below meth c H locs cells slots Q (F0 m (pc + 3) ls (.int (h.2.2.1 a 4) :: rest))) : W p l e R s m args below meth c H locs cells slots Q (F0 m pc ls (.ref a :: rest)) :=
  hp_getI cx hB (ci := 0) 4 rfl inX0 (by decide) rfl (by decide) rfl qw_434 hka hdg kk
theorem cl_X8_50 {As st0 : List Value} {b : Nat} {Qc : Array Value → State → Outcome → State → Prop} (cx : CallFix p m c cc nL s args tbG RX8) (hB : hp_B D cA A s h H locs) (hM : hp_M l yX9_measure prog_11_method_2_code 7 none rmX9_measure D cA h (.ref b :: As) Qc) (hkb : h.1 b = 10) (hR : rmX9_measure.frames + 1 ≤ R.frames ∧ 8 + (7 + 11) + rmX9_measure.locals ≤ R.locals) (hn : As.length = 2) (hls : ls.size = nL) (hst : st0 = As.reverse ++ .ref b :: rest) (hW : (rest.map fun v => v.category).sum ≤ 8) (hf : cells + rmX9_measure.cells ≤ R.cells ∧ slots + rmX9_measure.slots ≤ R.slots) (hdg : decode cc pc = .ok (.invokevirtual 50, 3)) :
    va_Run p l e R s m args below meth c H locs cells slots rmX9_measure.cells rmX9_measure.slots (F0 m pc ls st0) rest (Qc (Value.ref b :: As).toArray) (hp_A h) :=
  hp_runV cx hB hM (ci := 9) rfl (by decide) hkb qw_454 qw_451 qw_452 qw_453 qw_3 (by decide +kernel) hR hn hls hst hW hf hdg
theorem cl_X8_56 {As st0 : List Value} {b : Nat} {Qc : Array Value → State → Outcome → State → Prop} (cx : CallFix p m c cc nL s args tbG RX8) (hB : hp_B D cA A s h H locs) (hM : hp_M l yX9_ticksFrom prog_11_method_3_code 2 (Option.some FieldType.int) rmX9_ticksFrom D cA h (.ref b :: As) Qc) (hkb : h.1 b = 10) (hR : rmX9_ticksFrom.frames + 1 ≤ R.frames ∧ 8 + (2 + 11) + rmX9_ticksFrom.locals ≤ R.locals) (hn : As.length = 1) (hls : ls.size = nL) (hst : st0 = As.reverse ++ .ref b :: rest) (hW : (rest.map fun v => v.category).sum ≤ 8) (hf : cells + rmX9_ticksFrom.cells ≤ R.cells ∧ slots + rmX9_ticksFrom.slots ≤ R.slots) (hdg : decode cc pc = .ok (.invokevirtual 56, 3)) :
    va_Run p l e R s m args below meth c H locs cells slots rmX9_ticksFrom.cells rmX9_ticksFrom.slots (F0 m pc ls st0) rest (Qc (Value.ref b :: As).toArray) (hp_A h) :=
  hp_runV cx hB hM (ci := 9) rfl (by decide) hkb qw_476 qw_500 qw_474 qw_475 qw_3 (by decide +kernel) hR hn hls hst hW hf hdg
theorem cl_X8_61 {As st0 : List Value} {b : Nat} {Qc : Array Value → State → Outcome → State → Prop} (cx : CallFix p m c cc nL s args tbG RX8) (hB : hp_B D cA A s h H locs) (hM : hp_M l yX8_goThrough prog_10_method_3_code 7 none rmX8_goThrough D cA h (.ref b :: As) Qc) (hkb : h.1 b = 9) (hR : rmX8_goThrough.frames + 1 ≤ R.frames ∧ 8 + (7 + 11) + rmX8_goThrough.locals ≤ R.locals) (hn : As.length = 3) (hls : ls.size = nL) (hst : st0 = As.reverse ++ .ref b :: rest) (hW : (rest.map fun v => v.category).sum ≤ 8) (hf : cells + rmX8_goThrough.cells ≤ R.cells ∧ slots + rmX8_goThrough.slots ≤ R.slots) (hdg : decode cc pc = .ok (.invokevirtual 61, 3)) :
    va_Run p l e R s m args below meth c H locs cells slots rmX8_goThrough.cells rmX8_goThrough.slots (F0 m pc ls st0) rest (Qc (Value.ref b :: As).toArray) (hp_A h) :=
  hp_runV cx hB hM (ci := 8) rfl (by decide) hkb qw_505 qw_502 qw_503 qw_504 qw_9 (by decide +kernel) hR hn hls hst hW hf hdg
end
abbrev yX8_follow : MethodName := ⟨"SpokenMenus$Walk", "follow", "(LSpokenMenus$House;LSpokenMenus$Ways;LSpokenMenus$Caller;)V"⟩
theorem dX8_follow_0 : decode prog_10_method_2_code 0 = .ok (.iconst 0, 1) := by decide +kernel
theorem dX8_follow_1 : decode prog_10_method_2_code 1 = .ok (.istore 4, 2) := by decide +kernel
theorem dX8_follow_3 : decode prog_10_method_2_code 3 = .ok (.aload_n 3, 1) := by decide +kernel
theorem dX8_follow_4 : decode prog_10_method_2_code 4 = .ok (.getfield 45, 3) := by decide +kernel
theorem dX8_follow_7 : decode prog_10_method_2_code 7 = .ok (.ifCond .eq 26, 3) := by decide +kernel
theorem dX8_follow_10 : decode prog_10_method_2_code 10 = .ok (.aload_n 2, 1) := by decide +kernel
theorem dX8_follow_11 : decode prog_10_method_2_code 11 = .ok (.aload_n 1, 1) := by decide +kernel
theorem dX8_follow_12 : decode prog_10_method_2_code 12 = .ok (.aload_n 3, 1) := by decide +kernel
theorem dX8_follow_13 : decode prog_10_method_2_code 13 = .ok (.invokevirtual 50, 3) := by decide +kernel
theorem dX8_follow_16 : decode prog_10_method_2_code 16 = .ok (.aload_n 2, 1) := by decide +kernel
theorem dX8_follow_17 : decode prog_10_method_2_code 17 = .ok (.iconst 0, 1) := by decide +kernel
theorem dX8_follow_18 : decode prog_10_method_2_code 18 = .ok (.invokevirtual 56, 3) := by decide +kernel
theorem dX8_follow_21 : decode prog_10_method_2_code 21 = .ok (.ldc 60, 2) := by decide +kernel
theorem dX8_follow_23 : decode prog_10_method_2_code 23 = .ok (.if_icmp .ge 7, 3) := by decide +kernel
theorem dX8_follow_26 : decode prog_10_method_2_code 26 = .ok (.iconst 1, 1) := by decide +kernel
theorem dX8_follow_27 : decode prog_10_method_2_code 27 = .ok (.goto 4, 3) := by decide +kernel
theorem dX8_follow_30 : decode prog_10_method_2_code 30 = .ok (.iconst 0, 1) := by decide +kernel
theorem dX8_follow_31 : decode prog_10_method_2_code 31 = .ok (.istore 4, 2) := by decide +kernel
theorem dX8_follow_33 : decode prog_10_method_2_code 33 = .ok (.aload_n 0, 1) := by decide +kernel
theorem dX8_follow_34 : decode prog_10_method_2_code 34 = .ok (.aload_n 1, 1) := by decide +kernel
theorem dX8_follow_35 : decode prog_10_method_2_code 35 = .ok (.iload 4, 2) := by decide +kernel
theorem dX8_follow_37 : decode prog_10_method_2_code 37 = .ok (.ifCond .eq 7, 3) := by decide +kernel
theorem dX8_follow_40 : decode prog_10_method_2_code 40 = .ok (.aload_n 2, 1) := by decide +kernel
theorem dX8_follow_41 : decode prog_10_method_2_code 41 = .ok (.goto 4, 3) := by decide +kernel
theorem dX8_follow_44 : decode prog_10_method_2_code 44 = .ok (.aconst_null, 1) := by decide +kernel
theorem dX8_follow_45 : decode prog_10_method_2_code 45 = .ok (.aload_n 3, 1) := by decide +kernel
theorem dX8_follow_46 : decode prog_10_method_2_code 46 = .ok (.invokevirtual 61, 3) := by decide +kernel
theorem dX8_follow_49 : decode prog_10_method_2_code 49 = .ok (.return_, 1) := by decide +kernel
abbrev rmX8_follow : Room := { frames := 5, cells := 0, slots := 0, locals := 118 }
def fX8_follow_33  (t0 : Nat) (w1 : Option Nat) (w2 : Option Nat) (t3 : Nat) (v4 : Int32) (h : Hp) : Option (Unit × Hp) :=
  if v4 = 0 then
  (gk (h.1 t0) 9 <|
  b2 (fX8_goThrough t0 w1 none (some t3) h) fun _ g3 =>
  some ((), g3))
  else
  (gk (h.1 t0) 9 <|
  b2 (fX8_goThrough t0 w1 w2 (some t3) h) fun _ g8 =>
  some ((), g8))
def fX8_follow  (t0 : Nat) (w1 : Option Nat) (w2 : Option Nat) (w3 : Option Nat) (h : Hp) : Option (Unit × Hp) :=
  bd w3 fun a1 =>
  gk (h.1 a1) 1 <|
  if (h.2.2.1 a1 4) = 0 then
  (fX8_follow_33  t0 w1 w2 a1 0 h)
  else
  (bd w2 fun a4 =>
  gk (h.1 a4) 10 <|
  b2 (fX9_measure a4 w1 (some a1) h) fun _ g6 =>
  gk (g6.1 a4) 10 <|
  b2 (fX9_ticksFrom a4 0 g6) fun r13 g11 =>
  if 1000000 ≤ r13 then
  (fX8_follow_33  t0 w1 (some a4) a1 0 g11)
  else
  (fX8_follow_33  t0 w1 (some a4) a1 1 g11))
section
variable {p : Program} {l : Launch} {e : Env} {s : State} {m : MethodId} {args : Array Value} {below : List Frame} {meth : Method} {c : Code} {D : va_G} {cA : Nat → ClassId} {h0 h9 : Hp}
set_option maxHeartbeats 4000000 in
set_option maxRecDepth 100000 in
theorem tX8_follow_33  (cx : CallFix p m c prog_10_method_2_code 5 s args tbG RX8) (hr : meth.sig.returnType = none) (hlk : meth.locks = false)  (t0 : Nat) (w1 : Option Nat) (w2 : Option Nat) (t3 : Nat) (v4 : Int32) (h : Hp) (H : Heap) (locs : List Loc) (ls : Array Slot) (hB : hp_B D cA (hp_A h0) s h H locs) (hl : lv_has ls 5 [(0, .ref t0), (1, va_rf w1), (2, va_rf w2), (3, .ref t3), (4, .int v4)]) (hf : fX8_follow_33  t0 w1 w2 t3 v4 h = some ((), h9)) : W p l e rmX8_follow s m args below meth c H locs 0 0 (MQ below (hp_Qv D cA h0 h9) args s 0 0 (hp_A h0)) (F0 m 33 ls []) := by
  obtain ⟨hx, hb, -⟩ := id cx
  unfold fX8_follow_33 at hf
  refine lv_aload_n hx hb dX8_follow_33 rfl (lv_at hl 0 rfl) ?_
  refine lq_aload_n hx hb dX8_follow_34 rfl (lv_at hl 1 rfl) ?_
  refine lv_iload hx hb dX8_follow_35 (lv_at hl 4 rfl) ?_
  refine lv_if_eq (tgt := 44) hx hb dX8_follow_37 (by decide) (fun c1 => ?_) (fun c1 => ?_)
  · replace hf := it_t c1 hf
    refine lv_null hx hb dX8_follow_44 ?_
    refine lv_aload_n hx hb dX8_follow_45 rfl (lv_at hl 3 rfl) ?_
    obtain ⟨k2, hf⟩ := gk_ok hf
    obtain ⟨uu, g3, m4, hf⟩ := b2_ok hf
    refine hp_cV0 (cl_X8_61 cx hB (cX8_goThrough l D cA t0 w1 none (some t3) h _ g3 m4) k2 ⟨Nat.le_of_ble_eq_true rfl, Nat.le_of_ble_eq_true rfl⟩ rfl hl.1 rfl (Nat.le_of_ble_eq_true rfl) ⟨Nat.le_of_ble_eq_true rfl, Nat.le_of_ble_eq_true rfl⟩ dX8_follow_46) rfl rfl hB (fun H locs hB => ?_)
    obtain ⟨-, rfl⟩ := rt_ok hf
    exact hp_vret cx hB hr hlk (Nat.le_of_ble_eq_true rfl) (Nat.le_of_ble_eq_true rfl) dX8_follow_49
  · replace hf := it_f c1 hf
    refine lq_aload_n hx hb dX8_follow_40 rfl (lv_at hl 2 rfl) ?_
    refine lv_goto (tgt := 45) hx hb dX8_follow_41 (by decide) ?_
    refine lv_aload_n hx hb dX8_follow_45 rfl (lv_at hl 3 rfl) ?_
    obtain ⟨k7, hf⟩ := gk_ok hf
    obtain ⟨uu, g8, m9, hf⟩ := b2_ok hf
    refine hp_cV0 (cl_X8_61 cx hB (cX8_goThrough l D cA t0 w1 w2 (some t3) h _ g8 m9) k7 ⟨Nat.le_of_ble_eq_true rfl, Nat.le_of_ble_eq_true rfl⟩ rfl hl.1 rfl (Nat.le_of_ble_eq_true rfl) ⟨Nat.le_of_ble_eq_true rfl, Nat.le_of_ble_eq_true rfl⟩ dX8_follow_46) rfl rfl hB (fun H locs hB => ?_)
    obtain ⟨-, rfl⟩ := rt_ok hf
    exact hp_vret cx hB hr hlk (Nat.le_of_ble_eq_true rfl) (Nat.le_of_ble_eq_true rfl) dX8_follow_49
set_option maxHeartbeats 4000000 in
set_option maxRecDepth 100000 in
theorem tX8_follow_0  (cx : CallFix p m c prog_10_method_2_code 5 s args tbG RX8) (hr : meth.sig.returnType = none) (hlk : meth.locks = false)  (t0 : Nat) (w1 : Option Nat) (w2 : Option Nat) (w3 : Option Nat) (h : Hp) (H : Heap) (locs : List Loc) (ls : Array Slot) (hB : hp_B D cA (hp_A h0) s h H locs) (hl : lv_has ls 5 [(0, .ref t0), (1, va_rf w1), (2, va_rf w2), (3, va_rf w3)]) (hf : fX8_follow  t0 w1 w2 w3 h = some ((), h9)) : W p l e rmX8_follow s m args below meth c H locs 0 0 (MQ below (hp_Qv D cA h0 h9) args s 0 0 (hp_A h0)) (F0 m 0 ls []) := by
  obtain ⟨hx, hb, -⟩ := id cx
  unfold fX8_follow at hf
  refine lv_iconst (v := 0) hx hb dX8_follow_0 (by decide) ?_
  refine lv_istore (lv' := [(4, .int 0), (0, .ref t0), (1, va_rf w1), (2, va_rf w2), (3, va_rf w3)]) hx hb dX8_follow_1 hl (by decide) (by cases w3 <;> rfl) (fun ls hl => ?_)
  refine lq_aload_n hx hb dX8_follow_3 rfl (lv_at hl 4 rfl) ?_
  obtain ⟨a1, eo, hf⟩ := bd_ok hf
  subst eo
  obtain ⟨k2, hf⟩ := gk_ok hf
  refine gf_X8_45 cx hB k2 dX8_follow_4 ?_
  refine lv_if_eq (tgt := 33) hx hb dX8_follow_7 (by decide) (fun c3 => ?_) (fun c3 => ?_)
  · replace hf := it_t c3 hf
    exact tX8_follow_33 cx hr hlk  t0 w1 w2 a1 0 h _ _ _ hB (lv_sub hl [1, 2, 3, 4, 0] rfl) hf
  · replace hf := it_f c3 hf
    refine lq_aload_n hx hb dX8_follow_10 rfl (lv_at hl 3 rfl) ?_
    refine lq_aload_n hx hb dX8_follow_11 rfl (lv_at hl 2 rfl) ?_
    refine lv_aload_n hx hb dX8_follow_12 rfl (lv_at hl 4 rfl) ?_
    obtain ⟨a4, eo, hf⟩ := bd_ok hf
    subst eo
    obtain ⟨k5, hf⟩ := gk_ok hf
    obtain ⟨uu, g6, m7, hf⟩ := b2_ok hf
    refine hp_cV0 (cl_X8_50 cx hB (cX9_measure l D cA a4 w1 (some a1) h _ g6 m7) k5 ⟨Nat.le_of_ble_eq_true rfl, Nat.le_of_ble_eq_true rfl⟩ rfl hl.1 rfl (Nat.le_of_ble_eq_true rfl) ⟨Nat.le_of_ble_eq_true rfl, Nat.le_of_ble_eq_true rfl⟩ dX8_follow_13) rfl rfl hB (fun H locs hB => ?_)
    refine lv_aload_n hx hb dX8_follow_16 rfl (lv_at hl 3 rfl) ?_
    refine lv_iconst (v := 0) hx hb dX8_follow_17 (by decide) ?_
    obtain ⟨k10, hf⟩ := gk_ok hf
    obtain ⟨r13, g11, m12, hf⟩ := b2_ok hf
    refine hp_cI0 (cl_X8_56 cx hB (cX9_ticksFrom l D cA a4 0 g6 _ g11 m12) k10 ⟨Nat.le_of_ble_eq_true rfl, Nat.le_of_ble_eq_true rfl⟩ rfl hl.1 rfl (Nat.le_of_ble_eq_true rfl) ⟨Nat.le_of_ble_eq_true rfl, Nat.le_of_ble_eq_true rfl⟩ dX8_follow_18) rfl rfl hB (fun H locs hB => ?_)
    refine lv_ldc (v := 1000000) hx hb cx.2.2.2.1 (cx.2.2.2.2 _ (tb_in qw_501 rfl)) dX8_follow_21 ?_
    refine lv_icmp_ge (tgt := 30) hx hb dX8_follow_23 (by decide) (fun c15 => ?_) (fun c15 => ?_)
    · replace hf := it_t c15 hf
      refine lv_iconst (v := 0) hx hb dX8_follow_30 (by decide) ?_
      refine lv_istore (lv' := [(4, .int 0), (0, .ref t0), (1, va_rf w1), (2, .ref a4), (3, .ref a1)]) hx hb dX8_follow_31 hl (by decide) rfl (fun ls hl => ?_)
      exact tX8_follow_33 cx hr hlk  t0 w1 (some a4) a1 0 g11 _ _ _ hB (lv_sub hl [1, 2, 3, 4, 0] rfl) hf
    · replace hf := it_f c15 hf
      refine lv_iconst (v := 1) hx hb dX8_follow_26 (by decide) ?_
      refine lv_goto (tgt := 31) hx hb dX8_follow_27 (by decide) ?_
      refine lv_istore (lv' := [(4, .int 1), (0, .ref t0), (1, va_rf w1), (2, .ref a4), (3, .ref a1)]) hx hb dX8_follow_31 hl (by decide) rfl (fun ls hl => ?_)
      exact tX8_follow_33 cx hr hlk  t0 w1 (some a4) a1 1 g11 _ _ _ hB (lv_sub hl [1, 2, 3, 4, 0] rfl) hf
end
set_option maxHeartbeats 4000000 in
set_option maxRecDepth 100000 in
theorem cX8_follow (l : Launch) (D : va_G) (cA : Nat → ClassId) (t0 : Nat) (w1 : Option Nat) (w2 : Option Nat) (w3 : Option Nat) (h : Hp) (_u : Unit) (h9 : Hp) (hf : fX8_follow t0 w1 w2 w3 h = some (_u, h9)) : hp_M l yX8_follow prog_10_method_2_code 5 none rmX8_follow D cA h [.ref t0, va_rf w1, va_rf w2, va_rf w3] (hp_Qv D cA h h9) := by
  refine Met.ofW (cc := prog_10_method_2_code) (maxL := 5) (ret := none) (by decide) rfl ?_
  intro p e s m args below meth c s₁ B hml hv
  obtain ⟨rfl, hU⟩ := hv
  have hts := atoms_spec (ws := Cond.code yX8_follow prog_10_method_2_code 5 none :: tbG) B.pre
  have hl := lv_entry ([.ref t0, va_rf w1, va_rf w2, va_rf w3]) (n := 5) (by simp [lg_sl, va_rf_cat, cat_i, cat_r, cat_n])
  rw [show lv_args 0 ([.ref t0, va_rf w1, va_rf w2, va_rf w3]) = [(0, .ref t0), (1, va_rf w1), (2, va_rf w2), (3, va_rf w3)] by simp [lv_args, va_rf_cat, cat_i, cat_r, cat_n]] at hl
  rw [lg_entry_eq]
  generalize (lg_sl ([.ref t0, va_rf w1, va_rf w2, va_rf w3]) ++ List.replicate (5 - (lg_sl ([.ref t0, va_rf w1, va_rf w2, va_rf w3])).length) Slot.unset).toArray = ls at hl ⊢
  exact tX8_follow_0 ⟨B.exec, B.bytes, hml, findClass_of_methodNamed B.named, fun w hw => hts w (List.mem_cons_of_mem _ hw)⟩ B.returns B.notSynchronized t0 w1 w2 w3 h _ _ _ (hp_B.entry hU) hl hf
