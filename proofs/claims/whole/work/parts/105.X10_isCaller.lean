abbrev yX10_isCaller : MethodName := ⟨"SpokenMenus", "isCaller", "(IIIII)Z"⟩
theorem dX10_isCaller_0 : decode prog_1_method_31_code 0 = .ok (.iload_n 0, 1) := by decide +kernel
theorem dX10_isCaller_1 : decode prog_1_method_31_code 1 = .ok (.iconst 0, 1) := by decide +kernel
theorem dX10_isCaller_2 : decode prog_1_method_31_code 2 = .ok (.bipush 15, 2) := by decide +kernel
theorem dX10_isCaller_4 : decode prog_1_method_31_code 4 = .ok (.invokestatic 61, 3) := by decide +kernel
theorem dX10_isCaller_7 : decode prog_1_method_31_code 7 = .ok (.ifCond .eq 46, 3) := by decide +kernel
theorem dX10_isCaller_10 : decode prog_1_method_31_code 10 = .ok (.iload_n 1, 1) := by decide +kernel
theorem dX10_isCaller_11 : decode prog_1_method_31_code 11 = .ok (.iconst 0, 1) := by decide +kernel
theorem dX10_isCaller_12 : decode prog_1_method_31_code 12 = .ok (.ldc_w 271, 3) := by decide +kernel
theorem dX10_isCaller_15 : decode prog_1_method_31_code 15 = .ok (.invokestatic 61, 3) := by decide +kernel
theorem dX10_isCaller_18 : decode prog_1_method_31_code 18 = .ok (.ifCond .eq 35, 3) := by decide +kernel
theorem dX10_isCaller_21 : decode prog_1_method_31_code 21 = .ok (.iload_n 2, 1) := by decide +kernel
theorem dX10_isCaller_22 : decode prog_1_method_31_code 22 = .ok (.iconst 1, 1) := by decide +kernel
theorem dX10_isCaller_23 : decode prog_1_method_31_code 23 = .ok (.sipush 5000, 3) := by decide +kernel
theorem dX10_isCaller_26 : decode prog_1_method_31_code 26 = .ok (.invokestatic 61, 3) := by decide +kernel
theorem dX10_isCaller_29 : decode prog_1_method_31_code 29 = .ok (.ifCond .eq 24, 3) := by decide +kernel
theorem dX10_isCaller_32 : decode prog_1_method_31_code 32 = .ok (.iload_n 3, 1) := by decide +kernel
theorem dX10_isCaller_33 : decode prog_1_method_31_code 33 = .ok (.invokestatic 106, 3) := by decide +kernel
theorem dX10_isCaller_36 : decode prog_1_method_31_code 36 = .ok (.ifCond .eq 17, 3) := by decide +kernel
theorem dX10_isCaller_39 : decode prog_1_method_31_code 39 = .ok (.iload 4, 2) := by decide +kernel
theorem dX10_isCaller_41 : decode prog_1_method_31_code 41 = .ok (.iconst 0, 1) := by decide +kernel
theorem dX10_isCaller_42 : decode prog_1_method_31_code 42 = .ok (.iconst 1, 1) := by decide +kernel
theorem dX10_isCaller_43 : decode prog_1_method_31_code 43 = .ok (.invokestatic 61, 3) := by decide +kernel
theorem dX10_isCaller_46 : decode prog_1_method_31_code 46 = .ok (.ifCond .eq 7, 3) := by decide +kernel
theorem dX10_isCaller_49 : decode prog_1_method_31_code 49 = .ok (.iconst 1, 1) := by decide +kernel
theorem dX10_isCaller_50 : decode prog_1_method_31_code 50 = .ok (.goto 4, 3) := by decide +kernel
theorem dX10_isCaller_53 : decode prog_1_method_31_code 53 = .ok (.iconst 0, 1) := by decide +kernel
theorem dX10_isCaller_54 : decode prog_1_method_31_code 54 = .ok (.ireturn, 1) := by decide +kernel
abbrev rmX10_isCaller : Room := { frames := 2, cells := 0, slots := 0, locals := 42 }
def fX10_isCaller  (v0 : Int32) (v1 : Int32) (v2 : Int32) (v3 : Int32) (v4 : Int32) (h : Hp) : Option (Int32 × Hp) :=
  b2 (fX10_within v0 0 15 h) fun r3 g1 =>
  if r3 = 0 then
  (some (0, g1))
  else
  (b2 (fX10_within v1 0 99999999 g1) fun r8 g6 =>
  if r8 = 0 then
  (some (0, g6))
  else
  (b2 (fX10_within v2 1 5000 g6) fun r13 g11 =>
  if r13 = 0 then
  (some (0, g11))
  else
  (b2 (fX10_isHour v3 g11) fun r18 g16 =>
  if r18 = 0 then
  (some (0, g16))
  else
  (b2 (fX10_within v4 0 1 g16) fun r23 g21 =>
  if r23 = 0 then
  (some (0, g21))
  else
  (some (1, g21))))))
section
variable {p : Program} {l : Launch} {e : Env} {s : State} {m : MethodId} {args : Array Value} {below : List Frame} {meth : Method} {c : Code} {D : va_G} {cA : Nat → ClassId} {h0 h9 : Hp}
set_option maxHeartbeats 4000000 in
set_option maxRecDepth 100000 in
theorem tX10_isCaller_0  {r : Int32} (cx : CallFix p m c prog_1_method_31_code 5 s args tbG RX10) (hr : meth.sig.returnType = (Option.some FieldType.boolean)) (hlk : meth.locks = false)  (v0 : Int32) (v1 : Int32) (v2 : Int32) (v3 : Int32) (v4 : Int32) (h : Hp) (H : Heap) (locs : List Loc) (ls : Array Slot) (hB : hp_B D cA (hp_A h0) s h H locs) (hl : lv_has ls 5 [(0, .int v0), (1, .int v1), (2, .int v2), (3, .int v3), (4, .int v4)]) (hf : fX10_isCaller  v0 v1 v2 v3 v4 h = some (r, h9)) : W p l e rmX10_isCaller s m args below meth c H locs 0 0 (MQ below (hp_Qi D cA h0 h9 r) args s 0 0 (hp_A h0)) (F0 m 0 ls []) := by
  obtain ⟨hx, hb, -⟩ := id cx
  unfold fX10_isCaller at hf
  refine lv_iload_n hx hb dX10_isCaller_0 rfl (lv_at hl 0 rfl) ?_
  refine lv_iconst (v := 0) hx hb dX10_isCaller_1 (by decide) ?_
  refine lv_bipush (v := 15) hx hb dX10_isCaller_2 (by decide) ?_
  obtain ⟨r3, g1, m2, hf⟩ := b2_ok hf
  refine hp_cI0 (cl_X10_61 cx hB (cX10_within l D cA v0 0 15 h _ g1 m2) ⟨Nat.le_of_ble_eq_true rfl, Nat.le_of_ble_eq_true rfl⟩ rfl hl.1 rfl (Nat.le_of_ble_eq_true rfl) ⟨Nat.le_of_ble_eq_true rfl, Nat.le_of_ble_eq_true rfl⟩ dX10_isCaller_4) rfl rfl hB (fun H locs hB => ?_)
  refine lv_if_eq (tgt := 53) hx hb dX10_isCaller_7 (by decide) (fun c5 => ?_) (fun c5 => ?_)
  · replace hf := it_t c5 hf
    refine lv_iconst (v := 0) hx hb dX10_isCaller_53 (by decide) ?_
    obtain ⟨rfl, rfl⟩ := rt_ok hf
    exact hp_zret cx hB hr hlk (Nat.le_of_ble_eq_true rfl) (Nat.le_of_ble_eq_true rfl) rfl dX10_isCaller_54
  · replace hf := it_f c5 hf
    refine lv_iload_n hx hb dX10_isCaller_10 rfl (lv_at hl 1 rfl) ?_
    refine lv_iconst (v := 0) hx hb dX10_isCaller_11 (by decide) ?_
    refine lv_ldcw (v := 99999999) hx hb cx.2.2.2.1 (cx.2.2.2.2 _ (tb_in qw_414 rfl)) dX10_isCaller_12 ?_
    obtain ⟨r8, g6, m7, hf⟩ := b2_ok hf
    refine hp_cI0 (cl_X10_61 cx hB (cX10_within l D cA v1 0 99999999 g1 _ g6 m7) ⟨Nat.le_of_ble_eq_true rfl, Nat.le_of_ble_eq_true rfl⟩ rfl hl.1 rfl (Nat.le_of_ble_eq_true rfl) ⟨Nat.le_of_ble_eq_true rfl, Nat.le_of_ble_eq_true rfl⟩ dX10_isCaller_15) rfl rfl hB (fun H locs hB => ?_)
    refine lv_if_eq (tgt := 53) hx hb dX10_isCaller_18 (by decide) (fun c10 => ?_) (fun c10 => ?_)
    · replace hf := it_t c10 hf
      refine lv_iconst (v := 0) hx hb dX10_isCaller_53 (by decide) ?_
      obtain ⟨rfl, rfl⟩ := rt_ok hf
      exact hp_zret cx hB hr hlk (Nat.le_of_ble_eq_true rfl) (Nat.le_of_ble_eq_true rfl) rfl dX10_isCaller_54
    · replace hf := it_f c10 hf
      refine lv_iload_n hx hb dX10_isCaller_21 rfl (lv_at hl 2 rfl) ?_
      refine lv_iconst (v := 1) hx hb dX10_isCaller_22 (by decide) ?_
      refine lv_sipush (v := 5000) hx hb dX10_isCaller_23 (by decide) ?_
      obtain ⟨r13, g11, m12, hf⟩ := b2_ok hf
      refine hp_cI0 (cl_X10_61 cx hB (cX10_within l D cA v2 1 5000 g6 _ g11 m12) ⟨Nat.le_of_ble_eq_true rfl, Nat.le_of_ble_eq_true rfl⟩ rfl hl.1 rfl (Nat.le_of_ble_eq_true rfl) ⟨Nat.le_of_ble_eq_true rfl, Nat.le_of_ble_eq_true rfl⟩ dX10_isCaller_26) rfl rfl hB (fun H locs hB => ?_)
      refine lv_if_eq (tgt := 53) hx hb dX10_isCaller_29 (by decide) (fun c15 => ?_) (fun c15 => ?_)
      · replace hf := it_t c15 hf
        refine lv_iconst (v := 0) hx hb dX10_isCaller_53 (by decide) ?_
        obtain ⟨rfl, rfl⟩ := rt_ok hf
        exact hp_zret cx hB hr hlk (Nat.le_of_ble_eq_true rfl) (Nat.le_of_ble_eq_true rfl) rfl dX10_isCaller_54
      · replace hf := it_f c15 hf
        refine lv_iload_n hx hb dX10_isCaller_32 rfl (lv_at hl 3 rfl) ?_
        obtain ⟨r18, g16, m17, hf⟩ := b2_ok hf
        refine hp_cI0 (cl_X10_106 cx hB (cX10_isHour l D cA v3 g11 _ g16 m17) ⟨Nat.le_of_ble_eq_true rfl, Nat.le_of_ble_eq_true rfl⟩ rfl hl.1 rfl (Nat.le_of_ble_eq_true rfl) ⟨Nat.le_of_ble_eq_true rfl, Nat.le_of_ble_eq_true rfl⟩ dX10_isCaller_33) rfl rfl hB (fun H locs hB => ?_)
        refine lv_if_eq (tgt := 53) hx hb dX10_isCaller_36 (by decide) (fun c20 => ?_) (fun c20 => ?_)
        · replace hf := it_t c20 hf
          refine lv_iconst (v := 0) hx hb dX10_isCaller_53 (by decide) ?_
          obtain ⟨rfl, rfl⟩ := rt_ok hf
          exact hp_zret cx hB hr hlk (Nat.le_of_ble_eq_true rfl) (Nat.le_of_ble_eq_true rfl) rfl dX10_isCaller_54
        · replace hf := it_f c20 hf
          refine lv_iload hx hb dX10_isCaller_39 (lv_at hl 4 rfl) ?_
          refine lv_iconst (v := 0) hx hb dX10_isCaller_41 (by decide) ?_
          refine lv_iconst (v := 1) hx hb dX10_isCaller_42 (by decide) ?_
          obtain ⟨r23, g21, m22, hf⟩ := b2_ok hf
          refine hp_cI0 (cl_X10_61 cx hB (cX10_within l D cA v4 0 1 g16 _ g21 m22) ⟨Nat.le_of_ble_eq_true rfl, Nat.le_of_ble_eq_true rfl⟩ rfl hl.1 rfl (Nat.le_of_ble_eq_true rfl) ⟨Nat.le_of_ble_eq_true rfl, Nat.le_of_ble_eq_true rfl⟩ dX10_isCaller_43) rfl rfl hB (fun H locs hB => ?_)
          refine lv_if_eq (tgt := 53) hx hb dX10_isCaller_46 (by decide) (fun c25 => ?_) (fun c25 => ?_)
          · replace hf := it_t c25 hf
            refine lv_iconst (v := 0) hx hb dX10_isCaller_53 (by decide) ?_
            obtain ⟨rfl, rfl⟩ := rt_ok hf
            exact hp_zret cx hB hr hlk (Nat.le_of_ble_eq_true rfl) (Nat.le_of_ble_eq_true rfl) rfl dX10_isCaller_54
          · replace hf := it_f c25 hf
            refine lv_iconst (v := 1) hx hb dX10_isCaller_49 (by decide) ?_
            refine lv_goto (tgt := 54) hx hb dX10_isCaller_50 (by decide) ?_
            obtain ⟨rfl, rfl⟩ := rt_ok hf
            exact hp_zret cx hB hr hlk (Nat.le_of_ble_eq_true rfl) (Nat.le_of_ble_eq_true rfl) rfl dX10_isCaller_54
end
set_option maxHeartbeats 4000000 in
set_option maxRecDepth 100000 in
theorem cX10_isCaller (l : Launch) (D : va_G) (cA : Nat → ClassId) (v0 : Int32) (v1 : Int32) (v2 : Int32) (v3 : Int32) (v4 : Int32) (h : Hp) (r : Int32) (h9 : Hp) (hf : fX10_isCaller v0 v1 v2 v3 v4 h = some (r, h9)) : hp_M l yX10_isCaller prog_1_method_31_code 5 (Option.some FieldType.boolean) rmX10_isCaller D cA h [.int v0, .int v1, .int v2, .int v3, .int v4] (hp_Qi D cA h h9 r) := by
  refine Met.ofW (cc := prog_1_method_31_code) (maxL := 5) (ret := (Option.some FieldType.boolean)) (by decide) rfl ?_
  intro p e s m args below meth c s₁ B hml hv
  obtain ⟨rfl, hU⟩ := hv
  have hts := atoms_spec (ws := Cond.code yX10_isCaller prog_1_method_31_code 5 (Option.some FieldType.boolean) :: tbG) B.pre
  have hl := lv_entry ([.int v0, .int v1, .int v2, .int v3, .int v4]) (n := 5) (Nat.le_of_ble_eq_true rfl)
  rw [lg_entry_eq]
  generalize (lg_sl ([.int v0, .int v1, .int v2, .int v3, .int v4]) ++ List.replicate (5 - (lg_sl ([.int v0, .int v1, .int v2, .int v3, .int v4])).length) Slot.unset).toArray = ls at hl ⊢
  exact tX10_isCaller_0 ⟨B.exec, B.bytes, hml, findClass_of_methodNamed B.named, fun w hw => hts w (List.mem_cons_of_mem _ hw)⟩ B.returns B.notSynchronized v0 v1 v2 v3 v4 h _ _ _ (hp_B.entry hU) hl hf
section
variable {p : Program} {l : Launch} {e : Env} {R : Room} {s : State} {m : MethodId} {args : Array Value} {below : List Frame} {meth : Method} {c : Code} {H : Heap} {locs : List Loc} {cells slots : Nat} {Q : State → Prop}
variable {cc : ByteArray} {pc nL : Nat} {ls : Array Slot} {rest : List Value} {D : va_G} {cA : Nat → ClassId} {A : Nat → Prop} {a : Nat} {h : Hp}
theorem cl_X10_156 {As st0 : List Value} {Qc : Array Value → State → Outcome → State → Prop} (cx : CallFix p m c cc nL s args tbG RX10) (hB : hp_B D cA A s h H locs) (hM : hp_M l yX10_isCaller prog_1_method_31_code 5 (Option.some FieldType.boolean) rmX10_isCaller D cA h As Qc) (hR : rmX10_isCaller.frames + 1 ≤ R.frames ∧ 8 + (5 + 11) + rmX10_isCaller.locals ≤ R.locals) (hn : As.length = 5) (hls : ls.size = nL) (hst : st0 = As.reverse ++ rest) (hW : (rest.map fun v => v.category).sum ≤ 8) (hf : cells + rmX10_isCaller.cells ≤ R.cells ∧ slots + rmX10_isCaller.slots ≤ R.slots) (hdg : decode cc pc = .ok (.invokestatic 156, 3)) :
    va_Run p l e R s m args below meth c H locs cells slots rmX10_isCaller.cells rmX10_isCaller.slots (F0 m pc ls st0) rest (Qc As.toArray) (hp_A h) :=
  hp_runS cx hB hM qw_413 qw_411 qw_412 qw_1 (by decide +kernel) hR hn hls hst hW hf hdg
theorem gf_X10_160 (cx : CallFix p m c cc nL s args tbG RX10) (hB : hp_B D cA A s h H locs) (hka : h.1 a = 3) (hdg : decode cc pc = .ok (.getfield 160, 3)) (kk : W p l e R s m args below meth c H locs cells slots Q (F0 m (pc + 3) ls (.int (h.2.2.1 a 1) :: rest))) : W p l e R s m args below meth c H locs cells slots Q (F0 m pc ls (.ref a :: rest)) :=
  hp_getI cx hB (ci := 2) 1 rfl inX2 (by decide) rfl (by decide) rfl qw_38 hka hdg kk
theorem gf_X10_54 (cx : CallFix p m c cc nL s args tbG RX10) (hB : hp_B D cA A s h H locs) (hka : h.1 a = 11) {b : Nat} (ho : h.2.2.2.1 a 6 = some b) (hdg : decode cc pc = .ok (.getfield 54, 3)) (kk : W p l e R s m args below meth c H locs cells slots Q (F0 m (pc + 3) ls (.ref b :: rest))) : W p l e R s m args below meth c H locs cells slots Q (F0 m pc ls (.ref a :: rest)) :=
  hp_getR cx hB (ci := 10) 6 rfl inX10 (by decide) rfl (by decide) rfl qw_206 hka (o := some b) ho.symm hdg kk
theorem gf_X10_19 (cx : CallFix p m c cc nL s args tbG RX10) (hB : hp_B D cA A s h H locs) (hka : h.1 a = 11) {b : Nat} (ho : h.2.2.2.1 a 1 = some b) (hdg : decode cc pc = .ok (.getfield 19, 3)) (kk : W p l e R s m args below meth c H locs cells slots Q (F0 m (pc + 3) ls (.ref b :: rest))) : W p l e R s m args below meth c H locs cells slots Q (F0 m pc ls (.ref a :: rest)) :=
  hp_getR cx hB (ci := 10) 1 rfl inX10 (by decide) rfl (by decide) rfl qw_201 hka (o := some b) ho.symm hdg kk
theorem cl_X10_163 {As st0 : List Value} {b : Nat} {Qc : Array Value → State → Outcome → State → Prop} (cx : CallFix p m c cc nL s args tbG RX10) (hB : hp_B D cA A s h H locs) (hM : hp_M l yX0_init prog_2_method_1_code 6 none rmX0_init D cA h (.ref b :: As) Qc) (hR : rmX0_init.frames + 1 ≤ R.frames ∧ 8 + (6 + 11) + rmX0_init.locals ≤ R.locals) (hn : As.length = 5) (hls : ls.size = nL) (hst : st0 = As.reverse ++ .ref b :: rest) (hW : (rest.map fun v => v.category).sum ≤ 8) (hf : cells + rmX0_init.cells ≤ R.cells ∧ slots + rmX0_init.slots ≤ R.slots) (hdg : decode cc pc = .ok (.invokespecial 163, 3)) :
    va_Run p l e R s m args below meth c H locs cells slots rmX0_init.cells rmX0_init.slots (F0 m pc ls st0) rest (Qc (Value.ref b :: As).toArray) (hp_A h) :=
  hp_runI cx hB hM qw_419 qw_417 qw_418 qw_13 rfl (by decide +kernel) hR hn hls hst hW hf hdg
theorem cl_X10_166 {As st0 : List Value} {b : Nat} {Qc : Array Value → State → Outcome → State → Prop} (cx : CallFix p m c cc nL s args tbG RX10) (hB : hp_B D cA A s h H locs) (hM : hp_M l yX8_follow prog_10_method_2_code 5 none rmX8_follow D cA h (.ref b :: As) Qc) (hkb : h.1 b = 9) (hR : rmX8_follow.frames + 1 ≤ R.frames ∧ 8 + (5 + 11) + rmX8_follow.locals ≤ R.locals) (hn : As.length = 3) (hls : ls.size = nL) (hst : st0 = As.reverse ++ .ref b :: rest) (hW : (rest.map fun v => v.category).sum ≤ 8) (hf : cells + rmX8_follow.cells ≤ R.cells ∧ slots + rmX8_follow.slots ≤ R.slots) (hdg : decode cc pc = .ok (.invokevirtual 166, 3)) :
    va_Run p l e R s m args below meth c H locs cells slots rmX8_follow.cells rmX8_follow.slots (F0 m pc ls st0) rest (Qc (Value.ref b :: As).toArray) (hp_A h) :=
  hp_runV cx hB hM (ci := 8) rfl (by decide) hkb qw_450 qw_447 qw_448 qw_449 qw_9 (by decide +kernel) hR hn hls hst hW hf hdg
theorem gf_X10_170 (cx : CallFix p m c cc nL s args tbG RX10) (hB : hp_B D cA A s h H locs) (hka : h.1 a = 9) (hdg : decode cc pc = .ok (.getfield 170, 3)) (kk : W p l e R s m args below meth c H locs cells slots Q (F0 m (pc + 3) ls (.int (h.2.2.1 a 1) :: rest))) : W p l e R s m args below meth c H locs cells slots Q (F0 m pc ls (.ref a :: rest)) :=
  hp_getI cx hB (ci := 8) 1 rfl inX8 (by decide) rfl (by decide) rfl qw_164 hka hdg kk
end
abbrev yX10_ring : MethodName := ⟨"SpokenMenus", "ring", "(IIIII)I"⟩
theorem dX10_ring_0 : decode prog_1_method_12_code 0 = .ok (.iload_n 1, 1) := by decide +kernel
theorem dX10_ring_1 : decode prog_1_method_12_code 1 = .ok (.iload_n 2, 1) := by decide +kernel
theorem dX10_ring_2 : decode prog_1_method_12_code 2 = .ok (.iload_n 3, 1) := by decide +kernel
theorem dX10_ring_3 : decode prog_1_method_12_code 3 = .ok (.iload 4, 2) := by decide +kernel
theorem dX10_ring_5 : decode prog_1_method_12_code 5 = .ok (.iload 5, 2) := by decide +kernel
theorem dX10_ring_7 : decode prog_1_method_12_code 7 = .ok (.invokestatic 156, 3) := by decide +kernel
theorem dX10_ring_10 : decode prog_1_method_12_code 10 = .ok (.ifCond .ne 5, 3) := by decide +kernel
theorem dX10_ring_13 : decode prog_1_method_12_code 13 = .ok (.iconst (-1), 1) := by decide +kernel
theorem dX10_ring_14 : decode prog_1_method_12_code 14 = .ok (.ireturn, 1) := by decide +kernel
theorem dX10_ring_15 : decode prog_1_method_12_code 15 = .ok (.aload_n 0, 1) := by decide +kernel
theorem dX10_ring_16 : decode prog_1_method_12_code 16 = .ok (.getfield 10, 3) := by decide +kernel
theorem dX10_ring_19 : decode prog_1_method_12_code 19 = .ok (.getfield 160, 3) := by decide +kernel
theorem dX10_ring_22 : decode prog_1_method_12_code 22 = .ok (.ifCond .ne 6, 3) := by decide +kernel
theorem dX10_ring_25 : decode prog_1_method_12_code 25 = .ok (.bipush (-2), 2) := by decide +kernel
theorem dX10_ring_27 : decode prog_1_method_12_code 27 = .ok (.ireturn, 1) := by decide +kernel
theorem dX10_ring_28 : decode prog_1_method_12_code 28 = .ok (.aload_n 0, 1) := by decide +kernel
theorem dX10_ring_29 : decode prog_1_method_12_code 29 = .ok (.getfield 54, 3) := by decide +kernel
theorem dX10_ring_32 : decode prog_1_method_12_code 32 = .ok (.aload_n 0, 1) := by decide +kernel
theorem dX10_ring_33 : decode prog_1_method_12_code 33 = .ok (.getfield 10, 3) := by decide +kernel
theorem dX10_ring_36 : decode prog_1_method_12_code 36 = .ok (.aload_n 0, 1) := by decide +kernel
theorem dX10_ring_37 : decode prog_1_method_12_code 37 = .ok (.getfield 19, 3) := by decide +kernel
theorem dX10_ring_40 : decode prog_1_method_12_code 40 = .ok (.new 161, 3) := by decide +kernel
theorem dX10_ring_43 : decode prog_1_method_12_code 43 = .ok (.dup, 1) := by decide +kernel
theorem dX10_ring_44 : decode prog_1_method_12_code 44 = .ok (.iload_n 1, 1) := by decide +kernel
theorem dX10_ring_45 : decode prog_1_method_12_code 45 = .ok (.iload_n 2, 1) := by decide +kernel
theorem dX10_ring_46 : decode prog_1_method_12_code 46 = .ok (.iload_n 3, 1) := by decide +kernel
theorem dX10_ring_47 : decode prog_1_method_12_code 47 = .ok (.iload 4, 2) := by decide +kernel
theorem dX10_ring_49 : decode prog_1_method_12_code 49 = .ok (.iload 5, 2) := by decide +kernel
theorem dX10_ring_51 : decode prog_1_method_12_code 51 = .ok (.iconst 1, 1) := by decide +kernel
theorem dX10_ring_52 : decode prog_1_method_12_code 52 = .ok (.if_icmp .ne 7, 3) := by decide +kernel
theorem dX10_ring_55 : decode prog_1_method_12_code 55 = .ok (.iconst 1, 1) := by decide +kernel
theorem dX10_ring_56 : decode prog_1_method_12_code 56 = .ok (.goto 4, 3) := by decide +kernel
theorem dX10_ring_59 : decode prog_1_method_12_code 59 = .ok (.iconst 0, 1) := by decide +kernel
theorem dX10_ring_60 : decode prog_1_method_12_code 60 = .ok (.invokespecial 163, 3) := by decide +kernel
theorem dX10_ring_63 : decode prog_1_method_12_code 63 = .ok (.invokevirtual 166, 3) := by decide +kernel
theorem dX10_ring_66 : decode prog_1_method_12_code 66 = .ok (.aload_n 0, 1) := by decide +kernel
theorem dX10_ring_67 : decode prog_1_method_12_code 67 = .ok (.getfield 54, 3) := by decide +kernel
theorem dX10_ring_70 : decode prog_1_method_12_code 70 = .ok (.getfield 170, 3) := by decide +kernel
theorem dX10_ring_73 : decode prog_1_method_12_code 73 = .ok (.ireturn, 1) := by decide +kernel
abbrev rmX10_ring : Room := { frames := 6, cells := 1, slots := 5, locals := 142 }
def fX10_ring  (t0 : Nat) (v1 : Int32) (v2 : Int32) (v3 : Int32) (v4 : Int32) (v5 : Int32) (h : Hp) : Option (Int32 × Hp) :=
  b2 (fX10_isCaller v1 v2 v3 v4 v5 h) fun r3 g1 =>
  if r3 = 0 then
  (some ((-1), g1))
  else
  (gk (g1.1 t0) 11 <|
  bd (g1.2.2.2.1 t0 0) fun a7 =>
  gk (g1.1 a7) 3 <|
  if (g1.2.2.1 a7 1) = 0 then
  (some ((-2), g1))
  else
  (bd (g1.2.2.2.1 t0 6) fun a11 =>
  bd (g1.2.2.2.1 t0 1) fun a13 =>
  nm g1.2.2.2.2 fun a15 =>
  nm (hp_nw g1 1 0) fun g16 =>
  if v5 = 1 then
  (b2 (fX0_init a15 v1 v2 v3 v4 1 g16) fun _ g32 =>
  gk (g32.1 a11) 9 <|
  b2 (fX8_follow a11 (some a7) (some a13) (some a15) g32) fun _ g37 =>
  gk (g37.1 t0) 11 <|
  bd (g37.2.2.2.1 t0 6) fun a42 =>
  gk (g37.1 a42) 9 <|
  some (g37.2.2.1 a42 1, g37))
  else
  (b2 (fX0_init a15 v1 v2 v3 v4 0 g16) fun _ g19 =>
  gk (g19.1 a11) 9 <|
  b2 (fX8_follow a11 (some a7) (some a13) (some a15) g19) fun _ g24 =>
  gk (g24.1 t0) 11 <|
  bd (g24.2.2.2.1 t0 6) fun a29 =>
  gk (g24.1 a29) 9 <|
  some (g24.2.2.1 a29 1, g24))))
section
variable {p : Program} {l : Launch} {e : Env} {s : State} {m : MethodId} {args : Array Value} {below : List Frame} {meth : Method} {c : Code} {D : va_G} {cA : Nat → ClassId} {h0 h9 : Hp}
set_option maxHeartbeats 4000000 in
set_option maxRecDepth 100000 in
theorem tX10_ring_0  {r : Int32} (cx : CallFix p m c prog_1_method_12_code 6 s args tbG RX10) (hr : meth.sig.returnType = (Option.some FieldType.int)) (hlk : meth.locks = false)  (t0 : Nat) (v1 : Int32) (v2 : Int32) (v3 : Int32) (v4 : Int32) (v5 : Int32) (h : Hp) (H : Heap) (locs : List Loc) (ls : Array Slot) (hB : hp_B D cA (hp_A h0) s h H locs) (hl : lv_has ls 6 [(0, .ref t0), (1, .int v1), (2, .int v2), (3, .int v3), (4, .int v4), (5, .int v5)]) (hf : fX10_ring  t0 v1 v2 v3 v4 v5 h = some (r, h9)) : W p l e rmX10_ring s m args below meth c H locs 0 0 (MQ below (hp_Qi D cA h0 h9 r) args s 1 5 (hp_A h0)) (F0 m 0 ls []) := by
  obtain ⟨hx, hb, -⟩ := id cx
  unfold fX10_ring at hf
  refine lv_iload_n hx hb dX10_ring_0 rfl (lv_at hl 1 rfl) ?_
  refine lv_iload_n hx hb dX10_ring_1 rfl (lv_at hl 2 rfl) ?_
  refine lv_iload_n hx hb dX10_ring_2 rfl (lv_at hl 3 rfl) ?_
  refine lv_iload hx hb dX10_ring_3 (lv_at hl 4 rfl) ?_
  refine lv_iload hx hb dX10_ring_5 (lv_at hl 5 rfl) ?_
  obtain ⟨r3, g1, m2, hf⟩ := b2_ok hf
  refine hp_cI0 (cl_X10_156 cx hB (cX10_isCaller l D cA v1 v2 v3 v4 v5 h _ g1 m2) ⟨Nat.le_of_ble_eq_true rfl, Nat.le_of_ble_eq_true rfl⟩ rfl hl.1 rfl (Nat.le_of_ble_eq_true rfl) ⟨Nat.le_of_ble_eq_true rfl, Nat.le_of_ble_eq_true rfl⟩ dX10_ring_7) rfl rfl hB (fun H locs hB => ?_)
  refine lv_if_ne (tgt := 15) hx hb dX10_ring_10 (by decide) (fun c5 => ?_) (fun c5 => ?_)
  · replace hf := it_f c5 hf
    refine lv_aload_n hx hb dX10_ring_15 rfl (lv_at hl 0 rfl) ?_
    obtain ⟨k6, hf⟩ := gk_ok hf
    obtain ⟨a7, q8, hf⟩ := bd_ok hf
    refine gf_X10_10 cx hB k6 q8 dX10_ring_16 ?_
    obtain ⟨k9, hf⟩ := gk_ok hf
    refine gf_X10_160 cx hB k9 dX10_ring_19 ?_
    refine lv_if_ne (tgt := 28) hx hb dX10_ring_22 (by decide) (fun c10 => ?_) (fun c10 => ?_)
    · replace hf := it_f c10 hf
      refine lv_aload_n hx hb dX10_ring_28 rfl (lv_at hl 0 rfl) ?_
      obtain ⟨a11, q12, hf⟩ := bd_ok hf
      refine gf_X10_54 cx hB k6 q12 dX10_ring_29 ?_
      refine lv_aload_n hx hb dX10_ring_32 rfl (lv_at hl 0 rfl) ?_
      refine gf_X10_10 cx hB k6 q8 dX10_ring_33 ?_
      refine lv_aload_n hx hb dX10_ring_36 rfl (lv_at hl 0 rfl) ?_
      obtain ⟨a13, q14, hf⟩ := bd_ok hf
      refine gf_X10_19 cx hB k6 q14 dX10_ring_37 ?_
      obtain ⟨a15, ea15, hf⟩ := nm_ok hf
      obtain ⟨g16, eg16, hf⟩ := nm_ok hf
      refine hp_new cx hB (ci := 0) tyX0 tyX0_ok rfl inX0 (by decide) rfl (by decide +kernel) qw_415 qw_416 qw_13 ea15 (Nat.le_of_ble_eq_true rfl) (Nat.le_of_ble_eq_true rfl) dX10_ring_40 (fun H hB => ?_)
      rw [← eg16] at hB
      have k17 : g16.1 a15 = 1 := by rw [eg16, ea15]; exact va_up_self _ _ _
      refine lv_dup hx hb dX10_ring_43 rfl ?_
      refine lv_iload_n hx hb dX10_ring_44 rfl (lv_at hl 1 rfl) ?_
      refine lv_iload_n hx hb dX10_ring_45 rfl (lv_at hl 2 rfl) ?_
      refine lv_iload_n hx hb dX10_ring_46 rfl (lv_at hl 3 rfl) ?_
      refine lv_iload hx hb dX10_ring_47 (lv_at hl 4 rfl) ?_
      refine lv_iload hx hb dX10_ring_49 (lv_at hl 5 rfl) ?_
      refine lv_iconst (v := 1) hx hb dX10_ring_51 (by decide) ?_
      refine lv_icmp_ne (tgt := 59) hx hb dX10_ring_52 (by decide) (fun c18 => ?_) (fun c18 => ?_)
      · replace hf := it_f c18 hf
        refine lv_iconst (v := 0) hx hb dX10_ring_59 (by decide) ?_
        obtain ⟨uu, g19, m20, hf⟩ := b2_ok hf
        refine hp_cV0 (cl_X10_163 cx hB (cX0_init l D cA a15 v1 v2 v3 v4 0 g16 _ g19 m20) ⟨Nat.le_of_ble_eq_true rfl, Nat.le_of_ble_eq_true rfl⟩ rfl hl.1 rfl (Nat.le_of_ble_eq_true rfl) ⟨Nat.le_of_ble_eq_true rfl, Nat.le_of_ble_eq_true rfl⟩ dX10_ring_60) rfl rfl hB (fun H locs hB => ?_)
        obtain ⟨k23, hf⟩ := gk_ok hf
        obtain ⟨uu, g24, m25, hf⟩ := b2_ok hf
        refine hp_cV0 (cl_X10_166 cx hB (cX8_follow l D cA a11 (some a7) (some a13) (some a15) g19 _ g24 m25) k23 ⟨Nat.le_of_ble_eq_true rfl, Nat.le_of_ble_eq_true rfl⟩ rfl hl.1 rfl (Nat.le_of_ble_eq_true rfl) ⟨Nat.le_of_ble_eq_true rfl, Nat.le_of_ble_eq_true rfl⟩ dX10_ring_63) rfl rfl hB (fun H locs hB => ?_)
        refine lv_aload_n hx hb dX10_ring_66 rfl (lv_at hl 0 rfl) ?_
        obtain ⟨k28, hf⟩ := gk_ok hf
        obtain ⟨a29, q30, hf⟩ := bd_ok hf
        refine gf_X10_54 cx hB k28 q30 dX10_ring_67 ?_
        obtain ⟨k31, hf⟩ := gk_ok hf
        refine gf_X10_170 cx hB k31 dX10_ring_70 ?_
        obtain ⟨rfl, rfl⟩ := rt_ok hf
        exact hp_iret cx hB hr hlk (Nat.le_of_ble_eq_true rfl) (Nat.le_of_ble_eq_true rfl) dX10_ring_73
      · replace hf := it_t c18 hf
        refine lv_iconst (v := 1) hx hb dX10_ring_55 (by decide) ?_
        refine lv_goto (tgt := 60) hx hb dX10_ring_56 (by decide) ?_
        obtain ⟨uu, g32, m33, hf⟩ := b2_ok hf
        refine hp_cV0 (cl_X10_163 cx hB (cX0_init l D cA a15 v1 v2 v3 v4 1 g16 _ g32 m33) ⟨Nat.le_of_ble_eq_true rfl, Nat.le_of_ble_eq_true rfl⟩ rfl hl.1 rfl (Nat.le_of_ble_eq_true rfl) ⟨Nat.le_of_ble_eq_true rfl, Nat.le_of_ble_eq_true rfl⟩ dX10_ring_60) rfl rfl hB (fun H locs hB => ?_)
        obtain ⟨k36, hf⟩ := gk_ok hf
        obtain ⟨uu, g37, m38, hf⟩ := b2_ok hf
        refine hp_cV0 (cl_X10_166 cx hB (cX8_follow l D cA a11 (some a7) (some a13) (some a15) g32 _ g37 m38) k36 ⟨Nat.le_of_ble_eq_true rfl, Nat.le_of_ble_eq_true rfl⟩ rfl hl.1 rfl (Nat.le_of_ble_eq_true rfl) ⟨Nat.le_of_ble_eq_true rfl, Nat.le_of_ble_eq_true rfl⟩ dX10_ring_63) rfl rfl hB (fun H locs hB => ?_)
        refine lv_aload_n hx hb dX10_ring_66 rfl (lv_at hl 0 rfl) ?_
        obtain ⟨k41, hf⟩ := gk_ok hf
        obtain ⟨a42, q43, hf⟩ := bd_ok hf
        refine gf_X10_54 cx hB k41 q43 dX10_ring_67 ?_
        obtain ⟨k44, hf⟩ := gk_ok hf
        refine gf_X10_170 cx hB k44 dX10_ring_70 ?_
        obtain ⟨rfl, rfl⟩ := rt_ok hf
        exact hp_iret cx hB hr hlk (Nat.le_of_ble_eq_true rfl) (Nat.le_of_ble_eq_true rfl) dX10_ring_73
    · replace hf := it_t c10 hf
      refine lv_bipush (v := (-2)) hx hb dX10_ring_25 (by decide) ?_
      obtain ⟨rfl, rfl⟩ := rt_ok hf
      exact hp_iret cx hB hr hlk (Nat.le_of_ble_eq_true rfl) (Nat.le_of_ble_eq_true rfl) dX10_ring_27
  · replace hf := it_t c5 hf
    refine lv_iconst (v := (-1)) hx hb dX10_ring_13 (by decide) ?_
    obtain ⟨rfl, rfl⟩ := rt_ok hf
    exact hp_iret cx hB hr hlk (Nat.le_of_ble_eq_true rfl) (Nat.le_of_ble_eq_true rfl) dX10_ring_14
end
set_option maxHeartbeats 4000000 in
set_option maxRecDepth 100000 in
theorem cX10_ring (l : Launch) (D : va_G) (cA : Nat → ClassId) (t0 : Nat) (v1 : Int32) (v2 : Int32) (v3 : Int32) (v4 : Int32) (v5 : Int32) (h : Hp) (r : Int32) (h9 : Hp) (hf : fX10_ring t0 v1 v2 v3 v4 v5 h = some (r, h9)) : hp_M l yX10_ring prog_1_method_12_code 6 (Option.some FieldType.int) rmX10_ring D cA h [.ref t0, .int v1, .int v2, .int v3, .int v4, .int v5] (hp_Qi D cA h h9 r) := by
  refine Met.ofW (cc := prog_1_method_12_code) (maxL := 6) (ret := (Option.some FieldType.int)) (by decide) rfl ?_
  intro p e s m args below meth c s₁ B hml hv
  obtain ⟨rfl, hU⟩ := hv
  have hts := atoms_spec (ws := Cond.code yX10_ring prog_1_method_12_code 6 (Option.some FieldType.int) :: tbG) B.pre
  have hl := lv_entry ([.ref t0, .int v1, .int v2, .int v3, .int v4, .int v5]) (n := 6) (Nat.le_of_ble_eq_true rfl)
  rw [lg_entry_eq]
  generalize (lg_sl ([.ref t0, .int v1, .int v2, .int v3, .int v4, .int v5]) ++ List.replicate (6 - (lg_sl ([.ref t0, .int v1, .int v2, .int v3, .int v4, .int v5])).length) Slot.unset).toArray = ls at hl ⊢
  exact tX10_ring_0 ⟨B.exec, B.bytes, hml, findClass_of_methodNamed B.named, fun w hw => hts w (List.mem_cons_of_mem _ hw)⟩ B.returns B.notSynchronized t0 v1 v2 v3 v4 v5 h _ _ _ (hp_B.entry hU) hl hf
section
variable {p : Program} {l : Launch} {e : Env} {R : Room} {s : State} {m : MethodId} {args : Array Value} {below : List Frame} {meth : Method} {c : Code} {H : Heap} {locs : List Loc} {cells slots : Nat} {Q : State → Prop}
variable {cc : ByteArray} {pc nL : Nat} {ls : Array Slot} {rest : List Value} {D : va_G} {cA : Nat → ClassId} {A : Nat → Prop} {a : Nat} {h : Hp}
theorem gf_X10_173 (cx : CallFix p m c cc nL s args tbG RX10) (hB : hp_B D cA A s h H locs) (hka : h.1 a = 9) (hdg : decode cc pc = .ok (.getfield 173, 3)) (kk : W p l e R s m args below meth c H locs cells slots Q (F0 m (pc + 3) ls (.int (h.2.2.1 a 0) :: rest))) : W p l e R s m args below meth c H locs cells slots Q (F0 m pc ls (.ref a :: rest)) :=
  hp_getI cx hB (ci := 8) 0 rfl inX8 (by decide) rfl (by decide) rfl qw_162 hka hdg kk
theorem gf_X10_177 (cx : CallFix p m c cc nL s args tbG RX10) (hB : hp_B D cA A s h H locs) (hka : h.1 a = 9) (hdg : decode cc pc = .ok (.getfield 177, 3)) (kk : W p l e R s m args below meth c H locs cells slots Q (F0 m (pc + 3) ls (.int (h.2.2.1 a 2) :: rest))) : W p l e R s m args below meth c H locs cells slots Q (F0 m pc ls (.ref a :: rest)) :=
  hp_getI cx hB (ci := 8) 2 rfl inX8 (by decide) rfl (by decide) rfl qw_166 hka hdg kk
theorem gf_X10_178 (cx : CallFix p m c cc nL s args tbG RX10) (hB : hp_B D cA A s h H locs) (hka : h.1 a = 9) (hdg : decode cc pc = .ok (.getfield 178, 3)) (kk : W p l e R s m args below meth c H locs cells slots Q (F0 m (pc + 3) ls (.int (h.2.2.1 a 3) :: rest))) : W p l e R s m args below meth c H locs cells slots Q (F0 m pc ls (.ref a :: rest)) :=
  hp_getI cx hB (ci := 8) 3 rfl inX8 (by decide) rfl (by decide) rfl qw_168 hka hdg kk
theorem gf_X10_181 (cx : CallFix p m c cc nL s args tbG RX10) (hB : hp_B D cA A s h H locs) (hka : h.1 a = 9) (hdg : decode cc pc = .ok (.getfield 181, 3)) (kk : W p l e R s m args below meth c H locs cells slots Q (F0 m (pc + 3) ls (.int (h.2.2.1 a 4) :: rest))) : W p l e R s m args below meth c H locs cells slots Q (F0 m pc ls (.ref a :: rest)) :=
  hp_getI cx hB (ci := 8) 4 rfl inX8 (by decide) rfl (by decide) rfl qw_170 hka hdg kk
theorem gf_X10_184 (cx : CallFix p m c cc nL s args tbG RX10) (hB : hp_B D cA A s h H locs) (hka : h.1 a = 9) (hdg : decode cc pc = .ok (.getfield 184, 3)) (kk : W p l e R s m args below meth c H locs cells slots Q (F0 m (pc + 3) ls (.int (h.2.2.1 a 5) :: rest))) : W p l e R s m args below meth c H locs cells slots Q (F0 m pc ls (.ref a :: rest)) :=
  hp_getI cx hB (ci := 8) 5 rfl inX8 (by decide) rfl (by decide) rfl qw_172 hka hdg kk
end
abbrev yX10_call : MethodName := ⟨"SpokenMenus", "call", "(I)I"⟩
theorem dX10_call_0 : decode prog_1_method_13_code 0 = .ok (.iload_n 1, 1) := by decide +kernel
theorem dX10_call_1 : decode prog_1_method_13_code 1 = .ok (.iconst 0, 1) := by decide +kernel
theorem dX10_call_2 : decode prog_1_method_13_code 2 = .ok (.iconst 3, 1) := by decide +kernel
theorem dX10_call_3 : decode prog_1_method_13_code 3 = .ok (.invokestatic 61, 3) := by decide +kernel
theorem dX10_call_6 : decode prog_1_method_13_code 6 = .ok (.ifCond .ne 5, 3) := by decide +kernel
theorem dX10_call_9 : decode prog_1_method_13_code 9 = .ok (.iconst (-1), 1) := by decide +kernel
theorem dX10_call_10 : decode prog_1_method_13_code 10 = .ok (.ireturn, 1) := by decide +kernel
theorem dX10_call_11 : decode prog_1_method_13_code 11 = .ok (.aload_n 0, 1) := by decide +kernel
theorem dX10_call_12 : decode prog_1_method_13_code 12 = .ok (.getfield 54, 3) := by decide +kernel
theorem dX10_call_15 : decode prog_1_method_13_code 15 = .ok (.getfield 173, 3) := by decide +kernel
theorem dX10_call_18 : decode prog_1_method_13_code 18 = .ok (.ifCond .ne 6, 3) := by decide +kernel
theorem dX10_call_21 : decode prog_1_method_13_code 21 = .ok (.bipush (-4), 2) := by decide +kernel
theorem dX10_call_23 : decode prog_1_method_13_code 23 = .ok (.ireturn, 1) := by decide +kernel
theorem dX10_call_24 : decode prog_1_method_13_code 24 = .ok (.iload_n 1, 1) := by decide +kernel
theorem dX10_call_25 : decode prog_1_method_13_code 25 = .ok (.tableswitch 51 0 2 #[27, 35, 43], 27) := by decide +kernel
theorem dX10_call_52 : decode prog_1_method_13_code 52 = .ok (.aload_n 0, 1) := by decide +kernel
theorem dX10_call_53 : decode prog_1_method_13_code 53 = .ok (.getfield 54, 3) := by decide +kernel
theorem dX10_call_56 : decode prog_1_method_13_code 56 = .ok (.getfield 177, 3) := by decide +kernel
theorem dX10_call_59 : decode prog_1_method_13_code 59 = .ok (.ireturn, 1) := by decide +kernel
theorem dX10_call_60 : decode prog_1_method_13_code 60 = .ok (.aload_n 0, 1) := by decide +kernel
theorem dX10_call_61 : decode prog_1_method_13_code 61 = .ok (.getfield 54, 3) := by decide +kernel
theorem dX10_call_64 : decode prog_1_method_13_code 64 = .ok (.getfield 178, 3) := by decide +kernel
theorem dX10_call_67 : decode prog_1_method_13_code 67 = .ok (.ireturn, 1) := by decide +kernel
theorem dX10_call_68 : decode prog_1_method_13_code 68 = .ok (.aload_n 0, 1) := by decide +kernel
theorem dX10_call_69 : decode prog_1_method_13_code 69 = .ok (.getfield 54, 3) := by decide +kernel
theorem dX10_call_72 : decode prog_1_method_13_code 72 = .ok (.getfield 181, 3) := by decide +kernel
theorem dX10_call_75 : decode prog_1_method_13_code 75 = .ok (.ireturn, 1) := by decide +kernel
theorem dX10_call_76 : decode prog_1_method_13_code 76 = .ok (.aload_n 0, 1) := by decide +kernel
theorem dX10_call_77 : decode prog_1_method_13_code 77 = .ok (.getfield 54, 3) := by decide +kernel
theorem dX10_call_80 : decode prog_1_method_13_code 80 = .ok (.getfield 184, 3) := by decide +kernel
theorem dX10_call_83 : decode prog_1_method_13_code 83 = .ok (.ireturn, 1) := by decide +kernel
abbrev rmX10_call : Room := { frames := 1, cells := 0, slots := 0, locals := 22 }
def fX10_call  (t0 : Nat) (v1 : Int32) (h : Hp) : Option (Int32 × Hp) :=
  b2 (fX10_within v1 0 3 h) fun r3 g1 =>
  if r3 = 0 then
  (some ((-1), g1))
  else
  (gk (g1.1 t0) 11 <|
  bd (g1.2.2.2.1 t0 6) fun a7 =>
  gk (g1.1 a7) 9 <|
  if (g1.2.2.1 a7 0) = 0 then
  (some ((-4), g1))
  else
  (if v1 = 0 then
  (some (g1.2.2.1 a7 2, g1))
  else
  if v1 = 1 then
  (some (g1.2.2.1 a7 3, g1))
  else
  if v1 = 2 then
  (some (g1.2.2.1 a7 4, g1))
  else
  (some (g1.2.2.1 a7 5, g1))))
section
variable {p : Program} {l : Launch} {e : Env} {s : State} {m : MethodId} {args : Array Value} {below : List Frame} {meth : Method} {c : Code} {D : va_G} {cA : Nat → ClassId} {h0 h9 : Hp}
set_option maxHeartbeats 4000000 in
set_option maxRecDepth 100000 in
theorem tX10_call_0  {r : Int32} (cx : CallFix p m c prog_1_method_13_code 2 s args tbG RX10) (hr : meth.sig.returnType = (Option.some FieldType.int)) (hlk : meth.locks = false)  (t0 : Nat) (v1 : Int32) (h : Hp) (H : Heap) (locs : List Loc) (ls : Array Slot) (hB : hp_B D cA (hp_A h0) s h H locs) (hl : lv_has ls 2 [(0, .ref t0), (1, .int v1)]) (hf : fX10_call  t0 v1 h = some (r, h9)) : W p l e rmX10_call s m args below meth c H locs 0 0 (MQ below (hp_Qi D cA h0 h9 r) args s 0 0 (hp_A h0)) (F0 m 0 ls []) := by
  obtain ⟨hx, hb, -⟩ := id cx
  unfold fX10_call at hf
  refine lv_iload_n hx hb dX10_call_0 rfl (lv_at hl 1 rfl) ?_
  refine lv_iconst (v := 0) hx hb dX10_call_1 (by decide) ?_
  refine lv_iconst (v := 3) hx hb dX10_call_2 (by decide) ?_
  obtain ⟨r3, g1, m2, hf⟩ := b2_ok hf
  refine hp_cI0 (cl_X10_61 cx hB (cX10_within l D cA v1 0 3 h _ g1 m2) ⟨Nat.le_of_ble_eq_true rfl, Nat.le_of_ble_eq_true rfl⟩ rfl hl.1 rfl (Nat.le_of_ble_eq_true rfl) ⟨Nat.le_of_ble_eq_true rfl, Nat.le_of_ble_eq_true rfl⟩ dX10_call_3) rfl rfl hB (fun H locs hB => ?_)
  refine lv_if_ne (tgt := 11) hx hb dX10_call_6 (by decide) (fun c5 => ?_) (fun c5 => ?_)
  · replace hf := it_f c5 hf
    refine lv_aload_n hx hb dX10_call_11 rfl (lv_at hl 0 rfl) ?_
    obtain ⟨k6, hf⟩ := gk_ok hf
    obtain ⟨a7, q8, hf⟩ := bd_ok hf
    refine gf_X10_54 cx hB k6 q8 dX10_call_12 ?_
    obtain ⟨k9, hf⟩ := gk_ok hf
    refine gf_X10_173 cx hB k9 dX10_call_15 ?_
    refine lv_if_ne (tgt := 24) hx hb dX10_call_18 (by decide) (fun c10 => ?_) (fun c10 => ?_)
    · replace hf := it_f c10 hf
      refine lv_iload_n hx hb dX10_call_24 rfl (lv_at hl 1 rfl) ?_
      by_cases c11 : v1 = 0
      · replace hf := it_t c11 hf
        refine lv_tableIn (off := 27) (tgt := 52) hx hb dX10_call_25 (by rw [c11]; decide) (by rw [c11]; decide) (by rw [c11]; rfl) (by decide) ?_
        refine lv_aload_n hx hb dX10_call_52 rfl (lv_at hl 0 rfl) ?_
        refine gf_X10_54 cx hB k6 q8 dX10_call_53 ?_
        refine gf_X10_177 cx hB k9 dX10_call_56 ?_
        obtain ⟨rfl, rfl⟩ := rt_ok hf
        exact hp_iret cx hB hr hlk (Nat.le_of_ble_eq_true rfl) (Nat.le_of_ble_eq_true rfl) dX10_call_59
      · replace hf := it_f c11 hf
        by_cases c12 : v1 = 1
        · replace hf := it_t c12 hf
          refine lv_tableIn (off := 35) (tgt := 60) hx hb dX10_call_25 (by rw [c12]; decide) (by rw [c12]; decide) (by rw [c12]; rfl) (by decide) ?_
          refine lv_aload_n hx hb dX10_call_60 rfl (lv_at hl 0 rfl) ?_
          refine gf_X10_54 cx hB k6 q8 dX10_call_61 ?_
          refine gf_X10_178 cx hB k9 dX10_call_64 ?_
          obtain ⟨rfl, rfl⟩ := rt_ok hf
          exact hp_iret cx hB hr hlk (Nat.le_of_ble_eq_true rfl) (Nat.le_of_ble_eq_true rfl) dX10_call_67
        · replace hf := it_f c12 hf
          by_cases c13 : v1 = 2
          · replace hf := it_t c13 hf
            refine lv_tableIn (off := 43) (tgt := 68) hx hb dX10_call_25 (by rw [c13]; decide) (by rw [c13]; decide) (by rw [c13]; rfl) (by decide) ?_
            refine lv_aload_n hx hb dX10_call_68 rfl (lv_at hl 0 rfl) ?_
            refine gf_X10_54 cx hB k6 q8 dX10_call_69 ?_
            refine gf_X10_181 cx hB k9 dX10_call_72 ?_
            obtain ⟨rfl, rfl⟩ := rt_ok hf
            exact hp_iret cx hB hr hlk (Nat.le_of_ble_eq_true rfl) (Nat.le_of_ble_eq_true rfl) dX10_call_75
          · replace hf := it_f c13 hf
            refine lv_tableOut (tgt := 76) hx hb dX10_call_25 (by have nc11 := lv_neT c11 (a := 0) rfl; have nc12 := lv_neT c12 (a := 1) rfl; have nc13 := lv_neT c13 (a := 2) rfl; omega) (by decide) ?_
            refine lv_aload_n hx hb dX10_call_76 rfl (lv_at hl 0 rfl) ?_
            refine gf_X10_54 cx hB k6 q8 dX10_call_77 ?_
            refine gf_X10_184 cx hB k9 dX10_call_80 ?_
            obtain ⟨rfl, rfl⟩ := rt_ok hf
            exact hp_iret cx hB hr hlk (Nat.le_of_ble_eq_true rfl) (Nat.le_of_ble_eq_true rfl) dX10_call_83
    · replace hf := it_t c10 hf
      refine lv_bipush (v := (-4)) hx hb dX10_call_21 (by decide) ?_
      obtain ⟨rfl, rfl⟩ := rt_ok hf
      exact hp_iret cx hB hr hlk (Nat.le_of_ble_eq_true rfl) (Nat.le_of_ble_eq_true rfl) dX10_call_23
  · replace hf := it_t c5 hf
    refine lv_iconst (v := (-1)) hx hb dX10_call_9 (by decide) ?_
    obtain ⟨rfl, rfl⟩ := rt_ok hf
    exact hp_iret cx hB hr hlk (Nat.le_of_ble_eq_true rfl) (Nat.le_of_ble_eq_true rfl) dX10_call_10
end
set_option maxHeartbeats 4000000 in
set_option maxRecDepth 100000 in
theorem cX10_call (l : Launch) (D : va_G) (cA : Nat → ClassId) (t0 : Nat) (v1 : Int32) (h : Hp) (r : Int32) (h9 : Hp) (hf : fX10_call t0 v1 h = some (r, h9)) : hp_M l yX10_call prog_1_method_13_code 2 (Option.some FieldType.int) rmX10_call D cA h [.ref t0, .int v1] (hp_Qi D cA h h9 r) := by
  refine Met.ofW (cc := prog_1_method_13_code) (maxL := 2) (ret := (Option.some FieldType.int)) (by decide) rfl ?_
  intro p e s m args below meth c s₁ B hml hv
  obtain ⟨rfl, hU⟩ := hv
  have hts := atoms_spec (ws := Cond.code yX10_call prog_1_method_13_code 2 (Option.some FieldType.int) :: tbG) B.pre
  have hl := lv_entry ([.ref t0, .int v1]) (n := 2) (Nat.le_of_ble_eq_true rfl)
  rw [lg_entry_eq]
  generalize (lg_sl ([.ref t0, .int v1]) ++ List.replicate (2 - (lg_sl ([.ref t0, .int v1])).length) Slot.unset).toArray = ls at hl ⊢
  exact tX10_call_0 ⟨B.exec, B.bytes, hml, findClass_of_methodNamed B.named, fun w hw => hts w (List.mem_cons_of_mem _ hw)⟩ B.returns B.notSynchronized t0 v1 h _ _ _ (hp_B.entry hU) hl hf
abbrev yX10_keptAt : MethodName := ⟨"SpokenMenus", "keptAt", "([III)I"⟩
theorem dX10_keptAt_0 : decode prog_1_method_34_code 0 = .ok (.iload_n 2, 1) := by decide +kernel
theorem dX10_keptAt_1 : decode prog_1_method_34_code 1 = .ok (.ifCond .ge 5, 3) := by decide +kernel
theorem dX10_keptAt_4 : decode prog_1_method_34_code 4 = .ok (.iconst (-1), 1) := by decide +kernel
theorem dX10_keptAt_5 : decode prog_1_method_34_code 5 = .ok (.ireturn, 1) := by decide +kernel
theorem dX10_keptAt_6 : decode prog_1_method_34_code 6 = .ok (.iload_n 2, 1) := by decide +kernel
theorem dX10_keptAt_7 : decode prog_1_method_34_code 7 = .ok (.iload_n 1, 1) := by decide +kernel
theorem dX10_keptAt_8 : decode prog_1_method_34_code 8 = .ok (.if_icmp .ge 15, 3) := by decide +kernel
theorem dX10_keptAt_11 : decode prog_1_method_34_code 11 = .ok (.iload_n 2, 1) := by decide +kernel
theorem dX10_keptAt_12 : decode prog_1_method_34_code 12 = .ok (.aload_n 0, 1) := by decide +kernel
theorem dX10_keptAt_13 : decode prog_1_method_34_code 13 = .ok (.arraylength, 1) := by decide +kernel
theorem dX10_keptAt_14 : decode prog_1_method_34_code 14 = .ok (.if_icmp .ge 9, 3) := by decide +kernel
theorem dX10_keptAt_17 : decode prog_1_method_34_code 17 = .ok (.aload_n 0, 1) := by decide +kernel
theorem dX10_keptAt_18 : decode prog_1_method_34_code 18 = .ok (.iload_n 2, 1) := by decide +kernel
theorem dX10_keptAt_19 : decode prog_1_method_34_code 19 = .ok (.iaload, 1) := by decide +kernel
theorem dX10_keptAt_20 : decode prog_1_method_34_code 20 = .ok (.goto 5, 3) := by decide +kernel
theorem dX10_keptAt_23 : decode prog_1_method_34_code 23 = .ok (.bipush (-4), 2) := by decide +kernel
theorem dX10_keptAt_25 : decode prog_1_method_34_code 25 = .ok (.ireturn, 1) := by decide +kernel
abbrev rmX10_keptAt : Room := { frames := 0, cells := 0, slots := 0, locals := 0 }
def fX10_keptAt  (w0 : Option Nat) (v1 : Int32) (v2 : Int32) (h : Hp) : Option (Int32 × Hp) :=
  if 0 ≤ v2 then
  (if v1 ≤ v2 then
  (some ((-4), h))
  else
  (bd w0 fun a3 =>
  gk (h.1 a3) 13 <|
  if (Int32.ofNat (h.2.1 a3)) ≤ v2 then
  (some ((-4), h))
  else
  (gd (ix v2 (h.2.1 a3)) <|
  some (h.2.2.1 a3 (Int32.toNatClampNeg v2), h))))
  else
  (some ((-1), h))
section
variable {p : Program} {l : Launch} {e : Env} {s : State} {m : MethodId} {args : Array Value} {below : List Frame} {meth : Method} {c : Code} {D : va_G} {cA : Nat → ClassId} {h0 h9 : Hp}
set_option maxHeartbeats 4000000 in
set_option maxRecDepth 100000 in
theorem tX10_keptAt_0  {r : Int32} (cx : CallFix p m c prog_1_method_34_code 3 s args tbG RX10) (hr : meth.sig.returnType = (Option.some FieldType.int)) (hlk : meth.locks = false)  (w0 : Option Nat) (v1 : Int32) (v2 : Int32) (h : Hp) (H : Heap) (locs : List Loc) (ls : Array Slot) (hB : hp_B D cA (hp_A h0) s h H locs) (hl : lv_has ls 3 [(0, va_rf w0), (1, .int v1), (2, .int v2)]) (hf : fX10_keptAt  w0 v1 v2 h = some (r, h9)) : W p l e rmX10_keptAt s m args below meth c H locs 0 0 (MQ below (hp_Qi D cA h0 h9 r) args s 0 0 (hp_A h0)) (F0 m 0 ls []) := by
  obtain ⟨hx, hb, -⟩ := id cx
  unfold fX10_keptAt at hf
  refine lv_iload_n hx hb dX10_keptAt_0 rfl (lv_at hl 2 rfl) ?_
  refine lv_if_ge (tgt := 6) hx hb dX10_keptAt_1 (by decide) (fun c1 => ?_) (fun c1 => ?_)
  · replace hf := it_t c1 hf
    refine lv_iload_n hx hb dX10_keptAt_6 rfl (lv_at hl 2 rfl) ?_
    refine lv_iload_n hx hb dX10_keptAt_7 rfl (lv_at hl 1 rfl) ?_
    refine lv_icmp_ge (tgt := 23) hx hb dX10_keptAt_8 (by decide) (fun c2 => ?_) (fun c2 => ?_)
    · replace hf := it_t c2 hf
      refine lv_bipush (v := (-4)) hx hb dX10_keptAt_23 (by decide) ?_
      obtain ⟨rfl, rfl⟩ := rt_ok hf
      exact hp_iret cx hB hr hlk (Nat.le_of_ble_eq_true rfl) (Nat.le_of_ble_eq_true rfl) dX10_keptAt_25
    · replace hf := it_f c2 hf
      refine lv_iload_n hx hb dX10_keptAt_11 rfl (lv_at hl 2 rfl) ?_
      refine lq_aload_n hx hb dX10_keptAt_12 rfl (lv_at hl 0 rfl) ?_
      obtain ⟨a3, eo, hf⟩ := bd_ok hf
      subst eo
      obtain ⟨k4, hf⟩ := gk_ok hf
      refine hp_alen cx hB 13 .int (by decide) rfl k4 dX10_keptAt_13 ?_
      refine lv_icmp_ge (tgt := 23) hx hb dX10_keptAt_14 (by decide) (fun c5 => ?_) (fun c5 => ?_)
      · replace hf := it_t c5 hf
        refine lv_bipush (v := (-4)) hx hb dX10_keptAt_23 (by decide) ?_
        obtain ⟨rfl, rfl⟩ := rt_ok hf
        exact hp_iret cx hB hr hlk (Nat.le_of_ble_eq_true rfl) (Nat.le_of_ble_eq_true rfl) dX10_keptAt_25
      · replace hf := it_f c5 hf
        refine lv_aload_n hx hb dX10_keptAt_17 rfl (lv_at hl 0 rfl) ?_
        refine lv_iload_n hx hb dX10_keptAt_18 rfl (lv_at hl 2 rfl) ?_
        obtain ⟨j6, hf⟩ := gd_ok hf
        refine hp_iald cx hB k4 j6 dX10_keptAt_19 ?_
        refine lv_goto (tgt := 25) hx hb dX10_keptAt_20 (by decide) ?_
        obtain ⟨rfl, rfl⟩ := rt_ok hf
        exact hp_iret cx hB hr hlk (Nat.le_of_ble_eq_true rfl) (Nat.le_of_ble_eq_true rfl) dX10_keptAt_25
  · replace hf := it_f c1 hf
    refine lv_iconst (v := (-1)) hx hb dX10_keptAt_4 (by decide) ?_
    obtain ⟨rfl, rfl⟩ := rt_ok hf
    exact hp_iret cx hB hr hlk (Nat.le_of_ble_eq_true rfl) (Nat.le_of_ble_eq_true rfl) dX10_keptAt_5
end
set_option maxHeartbeats 4000000 in
set_option maxRecDepth 100000 in
theorem cX10_keptAt (l : Launch) (D : va_G) (cA : Nat → ClassId) (w0 : Option Nat) (v1 : Int32) (v2 : Int32) (h : Hp) (r : Int32) (h9 : Hp) (hf : fX10_keptAt w0 v1 v2 h = some (r, h9)) : hp_M l yX10_keptAt prog_1_method_34_code 3 (Option.some FieldType.int) rmX10_keptAt D cA h [va_rf w0, .int v1, .int v2] (hp_Qi D cA h h9 r) := by
  refine Met.ofW (cc := prog_1_method_34_code) (maxL := 3) (ret := (Option.some FieldType.int)) (by decide) rfl ?_
  intro p e s m args below meth c s₁ B hml hv
  obtain ⟨rfl, hU⟩ := hv
  have hts := atoms_spec (ws := Cond.code yX10_keptAt prog_1_method_34_code 3 (Option.some FieldType.int) :: tbG) B.pre
  have hl := lv_entry ([va_rf w0, .int v1, .int v2]) (n := 3) (by simp [lg_sl, va_rf_cat, cat_i, cat_r, cat_n])
  rw [show lv_args 0 ([va_rf w0, .int v1, .int v2]) = [(0, va_rf w0), (1, .int v1), (2, .int v2)] by simp [lv_args, va_rf_cat, cat_i, cat_r, cat_n]] at hl
  rw [lg_entry_eq]
  generalize (lg_sl ([va_rf w0, .int v1, .int v2]) ++ List.replicate (3 - (lg_sl ([va_rf w0, .int v1, .int v2])).length) Slot.unset).toArray = ls at hl ⊢
  exact tX10_keptAt_0 ⟨B.exec, B.bytes, hml, findClass_of_methodNamed B.named, fun w hw => hts w (List.mem_cons_of_mem _ hw)⟩ B.returns B.notSynchronized w0 v1 v2 h _ _ _ (hp_B.entry hU) hl hf
section
variable {p : Program} {l : Launch} {e : Env} {R : Room} {s : State} {m : MethodId} {args : Array Value} {below : List Frame} {meth : Method} {c : Code} {H : Heap} {locs : List Loc} {cells slots : Nat} {Q : State → Prop}
variable {cc : ByteArray} {pc nL : Nat} {ls : Array Slot} {rest : List Value} {D : va_G} {cA : Nat → ClassId} {A : Nat → Prop} {a : Nat} {h : Hp}
theorem gf_X10_187 (cx : CallFix p m c cc nL s args tbG RX10) (hB : hp_B D cA A s h H locs) (hka : h.1 a = 9) {b : Nat} (ho : h.2.2.2.1 a 6 = some b) (hdg : decode cc pc = .ok (.getfield 187, 3)) (kk : W p l e R s m args below meth c H locs cells slots Q (F0 m (pc + 3) ls (.ref b :: rest))) : W p l e R s m args below meth c H locs cells slots Q (F0 m pc ls (.ref a :: rest)) :=
  hp_getR cx hB (ci := 8) 6 rfl inX8 (by decide) rfl (by decide) rfl qw_174 hka (o := some b) ho.symm hdg kk
theorem cl_X10_191 {As st0 : List Value} {Qc : Array Value → State → Outcome → State → Prop} (cx : CallFix p m c cc nL s args tbG RX10) (hB : hp_B D cA A s h H locs) (hM : hp_M l yX10_keptAt prog_1_method_34_code 3 (Option.some FieldType.int) rmX10_keptAt D cA h As Qc) (hR : rmX10_keptAt.frames + 1 ≤ R.frames ∧ 8 + (3 + 11) + rmX10_keptAt.locals ≤ R.locals) (hn : As.length = 3) (hls : ls.size = nL) (hst : st0 = As.reverse ++ rest) (hW : (rest.map fun v => v.category).sum ≤ 8) (hf : cells + rmX10_keptAt.cells ≤ R.cells ∧ slots + rmX10_keptAt.slots ≤ R.slots) (hdg : decode cc pc = .ok (.invokestatic 191, 3)) :
    va_Run p l e R s m args below meth c H locs cells slots rmX10_keptAt.cells rmX10_keptAt.slots (F0 m pc ls st0) rest (Qc As.toArray) (hp_A h) :=
  hp_runS cx hB hM qw_566 qw_564 qw_565 qw_1 (by decide +kernel) hR hn hls hst hW hf hdg
end
abbrev yX10_came : MethodName := ⟨"SpokenMenus", "came", "(I)I"⟩
theorem dX10_came_0 : decode prog_1_method_14_code 0 = .ok (.aload_n 0, 1) := by decide +kernel
theorem dX10_came_1 : decode prog_1_method_14_code 1 = .ok (.getfield 54, 3) := by decide +kernel
theorem dX10_came_4 : decode prog_1_method_14_code 4 = .ok (.getfield 187, 3) := by decide +kernel
theorem dX10_came_7 : decode prog_1_method_14_code 7 = .ok (.aload_n 0, 1) := by decide +kernel
theorem dX10_came_8 : decode prog_1_method_14_code 8 = .ok (.getfield 54, 3) := by decide +kernel
theorem dX10_came_11 : decode prog_1_method_14_code 11 = .ok (.getfield 181, 3) := by decide +kernel
theorem dX10_came_14 : decode prog_1_method_14_code 14 = .ok (.iload_n 1, 1) := by decide +kernel
theorem dX10_came_15 : decode prog_1_method_14_code 15 = .ok (.invokestatic 191, 3) := by decide +kernel
theorem dX10_came_18 : decode prog_1_method_14_code 18 = .ok (.ireturn, 1) := by decide +kernel
abbrev rmX10_came : Room := { frames := 1, cells := 0, slots := 0, locals := 22 }
def fX10_came  (t0 : Nat) (v1 : Int32) (h : Hp) : Option (Int32 × Hp) :=
  gk (h.1 t0) 11 <|
  bd (h.2.2.2.1 t0 6) fun a2 =>
  gk (h.1 a2) 9 <|
  bd (h.2.2.2.1 a2 6) fun a5 =>
  b2 (fX10_keptAt (some a5) (h.2.2.1 a2 4) v1 h) fun r9 g7 =>
  some (r9, g7)
section
variable {p : Program} {l : Launch} {e : Env} {s : State} {m : MethodId} {args : Array Value} {below : List Frame} {meth : Method} {c : Code} {D : va_G} {cA : Nat → ClassId} {h0 h9 : Hp}
set_option maxHeartbeats 4000000 in
set_option maxRecDepth 100000 in
theorem tX10_came_0  {r : Int32} (cx : CallFix p m c prog_1_method_14_code 2 s args tbG RX10) (hr : meth.sig.returnType = (Option.some FieldType.int)) (hlk : meth.locks = false)  (t0 : Nat) (v1 : Int32) (h : Hp) (H : Heap) (locs : List Loc) (ls : Array Slot) (hB : hp_B D cA (hp_A h0) s h H locs) (hl : lv_has ls 2 [(0, .ref t0), (1, .int v1)]) (hf : fX10_came  t0 v1 h = some (r, h9)) : W p l e rmX10_came s m args below meth c H locs 0 0 (MQ below (hp_Qi D cA h0 h9 r) args s 0 0 (hp_A h0)) (F0 m 0 ls []) := by
  obtain ⟨hx, hb, -⟩ := id cx
  unfold fX10_came at hf
  refine lv_aload_n hx hb dX10_came_0 rfl (lv_at hl 0 rfl) ?_
  obtain ⟨k1, hf⟩ := gk_ok hf
  obtain ⟨a2, q3, hf⟩ := bd_ok hf
  refine gf_X10_54 cx hB k1 q3 dX10_came_1 ?_
  obtain ⟨k4, hf⟩ := gk_ok hf
  obtain ⟨a5, q6, hf⟩ := bd_ok hf
  refine gf_X10_187 cx hB k4 q6 dX10_came_4 ?_
  refine lv_aload_n hx hb dX10_came_7 rfl (lv_at hl 0 rfl) ?_
  refine gf_X10_54 cx hB k1 q3 dX10_came_8 ?_
  refine gf_X10_181 cx hB k4 dX10_came_11 ?_
  refine lv_iload_n hx hb dX10_came_14 rfl (lv_at hl 1 rfl) ?_
  obtain ⟨r9, g7, m8, hf⟩ := b2_ok hf
  refine hp_cI0 (cl_X10_191 cx hB (cX10_keptAt l D cA (some a5) (h.2.2.1 a2 4) v1 h _ g7 m8) ⟨Nat.le_of_ble_eq_true rfl, Nat.le_of_ble_eq_true rfl⟩ rfl hl.1 rfl (Nat.le_of_ble_eq_true rfl) ⟨Nat.le_of_ble_eq_true rfl, Nat.le_of_ble_eq_true rfl⟩ dX10_came_15) rfl rfl hB (fun H locs hB => ?_)
  obtain ⟨rfl, rfl⟩ := rt_ok hf
  exact hp_iret cx hB hr hlk (Nat.le_of_ble_eq_true rfl) (Nat.le_of_ble_eq_true rfl) dX10_came_18
end
set_option maxHeartbeats 4000000 in
set_option maxRecDepth 100000 in
theorem cX10_came (l : Launch) (D : va_G) (cA : Nat → ClassId) (t0 : Nat) (v1 : Int32) (h : Hp) (r : Int32) (h9 : Hp) (hf : fX10_came t0 v1 h = some (r, h9)) : hp_M l yX10_came prog_1_method_14_code 2 (Option.some FieldType.int) rmX10_came D cA h [.ref t0, .int v1] (hp_Qi D cA h h9 r) := by
  refine Met.ofW (cc := prog_1_method_14_code) (maxL := 2) (ret := (Option.some FieldType.int)) (by decide) rfl ?_
  intro p e s m args below meth c s₁ B hml hv
  obtain ⟨rfl, hU⟩ := hv
  have hts := atoms_spec (ws := Cond.code yX10_came prog_1_method_14_code 2 (Option.some FieldType.int) :: tbG) B.pre
  have hl := lv_entry ([.ref t0, .int v1]) (n := 2) (Nat.le_of_ble_eq_true rfl)
  rw [lg_entry_eq]
  generalize (lg_sl ([.ref t0, .int v1]) ++ List.replicate (2 - (lg_sl ([.ref t0, .int v1])).length) Slot.unset).toArray = ls at hl ⊢
  exact tX10_came_0 ⟨B.exec, B.bytes, hml, findClass_of_methodNamed B.named, fun w hw => hts w (List.mem_cons_of_mem _ hw)⟩ B.returns B.notSynchronized t0 v1 h _ _ _ (hp_B.entry hU) hl hf
section
variable {p : Program} {l : Launch} {e : Env} {R : Room} {s : State} {m : MethodId} {args : Array Value} {below : List Frame} {meth : Method} {c : Code} {H : Heap} {locs : List Loc} {cells slots : Nat} {Q : State → Prop}
variable {cc : ByteArray} {pc nL : Nat} {ls : Array Slot} {rest : List Value} {D : va_G} {cA : Nat → ClassId} {A : Nat → Prop} {a : Nat} {h : Hp}
theorem gf_X10_195 (cx : CallFix p m c cc nL s args tbG RX10) (hB : hp_B D cA A s h H locs) (hka : h.1 a = 9) {b : Nat} (ho : h.2.2.2.1 a 7 = some b) (hdg : decode cc pc = .ok (.getfield 195, 3)) (kk : W p l e R s m args below meth c H locs cells slots Q (F0 m (pc + 3) ls (.ref b :: rest))) : W p l e R s m args below meth c H locs cells slots Q (F0 m pc ls (.ref a :: rest)) :=
  hp_getR cx hB (ci := 8) 7 rfl inX8 (by decide) rfl (by decide) rfl qw_176 hka (o := some b) ho.symm hdg kk
end
abbrev yX10_pressed : MethodName := ⟨"SpokenMenus", "pressed", "(I)I"⟩
theorem dX10_pressed_0 : decode prog_1_method_15_code 0 = .ok (.aload_n 0, 1) := by decide +kernel
theorem dX10_pressed_1 : decode prog_1_method_15_code 1 = .ok (.getfield 54, 3) := by decide +kernel
theorem dX10_pressed_4 : decode prog_1_method_15_code 4 = .ok (.getfield 195, 3) := by decide +kernel
theorem dX10_pressed_7 : decode prog_1_method_15_code 7 = .ok (.aload_n 0, 1) := by decide +kernel
theorem dX10_pressed_8 : decode prog_1_method_15_code 8 = .ok (.getfield 54, 3) := by decide +kernel
theorem dX10_pressed_11 : decode prog_1_method_15_code 11 = .ok (.getfield 184, 3) := by decide +kernel
theorem dX10_pressed_14 : decode prog_1_method_15_code 14 = .ok (.iload_n 1, 1) := by decide +kernel
theorem dX10_pressed_15 : decode prog_1_method_15_code 15 = .ok (.invokestatic 191, 3) := by decide +kernel
theorem dX10_pressed_18 : decode prog_1_method_15_code 18 = .ok (.ireturn, 1) := by decide +kernel
abbrev rmX10_pressed : Room := { frames := 1, cells := 0, slots := 0, locals := 22 }
def fX10_pressed  (t0 : Nat) (v1 : Int32) (h : Hp) : Option (Int32 × Hp) :=
  gk (h.1 t0) 11 <|
  bd (h.2.2.2.1 t0 6) fun a2 =>
  gk (h.1 a2) 9 <|
  bd (h.2.2.2.1 a2 7) fun a5 =>
  b2 (fX10_keptAt (some a5) (h.2.2.1 a2 5) v1 h) fun r9 g7 =>
  some (r9, g7)
section
variable {p : Program} {l : Launch} {e : Env} {s : State} {m : MethodId} {args : Array Value} {below : List Frame} {meth : Method} {c : Code} {D : va_G} {cA : Nat → ClassId} {h0 h9 : Hp}
set_option maxHeartbeats 4000000 in
set_option maxRecDepth 100000 in
theorem tX10_pressed_0  {r : Int32} (cx : CallFix p m c prog_1_method_15_code 2 s args tbG RX10) (hr : meth.sig.returnType = (Option.some FieldType.int)) (hlk : meth.locks = false)  (t0 : Nat) (v1 : Int32) (h : Hp) (H : Heap) (locs : List Loc) (ls : Array Slot) (hB : hp_B D cA (hp_A h0) s h H locs) (hl : lv_has ls 2 [(0, .ref t0), (1, .int v1)]) (hf : fX10_pressed  t0 v1 h = some (r, h9)) : W p l e rmX10_pressed s m args below meth c H locs 0 0 (MQ below (hp_Qi D cA h0 h9 r) args s 0 0 (hp_A h0)) (F0 m 0 ls []) := by
  obtain ⟨hx, hb, -⟩ := id cx
  unfold fX10_pressed at hf
  refine lv_aload_n hx hb dX10_pressed_0 rfl (lv_at hl 0 rfl) ?_
  obtain ⟨k1, hf⟩ := gk_ok hf
  obtain ⟨a2, q3, hf⟩ := bd_ok hf
  refine gf_X10_54 cx hB k1 q3 dX10_pressed_1 ?_
  obtain ⟨k4, hf⟩ := gk_ok hf
  obtain ⟨a5, q6, hf⟩ := bd_ok hf
  refine gf_X10_195 cx hB k4 q6 dX10_pressed_4 ?_
  refine lv_aload_n hx hb dX10_pressed_7 rfl (lv_at hl 0 rfl) ?_
  refine gf_X10_54 cx hB k1 q3 dX10_pressed_8 ?_
  refine gf_X10_184 cx hB k4 dX10_pressed_11 ?_
  refine lv_iload_n hx hb dX10_pressed_14 rfl (lv_at hl 1 rfl) ?_
  obtain ⟨r9, g7, m8, hf⟩ := b2_ok hf
  refine hp_cI0 (cl_X10_191 cx hB (cX10_keptAt l D cA (some a5) (h.2.2.1 a2 5) v1 h _ g7 m8) ⟨Nat.le_of_ble_eq_true rfl, Nat.le_of_ble_eq_true rfl⟩ rfl hl.1 rfl (Nat.le_of_ble_eq_true rfl) ⟨Nat.le_of_ble_eq_true rfl, Nat.le_of_ble_eq_true rfl⟩ dX10_pressed_15) rfl rfl hB (fun H locs hB => ?_)
  obtain ⟨rfl, rfl⟩ := rt_ok hf
  exact hp_iret cx hB hr hlk (Nat.le_of_ble_eq_true rfl) (Nat.le_of_ble_eq_true rfl) dX10_pressed_18
end
set_option maxHeartbeats 4000000 in
set_option maxRecDepth 100000 in
theorem cX10_pressed (l : Launch) (D : va_G) (cA : Nat → ClassId) (t0 : Nat) (v1 : Int32) (h : Hp) (r : Int32) (h9 : Hp) (hf : fX10_pressed t0 v1 h = some (r, h9)) : hp_M l yX10_pressed prog_1_method_15_code 2 (Option.some FieldType.int) rmX10_pressed D cA h [.ref t0, .int v1] (hp_Qi D cA h h9 r) := by
  refine Met.ofW (cc := prog_1_method_15_code) (maxL := 2) (ret := (Option.some FieldType.int)) (by decide) rfl ?_
  intro p e s m args below meth c s₁ B hml hv
  obtain ⟨rfl, hU⟩ := hv
  have hts := atoms_spec (ws := Cond.code yX10_pressed prog_1_method_15_code 2 (Option.some FieldType.int) :: tbG) B.pre
  have hl := lv_entry ([.ref t0, .int v1]) (n := 2) (Nat.le_of_ble_eq_true rfl)
  rw [lg_entry_eq]
  generalize (lg_sl ([.ref t0, .int v1]) ++ List.replicate (2 - (lg_sl ([.ref t0, .int v1])).length) Slot.unset).toArray = ls at hl ⊢
  exact tX10_pressed_0 ⟨B.exec, B.bytes, hml, findClass_of_methodNamed B.named, fun w hw => hts w (List.mem_cons_of_mem _ hw)⟩ B.returns B.notSynchronized t0 v1 h _ _ _ (hp_B.entry hU) hl hf
section
variable {p : Program} {l : Launch} {e : Env} {R : Room} {s : State} {m : MethodId} {args : Array Value} {below : List Frame} {meth : Method} {c : Code} {H : Heap} {locs : List Loc} {cells slots : Nat} {Q : State → Prop}
variable {cc : ByteArray} {pc nL : Nat} {ls : Array Slot} {rest : List Value} {D : va_G} {cA : Nat → ClassId} {A : Nat → Prop} {a : Nat} {h : Hp}
theorem cl_X10_198 {As st0 : List Value} {b : Nat} {Qc : Array Value → State → Outcome → State → Prop} (cx : CallFix p m c cc nL s args tbG RX10) (hB : hp_B D cA A s h H locs) (hM : hp_M l yX9_measure prog_11_method_2_code 7 none rmX9_measure D cA h (.ref b :: As) Qc) (hkb : h.1 b = 10) (hR : rmX9_measure.frames + 1 ≤ R.frames ∧ 8 + (7 + 11) + rmX9_measure.locals ≤ R.locals) (hn : As.length = 2) (hls : ls.size = nL) (hst : st0 = As.reverse ++ .ref b :: rest) (hW : (rest.map fun v => v.category).sum ≤ 8) (hf : cells + rmX9_measure.cells ≤ R.cells ∧ slots + rmX9_measure.slots ≤ R.slots) (hdg : decode cc pc = .ok (.invokevirtual 198, 3)) :
    va_Run p l e R s m args below meth c H locs cells slots rmX9_measure.cells rmX9_measure.slots (F0 m pc ls st0) rest (Qc (Value.ref b :: As).toArray) (hp_A h) :=
  hp_runV cx hB hM (ci := 9) rfl (by decide) hkb qw_454 qw_575 qw_452 qw_453 qw_3 (by decide +kernel) hR hn hls hst hW hf hdg
theorem cl_X10_202 {As st0 : List Value} {b : Nat} {Qc : Array Value → State → Outcome → State → Prop} (cx : CallFix p m c cc nL s args tbG RX10) (hB : hp_B D cA A s h H locs) (hM : hp_M l yX9_ticksFrom prog_11_method_3_code 2 (Option.some FieldType.int) rmX9_ticksFrom D cA h (.ref b :: As) Qc) (hkb : h.1 b = 10) (hR : rmX9_ticksFrom.frames + 1 ≤ R.frames ∧ 8 + (2 + 11) + rmX9_ticksFrom.locals ≤ R.locals) (hn : As.length = 1) (hls : ls.size = nL) (hst : st0 = As.reverse ++ .ref b :: rest) (hW : (rest.map fun v => v.category).sum ≤ 8) (hf : cells + rmX9_ticksFrom.cells ≤ R.cells ∧ slots + rmX9_ticksFrom.slots ≤ R.slots) (hdg : decode cc pc = .ok (.invokevirtual 202, 3)) :
    va_Run p l e R s m args below meth c H locs cells slots rmX9_ticksFrom.cells rmX9_ticksFrom.slots (F0 m pc ls st0) rest (Qc (Value.ref b :: As).toArray) (hp_A h) :=
  hp_runV cx hB hM (ci := 9) rfl (by decide) hkb qw_476 qw_576 qw_474 qw_475 qw_3 (by decide +kernel) hR hn hls hst hW hf hdg
end
abbrev yX10_fewest : MethodName := ⟨"SpokenMenus", "fewest", "(IIII)I"⟩
theorem dX10_fewest_0 : decode prog_1_method_16_code 0 = .ok (.aload_n 0, 1) := by decide +kernel
theorem dX10_fewest_1 : decode prog_1_method_16_code 1 = .ok (.getfield 10, 3) := by decide +kernel
theorem dX10_fewest_4 : decode prog_1_method_16_code 4 = .ok (.iload_n 1, 1) := by decide +kernel
theorem dX10_fewest_5 : decode prog_1_method_16_code 5 = .ok (.invokevirtual 139, 3) := by decide +kernel
theorem dX10_fewest_8 : decode prog_1_method_16_code 8 = .ok (.ifnull 15, 3) := by decide +kernel
theorem dX10_fewest_11 : decode prog_1_method_16_code 11 = .ok (.iload_n 2, 1) := by decide +kernel
theorem dX10_fewest_12 : decode prog_1_method_16_code 12 = .ok (.iload_n 3, 1) := by decide +kernel
theorem dX10_fewest_13 : decode prog_1_method_16_code 13 = .ok (.iconst 1, 1) := by decide +kernel
theorem dX10_fewest_14 : decode prog_1_method_16_code 14 = .ok (.iload 4, 2) := by decide +kernel
theorem dX10_fewest_16 : decode prog_1_method_16_code 16 = .ok (.iconst 1, 1) := by decide +kernel
theorem dX10_fewest_17 : decode prog_1_method_16_code 17 = .ok (.invokestatic 156, 3) := by decide +kernel
theorem dX10_fewest_20 : decode prog_1_method_16_code 20 = .ok (.ifCond .ne 5, 3) := by decide +kernel
theorem dX10_fewest_23 : decode prog_1_method_16_code 23 = .ok (.iconst (-1), 1) := by decide +kernel
theorem dX10_fewest_24 : decode prog_1_method_16_code 24 = .ok (.ireturn, 1) := by decide +kernel
theorem dX10_fewest_25 : decode prog_1_method_16_code 25 = .ok (.aload_n 0, 1) := by decide +kernel
theorem dX10_fewest_26 : decode prog_1_method_16_code 26 = .ok (.getfield 19, 3) := by decide +kernel
theorem dX10_fewest_29 : decode prog_1_method_16_code 29 = .ok (.aload_n 0, 1) := by decide +kernel
theorem dX10_fewest_30 : decode prog_1_method_16_code 30 = .ok (.getfield 10, 3) := by decide +kernel
theorem dX10_fewest_33 : decode prog_1_method_16_code 33 = .ok (.new 161, 3) := by decide +kernel
theorem dX10_fewest_36 : decode prog_1_method_16_code 36 = .ok (.dup, 1) := by decide +kernel
theorem dX10_fewest_37 : decode prog_1_method_16_code 37 = .ok (.iload_n 2, 1) := by decide +kernel
theorem dX10_fewest_38 : decode prog_1_method_16_code 38 = .ok (.iload_n 3, 1) := by decide +kernel
theorem dX10_fewest_39 : decode prog_1_method_16_code 39 = .ok (.iconst 1, 1) := by decide +kernel
theorem dX10_fewest_40 : decode prog_1_method_16_code 40 = .ok (.iload 4, 2) := by decide +kernel
theorem dX10_fewest_42 : decode prog_1_method_16_code 42 = .ok (.iconst 1, 1) := by decide +kernel
theorem dX10_fewest_43 : decode prog_1_method_16_code 43 = .ok (.invokespecial 163, 3) := by decide +kernel
theorem dX10_fewest_46 : decode prog_1_method_16_code 46 = .ok (.invokevirtual 198, 3) := by decide +kernel
theorem dX10_fewest_49 : decode prog_1_method_16_code 49 = .ok (.aload_n 0, 1) := by decide +kernel
theorem dX10_fewest_50 : decode prog_1_method_16_code 50 = .ok (.getfield 19, 3) := by decide +kernel
theorem dX10_fewest_53 : decode prog_1_method_16_code 53 = .ok (.iload_n 1, 1) := by decide +kernel
theorem dX10_fewest_54 : decode prog_1_method_16_code 54 = .ok (.invokevirtual 202, 3) := by decide +kernel
theorem dX10_fewest_57 : decode prog_1_method_16_code 57 = .ok (.istore 5, 2) := by decide +kernel
theorem dX10_fewest_59 : decode prog_1_method_16_code 59 = .ok (.iload 5, 2) := by decide +kernel
theorem dX10_fewest_61 : decode prog_1_method_16_code 61 = .ok (.ldc 206, 2) := by decide +kernel
theorem dX10_fewest_63 : decode prog_1_method_16_code 63 = .ok (.if_icmp .ge 8, 3) := by decide +kernel
theorem dX10_fewest_66 : decode prog_1_method_16_code 66 = .ok (.iload 5, 2) := by decide +kernel
theorem dX10_fewest_68 : decode prog_1_method_16_code 68 = .ok (.goto 5, 3) := by decide +kernel
theorem dX10_fewest_71 : decode prog_1_method_16_code 71 = .ok (.bipush (-4), 2) := by decide +kernel
theorem dX10_fewest_73 : decode prog_1_method_16_code 73 = .ok (.ireturn, 1) := by decide +kernel
abbrev rmX10_fewest : Room := { frames := 5, cells := 1, slots := 5, locals := 114 }
def fX10_fewest  (t0 : Nat) (v1 : Int32) (v2 : Int32) (v3 : Int32) (v4 : Int32) (h : Hp) : Option (Int32 × Hp) :=
  gk (h.1 t0) 11 <|
  bd (h.2.2.2.1 t0 0) fun a2 =>
  gk (h.1 a2) 3 <|
  b2 (fX2_at a2 v1 h) fun o8 g5 =>
  rn o8
  (some ((-1), g5))
  (fun a9 =>
  b2 (fX10_isCaller v2 v3 1 v4 1 g5) fun r12 g10 =>
  if r12 = 0 then
  (some ((-1), g10))
  else
  (gk (g10.1 t0) 11 <|
  bd (g10.2.2.2.1 t0 1) fun a16 =>
  bd (g10.2.2.2.1 t0 0) fun a18 =>
  nm g10.2.2.2.2 fun a20 =>
  nm (hp_nw g10 1 0) fun g21 =>
  b2 (fX0_init a20 v2 v3 1 v4 1 g21) fun _ g23 =>
  gk (g23.1 a16) 10 <|
  b2 (fX9_measure a16 (some a18) (some a20) g23) fun _ g28 =>
  gk (g28.1 t0) 11 <|
  bd (g28.2.2.2.1 t0 1) fun a33 =>
  gk (g28.1 a33) 10 <|
  b2 (fX9_ticksFrom a33 v1 g28) fun r38 g36 =>
  if 1000000 ≤ r38 then
  (some ((-4), g36))
  else
  (some (r38, g36))))
section
variable {p : Program} {l : Launch} {e : Env} {s : State} {m : MethodId} {args : Array Value} {below : List Frame} {meth : Method} {c : Code} {D : va_G} {cA : Nat → ClassId} {h0 h9 : Hp}
set_option maxHeartbeats 4000000 in
set_option maxRecDepth 100000 in
theorem tX10_fewest_0  {r : Int32} (cx : CallFix p m c prog_1_method_16_code 6 s args tbG RX10) (hr : meth.sig.returnType = (Option.some FieldType.int)) (hlk : meth.locks = false)  (t0 : Nat) (v1 : Int32) (v2 : Int32) (v3 : Int32) (v4 : Int32) (h : Hp) (H : Heap) (locs : List Loc) (ls : Array Slot) (hB : hp_B D cA (hp_A h0) s h H locs) (hl : lv_has ls 6 [(0, .ref t0), (1, .int v1), (2, .int v2), (3, .int v3), (4, .int v4)]) (hf : fX10_fewest  t0 v1 v2 v3 v4 h = some (r, h9)) : W p l e rmX10_fewest s m args below meth c H locs 0 0 (MQ below (hp_Qi D cA h0 h9 r) args s 1 5 (hp_A h0)) (F0 m 0 ls []) := by
  obtain ⟨hx, hb, -⟩ := id cx
  unfold fX10_fewest at hf
  refine lv_aload_n hx hb dX10_fewest_0 rfl (lv_at hl 0 rfl) ?_
  obtain ⟨k1, hf⟩ := gk_ok hf
  obtain ⟨a2, q3, hf⟩ := bd_ok hf
  refine gf_X10_10 cx hB k1 q3 dX10_fewest_1 ?_
  refine lv_iload_n hx hb dX10_fewest_4 rfl (lv_at hl 1 rfl) ?_
  obtain ⟨k4, hf⟩ := gk_ok hf
  obtain ⟨o8, g5, m6, hf⟩ := b2_ok hf
  refine hp_cR0 (cl_X10_139 cx hB (cX2_at l D cA a2 v1 h _ g5 m6) k4 ⟨Nat.le_of_ble_eq_true rfl, Nat.le_of_ble_eq_true rfl⟩ rfl hl.1 rfl (Nat.le_of_ble_eq_true rfl) ⟨Nat.le_of_ble_eq_true rfl, Nat.le_of_ble_eq_true rfl⟩ dX10_fewest_5) rfl rfl hB (fun H locs hB => ?_)
  refine lq_ifnull (tgt := 23) hx hb dX10_fewest_8 (by decide) (fun eo => ?_) (fun a9 eo => ?_)
  · subst eo
    replace hf := rn_n hf
    refine lv_iconst (v := (-1)) hx hb dX10_fewest_23 (by decide) ?_
    obtain ⟨rfl, rfl⟩ := rt_ok hf
    exact hp_iret cx hB hr hlk (Nat.le_of_ble_eq_true rfl) (Nat.le_of_ble_eq_true rfl) dX10_fewest_24
  · subst eo
    replace hf := rn_s hf
    refine lv_iload_n hx hb dX10_fewest_11 rfl (lv_at hl 2 rfl) ?_
    refine lv_iload_n hx hb dX10_fewest_12 rfl (lv_at hl 3 rfl) ?_
    refine lv_iconst (v := 1) hx hb dX10_fewest_13 (by decide) ?_
    refine lv_iload hx hb dX10_fewest_14 (lv_at hl 4 rfl) ?_
    refine lv_iconst (v := 1) hx hb dX10_fewest_16 (by decide) ?_
    obtain ⟨r12, g10, m11, hf⟩ := b2_ok hf
    refine hp_cI0 (cl_X10_156 cx hB (cX10_isCaller l D cA v2 v3 1 v4 1 g5 _ g10 m11) ⟨Nat.le_of_ble_eq_true rfl, Nat.le_of_ble_eq_true rfl⟩ rfl hl.1 rfl (Nat.le_of_ble_eq_true rfl) ⟨Nat.le_of_ble_eq_true rfl, Nat.le_of_ble_eq_true rfl⟩ dX10_fewest_17) rfl rfl hB (fun H locs hB => ?_)
    refine lv_if_ne (tgt := 25) hx hb dX10_fewest_20 (by decide) (fun c14 => ?_) (fun c14 => ?_)
    · replace hf := it_f c14 hf
      refine lv_aload_n hx hb dX10_fewest_25 rfl (lv_at hl 0 rfl) ?_
      obtain ⟨k15, hf⟩ := gk_ok hf
      obtain ⟨a16, q17, hf⟩ := bd_ok hf
      refine gf_X10_19 cx hB k15 q17 dX10_fewest_26 ?_
      refine lv_aload_n hx hb dX10_fewest_29 rfl (lv_at hl 0 rfl) ?_
      obtain ⟨a18, q19, hf⟩ := bd_ok hf
      refine gf_X10_10 cx hB k15 q19 dX10_fewest_30 ?_
      obtain ⟨a20, ea20, hf⟩ := nm_ok hf
      obtain ⟨g21, eg21, hf⟩ := nm_ok hf
      refine hp_new cx hB (ci := 0) tyX0 tyX0_ok rfl inX0 (by decide) rfl (by decide +kernel) qw_415 qw_416 qw_13 ea20 (Nat.le_of_ble_eq_true rfl) (Nat.le_of_ble_eq_true rfl) dX10_fewest_33 (fun H hB => ?_)
      rw [← eg21] at hB
      have k22 : g21.1 a20 = 1 := by rw [eg21, ea20]; exact va_up_self _ _ _
      refine lv_dup hx hb dX10_fewest_36 rfl ?_
      refine lv_iload_n hx hb dX10_fewest_37 rfl (lv_at hl 2 rfl) ?_
      refine lv_iload_n hx hb dX10_fewest_38 rfl (lv_at hl 3 rfl) ?_
      refine lv_iconst (v := 1) hx hb dX10_fewest_39 (by decide) ?_
      refine lv_iload hx hb dX10_fewest_40 (lv_at hl 4 rfl) ?_
      refine lv_iconst (v := 1) hx hb dX10_fewest_42 (by decide) ?_
      obtain ⟨uu, g23, m24, hf⟩ := b2_ok hf
      refine hp_cV0 (cl_X10_163 cx hB (cX0_init l D cA a20 v2 v3 1 v4 1 g21 _ g23 m24) ⟨Nat.le_of_ble_eq_true rfl, Nat.le_of_ble_eq_true rfl⟩ rfl hl.1 rfl (Nat.le_of_ble_eq_true rfl) ⟨Nat.le_of_ble_eq_true rfl, Nat.le_of_ble_eq_true rfl⟩ dX10_fewest_43) rfl rfl hB (fun H locs hB => ?_)
      obtain ⟨k27, hf⟩ := gk_ok hf
      obtain ⟨uu, g28, m29, hf⟩ := b2_ok hf
      refine hp_cV0 (cl_X10_198 cx hB (cX9_measure l D cA a16 (some a18) (some a20) g23 _ g28 m29) k27 ⟨Nat.le_of_ble_eq_true rfl, Nat.le_of_ble_eq_true rfl⟩ rfl hl.1 rfl (Nat.le_of_ble_eq_true rfl) ⟨Nat.le_of_ble_eq_true rfl, Nat.le_of_ble_eq_true rfl⟩ dX10_fewest_46) rfl rfl hB (fun H locs hB => ?_)
      refine lv_aload_n hx hb dX10_fewest_49 rfl (lv_at hl 0 rfl) ?_
      obtain ⟨k32, hf⟩ := gk_ok hf
      obtain ⟨a33, q34, hf⟩ := bd_ok hf
      refine gf_X10_19 cx hB k32 q34 dX10_fewest_50 ?_
      refine lv_iload_n hx hb dX10_fewest_53 rfl (lv_at hl 1 rfl) ?_
      obtain ⟨k35, hf⟩ := gk_ok hf
      obtain ⟨r38, g36, m37, hf⟩ := b2_ok hf
      refine hp_cI0 (cl_X10_202 cx hB (cX9_ticksFrom l D cA a33 v1 g28 _ g36 m37) k35 ⟨Nat.le_of_ble_eq_true rfl, Nat.le_of_ble_eq_true rfl⟩ rfl hl.1 rfl (Nat.le_of_ble_eq_true rfl) ⟨Nat.le_of_ble_eq_true rfl, Nat.le_of_ble_eq_true rfl⟩ dX10_fewest_54) rfl rfl hB (fun H locs hB => ?_)
      refine lv_istore (lv' := [(5, .int r38), (0, .ref t0), (1, .int v1), (2, .int v2), (3, .int v3), (4, .int v4)]) hx hb dX10_fewest_57 hl (by decide) rfl (fun ls hl => ?_)
      refine lv_iload hx hb dX10_fewest_59 (lv_at hl 0 rfl) ?_
      refine lv_ldc (v := 1000000) hx hb cx.2.2.2.1 (cx.2.2.2.2 _ (tb_in qw_577 rfl)) dX10_fewest_61 ?_
      refine lv_icmp_ge (tgt := 71) hx hb dX10_fewest_63 (by decide) (fun c40 => ?_) (fun c40 => ?_)
      · replace hf := it_t c40 hf
        refine lv_bipush (v := (-4)) hx hb dX10_fewest_71 (by decide) ?_
        obtain ⟨rfl, rfl⟩ := rt_ok hf
        exact hp_iret cx hB hr hlk (Nat.le_of_ble_eq_true rfl) (Nat.le_of_ble_eq_true rfl) dX10_fewest_73
      · replace hf := it_f c40 hf
        refine lv_iload hx hb dX10_fewest_66 (lv_at hl 0 rfl) ?_
        refine lv_goto (tgt := 73) hx hb dX10_fewest_68 (by decide) ?_
        obtain ⟨rfl, rfl⟩ := rt_ok hf
        exact hp_iret cx hB hr hlk (Nat.le_of_ble_eq_true rfl) (Nat.le_of_ble_eq_true rfl) dX10_fewest_73
    · replace hf := it_t c14 hf
      refine lv_iconst (v := (-1)) hx hb dX10_fewest_23 (by decide) ?_
      obtain ⟨rfl, rfl⟩ := rt_ok hf
      exact hp_iret cx hB hr hlk (Nat.le_of_ble_eq_true rfl) (Nat.le_of_ble_eq_true rfl) dX10_fewest_24
end
set_option maxHeartbeats 4000000 in
set_option maxRecDepth 100000 in
theorem cX10_fewest (l : Launch) (D : va_G) (cA : Nat → ClassId) (t0 : Nat) (v1 : Int32) (v2 : Int32) (v3 : Int32) (v4 : Int32) (h : Hp) (r : Int32) (h9 : Hp) (hf : fX10_fewest t0 v1 v2 v3 v4 h = some (r, h9)) : hp_M l yX10_fewest prog_1_method_16_code 6 (Option.some FieldType.int) rmX10_fewest D cA h [.ref t0, .int v1, .int v2, .int v3, .int v4] (hp_Qi D cA h h9 r) := by
  refine Met.ofW (cc := prog_1_method_16_code) (maxL := 6) (ret := (Option.some FieldType.int)) (by decide) rfl ?_
  intro p e s m args below meth c s₁ B hml hv
  obtain ⟨rfl, hU⟩ := hv
  have hts := atoms_spec (ws := Cond.code yX10_fewest prog_1_method_16_code 6 (Option.some FieldType.int) :: tbG) B.pre
  have hl := lv_entry ([.ref t0, .int v1, .int v2, .int v3, .int v4]) (n := 6) (Nat.le_of_ble_eq_true rfl)
  rw [lg_entry_eq]
  generalize (lg_sl ([.ref t0, .int v1, .int v2, .int v3, .int v4]) ++ List.replicate (6 - (lg_sl ([.ref t0, .int v1, .int v2, .int v3, .int v4])).length) Slot.unset).toArray = ls at hl ⊢
  exact tX10_fewest_0 ⟨B.exec, B.bytes, hml, findClass_of_methodNamed B.named, fun w hw => hts w (List.mem_cons_of_mem _ hw)⟩ B.returns B.notSynchronized t0 v1 v2 v3 v4 h _ _ _ (hp_B.entry hU) hl hf
section
variable {p : Program} {l : Launch} {e : Env} {R : Room} {s : State} {m : MethodId} {args : Array Value} {below : List Frame} {meth : Method} {c : Code} {H : Heap} {locs : List Loc} {cells slots : Nat} {Q : State → Prop}
variable {cc : ByteArray} {pc nL : Nat} {ls : Array Slot} {rest : List Value} {D : va_G} {cA : Nat → ClassId} {A : Nat → Prop} {a : Nat} {h : Hp}
theorem gf_X10_26 (cx : CallFix p m c cc nL s args tbG RX10) (hB : hp_B D cA A s h H locs) (hka : h.1 a = 11) {b : Nat} (ho : h.2.2.2.1 a 2 = some b) (hdg : decode cc pc = .ok (.getfield 26, 3)) (kk : W p l e R s m args below meth c H locs cells slots Q (F0 m (pc + 3) ls (.ref b :: rest))) : W p l e R s m args below meth c H locs cells slots Q (F0 m pc ls (.ref a :: rest)) :=
  hp_getR cx hB (ci := 10) 2 rfl inX10 (by decide) rfl (by decide) rfl qw_202 hka (o := some b) ho.symm hdg kk
theorem cl_X10_207 {As st0 : List Value} {b : Nat} {Qc : Array Value → State → Outcome → State → Prop} (cx : CallFix p m c cc nL s args tbG RX10) (hB : hp_B D cA A s h H locs) (hM : hp_M l yX7_look prog_9_method_2_code 6 none rmX7_look D cA h (.ref b :: As) Qc) (hkb : h.1 b = 8) (hR : rmX7_look.frames + 1 ≤ R.frames ∧ 8 + (6 + 11) + rmX7_look.locals ≤ R.locals) (hn : As.length = 2) (hls : ls.size = nL) (hst : st0 = As.reverse ++ .ref b :: rest) (hW : (rest.map fun v => v.category).sum ≤ 8) (hf : cells + rmX7_look.cells ≤ R.cells ∧ slots + rmX7_look.slots ≤ R.slots) (hdg : decode cc pc = .ok (.invokevirtual 207, 3)) :
    va_Run p l e R s m args below meth c H locs cells slots rmX7_look.cells rmX7_look.slots (F0 m pc ls st0) rest (Qc (Value.ref b :: As).toArray) (hp_A h) :=
  hp_runV cx hB hM (ci := 7) rfl (by decide) hkb qw_585 qw_582 qw_583 qw_584 qw_4 (by decide +kernel) hR hn hls hst hW hf hdg
theorem cl_X10_215 {As st0 : List Value} {b : Nat} {Qc : Array Value → State → Outcome → State → Prop} (cx : CallFix p m c cc nL s args tbG RX10) (hB : hp_B D cA A s h H locs) (hM : hp_M l yX7_numberOf prog_9_method_4_code 5 (Option.some FieldType.int) rmX7_numberOf D cA h (.ref b :: As) Qc) (hkb : h.1 b = 8) (hR : rmX7_numberOf.frames + 1 ≤ R.frames ∧ 8 + (5 + 11) + rmX7_numberOf.locals ≤ R.locals) (hn : As.length = 2) (hls : ls.size = nL) (hst : st0 = As.reverse ++ .ref b :: rest) (hW : (rest.map fun v => v.category).sum ≤ 8) (hf : cells + rmX7_numberOf.cells ≤ R.cells ∧ slots + rmX7_numberOf.slots ≤ R.slots) (hdg : decode cc pc = .ok (.invokevirtual 215, 3)) :
    va_Run p l e R s m args below meth c H locs cells slots rmX7_numberOf.cells rmX7_numberOf.slots (F0 m pc ls st0) rest (Qc (Value.ref b :: As).toArray) (hp_A h) :=
  hp_runV cx hB hM (ci := 7) rfl (by decide) hkb qw_611 qw_608 qw_609 qw_610 qw_4 (by decide +kernel) hR hn hls hst hW hf hdg
theorem cl_X10_211 {As st0 : List Value} {b : Nat} {Qc : Array Value → State → Outcome → State → Prop} (cx : CallFix p m c cc nL s args tbG RX10) (hB : hp_B D cA A s h H locs) (hM : hp_M l yX7_howMany prog_9_method_3_code 4 (Option.some FieldType.int) rmX7_howMany D cA h (.ref b :: As) Qc) (hkb : h.1 b = 8) (hR : rmX7_howMany.frames + 1 ≤ R.frames ∧ 8 + (4 + 11) + rmX7_howMany.locals ≤ R.locals) (hn : As.length = 1) (hls : ls.size = nL) (hst : st0 = As.reverse ++ .ref b :: rest) (hW : (rest.map fun v => v.category).sum ≤ 8) (hf : cells + rmX7_howMany.cells ≤ R.cells ∧ slots + rmX7_howMany.slots ≤ R.slots) (hdg : decode cc pc = .ok (.invokevirtual 211, 3)) :
    va_Run p l e R s m args below meth c H locs cells slots rmX7_howMany.cells rmX7_howMany.slots (F0 m pc ls st0) rest (Qc (Value.ref b :: As).toArray) (hp_A h) :=
  hp_runV cx hB hM (ci := 7) rfl (by decide) hkb qw_603 qw_600 qw_601 qw_602 qw_4 (by decide +kernel) hR hn hls hst hW hf hdg
end
abbrev yX10_trap : MethodName := ⟨"SpokenMenus", "trap", "(II)I"⟩
theorem dX10_trap_0 : decode prog_1_method_17_code 0 = .ok (.iload_n 1, 1) := by decide +kernel
theorem dX10_trap_1 : decode prog_1_method_17_code 1 = .ok (.invokestatic 106, 3) := by decide +kernel
theorem dX10_trap_4 : decode prog_1_method_17_code 4 = .ok (.ifCond .eq 8, 3) := by decide +kernel
theorem dX10_trap_7 : decode prog_1_method_17_code 7 = .ok (.iload_n 2, 1) := by decide +kernel
theorem dX10_trap_8 : decode prog_1_method_17_code 8 = .ok (.iconst (-1), 1) := by decide +kernel
theorem dX10_trap_9 : decode prog_1_method_17_code 9 = .ok (.if_icmp .ge 5, 3) := by decide +kernel
theorem dX10_trap_12 : decode prog_1_method_17_code 12 = .ok (.iconst (-1), 1) := by decide +kernel
theorem dX10_trap_13 : decode prog_1_method_17_code 13 = .ok (.ireturn, 1) := by decide +kernel
theorem dX10_trap_14 : decode prog_1_method_17_code 14 = .ok (.aload_n 0, 1) := by decide +kernel
theorem dX10_trap_15 : decode prog_1_method_17_code 15 = .ok (.getfield 10, 3) := by decide +kernel
theorem dX10_trap_18 : decode prog_1_method_17_code 18 = .ok (.getfield 160, 3) := by decide +kernel
theorem dX10_trap_21 : decode prog_1_method_17_code 21 = .ok (.ifCond .ne 6, 3) := by decide +kernel
theorem dX10_trap_24 : decode prog_1_method_17_code 24 = .ok (.bipush (-2), 2) := by decide +kernel
theorem dX10_trap_26 : decode prog_1_method_17_code 26 = .ok (.ireturn, 1) := by decide +kernel
theorem dX10_trap_27 : decode prog_1_method_17_code 27 = .ok (.aload_n 0, 1) := by decide +kernel
theorem dX10_trap_28 : decode prog_1_method_17_code 28 = .ok (.getfield 26, 3) := by decide +kernel
theorem dX10_trap_31 : decode prog_1_method_17_code 31 = .ok (.aload_n 0, 1) := by decide +kernel
theorem dX10_trap_32 : decode prog_1_method_17_code 32 = .ok (.getfield 10, 3) := by decide +kernel
theorem dX10_trap_35 : decode prog_1_method_17_code 35 = .ok (.iload_n 1, 1) := by decide +kernel
theorem dX10_trap_36 : decode prog_1_method_17_code 36 = .ok (.invokevirtual 207, 3) := by decide +kernel
theorem dX10_trap_39 : decode prog_1_method_17_code 39 = .ok (.iload_n 2, 1) := by decide +kernel
theorem dX10_trap_40 : decode prog_1_method_17_code 40 = .ok (.iconst (-1), 1) := by decide +kernel
theorem dX10_trap_41 : decode prog_1_method_17_code 41 = .ok (.if_icmp .ne 17, 3) := by decide +kernel
theorem dX10_trap_44 : decode prog_1_method_17_code 44 = .ok (.aload_n 0, 1) := by decide +kernel
theorem dX10_trap_45 : decode prog_1_method_17_code 45 = .ok (.getfield 26, 3) := by decide +kernel
theorem dX10_trap_48 : decode prog_1_method_17_code 48 = .ok (.aload_n 0, 1) := by decide +kernel
theorem dX10_trap_49 : decode prog_1_method_17_code 49 = .ok (.getfield 10, 3) := by decide +kernel
theorem dX10_trap_52 : decode prog_1_method_17_code 52 = .ok (.invokevirtual 211, 3) := by decide +kernel
theorem dX10_trap_55 : decode prog_1_method_17_code 55 = .ok (.goto 15, 3) := by decide +kernel
theorem dX10_trap_58 : decode prog_1_method_17_code 58 = .ok (.aload_n 0, 1) := by decide +kernel
theorem dX10_trap_59 : decode prog_1_method_17_code 59 = .ok (.getfield 26, 3) := by decide +kernel
theorem dX10_trap_62 : decode prog_1_method_17_code 62 = .ok (.aload_n 0, 1) := by decide +kernel
theorem dX10_trap_63 : decode prog_1_method_17_code 63 = .ok (.getfield 10, 3) := by decide +kernel
theorem dX10_trap_66 : decode prog_1_method_17_code 66 = .ok (.iload_n 2, 1) := by decide +kernel
theorem dX10_trap_67 : decode prog_1_method_17_code 67 = .ok (.invokevirtual 215, 3) := by decide +kernel
theorem dX10_trap_70 : decode prog_1_method_17_code 70 = .ok (.ireturn, 1) := by decide +kernel
abbrev rmX10_trap : Room := { frames := 4, cells := 0, slots := 0, locals := 96 }
def fX10_trap  (t0 : Nat) (v1 : Int32) (v2 : Int32) (h : Hp) : Option (Int32 × Hp) :=
  b2 (fX10_isHour v1 h) fun r3 g1 =>
  if r3 = 0 then
  (some ((-1), g1))
  else
  (if (-1) ≤ v2 then
  (gk (g1.1 t0) 11 <|
  bd (g1.2.2.2.1 t0 0) fun a8 =>
  gk (g1.1 a8) 3 <|
  if (g1.2.2.1 a8 1) = 0 then
  (some ((-2), g1))
  else
  (bd (g1.2.2.2.1 t0 2) fun a12 =>
  gk (g1.1 a12) 8 <|
  b2 (fX7_look a12 (some a8) v1 g1) fun _ g15 =>
  if v2 = (-1) then
  (gk (g15.1 t0) 11 <|
  bd (g15.2.2.2.1 t0 2) fun a31 =>
  bd (g15.2.2.2.1 t0 0) fun a33 =>
  gk (g15.1 a31) 8 <|
  b2 (fX7_howMany a31 (some a33) g15) fun r38 g36 =>
  some (r38, g36))
  else
  (gk (g15.1 t0) 11 <|
  bd (g15.2.2.2.1 t0 2) fun a21 =>
  bd (g15.2.2.2.1 t0 0) fun a23 =>
  gk (g15.1 a21) 8 <|
  b2 (fX7_numberOf a21 (some a23) v2 g15) fun r28 g26 =>
  some (r28, g26))))
  else
  (some ((-1), g1)))
section
variable {p : Program} {l : Launch} {e : Env} {s : State} {m : MethodId} {args : Array Value} {below : List Frame} {meth : Method} {c : Code} {D : va_G} {cA : Nat → ClassId} {h0 h9 : Hp}
set_option maxHeartbeats 4000000 in
set_option maxRecDepth 100000 in
theorem tX10_trap_0  {r : Int32} (cx : CallFix p m c prog_1_method_17_code 3 s args tbG RX10) (hr : meth.sig.returnType = (Option.some FieldType.int)) (hlk : meth.locks = false)  (t0 : Nat) (v1 : Int32) (v2 : Int32) (h : Hp) (H : Heap) (locs : List Loc) (ls : Array Slot) (hB : hp_B D cA (hp_A h0) s h H locs) (hl : lv_has ls 3 [(0, .ref t0), (1, .int v1), (2, .int v2)]) (hf : fX10_trap  t0 v1 v2 h = some (r, h9)) : W p l e rmX10_trap s m args below meth c H locs 0 0 (MQ below (hp_Qi D cA h0 h9 r) args s 0 0 (hp_A h0)) (F0 m 0 ls []) := by
  obtain ⟨hx, hb, -⟩ := id cx
  unfold fX10_trap at hf
  refine lv_iload_n hx hb dX10_trap_0 rfl (lv_at hl 1 rfl) ?_
  obtain ⟨r3, g1, m2, hf⟩ := b2_ok hf
  refine hp_cI0 (cl_X10_106 cx hB (cX10_isHour l D cA v1 h _ g1 m2) ⟨Nat.le_of_ble_eq_true rfl, Nat.le_of_ble_eq_true rfl⟩ rfl hl.1 rfl (Nat.le_of_ble_eq_true rfl) ⟨Nat.le_of_ble_eq_true rfl, Nat.le_of_ble_eq_true rfl⟩ dX10_trap_1) rfl rfl hB (fun H locs hB => ?_)
  refine lv_if_eq (tgt := 12) hx hb dX10_trap_4 (by decide) (fun c5 => ?_) (fun c5 => ?_)
  · replace hf := it_t c5 hf
    refine lv_iconst (v := (-1)) hx hb dX10_trap_12 (by decide) ?_
    obtain ⟨rfl, rfl⟩ := rt_ok hf
    exact hp_iret cx hB hr hlk (Nat.le_of_ble_eq_true rfl) (Nat.le_of_ble_eq_true rfl) dX10_trap_13
  · replace hf := it_f c5 hf
    refine lv_iload_n hx hb dX10_trap_7 rfl (lv_at hl 2 rfl) ?_
    refine lv_iconst (v := (-1)) hx hb dX10_trap_8 (by decide) ?_
    refine lv_icmp_ge (tgt := 14) hx hb dX10_trap_9 (by decide) (fun c6 => ?_) (fun c6 => ?_)
    · replace hf := it_t c6 hf
      refine lv_aload_n hx hb dX10_trap_14 rfl (lv_at hl 0 rfl) ?_
      obtain ⟨k7, hf⟩ := gk_ok hf
      obtain ⟨a8, q9, hf⟩ := bd_ok hf
      refine gf_X10_10 cx hB k7 q9 dX10_trap_15 ?_
      obtain ⟨k10, hf⟩ := gk_ok hf
      refine gf_X10_160 cx hB k10 dX10_trap_18 ?_
      refine lv_if_ne (tgt := 27) hx hb dX10_trap_21 (by decide) (fun c11 => ?_) (fun c11 => ?_)
      · replace hf := it_f c11 hf
        refine lv_aload_n hx hb dX10_trap_27 rfl (lv_at hl 0 rfl) ?_
        obtain ⟨a12, q13, hf⟩ := bd_ok hf
        refine gf_X10_26 cx hB k7 q13 dX10_trap_28 ?_
        refine lv_aload_n hx hb dX10_trap_31 rfl (lv_at hl 0 rfl) ?_
        refine gf_X10_10 cx hB k7 q9 dX10_trap_32 ?_
        refine lv_iload_n hx hb dX10_trap_35 rfl (lv_at hl 1 rfl) ?_
        obtain ⟨k14, hf⟩ := gk_ok hf
        obtain ⟨uu, g15, m16, hf⟩ := b2_ok hf
        refine hp_cV0 (cl_X10_207 cx hB (cX7_look l D cA a12 (some a8) v1 g1 _ g15 m16) k14 ⟨Nat.le_of_ble_eq_true rfl, Nat.le_of_ble_eq_true rfl⟩ rfl hl.1 rfl (Nat.le_of_ble_eq_true rfl) ⟨Nat.le_of_ble_eq_true rfl, Nat.le_of_ble_eq_true rfl⟩ dX10_trap_36) rfl rfl hB (fun H locs hB => ?_)
        refine lv_iload_n hx hb dX10_trap_39 rfl (lv_at hl 2 rfl) ?_
        refine lv_iconst (v := (-1)) hx hb dX10_trap_40 (by decide) ?_
        refine lv_icmp_ne (tgt := 58) hx hb dX10_trap_41 (by decide) (fun c19 => ?_) (fun c19 => ?_)
        · replace hf := it_f c19 hf
          refine lv_aload_n hx hb dX10_trap_58 rfl (lv_at hl 0 rfl) ?_
          obtain ⟨k20, hf⟩ := gk_ok hf
          obtain ⟨a21, q22, hf⟩ := bd_ok hf
          refine gf_X10_26 cx hB k20 q22 dX10_trap_59 ?_
          refine lv_aload_n hx hb dX10_trap_62 rfl (lv_at hl 0 rfl) ?_
          obtain ⟨a23, q24, hf⟩ := bd_ok hf
          refine gf_X10_10 cx hB k20 q24 dX10_trap_63 ?_
          refine lv_iload_n hx hb dX10_trap_66 rfl (lv_at hl 2 rfl) ?_
          obtain ⟨k25, hf⟩ := gk_ok hf
          obtain ⟨r28, g26, m27, hf⟩ := b2_ok hf
          refine hp_cI0 (cl_X10_215 cx hB (cX7_numberOf l D cA a21 (some a23) v2 g15 _ g26 m27) k25 ⟨Nat.le_of_ble_eq_true rfl, Nat.le_of_ble_eq_true rfl⟩ rfl hl.1 rfl (Nat.le_of_ble_eq_true rfl) ⟨Nat.le_of_ble_eq_true rfl, Nat.le_of_ble_eq_true rfl⟩ dX10_trap_67) rfl rfl hB (fun H locs hB => ?_)
          obtain ⟨rfl, rfl⟩ := rt_ok hf
          exact hp_iret cx hB hr hlk (Nat.le_of_ble_eq_true rfl) (Nat.le_of_ble_eq_true rfl) dX10_trap_70
        · replace hf := it_t c19 hf
          refine lv_aload_n hx hb dX10_trap_44 rfl (lv_at hl 0 rfl) ?_
          obtain ⟨k30, hf⟩ := gk_ok hf
          obtain ⟨a31, q32, hf⟩ := bd_ok hf
          refine gf_X10_26 cx hB k30 q32 dX10_trap_45 ?_
          refine lv_aload_n hx hb dX10_trap_48 rfl (lv_at hl 0 rfl) ?_
          obtain ⟨a33, q34, hf⟩ := bd_ok hf
          refine gf_X10_10 cx hB k30 q34 dX10_trap_49 ?_
          obtain ⟨k35, hf⟩ := gk_ok hf
          obtain ⟨r38, g36, m37, hf⟩ := b2_ok hf
          refine hp_cI0 (cl_X10_211 cx hB (cX7_howMany l D cA a31 (some a33) g15 _ g36 m37) k35 ⟨Nat.le_of_ble_eq_true rfl, Nat.le_of_ble_eq_true rfl⟩ rfl hl.1 rfl (Nat.le_of_ble_eq_true rfl) ⟨Nat.le_of_ble_eq_true rfl, Nat.le_of_ble_eq_true rfl⟩ dX10_trap_52) rfl rfl hB (fun H locs hB => ?_)
          refine lv_goto (tgt := 70) hx hb dX10_trap_55 (by decide) ?_
          obtain ⟨rfl, rfl⟩ := rt_ok hf
          exact hp_iret cx hB hr hlk (Nat.le_of_ble_eq_true rfl) (Nat.le_of_ble_eq_true rfl) dX10_trap_70
      · replace hf := it_t c11 hf
        refine lv_bipush (v := (-2)) hx hb dX10_trap_24 (by decide) ?_
        obtain ⟨rfl, rfl⟩ := rt_ok hf
        exact hp_iret cx hB hr hlk (Nat.le_of_ble_eq_true rfl) (Nat.le_of_ble_eq_true rfl) dX10_trap_26
    · replace hf := it_f c6 hf
      refine lv_iconst (v := (-1)) hx hb dX10_trap_12 (by decide) ?_
      obtain ⟨rfl, rfl⟩ := rt_ok hf
      exact hp_iret cx hB hr hlk (Nat.le_of_ble_eq_true rfl) (Nat.le_of_ble_eq_true rfl) dX10_trap_13
end
set_option maxHeartbeats 4000000 in
set_option maxRecDepth 100000 in
theorem cX10_trap (l : Launch) (D : va_G) (cA : Nat → ClassId) (t0 : Nat) (v1 : Int32) (v2 : Int32) (h : Hp) (r : Int32) (h9 : Hp) (hf : fX10_trap t0 v1 v2 h = some (r, h9)) : hp_M l yX10_trap prog_1_method_17_code 3 (Option.some FieldType.int) rmX10_trap D cA h [.ref t0, .int v1, .int v2] (hp_Qi D cA h h9 r) := by
  refine Met.ofW (cc := prog_1_method_17_code) (maxL := 3) (ret := (Option.some FieldType.int)) (by decide) rfl ?_
  intro p e s m args below meth c s₁ B hml hv
  obtain ⟨rfl, hU⟩ := hv
  have hts := atoms_spec (ws := Cond.code yX10_trap prog_1_method_17_code 3 (Option.some FieldType.int) :: tbG) B.pre
  have hl := lv_entry ([.ref t0, .int v1, .int v2]) (n := 3) (Nat.le_of_ble_eq_true rfl)
  rw [lg_entry_eq]
  generalize (lg_sl ([.ref t0, .int v1, .int v2]) ++ List.replicate (3 - (lg_sl ([.ref t0, .int v1, .int v2])).length) Slot.unset).toArray = ls at hl ⊢
  exact tX10_trap_0 ⟨B.exec, B.bytes, hml, findClass_of_methodNamed B.named, fun w hw => hts w (List.mem_cons_of_mem _ hw)⟩ B.returns B.notSynchronized t0 v1 v2 h _ _ _ (hp_B.entry hU) hl hf
section
variable {p : Program} {l : Launch} {e : Env} {R : Room} {s : State} {m : MethodId} {args : Array Value} {below : List Frame} {meth : Method} {c : Code} {H : Heap} {locs : List Loc} {cells slots : Nat} {Q : State → Prop}
variable {cc : ByteArray} {pc nL : Nat} {ls : Array Slot} {rest : List Value} {D : va_G} {cA : Nat → ClassId} {A : Nat → Prop} {a : Nat} {h : Hp}
theorem gf_X10_33 (cx : CallFix p m c cc nL s args tbG RX10) (hB : hp_B D cA A s h H locs) (hka : h.1 a = 11) {b : Nat} (ho : h.2.2.2.1 a 3 = some b) (hdg : decode cc pc = .ok (.getfield 33, 3)) (kk : W p l e R s m args below meth c H locs cells slots Q (F0 m (pc + 3) ls (.ref b :: rest))) : W p l e R s m args below meth c H locs cells slots Q (F0 m pc ls (.ref a :: rest)) :=
  hp_getR cx hB (ci := 10) 3 rfl inX10 (by decide) rfl (by decide) rfl qw_203 hka (o := some b) ho.symm hdg kk
theorem gf_X10_219 (cx : CallFix p m c cc nL s args tbG RX10) (hB : hp_B D cA A s h H locs) (hka : h.1 a = 2) (hdg : decode cc pc = .ok (.getfield 219, 3)) (kk : W p l e R s m args below meth c H locs cells slots Q (F0 m (pc + 3) ls (.int (h.2.2.1 a 2) :: rest))) : W p l e R s m args below meth c H locs cells slots Q (F0 m pc ls (.ref a :: rest)) :=
  hp_getI cx hB (ci := 1) 2 rfl inX1 (by decide) rfl (by decide) rfl qw_82 hka hdg kk
theorem cl_X10_220 {As st0 : List Value} {b : Nat} {Qc : Array Value → State → Outcome → State → Prop} (cx : CallFix p m c cc nL s args tbG RX10) (hB : hp_B D cA A s h H locs) (hM : hp_M l yX1_add prog_3_method_2_code 3 none rmX1_add D cA h (.ref b :: As) Qc) (hkb : h.1 b = 2) (hR : rmX1_add.frames + 1 ≤ R.frames ∧ 8 + (3 + 11) + rmX1_add.locals ≤ R.locals) (hn : As.length = 2) (hls : ls.size = nL) (hst : st0 = As.reverse ++ .ref b :: rest) (hW : (rest.map fun v => v.category).sum ≤ 8) (hf : cells + rmX1_add.cells ≤ R.cells ∧ slots + rmX1_add.slots ≤ R.slots) (hdg : decode cc pc = .ok (.invokevirtual 220, 3)) :
    va_Run p l e R s m args below meth c H locs cells slots rmX1_add.cells rmX1_add.slots (F0 m pc ls st0) rest (Qc (Value.ref b :: As).toArray) (hp_A h) :=
  hp_runV cx hB hM (ci := 1) rfl (by decide) hkb qw_619 qw_616 qw_617 qw_618 qw_5 (by decide +kernel) hR hn hls hst hW hf hdg
end
abbrev yX10_group : MethodName := ⟨"SpokenMenus", "group", "(IIIIII)I"⟩
theorem dX10_group_0 : decode prog_1_method_18_code 0 = .ok (.iload_n 1, 1) := by decide +kernel
theorem dX10_group_1 : decode prog_1_method_18_code 1 = .ok (.iconst 1, 1) := by decide +kernel
theorem dX10_group_2 : decode prog_1_method_18_code 2 = .ok (.sipush 1000, 3) := by decide +kernel
theorem dX10_group_5 : decode prog_1_method_18_code 5 = .ok (.invokestatic 61, 3) := by decide +kernel
theorem dX10_group_8 : decode prog_1_method_18_code 8 = .ok (.ifCond .eq 17, 3) := by decide +kernel
theorem dX10_group_11 : decode prog_1_method_18_code 11 = .ok (.iload_n 2, 1) := by decide +kernel
theorem dX10_group_12 : decode prog_1_method_18_code 12 = .ok (.iload_n 3, 1) := by decide +kernel
theorem dX10_group_13 : decode prog_1_method_18_code 13 = .ok (.iload 4, 2) := by decide +kernel
theorem dX10_group_15 : decode prog_1_method_18_code 15 = .ok (.iload 5, 2) := by decide +kernel
theorem dX10_group_17 : decode prog_1_method_18_code 17 = .ok (.iload 6, 2) := by decide +kernel
theorem dX10_group_19 : decode prog_1_method_18_code 19 = .ok (.invokestatic 156, 3) := by decide +kernel
theorem dX10_group_22 : decode prog_1_method_18_code 22 = .ok (.ifCond .ne 5, 3) := by decide +kernel
theorem dX10_group_25 : decode prog_1_method_18_code 25 = .ok (.iconst (-1), 1) := by decide +kernel
theorem dX10_group_26 : decode prog_1_method_18_code 26 = .ok (.ireturn, 1) := by decide +kernel
theorem dX10_group_27 : decode prog_1_method_18_code 27 = .ok (.aload_n 0, 1) := by decide +kernel
theorem dX10_group_28 : decode prog_1_method_18_code 28 = .ok (.getfield 33, 3) := by decide +kernel
theorem dX10_group_31 : decode prog_1_method_18_code 31 = .ok (.getfield 219, 3) := by decide +kernel
theorem dX10_group_34 : decode prog_1_method_18_code 34 = .ok (.bipush 12, 2) := by decide +kernel
theorem dX10_group_36 : decode prog_1_method_18_code 36 = .ok (.if_icmp .lt 6, 3) := by decide +kernel
theorem dX10_group_39 : decode prog_1_method_18_code 39 = .ok (.bipush (-3), 2) := by decide +kernel
theorem dX10_group_41 : decode prog_1_method_18_code 41 = .ok (.ireturn, 1) := by decide +kernel
theorem dX10_group_42 : decode prog_1_method_18_code 42 = .ok (.aload_n 0, 1) := by decide +kernel
theorem dX10_group_43 : decode prog_1_method_18_code 43 = .ok (.getfield 33, 3) := by decide +kernel
theorem dX10_group_46 : decode prog_1_method_18_code 46 = .ok (.iload_n 1, 1) := by decide +kernel
theorem dX10_group_47 : decode prog_1_method_18_code 47 = .ok (.new 161, 3) := by decide +kernel
theorem dX10_group_50 : decode prog_1_method_18_code 50 = .ok (.dup, 1) := by decide +kernel
theorem dX10_group_51 : decode prog_1_method_18_code 51 = .ok (.iload_n 2, 1) := by decide +kernel
theorem dX10_group_52 : decode prog_1_method_18_code 52 = .ok (.iload_n 3, 1) := by decide +kernel
theorem dX10_group_53 : decode prog_1_method_18_code 53 = .ok (.iload 4, 2) := by decide +kernel
theorem dX10_group_55 : decode prog_1_method_18_code 55 = .ok (.iload 5, 2) := by decide +kernel
theorem dX10_group_57 : decode prog_1_method_18_code 57 = .ok (.iload 6, 2) := by decide +kernel
theorem dX10_group_59 : decode prog_1_method_18_code 59 = .ok (.iconst 1, 1) := by decide +kernel
theorem dX10_group_60 : decode prog_1_method_18_code 60 = .ok (.if_icmp .ne 7, 3) := by decide +kernel
theorem dX10_group_63 : decode prog_1_method_18_code 63 = .ok (.iconst 1, 1) := by decide +kernel
theorem dX10_group_64 : decode prog_1_method_18_code 64 = .ok (.goto 4, 3) := by decide +kernel
theorem dX10_group_67 : decode prog_1_method_18_code 67 = .ok (.iconst 0, 1) := by decide +kernel
theorem dX10_group_68 : decode prog_1_method_18_code 68 = .ok (.invokespecial 163, 3) := by decide +kernel
theorem dX10_group_71 : decode prog_1_method_18_code 71 = .ok (.invokevirtual 220, 3) := by decide +kernel
theorem dX10_group_74 : decode prog_1_method_18_code 74 = .ok (.aload_n 0, 1) := by decide +kernel
theorem dX10_group_75 : decode prog_1_method_18_code 75 = .ok (.getfield 33, 3) := by decide +kernel
theorem dX10_group_78 : decode prog_1_method_18_code 78 = .ok (.getfield 219, 3) := by decide +kernel
theorem dX10_group_81 : decode prog_1_method_18_code 81 = .ok (.ireturn, 1) := by decide +kernel
abbrev rmX10_group : Room := { frames := 3, cells := 1, slots := 5, locals := 66 }
def fX10_group  (t0 : Nat) (v1 : Int32) (v2 : Int32) (v3 : Int32) (v4 : Int32) (v5 : Int32) (v6 : Int32) (h : Hp) : Option (Int32 × Hp) :=
  b2 (fX10_within v1 1 1000 h) fun r3 g1 =>
  if r3 = 0 then
  (some ((-1), g1))
  else
  (b2 (fX10_isCaller v2 v3 v4 v5 v6 g1) fun r8 g6 =>
  if r8 = 0 then
  (some ((-1), g6))
  else
  (gk (g6.1 t0) 11 <|
  bd (g6.2.2.2.1 t0 3) fun a12 =>
  gk (g6.1 a12) 2 <|
  if (g6.2.2.1 a12 2) < 12 then
  (nm g6.2.2.2.2 fun a16 =>
  nm (hp_nw g6 1 0) fun g17 =>
  if v6 = 1 then
  (b2 (fX0_init a16 v2 v3 v4 v5 1 g17) fun _ g33 =>
  gk (g33.1 a12) 2 <|
  b2 (fX1_add a12 v1 (some a16) g33) fun _ g38 =>
  gk (g38.1 t0) 11 <|
  bd (g38.2.2.2.1 t0 3) fun a43 =>
  gk (g38.1 a43) 2 <|
  some (g38.2.2.1 a43 2, g38))
  else
  (b2 (fX0_init a16 v2 v3 v4 v5 0 g17) fun _ g20 =>
  gk (g20.1 a12) 2 <|
  b2 (fX1_add a12 v1 (some a16) g20) fun _ g25 =>
  gk (g25.1 t0) 11 <|
  bd (g25.2.2.2.1 t0 3) fun a30 =>
  gk (g25.1 a30) 2 <|
  some (g25.2.2.1 a30 2, g25)))
  else
  (some ((-3), g6))))
section
variable {p : Program} {l : Launch} {e : Env} {s : State} {m : MethodId} {args : Array Value} {below : List Frame} {meth : Method} {c : Code} {D : va_G} {cA : Nat → ClassId} {h0 h9 : Hp}
set_option maxHeartbeats 4000000 in
set_option maxRecDepth 100000 in
theorem tX10_group_0  {r : Int32} (cx : CallFix p m c prog_1_method_18_code 7 s args tbG RX10) (hr : meth.sig.returnType = (Option.some FieldType.int)) (hlk : meth.locks = false)  (t0 : Nat) (v1 : Int32) (v2 : Int32) (v3 : Int32) (v4 : Int32) (v5 : Int32) (v6 : Int32) (h : Hp) (H : Heap) (locs : List Loc) (ls : Array Slot) (hB : hp_B D cA (hp_A h0) s h H locs) (hl : lv_has ls 7 [(0, .ref t0), (1, .int v1), (2, .int v2), (3, .int v3), (4, .int v4), (5, .int v5), (6, .int v6)]) (hf : fX10_group  t0 v1 v2 v3 v4 v5 v6 h = some (r, h9)) : W p l e rmX10_group s m args below meth c H locs 0 0 (MQ below (hp_Qi D cA h0 h9 r) args s 1 5 (hp_A h0)) (F0 m 0 ls []) := by
  obtain ⟨hx, hb, -⟩ := id cx
  unfold fX10_group at hf
  refine lv_iload_n hx hb dX10_group_0 rfl (lv_at hl 1 rfl) ?_
  refine lv_iconst (v := 1) hx hb dX10_group_1 (by decide) ?_
  refine lv_sipush (v := 1000) hx hb dX10_group_2 (by decide) ?_
  obtain ⟨r3, g1, m2, hf⟩ := b2_ok hf
  refine hp_cI0 (cl_X10_61 cx hB (cX10_within l D cA v1 1 1000 h _ g1 m2) ⟨Nat.le_of_ble_eq_true rfl, Nat.le_of_ble_eq_true rfl⟩ rfl hl.1 rfl (Nat.le_of_ble_eq_true rfl) ⟨Nat.le_of_ble_eq_true rfl, Nat.le_of_ble_eq_true rfl⟩ dX10_group_5) rfl rfl hB (fun H locs hB => ?_)
  refine lv_if_eq (tgt := 25) hx hb dX10_group_8 (by decide) (fun c5 => ?_) (fun c5 => ?_)
  · replace hf := it_t c5 hf
    refine lv_iconst (v := (-1)) hx hb dX10_group_25 (by decide) ?_
    obtain ⟨rfl, rfl⟩ := rt_ok hf
    exact hp_iret cx hB hr hlk (Nat.le_of_ble_eq_true rfl) (Nat.le_of_ble_eq_true rfl) dX10_group_26
  · replace hf := it_f c5 hf
    refine lv_iload_n hx hb dX10_group_11 rfl (lv_at hl 2 rfl) ?_
    refine lv_iload_n hx hb dX10_group_12 rfl (lv_at hl 3 rfl) ?_
    refine lv_iload hx hb dX10_group_13 (lv_at hl 4 rfl) ?_
    refine lv_iload hx hb dX10_group_15 (lv_at hl 5 rfl) ?_
    refine lv_iload hx hb dX10_group_17 (lv_at hl 6 rfl) ?_
    obtain ⟨r8, g6, m7, hf⟩ := b2_ok hf
    refine hp_cI0 (cl_X10_156 cx hB (cX10_isCaller l D cA v2 v3 v4 v5 v6 g1 _ g6 m7) ⟨Nat.le_of_ble_eq_true rfl, Nat.le_of_ble_eq_true rfl⟩ rfl hl.1 rfl (Nat.le_of_ble_eq_true rfl) ⟨Nat.le_of_ble_eq_true rfl, Nat.le_of_ble_eq_true rfl⟩ dX10_group_19) rfl rfl hB (fun H locs hB => ?_)
    refine lv_if_ne (tgt := 27) hx hb dX10_group_22 (by decide) (fun c10 => ?_) (fun c10 => ?_)
    · replace hf := it_f c10 hf
      refine lv_aload_n hx hb dX10_group_27 rfl (lv_at hl 0 rfl) ?_
      obtain ⟨k11, hf⟩ := gk_ok hf
      obtain ⟨a12, q13, hf⟩ := bd_ok hf
      refine gf_X10_33 cx hB k11 q13 dX10_group_28 ?_
      obtain ⟨k14, hf⟩ := gk_ok hf
      refine gf_X10_219 cx hB k14 dX10_group_31 ?_
      refine lv_bipush (v := 12) hx hb dX10_group_34 (by decide) ?_
      refine lv_icmp_lt (tgt := 42) hx hb dX10_group_36 (by decide) (fun c15 => ?_) (fun c15 => ?_)
      · replace hf := it_t c15 hf
        refine lv_aload_n hx hb dX10_group_42 rfl (lv_at hl 0 rfl) ?_
        refine gf_X10_33 cx hB k11 q13 dX10_group_43 ?_
        refine lv_iload_n hx hb dX10_group_46 rfl (lv_at hl 1 rfl) ?_
        obtain ⟨a16, ea16, hf⟩ := nm_ok hf
        obtain ⟨g17, eg17, hf⟩ := nm_ok hf
        refine hp_new cx hB (ci := 0) tyX0 tyX0_ok rfl inX0 (by decide) rfl (by decide +kernel) qw_415 qw_416 qw_13 ea16 (Nat.le_of_ble_eq_true rfl) (Nat.le_of_ble_eq_true rfl) dX10_group_47 (fun H hB => ?_)
        rw [← eg17] at hB
        have k18 : g17.1 a16 = 1 := by rw [eg17, ea16]; exact va_up_self _ _ _
        refine lv_dup hx hb dX10_group_50 rfl ?_
        refine lv_iload_n hx hb dX10_group_51 rfl (lv_at hl 2 rfl) ?_
        refine lv_iload_n hx hb dX10_group_52 rfl (lv_at hl 3 rfl) ?_
        refine lv_iload hx hb dX10_group_53 (lv_at hl 4 rfl) ?_
        refine lv_iload hx hb dX10_group_55 (lv_at hl 5 rfl) ?_
        refine lv_iload hx hb dX10_group_57 (lv_at hl 6 rfl) ?_
        refine lv_iconst (v := 1) hx hb dX10_group_59 (by decide) ?_
        refine lv_icmp_ne (tgt := 67) hx hb dX10_group_60 (by decide) (fun c19 => ?_) (fun c19 => ?_)
        · replace hf := it_f c19 hf
          refine lv_iconst (v := 0) hx hb dX10_group_67 (by decide) ?_
          obtain ⟨uu, g20, m21, hf⟩ := b2_ok hf
          refine hp_cV0 (cl_X10_163 cx hB (cX0_init l D cA a16 v2 v3 v4 v5 0 g17 _ g20 m21) ⟨Nat.le_of_ble_eq_true rfl, Nat.le_of_ble_eq_true rfl⟩ rfl hl.1 rfl (Nat.le_of_ble_eq_true rfl) ⟨Nat.le_of_ble_eq_true rfl, Nat.le_of_ble_eq_true rfl⟩ dX10_group_68) rfl rfl hB (fun H locs hB => ?_)
          obtain ⟨k24, hf⟩ := gk_ok hf
          obtain ⟨uu, g25, m26, hf⟩ := b2_ok hf
          refine hp_cV0 (cl_X10_220 cx hB (cX1_add l D cA a12 v1 (some a16) g20 _ g25 m26) k24 ⟨Nat.le_of_ble_eq_true rfl, Nat.le_of_ble_eq_true rfl⟩ rfl hl.1 rfl (Nat.le_of_ble_eq_true rfl) ⟨Nat.le_of_ble_eq_true rfl, Nat.le_of_ble_eq_true rfl⟩ dX10_group_71) rfl rfl hB (fun H locs hB => ?_)
          refine lv_aload_n hx hb dX10_group_74 rfl (lv_at hl 0 rfl) ?_
          obtain ⟨k29, hf⟩ := gk_ok hf
          obtain ⟨a30, q31, hf⟩ := bd_ok hf
          refine gf_X10_33 cx hB k29 q31 dX10_group_75 ?_
          obtain ⟨k32, hf⟩ := gk_ok hf
          refine gf_X10_219 cx hB k32 dX10_group_78 ?_
          obtain ⟨rfl, rfl⟩ := rt_ok hf
          exact hp_iret cx hB hr hlk (Nat.le_of_ble_eq_true rfl) (Nat.le_of_ble_eq_true rfl) dX10_group_81
        · replace hf := it_t c19 hf
          refine lv_iconst (v := 1) hx hb dX10_group_63 (by decide) ?_
          refine lv_goto (tgt := 68) hx hb dX10_group_64 (by decide) ?_
          obtain ⟨uu, g33, m34, hf⟩ := b2_ok hf
          refine hp_cV0 (cl_X10_163 cx hB (cX0_init l D cA a16 v2 v3 v4 v5 1 g17 _ g33 m34) ⟨Nat.le_of_ble_eq_true rfl, Nat.le_of_ble_eq_true rfl⟩ rfl hl.1 rfl (Nat.le_of_ble_eq_true rfl) ⟨Nat.le_of_ble_eq_true rfl, Nat.le_of_ble_eq_true rfl⟩ dX10_group_68) rfl rfl hB (fun H locs hB => ?_)
          obtain ⟨k37, hf⟩ := gk_ok hf
          obtain ⟨uu, g38, m39, hf⟩ := b2_ok hf
          refine hp_cV0 (cl_X10_220 cx hB (cX1_add l D cA a12 v1 (some a16) g33 _ g38 m39) k37 ⟨Nat.le_of_ble_eq_true rfl, Nat.le_of_ble_eq_true rfl⟩ rfl hl.1 rfl (Nat.le_of_ble_eq_true rfl) ⟨Nat.le_of_ble_eq_true rfl, Nat.le_of_ble_eq_true rfl⟩ dX10_group_71) rfl rfl hB (fun H locs hB => ?_)
          refine lv_aload_n hx hb dX10_group_74 rfl (lv_at hl 0 rfl) ?_
          obtain ⟨k42, hf⟩ := gk_ok hf
          obtain ⟨a43, q44, hf⟩ := bd_ok hf
          refine gf_X10_33 cx hB k42 q44 dX10_group_75 ?_
          obtain ⟨k45, hf⟩ := gk_ok hf
          refine gf_X10_219 cx hB k45 dX10_group_78 ?_
          obtain ⟨rfl, rfl⟩ := rt_ok hf
          exact hp_iret cx hB hr hlk (Nat.le_of_ble_eq_true rfl) (Nat.le_of_ble_eq_true rfl) dX10_group_81
      · replace hf := it_f c15 hf
        refine lv_bipush (v := (-3)) hx hb dX10_group_39 (by decide) ?_
        obtain ⟨rfl, rfl⟩ := rt_ok hf
        exact hp_iret cx hB hr hlk (Nat.le_of_ble_eq_true rfl) (Nat.le_of_ble_eq_true rfl) dX10_group_41
    · replace hf := it_t c10 hf
      refine lv_iconst (v := (-1)) hx hb dX10_group_25 (by decide) ?_
      obtain ⟨rfl, rfl⟩ := rt_ok hf
      exact hp_iret cx hB hr hlk (Nat.le_of_ble_eq_true rfl) (Nat.le_of_ble_eq_true rfl) dX10_group_26
end
set_option maxHeartbeats 4000000 in
set_option maxRecDepth 100000 in
theorem cX10_group (l : Launch) (D : va_G) (cA : Nat → ClassId) (t0 : Nat) (v1 : Int32) (v2 : Int32) (v3 : Int32) (v4 : Int32) (v5 : Int32) (v6 : Int32) (h : Hp) (r : Int32) (h9 : Hp) (hf : fX10_group t0 v1 v2 v3 v4 v5 v6 h = some (r, h9)) : hp_M l yX10_group prog_1_method_18_code 7 (Option.some FieldType.int) rmX10_group D cA h [.ref t0, .int v1, .int v2, .int v3, .int v4, .int v5, .int v6] (hp_Qi D cA h h9 r) := by
  refine Met.ofW (cc := prog_1_method_18_code) (maxL := 7) (ret := (Option.some FieldType.int)) (by decide) rfl ?_
  intro p e s m args below meth c s₁ B hml hv
  obtain ⟨rfl, hU⟩ := hv
  have hts := atoms_spec (ws := Cond.code yX10_group prog_1_method_18_code 7 (Option.some FieldType.int) :: tbG) B.pre
  have hl := lv_entry ([.ref t0, .int v1, .int v2, .int v3, .int v4, .int v5, .int v6]) (n := 7) (Nat.le_of_ble_eq_true rfl)
  rw [lg_entry_eq]
  generalize (lg_sl ([.ref t0, .int v1, .int v2, .int v3, .int v4, .int v5, .int v6]) ++ List.replicate (7 - (lg_sl ([.ref t0, .int v1, .int v2, .int v3, .int v4, .int v5, .int v6])).length) Slot.unset).toArray = ls at hl ⊢
  exact tX10_group_0 ⟨B.exec, B.bytes, hml, findClass_of_methodNamed B.named, fun w hw => hts w (List.mem_cons_of_mem _ hw)⟩ B.returns B.notSynchronized t0 v1 v2 v3 v4 v5 v6 h _ _ _ (hp_B.entry hU) hl hf
section
variable {p : Program} {l : Launch} {e : Env} {R : Room} {s : State} {m : MethodId} {args : Array Value} {below : List Frame} {meth : Method} {c : Code} {H : Heap} {locs : List Loc} {cells slots : Nat} {Q : State → Prop}
variable {cc : ByteArray} {pc nL : Nat} {ls : Array Slot} {rest : List Value} {D : va_G} {cA : Nat → ClassId} {A : Nat → Prop} {a : Nat} {h : Hp}
theorem pf_X10_219 (cx : CallFix p m c cc nL s args tbG RX10) (hB : hp_B D cA A s h H locs) (hka : h.1 a = 2) {x : Int32} (hdg : decode cc pc = .ok (.putfield 219, 3)) (kk : ∀ (H1 : Heap) (locs1 : List Loc), hp_B D cA A s (hp_si h a 2 x) H1 locs1 → W p l e R s m args below meth c H1 locs1 cells slots Q (F0 m (pc + 3) ls rest)) : W p l e R s m args below meth c H locs cells slots Q (F0 m pc ls (.int x :: .ref a :: rest)) :=
  hp_putX cx hB (ci := 1) 2 tyX1 tyX1_ok nmX1 rfl inX1 (by decide) rfl (by decide) (Or.inl rfl) qw_82 hka (v := .int x) (hp_like_si h a 2 x) (hp_fs_si (by decide) rfl) rfl rfl hdg kk
end
abbrev yX10_noGroups : MethodName := ⟨"SpokenMenus", "noGroups", "()I"⟩
theorem dX10_noGroups_0 : decode prog_1_method_19_code 0 = .ok (.aload_n 0, 1) := by decide +kernel
theorem dX10_noGroups_1 : decode prog_1_method_19_code 1 = .ok (.getfield 33, 3) := by decide +kernel
theorem dX10_noGroups_4 : decode prog_1_method_19_code 4 = .ok (.getfield 219, 3) := by decide +kernel
theorem dX10_noGroups_7 : decode prog_1_method_19_code 7 = .ok (.istore_n 1, 1) := by decide +kernel
theorem dX10_noGroups_8 : decode prog_1_method_19_code 8 = .ok (.aload_n 0, 1) := by decide +kernel
theorem dX10_noGroups_9 : decode prog_1_method_19_code 9 = .ok (.getfield 33, 3) := by decide +kernel
theorem dX10_noGroups_12 : decode prog_1_method_19_code 12 = .ok (.iconst 0, 1) := by decide +kernel
theorem dX10_noGroups_13 : decode prog_1_method_19_code 13 = .ok (.putfield 219, 3) := by decide +kernel
theorem dX10_noGroups_16 : decode prog_1_method_19_code 16 = .ok (.iload_n 1, 1) := by decide +kernel
theorem dX10_noGroups_17 : decode prog_1_method_19_code 17 = .ok (.ireturn, 1) := by decide +kernel
abbrev rmX10_noGroups : Room := { frames := 0, cells := 0, slots := 0, locals := 0 }
def fX10_noGroups  (t0 : Nat) (h : Hp) : Option (Int32 × Hp) :=
  gk (h.1 t0) 11 <|
  bd (h.2.2.2.1 t0 3) fun a2 =>
  gk (h.1 a2) 2 <|
  nm (h.2.2.1 a2 2) fun x5 =>
  nm (hp_si h a2 2 0) fun g6 =>
  some (x5, g6)
section
variable {p : Program} {l : Launch} {e : Env} {s : State} {m : MethodId} {args : Array Value} {below : List Frame} {meth : Method} {c : Code} {D : va_G} {cA : Nat → ClassId} {h0 h9 : Hp}
set_option maxHeartbeats 4000000 in
set_option maxRecDepth 100000 in
theorem tX10_noGroups_0  {r : Int32} (cx : CallFix p m c prog_1_method_19_code 2 s args tbG RX10) (hr : meth.sig.returnType = (Option.some FieldType.int)) (hlk : meth.locks = false)  (t0 : Nat) (h : Hp) (H : Heap) (locs : List Loc) (ls : Array Slot) (hB : hp_B D cA (hp_A h0) s h H locs) (hl : lv_has ls 2 [(0, .ref t0)]) (hf : fX10_noGroups  t0 h = some (r, h9)) : W p l e rmX10_noGroups s m args below meth c H locs 0 0 (MQ below (hp_Qi D cA h0 h9 r) args s 0 0 (hp_A h0)) (F0 m 0 ls []) := by
  obtain ⟨hx, hb, -⟩ := id cx
  unfold fX10_noGroups at hf
  refine lv_aload_n hx hb dX10_noGroups_0 rfl (lv_at hl 0 rfl) ?_
  obtain ⟨k1, hf⟩ := gk_ok hf
  obtain ⟨a2, q3, hf⟩ := bd_ok hf
  refine gf_X10_33 cx hB k1 q3 dX10_noGroups_1 ?_
  obtain ⟨k4, hf⟩ := gk_ok hf
  refine gf_X10_219 cx hB k4 dX10_noGroups_4 ?_
  obtain ⟨x5, ex5, hf⟩ := nm_ok hf
  refine lv_ren ex5 ?_
  refine lv_istore_n (lv' := [(1, .int x5), (0, .ref t0)]) hx hb dX10_noGroups_7 rfl hl (by decide) rfl (fun ls hl => ?_)
  refine lv_aload_n hx hb dX10_noGroups_8 rfl (lv_at hl 1 rfl) ?_
  refine gf_X10_33 cx hB k1 q3 dX10_noGroups_9 ?_
  refine lv_iconst (v := 0) hx hb dX10_noGroups_12 (by decide) ?_
  obtain ⟨g6, eg6, hf⟩ := nm_ok hf
  refine pf_X10_219 cx hB k4 dX10_noGroups_13 (fun H locs hB => ?_)
  rw [← eg6] at hB
  refine lv_iload_n hx hb dX10_noGroups_16 rfl (lv_at hl 0 rfl) ?_
  obtain ⟨rfl, rfl⟩ := rt_ok hf
  exact hp_iret cx hB hr hlk (Nat.le_of_ble_eq_true rfl) (Nat.le_of_ble_eq_true rfl) dX10_noGroups_17
end
set_option maxHeartbeats 4000000 in
set_option maxRecDepth 100000 in
theorem cX10_noGroups (l : Launch) (D : va_G) (cA : Nat → ClassId) (t0 : Nat) (h : Hp) (r : Int32) (h9 : Hp) (hf : fX10_noGroups t0 h = some (r, h9)) : hp_M l yX10_noGroups prog_1_method_19_code 2 (Option.some FieldType.int) rmX10_noGroups D cA h [.ref t0] (hp_Qi D cA h h9 r) := by
  refine Met.ofW (cc := prog_1_method_19_code) (maxL := 2) (ret := (Option.some FieldType.int)) (by decide) rfl ?_
  intro p e s m args below meth c s₁ B hml hv
  obtain ⟨rfl, hU⟩ := hv
  have hts := atoms_spec (ws := Cond.code yX10_noGroups prog_1_method_19_code 2 (Option.some FieldType.int) :: tbG) B.pre
  have hl := lv_entry ([.ref t0]) (n := 2) (Nat.le_of_ble_eq_true rfl)
  rw [lg_entry_eq]
  generalize (lg_sl ([.ref t0]) ++ List.replicate (2 - (lg_sl ([.ref t0])).length) Slot.unset).toArray = ls at hl ⊢
  exact tX10_noGroups_0 ⟨B.exec, B.bytes, hml, findClass_of_methodNamed B.named, fun w hw => hts w (List.mem_cons_of_mem _ hw)⟩ B.returns B.notSynchronized t0 h _ _ _ (hp_B.entry hU) hl hf
section
variable {p : Program} {l : Launch} {e : Env} {R : Room} {s : State} {m : MethodId} {args : Array Value} {below : List Frame} {meth : Method} {c : Code} {H : Heap} {locs : List Loc} {cells slots : Nat} {Q : State → Prop}
variable {cc : ByteArray} {pc nL : Nat} {ls : Array Slot} {rest : List Value} {D : va_G} {cA : Nat → ClassId} {A : Nat → Prop} {a : Nat} {h : Hp}
theorem gf_X10_58 (cx : CallFix p m c cc nL s args tbG RX10) (hB : hp_B D cA A s h H locs) (hka : h.1 a = 11) {b : Nat} (ho : h.2.2.2.1 a 7 = some b) (hdg : decode cc pc = .ok (.getfield 58, 3)) (kk : W p l e R s m args below meth c H locs cells slots Q (F0 m (pc + 3) ls (.ref b :: rest))) : W p l e R s m args below meth c H locs cells slots Q (F0 m pc ls (.ref a :: rest)) :=
  hp_getR cx hB (ci := 10) 7 rfl inX10 (by decide) rfl (by decide) rfl qw_207 hka (o := some b) ho.symm hdg kk
theorem gf_X10_223 (cx : CallFix p m c cc nL s args tbG RX10) (hB : hp_B D cA A s h H locs) (hka : h.1 a = 2) {b : Nat} (ho : h.2.2.2.1 a 0 = some b) (hdg : decode cc pc = .ok (.getfield 223, 3)) (kk : W p l e R s m args below meth c H locs cells slots Q (F0 m (pc + 3) ls (.ref b :: rest))) : W p l e R s m args below meth c H locs cells slots Q (F0 m pc ls (.ref a :: rest)) :=
  hp_getR cx hB (ci := 1) 0 rfl inX1 (by decide) rfl (by decide) rfl qw_78 hka (o := some b) ho.symm hdg kk
theorem gf_X10_227 (cx : CallFix p m c cc nL s args tbG RX10) (hB : hp_B D cA A s h H locs) (hka : h.1 a = 2) {b : Nat} (ho : h.2.2.2.1 a 1 = some b) (hdg : decode cc pc = .ok (.getfield 227, 3)) (kk : W p l e R s m args below meth c H locs cells slots Q (F0 m (pc + 3) ls (.ref b :: rest))) : W p l e R s m args below meth c H locs cells slots Q (F0 m pc ls (.ref a :: rest)) :=
  hp_getR cx hB (ci := 1) 1 rfl inX1 (by decide) rfl (by decide) rfl qw_80 hka (o := some b) ho.symm hdg kk
end
abbrev yX10_sum : MethodName := ⟨"SpokenMenus", "sum", "(I)I"⟩
theorem dX10_sum_0 : decode prog_1_method_20_code 0 = .ok (.iload_n 1, 1) := by decide +kernel
theorem dX10_sum_1 : decode prog_1_method_20_code 1 = .ok (.iconst 0, 1) := by decide +kernel
theorem dX10_sum_2 : decode prog_1_method_20_code 2 = .ok (.iconst 4, 1) := by decide +kernel
theorem dX10_sum_3 : decode prog_1_method_20_code 3 = .ok (.invokestatic 61, 3) := by decide +kernel
theorem dX10_sum_6 : decode prog_1_method_20_code 6 = .ok (.ifCond .ne 5, 3) := by decide +kernel
theorem dX10_sum_9 : decode prog_1_method_20_code 9 = .ok (.iconst (-1), 1) := by decide +kernel
theorem dX10_sum_10 : decode prog_1_method_20_code 10 = .ok (.ireturn, 1) := by decide +kernel
theorem dX10_sum_11 : decode prog_1_method_20_code 11 = .ok (.aload_n 0, 1) := by decide +kernel
theorem dX10_sum_12 : decode prog_1_method_20_code 12 = .ok (.getfield 10, 3) := by decide +kernel
theorem dX10_sum_15 : decode prog_1_method_20_code 15 = .ok (.getfield 160, 3) := by decide +kernel
theorem dX10_sum_18 : decode prog_1_method_20_code 18 = .ok (.ifCond .ne 6, 3) := by decide +kernel
theorem dX10_sum_21 : decode prog_1_method_20_code 21 = .ok (.bipush (-2), 2) := by decide +kernel
theorem dX10_sum_23 : decode prog_1_method_20_code 23 = .ok (.ireturn, 1) := by decide +kernel
theorem dX10_sum_24 : decode prog_1_method_20_code 24 = .ok (.iconst 0, 1) := by decide +kernel
theorem dX10_sum_25 : decode prog_1_method_20_code 25 = .ok (.istore_n 2, 1) := by decide +kernel
theorem dX10_sum_26 : decode prog_1_method_20_code 26 = .ok (.iconst 0, 1) := by decide +kernel
theorem dX10_sum_27 : decode prog_1_method_20_code 27 = .ok (.istore_n 3, 1) := by decide +kernel
theorem dX10_sum_28 : decode prog_1_method_20_code 28 = .ok (.iload_n 3, 1) := by decide +kernel
theorem dX10_sum_29 : decode prog_1_method_20_code 29 = .ok (.aload_n 0, 1) := by decide +kernel
theorem dX10_sum_30 : decode prog_1_method_20_code 30 = .ok (.getfield 33, 3) := by decide +kernel
theorem dX10_sum_33 : decode prog_1_method_20_code 33 = .ok (.getfield 219, 3) := by decide +kernel
theorem dX10_sum_36 : decode prog_1_method_20_code 36 = .ok (.if_icmp .ge 85, 3) := by decide +kernel
theorem dX10_sum_39 : decode prog_1_method_20_code 39 = .ok (.aload_n 0, 1) := by decide +kernel
theorem dX10_sum_40 : decode prog_1_method_20_code 40 = .ok (.getfield 58, 3) := by decide +kernel
theorem dX10_sum_43 : decode prog_1_method_20_code 43 = .ok (.aload_n 0, 1) := by decide +kernel
theorem dX10_sum_44 : decode prog_1_method_20_code 44 = .ok (.getfield 10, 3) := by decide +kernel
theorem dX10_sum_47 : decode prog_1_method_20_code 47 = .ok (.aload_n 0, 1) := by decide +kernel
theorem dX10_sum_48 : decode prog_1_method_20_code 48 = .ok (.getfield 19, 3) := by decide +kernel
theorem dX10_sum_51 : decode prog_1_method_20_code 51 = .ok (.aload_n 0, 1) := by decide +kernel
theorem dX10_sum_52 : decode prog_1_method_20_code 52 = .ok (.getfield 33, 3) := by decide +kernel
theorem dX10_sum_55 : decode prog_1_method_20_code 55 = .ok (.getfield 223, 3) := by decide +kernel
theorem dX10_sum_58 : decode prog_1_method_20_code 58 = .ok (.iload_n 3, 1) := by decide +kernel
theorem dX10_sum_59 : decode prog_1_method_20_code 59 = .ok (.aaload, 1) := by decide +kernel
theorem dX10_sum_60 : decode prog_1_method_20_code 60 = .ok (.invokevirtual 166, 3) := by decide +kernel
theorem dX10_sum_63 : decode prog_1_method_20_code 63 = .ok (.iload_n 1, 1) := by decide +kernel
theorem dX10_sum_64 : decode prog_1_method_20_code 64 = .ok (.ifCond .ne 26, 3) := by decide +kernel
theorem dX10_sum_67 : decode prog_1_method_20_code 67 = .ok (.iload_n 2, 1) := by decide +kernel
theorem dX10_sum_68 : decode prog_1_method_20_code 68 = .ok (.aload_n 0, 1) := by decide +kernel
theorem dX10_sum_69 : decode prog_1_method_20_code 69 = .ok (.getfield 33, 3) := by decide +kernel
theorem dX10_sum_72 : decode prog_1_method_20_code 72 = .ok (.getfield 227, 3) := by decide +kernel
theorem dX10_sum_75 : decode prog_1_method_20_code 75 = .ok (.iload_n 3, 1) := by decide +kernel
theorem dX10_sum_76 : decode prog_1_method_20_code 76 = .ok (.iaload, 1) := by decide +kernel
theorem dX10_sum_77 : decode prog_1_method_20_code 77 = .ok (.aload_n 0, 1) := by decide +kernel
theorem dX10_sum_78 : decode prog_1_method_20_code 78 = .ok (.getfield 58, 3) := by decide +kernel
theorem dX10_sum_81 : decode prog_1_method_20_code 81 = .ok (.getfield 177, 3) := by decide +kernel
theorem dX10_sum_84 : decode prog_1_method_20_code 84 = .ok (.imul, 1) := by decide +kernel
theorem dX10_sum_85 : decode prog_1_method_20_code 85 = .ok (.iadd, 1) := by decide +kernel
theorem dX10_sum_86 : decode prog_1_method_20_code 86 = .ok (.istore_n 2, 1) := by decide +kernel
theorem dX10_sum_87 : decode prog_1_method_20_code 87 = .ok (.goto 28, 3) := by decide +kernel
theorem dX10_sum_90 : decode prog_1_method_20_code 90 = .ok (.aload_n 0, 1) := by decide +kernel
theorem dX10_sum_91 : decode prog_1_method_20_code 91 = .ok (.getfield 58, 3) := by decide +kernel
theorem dX10_sum_94 : decode prog_1_method_20_code 94 = .ok (.getfield 170, 3) := by decide +kernel
theorem dX10_sum_97 : decode prog_1_method_20_code 97 = .ok (.iload_n 1, 1) := by decide +kernel
theorem dX10_sum_98 : decode prog_1_method_20_code 98 = .ok (.iconst 1, 1) := by decide +kernel
theorem dX10_sum_99 : decode prog_1_method_20_code 99 = .ok (.isub, 1) := by decide +kernel
theorem dX10_sum_100 : decode prog_1_method_20_code 100 = .ok (.if_icmp .ne 15, 3) := by decide +kernel
theorem dX10_sum_103 : decode prog_1_method_20_code 103 = .ok (.iload_n 2, 1) := by decide +kernel
theorem dX10_sum_104 : decode prog_1_method_20_code 104 = .ok (.aload_n 0, 1) := by decide +kernel
theorem dX10_sum_105 : decode prog_1_method_20_code 105 = .ok (.getfield 33, 3) := by decide +kernel
theorem dX10_sum_108 : decode prog_1_method_20_code 108 = .ok (.getfield 227, 3) := by decide +kernel
theorem dX10_sum_111 : decode prog_1_method_20_code 111 = .ok (.iload_n 3, 1) := by decide +kernel
theorem dX10_sum_112 : decode prog_1_method_20_code 112 = .ok (.iaload, 1) := by decide +kernel
theorem dX10_sum_113 : decode prog_1_method_20_code 113 = .ok (.iadd, 1) := by decide +kernel
theorem dX10_sum_114 : decode prog_1_method_20_code 114 = .ok (.istore_n 2, 1) := by decide +kernel
theorem dX10_sum_115 : decode prog_1_method_20_code 115 = .ok (.iinc 3 1, 3) := by decide +kernel
theorem dX10_sum_118 : decode prog_1_method_20_code 118 = .ok (.goto (-90), 3) := by decide +kernel
theorem dX10_sum_121 : decode prog_1_method_20_code 121 = .ok (.iload_n 2, 1) := by decide +kernel
theorem dX10_sum_122 : decode prog_1_method_20_code 122 = .ok (.ireturn, 1) := by decide +kernel
abbrev rmX10_sum : Room := { frames := 6, cells := 0, slots := 0, locals := 142 }
def bX10_sum_28  (rc : Nat → Int32 → Int32 → Int32 → Hp → Option (Int32 × Hp)) (t0 : Nat) (v1 : Int32) (v2 : Int32) (v3 : Int32) (h : Hp) : Option (Int32 × Hp) :=
  gk (h.1 t0) 11 <|
  bd (h.2.2.2.1 t0 3) fun a2 =>
  gk (h.1 a2) 2 <|
  if (h.2.2.1 a2 2) ≤ v3 then
  (some (v2, h))
  else
  (bd (h.2.2.2.1 t0 7) fun a6 =>
  bd (h.2.2.2.1 t0 0) fun a8 =>
  bd (h.2.2.2.1 t0 1) fun a10 =>
  bd (h.2.2.2.1 a2 0) fun a12 =>
  gk (h.1 a12) 15 <|
  gd (ix v3 (h.2.1 a12)) <|
  bd (h.2.2.2.1 a12 (Int32.toNatClampNeg v3)) fun a16 =>
  gk (h.1 a6) 9 <|
  b2 (fX8_follow a6 (some a8) (some a10) (some a16) h) fun _ g19 =>
  if v1 = 0 then
  (gk (g19.1 t0) 11 <|
  bd (g19.2.2.2.1 t0 3) fun a40 =>
  gk (g19.1 a40) 2 <|
  bd (g19.2.2.2.1 a40 1) fun a43 =>
  gk (g19.1 a43) 13 <|
  gd (ix v3 (g19.2.1 a43)) <|
  bd (g19.2.2.2.1 t0 7) fun a47 =>
  gk (g19.1 a47) 9 <|
  nm (v2 + ((g19.2.2.1 a43 (Int32.toNatClampNeg v3)) * (g19.2.2.1 a47 2))) fun x50 =>
  nm (v3 + 1) fun x51 =>
  rc t0 v1 x50 x51 g19)
  else
  (gk (g19.1 t0) 11 <|
  bd (g19.2.2.2.1 t0 7) fun a25 =>
  gk (g19.1 a25) 9 <|
  if (g19.2.2.1 a25 1) = (v1 - 1) then
  (bd (g19.2.2.2.1 t0 3) fun a30 =>
  gk (g19.1 a30) 2 <|
  bd (g19.2.2.2.1 a30 1) fun a33 =>
  gk (g19.1 a33) 13 <|
  gd (ix v3 (g19.2.1 a33)) <|
  nm (v2 + (g19.2.2.1 a33 (Int32.toNatClampNeg v3))) fun x37 =>
  nm (v3 + 1) fun x38 =>
  rc t0 v1 x37 x38 g19)
  else
  (nm (v3 + 1) fun x29 =>
  rc t0 v1 v2 x29 g19)))
def fX10_sum_28  : Nat → Int32 → Int32 → Int32 → Hp → Option (Int32 × Hp) := fx (bX10_sum_28 ) (fun _ _ _ _ _ => none) NF
def fX10_sum  (t0 : Nat) (v1 : Int32) (h : Hp) : Option (Int32 × Hp) :=
  b2 (fX10_within v1 0 4 h) fun r3 g1 =>
  if r3 = 0 then
  (some ((-1), g1))
  else
  (gk (g1.1 t0) 11 <|
  bd (g1.2.2.2.1 t0 0) fun a7 =>
  gk (g1.1 a7) 3 <|
  if (g1.2.2.1 a7 1) = 0 then
  (some ((-2), g1))
  else
  (fX10_sum_28  t0 v1 0 0 g1))
section
variable {p : Program} {l : Launch} {e : Env} {s : State} {m : MethodId} {args : Array Value} {below : List Frame} {meth : Method} {c : Code} {D : va_G} {cA : Nat → ClassId} {h0 h9 : Hp}
set_option maxHeartbeats 4000000 in
set_option maxRecDepth 100000 in
theorem tX10_sum_28  {r : Int32} (cx : CallFix p m c prog_1_method_20_code 4 s args tbG RX10) (hr : meth.sig.returnType = (Option.some FieldType.int)) (hlk : meth.locks = false)  (n : Nat) : ∀ (t0 : Nat) (v1 : Int32) (v2 : Int32) (v3 : Int32) (h : Hp) (H : Heap) (locs : List Loc) (ls : Array Slot), hp_B D cA (hp_A h0) s h H locs → lv_has ls 4 [(0, .ref t0), (1, .int v1), (2, .int v2), (3, .int v3)] → fx (bX10_sum_28 ) (fun _ _ _ _ _ => none) n t0 v1 v2 v3 h = some (r, h9) → W p l e rmX10_sum s m args below meth c H locs 0 0 (MQ below (hp_Qi D cA h0 h9 r) args s 0 0 (hp_A h0)) (F0 m 28 ls []) := by
  obtain ⟨hx, hb, -⟩ := id cx
  induction n with
  | zero => intro t0 v1 v2 v3 h H locs ls hB hl hf; cases hf
  | succ n ih =>
    intro t0 v1 v2 v3 h H locs ls hB hl hf
    replace hf : bX10_sum_28  (fx (bX10_sum_28 ) (fun _ _ _ _ _ => none) n) t0 v1 v2 v3 h = some (r, h9) := hf
    unfold bX10_sum_28 at hf
    refine lv_iload_n hx hb dX10_sum_28 rfl (lv_at hl 3 rfl) ?_
    refine lv_aload_n hx hb dX10_sum_29 rfl (lv_at hl 0 rfl) ?_
    obtain ⟨k1, hf⟩ := gk_ok hf
    obtain ⟨a2, q3, hf⟩ := bd_ok hf
    refine gf_X10_33 cx hB k1 q3 dX10_sum_30 ?_
    obtain ⟨k4, hf⟩ := gk_ok hf
    refine gf_X10_219 cx hB k4 dX10_sum_33 ?_
    refine lv_icmp_ge (tgt := 121) hx hb dX10_sum_36 (by decide) (fun c5 => ?_) (fun c5 => ?_)
    · replace hf := it_t c5 hf
      refine lv_iload_n hx hb dX10_sum_121 rfl (lv_at hl 2 rfl) ?_
      obtain ⟨rfl, rfl⟩ := rt_ok hf
      exact hp_iret cx hB hr hlk (Nat.le_of_ble_eq_true rfl) (Nat.le_of_ble_eq_true rfl) dX10_sum_122
    · replace hf := it_f c5 hf
      refine lv_aload_n hx hb dX10_sum_39 rfl (lv_at hl 0 rfl) ?_
      obtain ⟨a6, q7, hf⟩ := bd_ok hf
      refine gf_X10_58 cx hB k1 q7 dX10_sum_40 ?_
      refine lv_aload_n hx hb dX10_sum_43 rfl (lv_at hl 0 rfl) ?_
      obtain ⟨a8, q9, hf⟩ := bd_ok hf
      refine gf_X10_10 cx hB k1 q9 dX10_sum_44 ?_
      refine lv_aload_n hx hb dX10_sum_47 rfl (lv_at hl 0 rfl) ?_
      obtain ⟨a10, q11, hf⟩ := bd_ok hf
      refine gf_X10_19 cx hB k1 q11 dX10_sum_48 ?_
      refine lv_aload_n hx hb dX10_sum_51 rfl (lv_at hl 0 rfl) ?_
      refine gf_X10_33 cx hB k1 q3 dX10_sum_52 ?_
      obtain ⟨a12, q13, hf⟩ := bd_ok hf
      refine gf_X10_223 cx hB k4 q13 dX10_sum_55 ?_
      refine lv_iload_n hx hb dX10_sum_58 rfl (lv_at hl 3 rfl) ?_
      obtain ⟨k14, hf⟩ := gk_ok hf
      obtain ⟨j15, hf⟩ := gd_ok hf
      obtain ⟨a16, q17, hf⟩ := bd_ok hf
      refine hp_aald cx hB 15 (.object RX0) (by decide) rfl rfl k14 j15 (o := some a16) q17.symm dX10_sum_59 ?_
      obtain ⟨k18, hf⟩ := gk_ok hf
      obtain ⟨uu, g19, m20, hf⟩ := b2_ok hf
      refine hp_cV0 (cl_X10_166 cx hB (cX8_follow l D cA a6 (some a8) (some a10) (some a16) h _ g19 m20) k18 ⟨Nat.le_of_ble_eq_true rfl, Nat.le_of_ble_eq_true rfl⟩ rfl hl.1 rfl (Nat.le_of_ble_eq_true rfl) ⟨Nat.le_of_ble_eq_true rfl, Nat.le_of_ble_eq_true rfl⟩ dX10_sum_60) rfl rfl hB (fun H locs hB => ?_)
      refine lv_iload_n hx hb dX10_sum_63 rfl (lv_at hl 1 rfl) ?_
      refine lv_if_ne (tgt := 90) hx hb dX10_sum_64 (by decide) (fun c23 => ?_) (fun c23 => ?_)
      · replace hf := it_f c23 hf
        refine lv_aload_n hx hb dX10_sum_90 rfl (lv_at hl 0 rfl) ?_
        obtain ⟨k24, hf⟩ := gk_ok hf
        obtain ⟨a25, q26, hf⟩ := bd_ok hf
        refine gf_X10_58 cx hB k24 q26 dX10_sum_91 ?_
        obtain ⟨k27, hf⟩ := gk_ok hf
        refine gf_X10_170 cx hB k27 dX10_sum_94 ?_
        refine lv_iload_n hx hb dX10_sum_97 rfl (lv_at hl 1 rfl) ?_
        refine lv_iconst (v := 1) hx hb dX10_sum_98 (by decide) ?_
        refine lv_isub hx hb dX10_sum_99 ?_
        refine lv_icmp_ne (tgt := 115) hx hb dX10_sum_100 (by decide) (fun c28 => ?_) (fun c28 => ?_)
        · replace hf := it_f c28 hf
          obtain ⟨x29, ex29, hf⟩ := nm_ok hf
          refine lv_iinc (v := x29) (lv' := [(3, .int x29), (0, .ref t0), (1, .int v1), (2, .int v2)]) hx hb dX10_sum_115 hl (k := 3) rfl (by rw [ex29]; rfl) (by decide) rfl (fun ls hl => ?_)
          refine lv_goto (tgt := 28) hx hb dX10_sum_118 (by decide) ?_
          exact ih t0 v1 v2 x29 g19 _ _ _ hB (lv_sub hl [1, 2, 3, 0] rfl) hf
        · replace hf := it_t c28 hf
          refine lv_iload_n hx hb dX10_sum_103 rfl (lv_at hl 2 rfl) ?_
          refine lv_aload_n hx hb dX10_sum_104 rfl (lv_at hl 0 rfl) ?_
          obtain ⟨a30, q31, hf⟩ := bd_ok hf
          refine gf_X10_33 cx hB k24 q31 dX10_sum_105 ?_
          obtain ⟨k32, hf⟩ := gk_ok hf
          obtain ⟨a33, q34, hf⟩ := bd_ok hf
          refine gf_X10_227 cx hB k32 q34 dX10_sum_108 ?_
          refine lv_iload_n hx hb dX10_sum_111 rfl (lv_at hl 3 rfl) ?_
          obtain ⟨k35, hf⟩ := gk_ok hf
          obtain ⟨j36, hf⟩ := gd_ok hf
          refine hp_iald cx hB k35 j36 dX10_sum_112 ?_
          refine lv_iadd hx hb dX10_sum_113 ?_
          obtain ⟨x37, ex37, hf⟩ := nm_ok hf
          refine lv_ren ex37 ?_
          refine lv_istore_n (lv' := [(2, .int x37), (0, .ref t0), (1, .int v1), (3, .int v3)]) hx hb dX10_sum_114 rfl hl (by decide) rfl (fun ls hl => ?_)
          obtain ⟨x38, ex38, hf⟩ := nm_ok hf
          refine lv_iinc (v := x38) (lv' := [(3, .int x38), (2, .int x37), (0, .ref t0), (1, .int v1)]) hx hb dX10_sum_115 hl (k := 3) rfl (by rw [ex38]; rfl) (by decide) rfl (fun ls hl => ?_)
          refine lv_goto (tgt := 28) hx hb dX10_sum_118 (by decide) ?_
          exact ih t0 v1 x37 x38 g19 _ _ _ hB (lv_sub hl [2, 3, 1, 0] rfl) hf
      · replace hf := it_t c23 hf
        refine lv_iload_n hx hb dX10_sum_67 rfl (lv_at hl 2 rfl) ?_
        refine lv_aload_n hx hb dX10_sum_68 rfl (lv_at hl 0 rfl) ?_
        obtain ⟨k39, hf⟩ := gk_ok hf
        obtain ⟨a40, q41, hf⟩ := bd_ok hf
        refine gf_X10_33 cx hB k39 q41 dX10_sum_69 ?_
        obtain ⟨k42, hf⟩ := gk_ok hf
        obtain ⟨a43, q44, hf⟩ := bd_ok hf
        refine gf_X10_227 cx hB k42 q44 dX10_sum_72 ?_
        refine lv_iload_n hx hb dX10_sum_75 rfl (lv_at hl 3 rfl) ?_
        obtain ⟨k45, hf⟩ := gk_ok hf
        obtain ⟨j46, hf⟩ := gd_ok hf
        refine hp_iald cx hB k45 j46 dX10_sum_76 ?_
        refine lv_aload_n hx hb dX10_sum_77 rfl (lv_at hl 0 rfl) ?_
        obtain ⟨a47, q48, hf⟩ := bd_ok hf
        refine gf_X10_58 cx hB k39 q48 dX10_sum_78 ?_
        obtain ⟨k49, hf⟩ := gk_ok hf
        refine gf_X10_177 cx hB k49 dX10_sum_81 ?_
        refine lv_imul hx hb dX10_sum_84 ?_
        refine lv_iadd hx hb dX10_sum_85 ?_
        obtain ⟨x50, ex50, hf⟩ := nm_ok hf
        refine lv_ren ex50 ?_
        refine lv_istore_n (lv' := [(2, .int x50), (0, .ref t0), (1, .int v1), (3, .int v3)]) hx hb dX10_sum_86 rfl hl (by decide) rfl (fun ls hl => ?_)
        refine lv_goto (tgt := 115) hx hb dX10_sum_87 (by decide) ?_
        obtain ⟨x51, ex51, hf⟩ := nm_ok hf
        refine lv_iinc (v := x51) (lv' := [(3, .int x51), (2, .int x50), (0, .ref t0), (1, .int v1)]) hx hb dX10_sum_115 hl (k := 3) rfl (by rw [ex51]; rfl) (by decide) rfl (fun ls hl => ?_)
        refine lv_goto (tgt := 28) hx hb dX10_sum_118 (by decide) ?_
        exact ih t0 v1 x50 x51 g19 _ _ _ hB (lv_sub hl [2, 3, 1, 0] rfl) hf
set_option maxHeartbeats 4000000 in
set_option maxRecDepth 100000 in
theorem tX10_sum_0  {r : Int32} (cx : CallFix p m c prog_1_method_20_code 4 s args tbG RX10) (hr : meth.sig.returnType = (Option.some FieldType.int)) (hlk : meth.locks = false)  (t0 : Nat) (v1 : Int32) (h : Hp) (H : Heap) (locs : List Loc) (ls : Array Slot) (hB : hp_B D cA (hp_A h0) s h H locs) (hl : lv_has ls 4 [(0, .ref t0), (1, .int v1)]) (hf : fX10_sum  t0 v1 h = some (r, h9)) : W p l e rmX10_sum s m args below meth c H locs 0 0 (MQ below (hp_Qi D cA h0 h9 r) args s 0 0 (hp_A h0)) (F0 m 0 ls []) := by
  obtain ⟨hx, hb, -⟩ := id cx
  unfold fX10_sum at hf
  refine lv_iload_n hx hb dX10_sum_0 rfl (lv_at hl 1 rfl) ?_
  refine lv_iconst (v := 0) hx hb dX10_sum_1 (by decide) ?_
  refine lv_iconst (v := 4) hx hb dX10_sum_2 (by decide) ?_
  obtain ⟨r3, g1, m2, hf⟩ := b2_ok hf
  refine hp_cI0 (cl_X10_61 cx hB (cX10_within l D cA v1 0 4 h _ g1 m2) ⟨Nat.le_of_ble_eq_true rfl, Nat.le_of_ble_eq_true rfl⟩ rfl hl.1 rfl (Nat.le_of_ble_eq_true rfl) ⟨Nat.le_of_ble_eq_true rfl, Nat.le_of_ble_eq_true rfl⟩ dX10_sum_3) rfl rfl hB (fun H locs hB => ?_)
  refine lv_if_ne (tgt := 11) hx hb dX10_sum_6 (by decide) (fun c5 => ?_) (fun c5 => ?_)
  · replace hf := it_f c5 hf
    refine lv_aload_n hx hb dX10_sum_11 rfl (lv_at hl 0 rfl) ?_
    obtain ⟨k6, hf⟩ := gk_ok hf
    obtain ⟨a7, q8, hf⟩ := bd_ok hf
    refine gf_X10_10 cx hB k6 q8 dX10_sum_12 ?_
    obtain ⟨k9, hf⟩ := gk_ok hf
    refine gf_X10_160 cx hB k9 dX10_sum_15 ?_
    refine lv_if_ne (tgt := 24) hx hb dX10_sum_18 (by decide) (fun c10 => ?_) (fun c10 => ?_)
    · replace hf := it_f c10 hf
      refine lv_iconst (v := 0) hx hb dX10_sum_24 (by decide) ?_
      refine lv_istore_n (lv' := [(2, .int 0), (0, .ref t0), (1, .int v1)]) hx hb dX10_sum_25 rfl hl (by decide) rfl (fun ls hl => ?_)
      refine lv_iconst (v := 0) hx hb dX10_sum_26 (by decide) ?_
      refine lv_istore_n (lv' := [(3, .int 0), (2, .int 0), (0, .ref t0), (1, .int v1)]) hx hb dX10_sum_27 rfl hl (by decide) rfl (fun ls hl => ?_)
      exact tX10_sum_28 cx hr hlk  NF t0 v1 0 0 g1 _ _ _ hB (lv_sub hl [2, 3, 1, 0] rfl) hf
    · replace hf := it_t c10 hf
      refine lv_bipush (v := (-2)) hx hb dX10_sum_21 (by decide) ?_
      obtain ⟨rfl, rfl⟩ := rt_ok hf
      exact hp_iret cx hB hr hlk (Nat.le_of_ble_eq_true rfl) (Nat.le_of_ble_eq_true rfl) dX10_sum_23
  · replace hf := it_t c5 hf
    refine lv_iconst (v := (-1)) hx hb dX10_sum_9 (by decide) ?_
    obtain ⟨rfl, rfl⟩ := rt_ok hf
    exact hp_iret cx hB hr hlk (Nat.le_of_ble_eq_true rfl) (Nat.le_of_ble_eq_true rfl) dX10_sum_10
end
set_option maxHeartbeats 4000000 in
set_option maxRecDepth 100000 in
theorem cX10_sum (l : Launch) (D : va_G) (cA : Nat → ClassId) (t0 : Nat) (v1 : Int32) (h : Hp) (r : Int32) (h9 : Hp) (hf : fX10_sum t0 v1 h = some (r, h9)) : hp_M l yX10_sum prog_1_method_20_code 4 (Option.some FieldType.int) rmX10_sum D cA h [.ref t0, .int v1] (hp_Qi D cA h h9 r) := by
  refine Met.ofW (cc := prog_1_method_20_code) (maxL := 4) (ret := (Option.some FieldType.int)) (by decide) rfl ?_
  intro p e s m args below meth c s₁ B hml hv
  obtain ⟨rfl, hU⟩ := hv
  have hts := atoms_spec (ws := Cond.code yX10_sum prog_1_method_20_code 4 (Option.some FieldType.int) :: tbG) B.pre
  have hl := lv_entry ([.ref t0, .int v1]) (n := 4) (Nat.le_of_ble_eq_true rfl)
  rw [lg_entry_eq]
  generalize (lg_sl ([.ref t0, .int v1]) ++ List.replicate (4 - (lg_sl ([.ref t0, .int v1])).length) Slot.unset).toArray = ls at hl ⊢
  exact tX10_sum_0 ⟨B.exec, B.bytes, hml, findClass_of_methodNamed B.named, fun w hw => hts w (List.mem_cons_of_mem _ hw)⟩ B.returns B.notSynchronized t0 v1 h _ _ _ (hp_B.entry hU) hl hf
abbrev yX10_hung : MethodName := ⟨"SpokenMenus", "hung", "(I)I"⟩
theorem dX10_hung_0 : decode prog_1_method_21_code 0 = .ok (.aload_n 0, 1) := by decide +kernel
theorem dX10_hung_1 : decode prog_1_method_21_code 1 = .ok (.getfield 10, 3) := by decide +kernel
theorem dX10_hung_4 : decode prog_1_method_21_code 4 = .ok (.iload_n 1, 1) := by decide +kernel
theorem dX10_hung_5 : decode prog_1_method_21_code 5 = .ok (.invokevirtual 139, 3) := by decide +kernel
theorem dX10_hung_8 : decode prog_1_method_21_code 8 = .ok (.ifnonnull 5, 3) := by decide +kernel
theorem dX10_hung_11 : decode prog_1_method_21_code 11 = .ok (.iconst (-1), 1) := by decide +kernel
theorem dX10_hung_12 : decode prog_1_method_21_code 12 = .ok (.ireturn, 1) := by decide +kernel
theorem dX10_hung_13 : decode prog_1_method_21_code 13 = .ok (.iconst 0, 1) := by decide +kernel
theorem dX10_hung_14 : decode prog_1_method_21_code 14 = .ok (.istore_n 2, 1) := by decide +kernel
theorem dX10_hung_15 : decode prog_1_method_21_code 15 = .ok (.iconst 0, 1) := by decide +kernel
theorem dX10_hung_16 : decode prog_1_method_21_code 16 = .ok (.istore_n 3, 1) := by decide +kernel
theorem dX10_hung_17 : decode prog_1_method_21_code 17 = .ok (.iload_n 3, 1) := by decide +kernel
theorem dX10_hung_18 : decode prog_1_method_21_code 18 = .ok (.aload_n 0, 1) := by decide +kernel
theorem dX10_hung_19 : decode prog_1_method_21_code 19 = .ok (.getfield 33, 3) := by decide +kernel
theorem dX10_hung_22 : decode prog_1_method_21_code 22 = .ok (.getfield 219, 3) := by decide +kernel
theorem dX10_hung_25 : decode prog_1_method_21_code 25 = .ok (.if_icmp .ge 67, 3) := by decide +kernel
theorem dX10_hung_28 : decode prog_1_method_21_code 28 = .ok (.aload_n 0, 1) := by decide +kernel
theorem dX10_hung_29 : decode prog_1_method_21_code 29 = .ok (.getfield 58, 3) := by decide +kernel
theorem dX10_hung_32 : decode prog_1_method_21_code 32 = .ok (.aload_n 0, 1) := by decide +kernel
theorem dX10_hung_33 : decode prog_1_method_21_code 33 = .ok (.getfield 10, 3) := by decide +kernel
theorem dX10_hung_36 : decode prog_1_method_21_code 36 = .ok (.aload_n 0, 1) := by decide +kernel
theorem dX10_hung_37 : decode prog_1_method_21_code 37 = .ok (.getfield 19, 3) := by decide +kernel
theorem dX10_hung_40 : decode prog_1_method_21_code 40 = .ok (.aload_n 0, 1) := by decide +kernel
theorem dX10_hung_41 : decode prog_1_method_21_code 41 = .ok (.getfield 33, 3) := by decide +kernel
theorem dX10_hung_44 : decode prog_1_method_21_code 44 = .ok (.getfield 223, 3) := by decide +kernel
theorem dX10_hung_47 : decode prog_1_method_21_code 47 = .ok (.iload_n 3, 1) := by decide +kernel
theorem dX10_hung_48 : decode prog_1_method_21_code 48 = .ok (.aaload, 1) := by decide +kernel
theorem dX10_hung_49 : decode prog_1_method_21_code 49 = .ok (.invokevirtual 166, 3) := by decide +kernel
theorem dX10_hung_52 : decode prog_1_method_21_code 52 = .ok (.aload_n 0, 1) := by decide +kernel
theorem dX10_hung_53 : decode prog_1_method_21_code 53 = .ok (.getfield 58, 3) := by decide +kernel
theorem dX10_hung_56 : decode prog_1_method_21_code 56 = .ok (.getfield 170, 3) := by decide +kernel
theorem dX10_hung_59 : decode prog_1_method_21_code 59 = .ok (.iconst 2, 1) := by decide +kernel
theorem dX10_hung_60 : decode prog_1_method_21_code 60 = .ok (.if_icmp .ne 26, 3) := by decide +kernel
theorem dX10_hung_63 : decode prog_1_method_21_code 63 = .ok (.aload_n 0, 1) := by decide +kernel
theorem dX10_hung_64 : decode prog_1_method_21_code 64 = .ok (.getfield 58, 3) := by decide +kernel
theorem dX10_hung_67 : decode prog_1_method_21_code 67 = .ok (.getfield 178, 3) := by decide +kernel
theorem dX10_hung_70 : decode prog_1_method_21_code 70 = .ok (.iload_n 1, 1) := by decide +kernel
theorem dX10_hung_71 : decode prog_1_method_21_code 71 = .ok (.if_icmp .ne 15, 3) := by decide +kernel
theorem dX10_hung_74 : decode prog_1_method_21_code 74 = .ok (.iload_n 2, 1) := by decide +kernel
theorem dX10_hung_75 : decode prog_1_method_21_code 75 = .ok (.aload_n 0, 1) := by decide +kernel
theorem dX10_hung_76 : decode prog_1_method_21_code 76 = .ok (.getfield 33, 3) := by decide +kernel
theorem dX10_hung_79 : decode prog_1_method_21_code 79 = .ok (.getfield 227, 3) := by decide +kernel
theorem dX10_hung_82 : decode prog_1_method_21_code 82 = .ok (.iload_n 3, 1) := by decide +kernel
theorem dX10_hung_83 : decode prog_1_method_21_code 83 = .ok (.iaload, 1) := by decide +kernel
theorem dX10_hung_84 : decode prog_1_method_21_code 84 = .ok (.iadd, 1) := by decide +kernel
theorem dX10_hung_85 : decode prog_1_method_21_code 85 = .ok (.istore_n 2, 1) := by decide +kernel
theorem dX10_hung_86 : decode prog_1_method_21_code 86 = .ok (.iinc 3 1, 3) := by decide +kernel
theorem dX10_hung_89 : decode prog_1_method_21_code 89 = .ok (.goto (-72), 3) := by decide +kernel
theorem dX10_hung_92 : decode prog_1_method_21_code 92 = .ok (.iload_n 2, 1) := by decide +kernel
theorem dX10_hung_93 : decode prog_1_method_21_code 93 = .ok (.ireturn, 1) := by decide +kernel
abbrev rmX10_hung : Room := { frames := 6, cells := 0, slots := 0, locals := 142 }
def bX10_hung_17  (rc : Nat → Int32 → Int32 → Int32 → Hp → Option (Int32 × Hp)) (t0 : Nat) (v1 : Int32) (v2 : Int32) (v3 : Int32) (h : Hp) : Option (Int32 × Hp) :=
  gk (h.1 t0) 11 <|
  bd (h.2.2.2.1 t0 3) fun a2 =>
  gk (h.1 a2) 2 <|
  if (h.2.2.1 a2 2) ≤ v3 then
  (some (v2, h))
  else
  (bd (h.2.2.2.1 t0 7) fun a6 =>
  bd (h.2.2.2.1 t0 0) fun a8 =>
  bd (h.2.2.2.1 t0 1) fun a10 =>
  bd (h.2.2.2.1 a2 0) fun a12 =>
  gk (h.1 a12) 15 <|
  gd (ix v3 (h.2.1 a12)) <|
  bd (h.2.2.2.1 a12 (Int32.toNatClampNeg v3)) fun a16 =>
  gk (h.1 a6) 9 <|
  b2 (fX8_follow a6 (some a8) (some a10) (some a16) h) fun _ g19 =>
  gk (g19.1 t0) 11 <|
  bd (g19.2.2.2.1 t0 7) fun a24 =>
  gk (g19.1 a24) 9 <|
  if (g19.2.2.1 a24 1) = 2 then
  (if (g19.2.2.1 a24 3) = v1 then
  (bd (g19.2.2.2.1 t0 3) fun a31 =>
  gk (g19.1 a31) 2 <|
  bd (g19.2.2.2.1 a31 1) fun a34 =>
  gk (g19.1 a34) 13 <|
  gd (ix v3 (g19.2.1 a34)) <|
  nm (v2 + (g19.2.2.1 a34 (Int32.toNatClampNeg v3))) fun x38 =>
  nm (v3 + 1) fun x39 =>
  rc t0 v1 x38 x39 g19)
  else
  (nm (v3 + 1) fun x30 =>
  rc t0 v1 v2 x30 g19))
  else
  (nm (v3 + 1) fun x28 =>
  rc t0 v1 v2 x28 g19))
def fX10_hung_17  : Nat → Int32 → Int32 → Int32 → Hp → Option (Int32 × Hp) := fx (bX10_hung_17 ) (fun _ _ _ _ _ => none) NF
def fX10_hung  (t0 : Nat) (v1 : Int32) (h : Hp) : Option (Int32 × Hp) :=
  gk (h.1 t0) 11 <|
  bd (h.2.2.2.1 t0 0) fun a2 =>
  gk (h.1 a2) 3 <|
  b2 (fX2_at a2 v1 h) fun o8 g5 =>
  rn o8
  (some ((-1), g5))
  (fun a9 =>
  fX10_hung_17  t0 v1 0 0 g5)
section
variable {p : Program} {l : Launch} {e : Env} {s : State} {m : MethodId} {args : Array Value} {below : List Frame} {meth : Method} {c : Code} {D : va_G} {cA : Nat → ClassId} {h0 h9 : Hp}
set_option maxHeartbeats 4000000 in
set_option maxRecDepth 100000 in
theorem tX10_hung_17  {r : Int32} (cx : CallFix p m c prog_1_method_21_code 4 s args tbG RX10) (hr : meth.sig.returnType = (Option.some FieldType.int)) (hlk : meth.locks = false)  (n : Nat) : ∀ (t0 : Nat) (v1 : Int32) (v2 : Int32) (v3 : Int32) (h : Hp) (H : Heap) (locs : List Loc) (ls : Array Slot), hp_B D cA (hp_A h0) s h H locs → lv_has ls 4 [(0, .ref t0), (1, .int v1), (2, .int v2), (3, .int v3)] → fx (bX10_hung_17 ) (fun _ _ _ _ _ => none) n t0 v1 v2 v3 h = some (r, h9) → W p l e rmX10_hung s m args below meth c H locs 0 0 (MQ below (hp_Qi D cA h0 h9 r) args s 0 0 (hp_A h0)) (F0 m 17 ls []) := by
  obtain ⟨hx, hb, -⟩ := id cx
  induction n with
  | zero => intro t0 v1 v2 v3 h H locs ls hB hl hf; cases hf
  | succ n ih =>
    intro t0 v1 v2 v3 h H locs ls hB hl hf
    replace hf : bX10_hung_17  (fx (bX10_hung_17 ) (fun _ _ _ _ _ => none) n) t0 v1 v2 v3 h = some (r, h9) := hf
    unfold bX10_hung_17 at hf
    refine lv_iload_n hx hb dX10_hung_17 rfl (lv_at hl 3 rfl) ?_
    refine lv_aload_n hx hb dX10_hung_18 rfl (lv_at hl 0 rfl) ?_
    obtain ⟨k1, hf⟩ := gk_ok hf
    obtain ⟨a2, q3, hf⟩ := bd_ok hf
    refine gf_X10_33 cx hB k1 q3 dX10_hung_19 ?_
    obtain ⟨k4, hf⟩ := gk_ok hf
    refine gf_X10_219 cx hB k4 dX10_hung_22 ?_
    refine lv_icmp_ge (tgt := 92) hx hb dX10_hung_25 (by decide) (fun c5 => ?_) (fun c5 => ?_)
    · replace hf := it_t c5 hf
      refine lv_iload_n hx hb dX10_hung_92 rfl (lv_at hl 2 rfl) ?_
      obtain ⟨rfl, rfl⟩ := rt_ok hf
      exact hp_iret cx hB hr hlk (Nat.le_of_ble_eq_true rfl) (Nat.le_of_ble_eq_true rfl) dX10_hung_93
    · replace hf := it_f c5 hf
      refine lv_aload_n hx hb dX10_hung_28 rfl (lv_at hl 0 rfl) ?_
      obtain ⟨a6, q7, hf⟩ := bd_ok hf
      refine gf_X10_58 cx hB k1 q7 dX10_hung_29 ?_
      refine lv_aload_n hx hb dX10_hung_32 rfl (lv_at hl 0 rfl) ?_
      obtain ⟨a8, q9, hf⟩ := bd_ok hf
      refine gf_X10_10 cx hB k1 q9 dX10_hung_33 ?_
      refine lv_aload_n hx hb dX10_hung_36 rfl (lv_at hl 0 rfl) ?_
      obtain ⟨a10, q11, hf⟩ := bd_ok hf
      refine gf_X10_19 cx hB k1 q11 dX10_hung_37 ?_
      refine lv_aload_n hx hb dX10_hung_40 rfl (lv_at hl 0 rfl) ?_
      refine gf_X10_33 cx hB k1 q3 dX10_hung_41 ?_
      obtain ⟨a12, q13, hf⟩ := bd_ok hf
      refine gf_X10_223 cx hB k4 q13 dX10_hung_44 ?_
      refine lv_iload_n hx hb dX10_hung_47 rfl (lv_at hl 3 rfl) ?_
      obtain ⟨k14, hf⟩ := gk_ok hf
      obtain ⟨j15, hf⟩ := gd_ok hf
      obtain ⟨a16, q17, hf⟩ := bd_ok hf
      refine hp_aald cx hB 15 (.object RX0) (by decide) rfl rfl k14 j15 (o := some a16) q17.symm dX10_hung_48 ?_
      obtain ⟨k18, hf⟩ := gk_ok hf
      obtain ⟨uu, g19, m20, hf⟩ := b2_ok hf
      refine hp_cV0 (cl_X10_166 cx hB (cX8_follow l D cA a6 (some a8) (some a10) (some a16) h _ g19 m20) k18 ⟨Nat.le_of_ble_eq_true rfl, Nat.le_of_ble_eq_true rfl⟩ rfl hl.1 rfl (Nat.le_of_ble_eq_true rfl) ⟨Nat.le_of_ble_eq_true rfl, Nat.le_of_ble_eq_true rfl⟩ dX10_hung_49) rfl rfl hB (fun H locs hB => ?_)
      refine lv_aload_n hx hb dX10_hung_52 rfl (lv_at hl 0 rfl) ?_
      obtain ⟨k23, hf⟩ := gk_ok hf
      obtain ⟨a24, q25, hf⟩ := bd_ok hf
      refine gf_X10_58 cx hB k23 q25 dX10_hung_53 ?_
      obtain ⟨k26, hf⟩ := gk_ok hf
      refine gf_X10_170 cx hB k26 dX10_hung_56 ?_
      refine lv_iconst (v := 2) hx hb dX10_hung_59 (by decide) ?_
      refine lv_icmp_ne (tgt := 86) hx hb dX10_hung_60 (by decide) (fun c27 => ?_) (fun c27 => ?_)
      · replace hf := it_f c27 hf
        obtain ⟨x28, ex28, hf⟩ := nm_ok hf
        refine lv_iinc (v := x28) (lv' := [(3, .int x28), (0, .ref t0), (1, .int v1), (2, .int v2)]) hx hb dX10_hung_86 hl (k := 3) rfl (by rw [ex28]; rfl) (by decide) rfl (fun ls hl => ?_)
        refine lv_goto (tgt := 17) hx hb dX10_hung_89 (by decide) ?_
        exact ih t0 v1 v2 x28 g19 _ _ _ hB (lv_sub hl [1, 2, 3, 0] rfl) hf
      · replace hf := it_t c27 hf
        refine lv_aload_n hx hb dX10_hung_63 rfl (lv_at hl 0 rfl) ?_
        refine gf_X10_58 cx hB k23 q25 dX10_hung_64 ?_
        refine gf_X10_178 cx hB k26 dX10_hung_67 ?_
        refine lv_iload_n hx hb dX10_hung_70 rfl (lv_at hl 1 rfl) ?_
        refine lv_icmp_ne (tgt := 86) hx hb dX10_hung_71 (by decide) (fun c29 => ?_) (fun c29 => ?_)
        · replace hf := it_f c29 hf
          obtain ⟨x30, ex30, hf⟩ := nm_ok hf
          refine lv_iinc (v := x30) (lv' := [(3, .int x30), (0, .ref t0), (1, .int v1), (2, .int v2)]) hx hb dX10_hung_86 hl (k := 3) rfl (by rw [ex30]; rfl) (by decide) rfl (fun ls hl => ?_)
          refine lv_goto (tgt := 17) hx hb dX10_hung_89 (by decide) ?_
          exact ih t0 v1 v2 x30 g19 _ _ _ hB (lv_sub hl [1, 2, 3, 0] rfl) hf
        · replace hf := it_t c29 hf
          refine lv_iload_n hx hb dX10_hung_74 rfl (lv_at hl 2 rfl) ?_
          refine lv_aload_n hx hb dX10_hung_75 rfl (lv_at hl 0 rfl) ?_
          obtain ⟨a31, q32, hf⟩ := bd_ok hf
          refine gf_X10_33 cx hB k23 q32 dX10_hung_76 ?_
          obtain ⟨k33, hf⟩ := gk_ok hf
          obtain ⟨a34, q35, hf⟩ := bd_ok hf
          refine gf_X10_227 cx hB k33 q35 dX10_hung_79 ?_
          refine lv_iload_n hx hb dX10_hung_82 rfl (lv_at hl 3 rfl) ?_
          obtain ⟨k36, hf⟩ := gk_ok hf
          obtain ⟨j37, hf⟩ := gd_ok hf
          refine hp_iald cx hB k36 j37 dX10_hung_83 ?_
          refine lv_iadd hx hb dX10_hung_84 ?_
          obtain ⟨x38, ex38, hf⟩ := nm_ok hf
          refine lv_ren ex38 ?_
          refine lv_istore_n (lv' := [(2, .int x38), (0, .ref t0), (1, .int v1), (3, .int v3)]) hx hb dX10_hung_85 rfl hl (by decide) rfl (fun ls hl => ?_)
          obtain ⟨x39, ex39, hf⟩ := nm_ok hf
          refine lv_iinc (v := x39) (lv' := [(3, .int x39), (2, .int x38), (0, .ref t0), (1, .int v1)]) hx hb dX10_hung_86 hl (k := 3) rfl (by rw [ex39]; rfl) (by decide) rfl (fun ls hl => ?_)
          refine lv_goto (tgt := 17) hx hb dX10_hung_89 (by decide) ?_
          exact ih t0 v1 x38 x39 g19 _ _ _ hB (lv_sub hl [2, 3, 1, 0] rfl) hf
set_option maxHeartbeats 4000000 in
set_option maxRecDepth 100000 in
theorem tX10_hung_0  {r : Int32} (cx : CallFix p m c prog_1_method_21_code 4 s args tbG RX10) (hr : meth.sig.returnType = (Option.some FieldType.int)) (hlk : meth.locks = false)  (t0 : Nat) (v1 : Int32) (h : Hp) (H : Heap) (locs : List Loc) (ls : Array Slot) (hB : hp_B D cA (hp_A h0) s h H locs) (hl : lv_has ls 4 [(0, .ref t0), (1, .int v1)]) (hf : fX10_hung  t0 v1 h = some (r, h9)) : W p l e rmX10_hung s m args below meth c H locs 0 0 (MQ below (hp_Qi D cA h0 h9 r) args s 0 0 (hp_A h0)) (F0 m 0 ls []) := by
  obtain ⟨hx, hb, -⟩ := id cx
  unfold fX10_hung at hf
  refine lv_aload_n hx hb dX10_hung_0 rfl (lv_at hl 0 rfl) ?_
  obtain ⟨k1, hf⟩ := gk_ok hf
  obtain ⟨a2, q3, hf⟩ := bd_ok hf
  refine gf_X10_10 cx hB k1 q3 dX10_hung_1 ?_
  refine lv_iload_n hx hb dX10_hung_4 rfl (lv_at hl 1 rfl) ?_
  obtain ⟨k4, hf⟩ := gk_ok hf
  obtain ⟨o8, g5, m6, hf⟩ := b2_ok hf
  refine hp_cR0 (cl_X10_139 cx hB (cX2_at l D cA a2 v1 h _ g5 m6) k4 ⟨Nat.le_of_ble_eq_true rfl, Nat.le_of_ble_eq_true rfl⟩ rfl hl.1 rfl (Nat.le_of_ble_eq_true rfl) ⟨Nat.le_of_ble_eq_true rfl, Nat.le_of_ble_eq_true rfl⟩ dX10_hung_5) rfl rfl hB (fun H locs hB => ?_)
  refine lq_ifnonnull (tgt := 13) hx hb dX10_hung_8 (by decide) (fun eo => ?_) (fun a9 eo => ?_)
  · subst eo
    replace hf := rn_n hf
    refine lv_iconst (v := (-1)) hx hb dX10_hung_11 (by decide) ?_
    obtain ⟨rfl, rfl⟩ := rt_ok hf
    exact hp_iret cx hB hr hlk (Nat.le_of_ble_eq_true rfl) (Nat.le_of_ble_eq_true rfl) dX10_hung_12
  · subst eo
    replace hf := rn_s hf
    refine lv_iconst (v := 0) hx hb dX10_hung_13 (by decide) ?_
    refine lv_istore_n (lv' := [(2, .int 0), (0, .ref t0), (1, .int v1)]) hx hb dX10_hung_14 rfl hl (by decide) rfl (fun ls hl => ?_)
    refine lv_iconst (v := 0) hx hb dX10_hung_15 (by decide) ?_
    refine lv_istore_n (lv' := [(3, .int 0), (2, .int 0), (0, .ref t0), (1, .int v1)]) hx hb dX10_hung_16 rfl hl (by decide) rfl (fun ls hl => ?_)
    exact tX10_hung_17 cx hr hlk  NF t0 v1 0 0 g5 _ _ _ hB (lv_sub hl [2, 3, 1, 0] rfl) hf
end
set_option maxHeartbeats 4000000 in
set_option maxRecDepth 100000 in
theorem cX10_hung (l : Launch) (D : va_G) (cA : Nat → ClassId) (t0 : Nat) (v1 : Int32) (h : Hp) (r : Int32) (h9 : Hp) (hf : fX10_hung t0 v1 h = some (r, h9)) : hp_M l yX10_hung prog_1_method_21_code 4 (Option.some FieldType.int) rmX10_hung D cA h [.ref t0, .int v1] (hp_Qi D cA h h9 r) := by
  refine Met.ofW (cc := prog_1_method_21_code) (maxL := 4) (ret := (Option.some FieldType.int)) (by decide) rfl ?_
  intro p e s m args below meth c s₁ B hml hv
  obtain ⟨rfl, hU⟩ := hv
  have hts := atoms_spec (ws := Cond.code yX10_hung prog_1_method_21_code 4 (Option.some FieldType.int) :: tbG) B.pre
  have hl := lv_entry ([.ref t0, .int v1]) (n := 4) (Nat.le_of_ble_eq_true rfl)
  rw [lg_entry_eq]
  generalize (lg_sl ([.ref t0, .int v1]) ++ List.replicate (4 - (lg_sl ([.ref t0, .int v1])).length) Slot.unset).toArray = ls at hl ⊢
  exact tX10_hung_0 ⟨B.exec, B.bytes, hml, findClass_of_methodNamed B.named, fun w hw => hts w (List.mem_cons_of_mem _ hw)⟩ B.returns B.notSynchronized t0 v1 h _ _ _ (hp_B.entry hU) hl hf
section
variable {p : Program} {l : Launch} {e : Env} {R : Room} {s : State} {m : MethodId} {args : Array Value} {below : List Frame} {meth : Method} {c : Code} {H : Heap} {locs : List Loc} {cells slots : Nat} {Q : State → Prop}
variable {cc : ByteArray} {pc nL : Nat} {ls : Array Slot} {rest : List Value} {D : va_G} {cA : Nat → ClassId} {A : Nat → Prop} {a : Nat} {h : Hp}
theorem gf_X10_40 (cx : CallFix p m c cc nL s args tbG RX10) (hB : hp_B D cA A s h H locs) (hka : h.1 a = 11) {b : Nat} (ho : h.2.2.2.1 a 4 = some b) (hdg : decode cc pc = .ok (.getfield 40, 3)) (kk : W p l e R s m args below meth c H locs cells slots Q (F0 m (pc + 3) ls (.ref b :: rest))) : W p l e R s m args below meth c H locs cells slots Q (F0 m pc ls (.ref a :: rest)) :=
  hp_getR cx hB (ci := 10) 4 rfl inX10 (by decide) rfl (by decide) rfl qw_204 hka (o := some b) ho.symm hdg kk
theorem cl_X10_272 {As st0 : List Value} {b : Nat} {Qc : Array Value → State → Outcome → State → Prop} (cx : CallFix p m c cc nL s args tbG RX10) (hB : hp_B D cA A s h H locs) (hM : hp_M l yX4_forget prog_6_method_2_code 1 none rmX4_forget D cA h (.ref b :: As) Qc) (hkb : h.1 b = 5) (hR : rmX4_forget.frames + 1 ≤ R.frames ∧ 8 + (1 + 11) + rmX4_forget.locals ≤ R.locals) (hn : As.length = 0) (hls : ls.size = nL) (hst : st0 = As.reverse ++ .ref b :: rest) (hW : (rest.map fun v => v.category).sum ≤ 8) (hf : cells + rmX4_forget.cells ≤ R.cells ∧ slots + rmX4_forget.slots ≤ R.slots) (hdg : decode cc pc = .ok (.invokevirtual 272, 3)) :
    va_Run p l e R s m args below meth c H locs cells slots rmX4_forget.cells rmX4_forget.slots (F0 m pc ls st0) rest (Qc (Value.ref b :: As).toArray) (hp_A h) :=
  hp_runV cx hB hM (ci := 4) rfl (by decide) hkb qw_643 qw_640 qw_641 qw_642 qw_6 (by decide +kernel) hR hn hls hst hW hf hdg
theorem gf_X10_275 (cx : CallFix p m c cc nL s args tbG RX10) (hB : hp_B D cA A s h H locs) (hka : h.1 a = 1) (hdg : decode cc pc = .ok (.getfield 275, 3)) (kk : W p l e R s m args below meth c H locs cells slots Q (F0 m (pc + 3) ls (.int (h.2.2.1 a 4) :: rest))) : W p l e R s m args below meth c H locs cells slots Q (F0 m pc ls (.ref a :: rest)) :=
  hp_getI cx hB (ci := 0) 4 rfl inX0 (by decide) rfl (by decide) rfl qw_435 hka hdg kk
theorem cl_X10_278 {As st0 : List Value} {b : Nat} {Qc : Array Value → State → Outcome → State → Prop} (cx : CallFix p m c cc nL s args tbG RX10) (hB : hp_B D cA A s h H locs) (hM : hp_M l yX8_goThrough prog_10_method_3_code 7 none rmX8_goThrough D cA h (.ref b :: As) Qc) (hkb : h.1 b = 9) (hR : rmX8_goThrough.frames + 1 ≤ R.frames ∧ 8 + (7 + 11) + rmX8_goThrough.locals ≤ R.locals) (hn : As.length = 3) (hls : ls.size = nL) (hst : st0 = As.reverse ++ .ref b :: rest) (hW : (rest.map fun v => v.category).sum ≤ 8) (hf : cells + rmX8_goThrough.cells ≤ R.cells ∧ slots + rmX8_goThrough.slots ≤ R.slots) (hdg : decode cc pc = .ok (.invokevirtual 278, 3)) :
    va_Run p l e R s m args below meth c H locs cells slots rmX8_goThrough.cells rmX8_goThrough.slots (F0 m pc ls st0) rest (Qc (Value.ref b :: As).toArray) (hp_A h) :=
  hp_runV cx hB hM (ci := 8) rfl (by decide) hkb qw_505 qw_645 qw_503 qw_504 qw_9 (by decide +kernel) hR hn hls hst hW hf hdg
theorem cl_X10_281 {As st0 : List Value} {b : Nat} {Qc : Array Value → State → Outcome → State → Prop} (cx : CallFix p m c cc nL s args tbG RX10) (hB : hp_B D cA A s h H locs) (hM : hp_M l yX8_hasSeen prog_10_method_4_code 2 (Option.some FieldType.boolean) rmX8_hasSeen D cA h (.ref b :: As) Qc) (hkb : h.1 b = 9) (hR : rmX8_hasSeen.frames + 1 ≤ R.frames ∧ 8 + (2 + 11) + rmX8_hasSeen.locals ≤ R.locals) (hn : As.length = 1) (hls : ls.size = nL) (hst : st0 = As.reverse ++ .ref b :: rest) (hW : (rest.map fun v => v.category).sum ≤ 8) (hf : cells + rmX8_hasSeen.cells ≤ R.cells ∧ slots + rmX8_hasSeen.slots ≤ R.slots) (hdg : decode cc pc = .ok (.invokevirtual 281, 3)) :
    va_Run p l e R s m args below meth c H locs cells slots rmX8_hasSeen.cells rmX8_hasSeen.slots (F0 m pc ls st0) rest (Qc (Value.ref b :: As).toArray) (hp_A h) :=
  hp_runV cx hB hM (ci := 8) rfl (by decide) hkb qw_649 qw_646 qw_647 qw_648 qw_9 (by decide +kernel) hR hn hls hst hW hf hdg
theorem gf_X10_284 (cx : CallFix p m c cc nL s args tbG RX10) (hB : hp_B D cA A s h H locs) (hka : h.1 a = 1) (hdg : decode cc pc = .ok (.getfield 284, 3)) (kk : W p l e R s m args below meth c H locs cells slots Q (F0 m (pc + 3) ls (.int (h.2.2.1 a 0) :: rest))) : W p l e R s m args below meth c H locs cells slots Q (F0 m pc ls (.ref a :: rest)) :=
  hp_getI cx hB (ci := 0) 0 rfl inX0 (by decide) rfl (by decide) rfl qw_424 hka hdg kk
theorem cl_X10_287 {As st0 : List Value} {b : Nat} {Qc : Array Value → State → Outcome → State → Prop} (cx : CallFix p m c cc nL s args tbG RX10) (hB : hp_B D cA A s h H locs) (hM : hp_M l yX5_firstLineFor prog_7_method_4_code 3 (Option.some FieldType.int) rmX5_firstLineFor D cA h (.ref b :: As) Qc) (hkb : h.1 b = 6) (hR : rmX5_firstLineFor.frames + 1 ≤ R.frames ∧ 8 + (3 + 11) + rmX5_firstLineFor.locals ≤ R.locals) (hn : As.length = 1) (hls : ls.size = nL) (hst : st0 = As.reverse ++ .ref b :: rest) (hW : (rest.map fun v => v.category).sum ≤ 8) (hf : cells + rmX5_firstLineFor.cells ≤ R.cells ∧ slots + rmX5_firstLineFor.slots ≤ R.slots) (hdg : decode cc pc = .ok (.invokevirtual 287, 3)) :
    va_Run p l e R s m args below meth c H locs cells slots rmX5_firstLineFor.cells rmX5_firstLineFor.slots (F0 m pc ls st0) rest (Qc (Value.ref b :: As).toArray) (hp_A h) :=
  hp_runV cx hB hM (ci := 5) rfl (by decide) hkb qw_533 qw_650 qw_531 qw_532 qw_11 (by decide +kernel) hR hn hls hst hW hf hdg
theorem cl_X10_290 {As st0 : List Value} {b : Nat} {Qc : Array Value → State → Outcome → State → Prop} (cx : CallFix p m c cc nL s args tbG RX10) (hB : hp_B D cA A s h H locs) (hM : hp_M l yX4_addCallers prog_6_method_3_code 3 none rmX4_addCallers D cA h (.ref b :: As) Qc) (hkb : h.1 b = 5) (hR : rmX4_addCallers.frames + 1 ≤ R.frames ∧ 8 + (3 + 11) + rmX4_addCallers.locals ≤ R.locals) (hn : As.length = 2) (hls : ls.size = nL) (hst : st0 = As.reverse ++ .ref b :: rest) (hW : (rest.map fun v => v.category).sum ≤ 8) (hf : cells + rmX4_addCallers.cells ≤ R.cells ∧ slots + rmX4_addCallers.slots ≤ R.slots) (hdg : decode cc pc = .ok (.invokevirtual 290, 3)) :
    va_Run p l e R s m args below meth c H locs cells slots rmX4_addCallers.cells rmX4_addCallers.slots (F0 m pc ls st0) rest (Qc (Value.ref b :: As).toArray) (hp_A h) :=
  hp_runV cx hB hM (ci := 4) rfl (by decide) hkb qw_654 qw_651 qw_652 qw_653 qw_6 (by decide +kernel) hR hn hls hst hW hf hdg
end
abbrev yX10_countListeners : MethodName := ⟨"SpokenMenus", "countListeners", "(ILSpokenMenus$Place;)V"⟩
theorem dX10_countListeners_0 : decode prog_1_method_35_code 0 = .ok (.aload_n 0, 1) := by decide +kernel
theorem dX10_countListeners_1 : decode prog_1_method_35_code 1 = .ok (.getfield 40, 3) := by decide +kernel
theorem dX10_countListeners_4 : decode prog_1_method_35_code 4 = .ok (.invokevirtual 272, 3) := by decide +kernel
theorem dX10_countListeners_7 : decode prog_1_method_35_code 7 = .ok (.iconst 0, 1) := by decide +kernel
theorem dX10_countListeners_8 : decode prog_1_method_35_code 8 = .ok (.istore_n 3, 1) := by decide +kernel
theorem dX10_countListeners_9 : decode prog_1_method_35_code 9 = .ok (.iload_n 3, 1) := by decide +kernel
theorem dX10_countListeners_10 : decode prog_1_method_35_code 10 = .ok (.aload_n 0, 1) := by decide +kernel
theorem dX10_countListeners_11 : decode prog_1_method_35_code 11 = .ok (.getfield 33, 3) := by decide +kernel
theorem dX10_countListeners_14 : decode prog_1_method_35_code 14 = .ok (.getfield 219, 3) := by decide +kernel
theorem dX10_countListeners_17 : decode prog_1_method_35_code 17 = .ok (.if_icmp .ge 81, 3) := by decide +kernel
theorem dX10_countListeners_20 : decode prog_1_method_35_code 20 = .ok (.aload_n 0, 1) := by decide +kernel
theorem dX10_countListeners_21 : decode prog_1_method_35_code 21 = .ok (.getfield 33, 3) := by decide +kernel
theorem dX10_countListeners_24 : decode prog_1_method_35_code 24 = .ok (.getfield 223, 3) := by decide +kernel
theorem dX10_countListeners_27 : decode prog_1_method_35_code 27 = .ok (.iload_n 3, 1) := by decide +kernel
theorem dX10_countListeners_28 : decode prog_1_method_35_code 28 = .ok (.aaload, 1) := by decide +kernel
theorem dX10_countListeners_29 : decode prog_1_method_35_code 29 = .ok (.astore 4, 2) := by decide +kernel
theorem dX10_countListeners_31 : decode prog_1_method_35_code 31 = .ok (.aload 4, 2) := by decide +kernel
theorem dX10_countListeners_33 : decode prog_1_method_35_code 33 = .ok (.getfield 275, 3) := by decide +kernel
theorem dX10_countListeners_36 : decode prog_1_method_35_code 36 = .ok (.ifCond .eq 6, 3) := by decide +kernel
theorem dX10_countListeners_39 : decode prog_1_method_35_code 39 = .ok (.goto 53, 3) := by decide +kernel
theorem dX10_countListeners_42 : decode prog_1_method_35_code 42 = .ok (.aload_n 0, 1) := by decide +kernel
theorem dX10_countListeners_43 : decode prog_1_method_35_code 43 = .ok (.getfield 58, 3) := by decide +kernel
theorem dX10_countListeners_46 : decode prog_1_method_35_code 46 = .ok (.aload_n 0, 1) := by decide +kernel
theorem dX10_countListeners_47 : decode prog_1_method_35_code 47 = .ok (.getfield 10, 3) := by decide +kernel
theorem dX10_countListeners_50 : decode prog_1_method_35_code 50 = .ok (.aconst_null, 1) := by decide +kernel
theorem dX10_countListeners_51 : decode prog_1_method_35_code 51 = .ok (.aload 4, 2) := by decide +kernel
theorem dX10_countListeners_53 : decode prog_1_method_35_code 53 = .ok (.invokevirtual 278, 3) := by decide +kernel
theorem dX10_countListeners_56 : decode prog_1_method_35_code 56 = .ok (.aload_n 0, 1) := by decide +kernel
theorem dX10_countListeners_57 : decode prog_1_method_35_code 57 = .ok (.getfield 58, 3) := by decide +kernel
theorem dX10_countListeners_60 : decode prog_1_method_35_code 60 = .ok (.iload_n 1, 1) := by decide +kernel
theorem dX10_countListeners_61 : decode prog_1_method_35_code 61 = .ok (.invokevirtual 281, 3) := by decide +kernel
theorem dX10_countListeners_64 : decode prog_1_method_35_code 64 = .ok (.ifCond .eq 28, 3) := by decide +kernel
theorem dX10_countListeners_67 : decode prog_1_method_35_code 67 = .ok (.aload_n 0, 1) := by decide +kernel
theorem dX10_countListeners_68 : decode prog_1_method_35_code 68 = .ok (.getfield 40, 3) := by decide +kernel
theorem dX10_countListeners_71 : decode prog_1_method_35_code 71 = .ok (.aload_n 2, 1) := by decide +kernel
theorem dX10_countListeners_72 : decode prog_1_method_35_code 72 = .ok (.aload 4, 2) := by decide +kernel
theorem dX10_countListeners_74 : decode prog_1_method_35_code 74 = .ok (.getfield 284, 3) := by decide +kernel
theorem dX10_countListeners_77 : decode prog_1_method_35_code 77 = .ok (.invokevirtual 287, 3) := by decide +kernel
theorem dX10_countListeners_80 : decode prog_1_method_35_code 80 = .ok (.aload_n 0, 1) := by decide +kernel
theorem dX10_countListeners_81 : decode prog_1_method_35_code 81 = .ok (.getfield 33, 3) := by decide +kernel
theorem dX10_countListeners_84 : decode prog_1_method_35_code 84 = .ok (.getfield 227, 3) := by decide +kernel
theorem dX10_countListeners_87 : decode prog_1_method_35_code 87 = .ok (.iload_n 3, 1) := by decide +kernel
theorem dX10_countListeners_88 : decode prog_1_method_35_code 88 = .ok (.iaload, 1) := by decide +kernel
theorem dX10_countListeners_89 : decode prog_1_method_35_code 89 = .ok (.invokevirtual 290, 3) := by decide +kernel
theorem dX10_countListeners_92 : decode prog_1_method_35_code 92 = .ok (.iinc 3 1, 3) := by decide +kernel
theorem dX10_countListeners_95 : decode prog_1_method_35_code 95 = .ok (.goto (-86), 3) := by decide +kernel
theorem dX10_countListeners_98 : decode prog_1_method_35_code 98 = .ok (.return_, 1) := by decide +kernel
abbrev rmX10_countListeners : Room := { frames := 5, cells := 0, slots := 0, locals := 118 }
def bX10_countListeners_9  (rc : Nat → Int32 → Option Nat → Int32 → Hp → Option (Unit × Hp)) (t0 : Nat) (v1 : Int32) (w2 : Option Nat) (v3 : Int32) (h : Hp) : Option (Unit × Hp) :=
  gk (h.1 t0) 11 <|
  bd (h.2.2.2.1 t0 3) fun a2 =>
  gk (h.1 a2) 2 <|
  if (h.2.2.1 a2 2) ≤ v3 then
  (some ((), h))
  else
  (bd (h.2.2.2.1 a2 0) fun a6 =>
  gk (h.1 a6) 15 <|
  gd (ix v3 (h.2.1 a6)) <|
  bd (h.2.2.2.1 a6 (Int32.toNatClampNeg v3)) fun a10 =>
  gk (h.1 a10) 1 <|
  if (h.2.2.1 a10 4) = 0 then
  (bd (h.2.2.2.1 t0 7) fun a14 =>
  bd (h.2.2.2.1 t0 0) fun a16 =>
  gk (h.1 a14) 9 <|
  b2 (fX8_goThrough a14 (some a16) none (some a10) h) fun _ g19 =>
  gk (g19.1 t0) 11 <|
  bd (g19.2.2.2.1 t0 7) fun a24 =>
  gk (g19.1 a24) 9 <|
  b2 (fX8_hasSeen a24 v1 g19) fun r29 g27 =>
  if r29 = 0 then
  (nm (v3 + 1) fun x32 =>
  rc t0 v1 w2 x32 g27)
  else
  (gk (g27.1 t0) 11 <|
  bd (g27.2.2.2.1 t0 4) fun a34 =>
  gk (g27.1 a10) 1 <|
  bd w2 fun a37 =>
  gk (g27.1 a37) 6 <|
  b2 (fX5_firstLineFor a37 (g27.2.2.1 a10 0) g27) fun r41 g39 =>
  gk (g39.1 t0) 11 <|
  bd (g39.2.2.2.1 t0 3) fun a44 =>
  gk (g39.1 a44) 2 <|
  bd (g39.2.2.2.1 a44 1) fun a47 =>
  gk (g39.1 a47) 13 <|
  gd (ix v3 (g39.2.1 a47)) <|
  gk (g39.1 a34) 5 <|
  b2 (fX4_addCallers a34 r41 (g39.2.2.1 a47 (Int32.toNatClampNeg v3)) g39) fun _ g52 =>
  nm (v3 + 1) fun x56 =>
  rc t0 v1 (some a37) x56 g52))
  else
  (nm (v3 + 1) fun x57 =>
  rc t0 v1 w2 x57 h))
def fX10_countListeners_9  : Nat → Int32 → Option Nat → Int32 → Hp → Option (Unit × Hp) := fx (bX10_countListeners_9 ) (fun _ _ _ _ _ => none) NF
def fX10_countListeners  (t0 : Nat) (v1 : Int32) (w2 : Option Nat) (h : Hp) : Option (Unit × Hp) :=
  gk (h.1 t0) 11 <|
  bd (h.2.2.2.1 t0 4) fun a2 =>
  gk (h.1 a2) 5 <|
  b2 (fX4_forget a2 h) fun _ g5 =>
  fX10_countListeners_9  t0 v1 w2 0 g5
section
variable {p : Program} {l : Launch} {e : Env} {s : State} {m : MethodId} {args : Array Value} {below : List Frame} {meth : Method} {c : Code} {D : va_G} {cA : Nat → ClassId} {h0 h9 : Hp}
set_option maxHeartbeats 4000000 in
set_option maxRecDepth 100000 in
theorem tX10_countListeners_9  (cx : CallFix p m c prog_1_method_35_code 5 s args tbG RX10) (hr : meth.sig.returnType = none) (hlk : meth.locks = false)  (n : Nat) : ∀ (t0 : Nat) (v1 : Int32) (w2 : Option Nat) (v3 : Int32) (h : Hp) (H : Heap) (locs : List Loc) (ls : Array Slot), hp_B D cA (hp_A h0) s h H locs → lv_has ls 5 [(0, .ref t0), (1, .int v1), (2, va_rf w2), (3, .int v3)] → fx (bX10_countListeners_9 ) (fun _ _ _ _ _ => none) n t0 v1 w2 v3 h = some ((), h9) → W p l e rmX10_countListeners s m args below meth c H locs 0 0 (MQ below (hp_Qv D cA h0 h9) args s 0 0 (hp_A h0)) (F0 m 9 ls []) := by
  obtain ⟨hx, hb, -⟩ := id cx
  induction n with
  | zero => intro t0 v1 w2 v3 h H locs ls hB hl hf; cases hf
  | succ n ih =>
    intro t0 v1 w2 v3 h H locs ls hB hl hf
    replace hf : bX10_countListeners_9  (fx (bX10_countListeners_9 ) (fun _ _ _ _ _ => none) n) t0 v1 w2 v3 h = some ((), h9) := hf
    unfold bX10_countListeners_9 at hf
    refine lv_iload_n hx hb dX10_countListeners_9 rfl (lv_at hl 3 rfl) ?_
    refine lv_aload_n hx hb dX10_countListeners_10 rfl (lv_at hl 0 rfl) ?_
    obtain ⟨k1, hf⟩ := gk_ok hf
    obtain ⟨a2, q3, hf⟩ := bd_ok hf
    refine gf_X10_33 cx hB k1 q3 dX10_countListeners_11 ?_
    obtain ⟨k4, hf⟩ := gk_ok hf
    refine gf_X10_219 cx hB k4 dX10_countListeners_14 ?_
    refine lv_icmp_ge (tgt := 98) hx hb dX10_countListeners_17 (by decide) (fun c5 => ?_) (fun c5 => ?_)
    · replace hf := it_t c5 hf
      obtain ⟨-, rfl⟩ := rt_ok hf
      exact hp_vret cx hB hr hlk (Nat.le_of_ble_eq_true rfl) (Nat.le_of_ble_eq_true rfl) dX10_countListeners_98
    · replace hf := it_f c5 hf
      refine lv_aload_n hx hb dX10_countListeners_20 rfl (lv_at hl 0 rfl) ?_
      refine gf_X10_33 cx hB k1 q3 dX10_countListeners_21 ?_
      obtain ⟨a6, q7, hf⟩ := bd_ok hf
      refine gf_X10_223 cx hB k4 q7 dX10_countListeners_24 ?_
      refine lv_iload_n hx hb dX10_countListeners_27 rfl (lv_at hl 3 rfl) ?_
      obtain ⟨k8, hf⟩ := gk_ok hf
      obtain ⟨j9, hf⟩ := gd_ok hf
      obtain ⟨a10, q11, hf⟩ := bd_ok hf
      refine hp_aald cx hB 15 (.object RX0) (by decide) rfl rfl k8 j9 (o := some a10) q11.symm dX10_countListeners_28 ?_
      refine lv_astore (lv' := [(4, .ref a10), (0, .ref t0), (1, .int v1), (2, va_rf w2), (3, .int v3)]) hx hb dX10_countListeners_29 hl (by decide) rfl (fun ls hl => ?_)
      refine lv_aload hx hb dX10_countListeners_31 (lv_at hl 0 rfl) ?_
      obtain ⟨k12, hf⟩ := gk_ok hf
      refine gf_X10_275 cx hB k12 dX10_countListeners_33 ?_
      refine lv_if_eq (tgt := 42) hx hb dX10_countListeners_36 (by decide) (fun c13 => ?_) (fun c13 => ?_)
      · replace hf := it_t c13 hf
        refine lv_aload_n hx hb dX10_countListeners_42 rfl (lv_at hl 1 rfl) ?_
        obtain ⟨a14, q15, hf⟩ := bd_ok hf
        refine gf_X10_58 cx hB k1 q15 dX10_countListeners_43 ?_
        refine lv_aload_n hx hb dX10_countListeners_46 rfl (lv_at hl 1 rfl) ?_
        obtain ⟨a16, q17, hf⟩ := bd_ok hf
        refine gf_X10_10 cx hB k1 q17 dX10_countListeners_47 ?_
        refine lv_null hx hb dX10_countListeners_50 ?_
        refine lv_aload hx hb dX10_countListeners_51 (lv_at hl 0 rfl) ?_
        obtain ⟨k18, hf⟩ := gk_ok hf
        obtain ⟨uu, g19, m20, hf⟩ := b2_ok hf
        refine hp_cV0 (cl_X10_278 cx hB (cX8_goThrough l D cA a14 (some a16) none (some a10) h _ g19 m20) k18 ⟨Nat.le_of_ble_eq_true rfl, Nat.le_of_ble_eq_true rfl⟩ rfl hl.1 rfl (Nat.le_of_ble_eq_true rfl) ⟨Nat.le_of_ble_eq_true rfl, Nat.le_of_ble_eq_true rfl⟩ dX10_countListeners_53) rfl rfl hB (fun H locs hB => ?_)
        refine lv_aload_n hx hb dX10_countListeners_56 rfl (lv_at hl 1 rfl) ?_
        obtain ⟨k23, hf⟩ := gk_ok hf
        obtain ⟨a24, q25, hf⟩ := bd_ok hf
        refine gf_X10_58 cx hB k23 q25 dX10_countListeners_57 ?_
        refine lv_iload_n hx hb dX10_countListeners_60 rfl (lv_at hl 2 rfl) ?_
        obtain ⟨k26, hf⟩ := gk_ok hf
        obtain ⟨r29, g27, m28, hf⟩ := b2_ok hf
        refine hp_cI0 (cl_X10_281 cx hB (cX8_hasSeen l D cA a24 v1 g19 _ g27 m28) k26 ⟨Nat.le_of_ble_eq_true rfl, Nat.le_of_ble_eq_true rfl⟩ rfl hl.1 rfl (Nat.le_of_ble_eq_true rfl) ⟨Nat.le_of_ble_eq_true rfl, Nat.le_of_ble_eq_true rfl⟩ dX10_countListeners_61) rfl rfl hB (fun H locs hB => ?_)
        refine lv_if_eq (tgt := 92) hx hb dX10_countListeners_64 (by decide) (fun c31 => ?_) (fun c31 => ?_)
        · replace hf := it_t c31 hf
          obtain ⟨x32, ex32, hf⟩ := nm_ok hf
          refine lv_iinc (v := x32) (lv' := [(3, .int x32), (4, .ref a10), (0, .ref t0), (1, .int v1), (2, va_rf w2)]) hx hb dX10_countListeners_92 hl (k := 4) rfl (by rw [ex32]; rfl) (by decide) (by cases w2 <;> rfl) (fun ls hl => ?_)
          refine lv_goto (tgt := 9) hx hb dX10_countListeners_95 (by decide) ?_
          exact ih t0 v1 w2 x32 g27 _ _ _ hB (lv_sub hl [2, 3, 4, 0] rfl) hf
        · replace hf := it_f c31 hf
          refine lv_aload_n hx hb dX10_countListeners_67 rfl (lv_at hl 1 rfl) ?_
          obtain ⟨k33, hf⟩ := gk_ok hf
          obtain ⟨a34, q35, hf⟩ := bd_ok hf
          refine gf_X10_40 cx hB k33 q35 dX10_countListeners_68 ?_
          refine lq_aload_n hx hb dX10_countListeners_71 rfl (lv_at hl 3 rfl) ?_
          refine lv_aload hx hb dX10_countListeners_72 (lv_at hl 0 rfl) ?_
          obtain ⟨k36, hf⟩ := gk_ok hf
          refine gf_X10_284 cx hB k36 dX10_countListeners_74 ?_
          obtain ⟨a37, eo, hf⟩ := bd_ok hf
          subst eo
          obtain ⟨k38, hf⟩ := gk_ok hf
          obtain ⟨r41, g39, m40, hf⟩ := b2_ok hf
          refine hp_cI0 (cl_X10_287 cx hB (cX5_firstLineFor l D cA a37 (g27.2.2.1 a10 0) g27 _ g39 m40) k38 ⟨Nat.le_of_ble_eq_true rfl, Nat.le_of_ble_eq_true rfl⟩ rfl hl.1 rfl (Nat.le_of_ble_eq_true rfl) ⟨Nat.le_of_ble_eq_true rfl, Nat.le_of_ble_eq_true rfl⟩ dX10_countListeners_77) rfl rfl hB (fun H locs hB => ?_)
          refine lv_aload_n hx hb dX10_countListeners_80 rfl (lv_at hl 1 rfl) ?_
          obtain ⟨k43, hf⟩ := gk_ok hf
          obtain ⟨a44, q45, hf⟩ := bd_ok hf
          refine gf_X10_33 cx hB k43 q45 dX10_countListeners_81 ?_
          obtain ⟨k46, hf⟩ := gk_ok hf
          obtain ⟨a47, q48, hf⟩ := bd_ok hf
          refine gf_X10_227 cx hB k46 q48 dX10_countListeners_84 ?_
          refine lv_iload_n hx hb dX10_countListeners_87 rfl (lv_at hl 4 rfl) ?_
          obtain ⟨k49, hf⟩ := gk_ok hf
          obtain ⟨j50, hf⟩ := gd_ok hf
          refine hp_iald cx hB k49 j50 dX10_countListeners_88 ?_
          obtain ⟨k51, hf⟩ := gk_ok hf
          obtain ⟨uu, g52, m53, hf⟩ := b2_ok hf
          refine hp_cV0 (cl_X10_290 cx hB (cX4_addCallers l D cA a34 r41 (g39.2.2.1 a47 (Int32.toNatClampNeg v3)) g39 _ g52 m53) k51 ⟨Nat.le_of_ble_eq_true rfl, Nat.le_of_ble_eq_true rfl⟩ rfl hl.1 rfl (Nat.le_of_ble_eq_true rfl) ⟨Nat.le_of_ble_eq_true rfl, Nat.le_of_ble_eq_true rfl⟩ dX10_countListeners_89) rfl rfl hB (fun H locs hB => ?_)
          obtain ⟨x56, ex56, hf⟩ := nm_ok hf
          refine lv_iinc (v := x56) (lv' := [(3, .int x56), (4, .ref a10), (0, .ref t0), (1, .int v1), (2, .ref a37)]) hx hb dX10_countListeners_92 hl (k := 4) rfl (by rw [ex56]; rfl) (by decide) rfl (fun ls hl => ?_)
          refine lv_goto (tgt := 9) hx hb dX10_countListeners_95 (by decide) ?_
          exact ih t0 v1 (some a37) x56 g52 _ _ _ hB (lv_sub hl [2, 3, 4, 0] rfl) hf
      · replace hf := it_f c13 hf
        refine lv_goto (tgt := 92) hx hb dX10_countListeners_39 (by decide) ?_
        obtain ⟨x57, ex57, hf⟩ := nm_ok hf
        refine lv_iinc (v := x57) (lv' := [(3, .int x57), (4, .ref a10), (0, .ref t0), (1, .int v1), (2, va_rf w2)]) hx hb dX10_countListeners_92 hl (k := 4) rfl (by rw [ex57]; rfl) (by decide) (by cases w2 <;> rfl) (fun ls hl => ?_)
        refine lv_goto (tgt := 9) hx hb dX10_countListeners_95 (by decide) ?_
        exact ih t0 v1 w2 x57 h _ _ _ hB (lv_sub hl [2, 3, 4, 0] rfl) hf
set_option maxHeartbeats 4000000 in
set_option maxRecDepth 100000 in
theorem tX10_countListeners_0  (cx : CallFix p m c prog_1_method_35_code 5 s args tbG RX10) (hr : meth.sig.returnType = none) (hlk : meth.locks = false)  (t0 : Nat) (v1 : Int32) (w2 : Option Nat) (h : Hp) (H : Heap) (locs : List Loc) (ls : Array Slot) (hB : hp_B D cA (hp_A h0) s h H locs) (hl : lv_has ls 5 [(0, .ref t0), (1, .int v1), (2, va_rf w2)]) (hf : fX10_countListeners  t0 v1 w2 h = some ((), h9)) : W p l e rmX10_countListeners s m args below meth c H locs 0 0 (MQ below (hp_Qv D cA h0 h9) args s 0 0 (hp_A h0)) (F0 m 0 ls []) := by
  obtain ⟨hx, hb, -⟩ := id cx
  unfold fX10_countListeners at hf
  refine lv_aload_n hx hb dX10_countListeners_0 rfl (lv_at hl 0 rfl) ?_
  obtain ⟨k1, hf⟩ := gk_ok hf
  obtain ⟨a2, q3, hf⟩ := bd_ok hf
  refine gf_X10_40 cx hB k1 q3 dX10_countListeners_1 ?_
  obtain ⟨k4, hf⟩ := gk_ok hf
  obtain ⟨uu, g5, m6, hf⟩ := b2_ok hf
  refine hp_cV0 (cl_X10_272 cx hB (cX4_forget l D cA a2 h _ g5 m6) k4 ⟨Nat.le_of_ble_eq_true rfl, Nat.le_of_ble_eq_true rfl⟩ rfl hl.1 rfl (Nat.le_of_ble_eq_true rfl) ⟨Nat.le_of_ble_eq_true rfl, Nat.le_of_ble_eq_true rfl⟩ dX10_countListeners_4) rfl rfl hB (fun H locs hB => ?_)
  refine lv_iconst (v := 0) hx hb dX10_countListeners_7 (by decide) ?_
  refine lv_istore_n (lv' := [(3, .int 0), (0, .ref t0), (1, .int v1), (2, va_rf w2)]) hx hb dX10_countListeners_8 rfl hl (by decide) (by cases w2 <;> rfl) (fun ls hl => ?_)
  exact tX10_countListeners_9 cx hr hlk  NF t0 v1 w2 0 g5 _ _ _ hB (lv_sub hl [1, 2, 3, 0] rfl) hf
end
set_option maxHeartbeats 4000000 in
set_option maxRecDepth 100000 in
theorem cX10_countListeners (l : Launch) (D : va_G) (cA : Nat → ClassId) (t0 : Nat) (v1 : Int32) (w2 : Option Nat) (h : Hp) (_u : Unit) (h9 : Hp) (hf : fX10_countListeners t0 v1 w2 h = some (_u, h9)) : hp_M l yX10_countListeners prog_1_method_35_code 5 none rmX10_countListeners D cA h [.ref t0, .int v1, va_rf w2] (hp_Qv D cA h h9) := by
  refine Met.ofW (cc := prog_1_method_35_code) (maxL := 5) (ret := none) (by decide) rfl ?_
  intro p e s m args below meth c s₁ B hml hv
  obtain ⟨rfl, hU⟩ := hv
  have hts := atoms_spec (ws := Cond.code yX10_countListeners prog_1_method_35_code 5 none :: tbG) B.pre
  have hl := lv_entry ([.ref t0, .int v1, va_rf w2]) (n := 5) (by simp [lg_sl, va_rf_cat, cat_i, cat_r, cat_n])
  rw [show lv_args 0 ([.ref t0, .int v1, va_rf w2]) = [(0, .ref t0), (1, .int v1), (2, va_rf w2)] by simp [lv_args, va_rf_cat, cat_i, cat_r, cat_n]] at hl
  rw [lg_entry_eq]
  generalize (lg_sl ([.ref t0, .int v1, va_rf w2]) ++ List.replicate (5 - (lg_sl ([.ref t0, .int v1, va_rf w2])).length) Slot.unset).toArray = ls at hl ⊢
  exact tX10_countListeners_0 ⟨B.exec, B.bytes, hml, findClass_of_methodNamed B.named, fun w hw => hts w (List.mem_cons_of_mem _ hw)⟩ B.returns B.notSynchronized t0 v1 w2 h _ _ _ (hp_B.entry hU) hl hf
