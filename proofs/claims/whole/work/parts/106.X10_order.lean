section
variable {p : Program} {l : Launch} {e : Env} {R : Room} {s : State} {m : MethodId} {args : Array Value} {below : List Frame} {meth : Method} {c : Code} {H : Heap} {locs : List Loc} {cells slots : Nat} {Q : State → Prop}
variable {cc : ByteArray} {pc nL : Nat} {ls : Array Slot} {rest : List Value} {D : va_G} {cA : Nat → ClassId} {A : Nat → Prop} {a : Nat} {h : Hp}
theorem cl_X10_230 {As st0 : List Value} {b : Nat} {Qc : Array Value → State → Outcome → State → Prop} (cx : CallFix p m c cc nL s args tbG RX10) (hB : hp_B D cA A s h H locs) (hM : hp_M l yX10_countListeners prog_1_method_35_code 5 none rmX10_countListeners D cA h (.ref b :: As) Qc) (hkb : h.1 b = 11) (hR : rmX10_countListeners.frames + 1 ≤ R.frames ∧ 8 + (5 + 11) + rmX10_countListeners.locals ≤ R.locals) (hn : As.length = 2) (hls : ls.size = nL) (hst : st0 = As.reverse ++ .ref b :: rest) (hW : (rest.map fun v => v.category).sum ≤ 8) (hf : cells + rmX10_countListeners.cells ≤ R.cells ∧ slots + rmX10_countListeners.slots ≤ R.slots) (hdg : decode cc pc = .ok (.invokevirtual 230, 3)) :
    va_Run p l e R s m args below meth c H locs cells slots rmX10_countListeners.cells rmX10_countListeners.slots (F0 m pc ls st0) rest (Qc (Value.ref b :: As).toArray) (hp_A h) :=
  hp_runV cx hB hM (ci := 10) rfl (by decide) hkb qw_639 qw_636 qw_638 qp_11 qw_1 (by decide +kernel) hR hn hls hst hW hf hdg
theorem cl_X10_237 {As st0 : List Value} {b : Nat} {Qc : Array Value → State → Outcome → State → Prop} (cx : CallFix p m c cc nL s args tbG RX10) (hB : hp_B D cA A s h H locs) (hM : hp_M l yX4_sort prog_6_method_4_code 4 none rmX4_sort D cA h (.ref b :: As) Qc) (hkb : h.1 b = 5) (hR : rmX4_sort.frames + 1 ≤ R.frames ∧ 8 + (4 + 11) + rmX4_sort.locals ≤ R.locals) (hn : As.length = 1) (hls : ls.size = nL) (hst : st0 = As.reverse ++ .ref b :: rest) (hW : (rest.map fun v => v.category).sum ≤ 8) (hf : cells + rmX4_sort.cells ≤ R.cells ∧ slots + rmX4_sort.slots ≤ R.slots) (hdg : decode cc pc = .ok (.invokevirtual 237, 3)) :
    va_Run p l e R s m args below meth c H locs cells slots rmX4_sort.cells rmX4_sort.slots (F0 m pc ls st0) rest (Qc (Value.ref b :: As).toArray) (hp_A h) :=
  hp_runV cx hB hM (ci := 4) rfl (by decide) hkb qw_662 qw_659 qw_660 qw_661 qw_6 (by decide +kernel) hR hn hls hst hW hf hdg
theorem gf_X10_244 (cx : CallFix p m c cc nL s args tbG RX10) (hB : hp_B D cA A s h H locs) (hka : h.1 a = 5) {b : Nat} (ho : h.2.2.2.1 a 1 = some b) (hdg : decode cc pc = .ok (.getfield 244, 3)) (kk : W p l e R s m args below meth c H locs cells slots Q (F0 m (pc + 3) ls (.ref b :: rest))) : W p l e R s m args below meth c H locs cells slots Q (F0 m pc ls (.ref a :: rest)) :=
  hp_getR cx hB (ci := 4) 1 rfl inX4 (by decide) rfl (by decide) rfl qw_100 hka (o := some b) ho.symm hdg kk
theorem cl_X10_241 {As st0 : List Value} {b : Nat} {Qc : Array Value → State → Outcome → State → Prop} (cx : CallFix p m c cc nL s args tbG RX10) (hB : hp_B D cA A s h H locs) (hM : hp_M l yX4_costSorted prog_6_method_6_code 5 (Option.some FieldType.int) rmX4_costSorted D cA h (.ref b :: As) Qc) (hkb : h.1 b = 5) (hR : rmX4_costSorted.frames + 1 ≤ R.frames ∧ 8 + (5 + 11) + rmX4_costSorted.locals ≤ R.locals) (hn : As.length = 1) (hls : ls.size = nL) (hst : st0 = As.reverse ++ .ref b :: rest) (hW : (rest.map fun v => v.category).sum ≤ 8) (hf : cells + rmX4_costSorted.cells ≤ R.cells ∧ slots + rmX4_costSorted.slots ≤ R.slots) (hdg : decode cc pc = .ok (.invokevirtual 241, 3)) :
    va_Run p l e R s m args below meth c H locs cells slots rmX4_costSorted.cells rmX4_costSorted.slots (F0 m pc ls st0) rest (Qc (Value.ref b :: As).toArray) (hp_A h) :=
  hp_runV cx hB hM (ci := 4) rfl (by decide) hkb qw_670 qw_667 qw_668 qw_669 qw_6 (by decide +kernel) hR hn hls hst hW hf hdg
theorem cl_X10_234 {As st0 : List Value} {b : Nat} {Qc : Array Value → State → Outcome → State → Prop} (cx : CallFix p m c cc nL s args tbG RX10) (hB : hp_B D cA A s h H locs) (hM : hp_M l yX4_costAsTheyStand prog_6_method_5_code 5 (Option.some FieldType.int) rmX4_costAsTheyStand D cA h (.ref b :: As) Qc) (hkb : h.1 b = 5) (hR : rmX4_costAsTheyStand.frames + 1 ≤ R.frames ∧ 8 + (5 + 11) + rmX4_costAsTheyStand.locals ≤ R.locals) (hn : As.length = 1) (hls : ls.size = nL) (hst : st0 = As.reverse ++ .ref b :: rest) (hW : (rest.map fun v => v.category).sum ≤ 8) (hf : cells + rmX4_costAsTheyStand.cells ≤ R.cells ∧ slots + rmX4_costAsTheyStand.slots ≤ R.slots) (hdg : decode cc pc = .ok (.invokevirtual 234, 3)) :
    va_Run p l e R s m args below meth c H locs cells slots rmX4_costAsTheyStand.cells rmX4_costAsTheyStand.slots (F0 m pc ls st0) rest (Qc (Value.ref b :: As).toArray) (hp_A h) :=
  hp_runV cx hB hM (ci := 4) rfl (by decide) hkb qw_658 qw_655 qw_656 qw_657 qw_6 (by decide +kernel) hR hn hls hst hW hf hdg
end
abbrev yX10_order : MethodName := ⟨"SpokenMenus", "order", "(II)I"⟩
theorem dX10_order_0 : decode prog_1_method_22_code 0 = .ok (.aload_n 0, 1) := by decide +kernel
theorem dX10_order_1 : decode prog_1_method_22_code 1 = .ok (.getfield 10, 3) := by decide +kernel
theorem dX10_order_4 : decode prog_1_method_22_code 4 = .ok (.iload_n 1, 1) := by decide +kernel
theorem dX10_order_5 : decode prog_1_method_22_code 5 = .ok (.invokevirtual 86, 3) := by decide +kernel
theorem dX10_order_8 : decode prog_1_method_22_code 8 = .ok (.astore_n 3, 1) := by decide +kernel
theorem dX10_order_9 : decode prog_1_method_22_code 9 = .ok (.aload_n 3, 1) := by decide +kernel
theorem dX10_order_10 : decode prog_1_method_22_code 10 = .ok (.ifnull 9, 3) := by decide +kernel
theorem dX10_order_13 : decode prog_1_method_22_code 13 = .ok (.iload_n 2, 1) := by decide +kernel
theorem dX10_order_14 : decode prog_1_method_22_code 14 = .ok (.bipush (-2), 2) := by decide +kernel
theorem dX10_order_16 : decode prog_1_method_22_code 16 = .ok (.if_icmp .ge 5, 3) := by decide +kernel
theorem dX10_order_19 : decode prog_1_method_22_code 19 = .ok (.iconst (-1), 1) := by decide +kernel
theorem dX10_order_20 : decode prog_1_method_22_code 20 = .ok (.ireturn, 1) := by decide +kernel
theorem dX10_order_21 : decode prog_1_method_22_code 21 = .ok (.iload_n 2, 1) := by decide +kernel
theorem dX10_order_22 : decode prog_1_method_22_code 22 = .ok (.aload_n 3, 1) := by decide +kernel
theorem dX10_order_23 : decode prog_1_method_22_code 23 = .ok (.getfield 94, 3) := by decide +kernel
theorem dX10_order_26 : decode prog_1_method_22_code 26 = .ok (.if_icmp .lt 6, 3) := by decide +kernel
theorem dX10_order_29 : decode prog_1_method_22_code 29 = .ok (.bipush (-4), 2) := by decide +kernel
theorem dX10_order_31 : decode prog_1_method_22_code 31 = .ok (.ireturn, 1) := by decide +kernel
theorem dX10_order_32 : decode prog_1_method_22_code 32 = .ok (.aload_n 0, 1) := by decide +kernel
theorem dX10_order_33 : decode prog_1_method_22_code 33 = .ok (.iload_n 1, 1) := by decide +kernel
theorem dX10_order_34 : decode prog_1_method_22_code 34 = .ok (.aload_n 3, 1) := by decide +kernel
theorem dX10_order_35 : decode prog_1_method_22_code 35 = .ok (.invokevirtual 230, 3) := by decide +kernel
theorem dX10_order_38 : decode prog_1_method_22_code 38 = .ok (.iload_n 2, 1) := by decide +kernel
theorem dX10_order_39 : decode prog_1_method_22_code 39 = .ok (.iconst (-1), 1) := by decide +kernel
theorem dX10_order_40 : decode prog_1_method_22_code 40 = .ok (.if_icmp .ne 12, 3) := by decide +kernel
theorem dX10_order_43 : decode prog_1_method_22_code 43 = .ok (.aload_n 0, 1) := by decide +kernel
theorem dX10_order_44 : decode prog_1_method_22_code 44 = .ok (.getfield 40, 3) := by decide +kernel
theorem dX10_order_47 : decode prog_1_method_22_code 47 = .ok (.aload_n 3, 1) := by decide +kernel
theorem dX10_order_48 : decode prog_1_method_22_code 48 = .ok (.invokevirtual 234, 3) := by decide +kernel
theorem dX10_order_51 : decode prog_1_method_22_code 51 = .ok (.ireturn, 1) := by decide +kernel
theorem dX10_order_52 : decode prog_1_method_22_code 52 = .ok (.aload_n 0, 1) := by decide +kernel
theorem dX10_order_53 : decode prog_1_method_22_code 53 = .ok (.getfield 40, 3) := by decide +kernel
theorem dX10_order_56 : decode prog_1_method_22_code 56 = .ok (.aload_n 3, 1) := by decide +kernel
theorem dX10_order_57 : decode prog_1_method_22_code 57 = .ok (.invokevirtual 237, 3) := by decide +kernel
theorem dX10_order_60 : decode prog_1_method_22_code 60 = .ok (.iload_n 2, 1) := by decide +kernel
theorem dX10_order_61 : decode prog_1_method_22_code 61 = .ok (.bipush (-2), 2) := by decide +kernel
theorem dX10_order_63 : decode prog_1_method_22_code 63 = .ok (.if_icmp .ne 14, 3) := by decide +kernel
theorem dX10_order_66 : decode prog_1_method_22_code 66 = .ok (.aload_n 0, 1) := by decide +kernel
theorem dX10_order_67 : decode prog_1_method_22_code 67 = .ok (.getfield 40, 3) := by decide +kernel
theorem dX10_order_70 : decode prog_1_method_22_code 70 = .ok (.aload_n 3, 1) := by decide +kernel
theorem dX10_order_71 : decode prog_1_method_22_code 71 = .ok (.invokevirtual 241, 3) := by decide +kernel
theorem dX10_order_74 : decode prog_1_method_22_code 74 = .ok (.goto 12, 3) := by decide +kernel
theorem dX10_order_77 : decode prog_1_method_22_code 77 = .ok (.aload_n 0, 1) := by decide +kernel
theorem dX10_order_78 : decode prog_1_method_22_code 78 = .ok (.getfield 40, 3) := by decide +kernel
theorem dX10_order_81 : decode prog_1_method_22_code 81 = .ok (.getfield 244, 3) := by decide +kernel
theorem dX10_order_84 : decode prog_1_method_22_code 84 = .ok (.iload_n 2, 1) := by decide +kernel
theorem dX10_order_85 : decode prog_1_method_22_code 85 = .ok (.iaload, 1) := by decide +kernel
theorem dX10_order_86 : decode prog_1_method_22_code 86 = .ok (.ireturn, 1) := by decide +kernel
abbrev rmX10_order : Room := { frames := 6, cells := 0, slots := 0, locals := 142 }
def fX10_order  (t0 : Nat) (v1 : Int32) (v2 : Int32) (h : Hp) : Option (Int32 × Hp) :=
  gk (h.1 t0) 11 <|
  bd (h.2.2.2.1 t0 0) fun a2 =>
  gk (h.1 a2) 3 <|
  b2 (fX2_menuAt a2 v1 h) fun o8 g5 =>
  rn o8
  (some ((-1), g5))
  (fun a9 =>
  if (-2) ≤ v2 then
  (gk (g5.1 a9) 6 <|
  if v2 < (g5.2.2.1 a9 6) then
  (gk (g5.1 t0) 11 <|
  b2 (fX10_countListeners t0 v1 (some a9) g5) fun _ g14 =>
  if v2 = (-1) then
  (gk (g14.1 t0) 11 <|
  bd (g14.2.2.2.1 t0 4) fun a45 =>
  gk (g14.1 a45) 5 <|
  b2 (fX4_costAsTheyStand a45 (some a9) g14) fun r50 g48 =>
  some (r50, g48))
  else
  (gk (g14.1 t0) 11 <|
  bd (g14.2.2.2.1 t0 4) fun a20 =>
  gk (g14.1 a20) 5 <|
  b2 (fX4_sort a20 (some a9) g14) fun _ g23 =>
  if v2 = (-2) then
  (gk (g23.1 t0) 11 <|
  bd (g23.2.2.2.1 t0 4) fun a37 =>
  gk (g23.1 a37) 5 <|
  b2 (fX4_costSorted a37 (some a9) g23) fun r42 g40 =>
  some (r42, g40))
  else
  (gk (g23.1 t0) 11 <|
  bd (g23.2.2.2.1 t0 4) fun a29 =>
  gk (g23.1 a29) 5 <|
  bd (g23.2.2.2.1 a29 1) fun a32 =>
  gk (g23.1 a32) 13 <|
  gd (ix v2 (g23.2.1 a32)) <|
  some (g23.2.2.1 a32 (Int32.toNatClampNeg v2), g23))))
  else
  (some ((-4), g5)))
  else
  (some ((-1), g5)))
section
variable {p : Program} {l : Launch} {e : Env} {s : State} {m : MethodId} {args : Array Value} {below : List Frame} {meth : Method} {c : Code} {D : va_G} {cA : Nat → ClassId} {h0 h9 : Hp}
set_option maxHeartbeats 4000000 in
set_option maxRecDepth 100000 in
theorem tX10_order_0  {r : Int32} (cx : CallFix p m c prog_1_method_22_code 4 s args tbG RX10) (hr : meth.sig.returnType = (Option.some FieldType.int)) (hlk : meth.locks = false)  (t0 : Nat) (v1 : Int32) (v2 : Int32) (h : Hp) (H : Heap) (locs : List Loc) (ls : Array Slot) (hB : hp_B D cA (hp_A h0) s h H locs) (hl : lv_has ls 4 [(0, .ref t0), (1, .int v1), (2, .int v2)]) (hf : fX10_order  t0 v1 v2 h = some (r, h9)) : W p l e rmX10_order s m args below meth c H locs 0 0 (MQ below (hp_Qi D cA h0 h9 r) args s 0 0 (hp_A h0)) (F0 m 0 ls []) := by
  obtain ⟨hx, hb, -⟩ := id cx
  unfold fX10_order at hf
  refine lv_aload_n hx hb dX10_order_0 rfl (lv_at hl 0 rfl) ?_
  obtain ⟨k1, hf⟩ := gk_ok hf
  obtain ⟨a2, q3, hf⟩ := bd_ok hf
  refine gf_X10_10 cx hB k1 q3 dX10_order_1 ?_
  refine lv_iload_n hx hb dX10_order_4 rfl (lv_at hl 1 rfl) ?_
  obtain ⟨k4, hf⟩ := gk_ok hf
  obtain ⟨o8, g5, m6, hf⟩ := b2_ok hf
  refine hp_cR0 (cl_X10_86 cx hB (cX2_menuAt l D cA a2 v1 h _ g5 m6) k4 ⟨Nat.le_of_ble_eq_true rfl, Nat.le_of_ble_eq_true rfl⟩ rfl hl.1 rfl (Nat.le_of_ble_eq_true rfl) ⟨Nat.le_of_ble_eq_true rfl, Nat.le_of_ble_eq_true rfl⟩ dX10_order_5) rfl rfl hB (fun H locs hB => ?_)
  refine lq_astore_n (lv' := [(3, va_rf o8), (0, .ref t0), (1, .int v1), (2, .int v2)]) hx hb dX10_order_8 rfl hl (by decide) rfl (fun ls hl => ?_)
  refine lq_aload_n hx hb dX10_order_9 rfl (lv_at hl 0 rfl) ?_
  refine lq_ifnull (tgt := 19) hx hb dX10_order_10 (by decide) (fun eo => ?_) (fun a9 eo => ?_)
  · subst eo
    replace hf := rn_n hf
    refine lv_iconst (v := (-1)) hx hb dX10_order_19 (by decide) ?_
    obtain ⟨rfl, rfl⟩ := rt_ok hf
    exact hp_iret cx hB hr hlk (Nat.le_of_ble_eq_true rfl) (Nat.le_of_ble_eq_true rfl) dX10_order_20
  · subst eo
    replace hf := rn_s hf
    refine lv_iload_n hx hb dX10_order_13 rfl (lv_at hl 3 rfl) ?_
    refine lv_bipush (v := (-2)) hx hb dX10_order_14 (by decide) ?_
    refine lv_icmp_ge (tgt := 21) hx hb dX10_order_16 (by decide) (fun c10 => ?_) (fun c10 => ?_)
    · replace hf := it_t c10 hf
      refine lv_iload_n hx hb dX10_order_21 rfl (lv_at hl 3 rfl) ?_
      refine lv_aload_n hx hb dX10_order_22 rfl (lv_at hl 0 rfl) ?_
      obtain ⟨k11, hf⟩ := gk_ok hf
      refine gf_X10_94 cx hB k11 dX10_order_23 ?_
      refine lv_icmp_lt (tgt := 32) hx hb dX10_order_26 (by decide) (fun c12 => ?_) (fun c12 => ?_)
      · replace hf := it_t c12 hf
        refine lv_aload_n hx hb dX10_order_32 rfl (lv_at hl 1 rfl) ?_
        refine lv_iload_n hx hb dX10_order_33 rfl (lv_at hl 2 rfl) ?_
        refine lv_aload_n hx hb dX10_order_34 rfl (lv_at hl 0 rfl) ?_
        obtain ⟨k13, hf⟩ := gk_ok hf
        obtain ⟨uu, g14, m15, hf⟩ := b2_ok hf
        refine hp_cV0 (cl_X10_230 cx hB (cX10_countListeners l D cA t0 v1 (some a9) g5 _ g14 m15) k13 ⟨Nat.le_of_ble_eq_true rfl, Nat.le_of_ble_eq_true rfl⟩ rfl hl.1 rfl (Nat.le_of_ble_eq_true rfl) ⟨Nat.le_of_ble_eq_true rfl, Nat.le_of_ble_eq_true rfl⟩ dX10_order_35) rfl rfl hB (fun H locs hB => ?_)
        refine lv_iload_n hx hb dX10_order_38 rfl (lv_at hl 3 rfl) ?_
        refine lv_iconst (v := (-1)) hx hb dX10_order_39 (by decide) ?_
        refine lv_icmp_ne (tgt := 52) hx hb dX10_order_40 (by decide) (fun c18 => ?_) (fun c18 => ?_)
        · replace hf := it_f c18 hf
          refine lv_aload_n hx hb dX10_order_52 rfl (lv_at hl 1 rfl) ?_
          obtain ⟨k19, hf⟩ := gk_ok hf
          obtain ⟨a20, q21, hf⟩ := bd_ok hf
          refine gf_X10_40 cx hB k19 q21 dX10_order_53 ?_
          refine lv_aload_n hx hb dX10_order_56 rfl (lv_at hl 0 rfl) ?_
          obtain ⟨k22, hf⟩ := gk_ok hf
          obtain ⟨uu, g23, m24, hf⟩ := b2_ok hf
          refine hp_cV0 (cl_X10_237 cx hB (cX4_sort l D cA a20 (some a9) g14 _ g23 m24) k22 ⟨Nat.le_of_ble_eq_true rfl, Nat.le_of_ble_eq_true rfl⟩ rfl hl.1 rfl (Nat.le_of_ble_eq_true rfl) ⟨Nat.le_of_ble_eq_true rfl, Nat.le_of_ble_eq_true rfl⟩ dX10_order_57) rfl rfl hB (fun H locs hB => ?_)
          refine lv_iload_n hx hb dX10_order_60 rfl (lv_at hl 3 rfl) ?_
          refine lv_bipush (v := (-2)) hx hb dX10_order_61 (by decide) ?_
          refine lv_icmp_ne (tgt := 77) hx hb dX10_order_63 (by decide) (fun c27 => ?_) (fun c27 => ?_)
          · replace hf := it_f c27 hf
            refine lv_aload_n hx hb dX10_order_77 rfl (lv_at hl 1 rfl) ?_
            obtain ⟨k28, hf⟩ := gk_ok hf
            obtain ⟨a29, q30, hf⟩ := bd_ok hf
            refine gf_X10_40 cx hB k28 q30 dX10_order_78 ?_
            obtain ⟨k31, hf⟩ := gk_ok hf
            obtain ⟨a32, q33, hf⟩ := bd_ok hf
            refine gf_X10_244 cx hB k31 q33 dX10_order_81 ?_
            refine lv_iload_n hx hb dX10_order_84 rfl (lv_at hl 3 rfl) ?_
            obtain ⟨k34, hf⟩ := gk_ok hf
            obtain ⟨j35, hf⟩ := gd_ok hf
            refine hp_iald cx hB k34 j35 dX10_order_85 ?_
            obtain ⟨rfl, rfl⟩ := rt_ok hf
            exact hp_iret cx hB hr hlk (Nat.le_of_ble_eq_true rfl) (Nat.le_of_ble_eq_true rfl) dX10_order_86
          · replace hf := it_t c27 hf
            refine lv_aload_n hx hb dX10_order_66 rfl (lv_at hl 1 rfl) ?_
            obtain ⟨k36, hf⟩ := gk_ok hf
            obtain ⟨a37, q38, hf⟩ := bd_ok hf
            refine gf_X10_40 cx hB k36 q38 dX10_order_67 ?_
            refine lv_aload_n hx hb dX10_order_70 rfl (lv_at hl 0 rfl) ?_
            obtain ⟨k39, hf⟩ := gk_ok hf
            obtain ⟨r42, g40, m41, hf⟩ := b2_ok hf
            refine hp_cI0 (cl_X10_241 cx hB (cX4_costSorted l D cA a37 (some a9) g23 _ g40 m41) k39 ⟨Nat.le_of_ble_eq_true rfl, Nat.le_of_ble_eq_true rfl⟩ rfl hl.1 rfl (Nat.le_of_ble_eq_true rfl) ⟨Nat.le_of_ble_eq_true rfl, Nat.le_of_ble_eq_true rfl⟩ dX10_order_71) rfl rfl hB (fun H locs hB => ?_)
            refine lv_goto (tgt := 86) hx hb dX10_order_74 (by decide) ?_
            obtain ⟨rfl, rfl⟩ := rt_ok hf
            exact hp_iret cx hB hr hlk (Nat.le_of_ble_eq_true rfl) (Nat.le_of_ble_eq_true rfl) dX10_order_86
        · replace hf := it_t c18 hf
          refine lv_aload_n hx hb dX10_order_43 rfl (lv_at hl 1 rfl) ?_
          obtain ⟨k44, hf⟩ := gk_ok hf
          obtain ⟨a45, q46, hf⟩ := bd_ok hf
          refine gf_X10_40 cx hB k44 q46 dX10_order_44 ?_
          refine lv_aload_n hx hb dX10_order_47 rfl (lv_at hl 0 rfl) ?_
          obtain ⟨k47, hf⟩ := gk_ok hf
          obtain ⟨r50, g48, m49, hf⟩ := b2_ok hf
          refine hp_cI0 (cl_X10_234 cx hB (cX4_costAsTheyStand l D cA a45 (some a9) g14 _ g48 m49) k47 ⟨Nat.le_of_ble_eq_true rfl, Nat.le_of_ble_eq_true rfl⟩ rfl hl.1 rfl (Nat.le_of_ble_eq_true rfl) ⟨Nat.le_of_ble_eq_true rfl, Nat.le_of_ble_eq_true rfl⟩ dX10_order_48) rfl rfl hB (fun H locs hB => ?_)
          obtain ⟨rfl, rfl⟩ := rt_ok hf
          exact hp_iret cx hB hr hlk (Nat.le_of_ble_eq_true rfl) (Nat.le_of_ble_eq_true rfl) dX10_order_51
      · replace hf := it_f c12 hf
        refine lv_bipush (v := (-4)) hx hb dX10_order_29 (by decide) ?_
        obtain ⟨rfl, rfl⟩ := rt_ok hf
        exact hp_iret cx hB hr hlk (Nat.le_of_ble_eq_true rfl) (Nat.le_of_ble_eq_true rfl) dX10_order_31
    · replace hf := it_f c10 hf
      refine lv_iconst (v := (-1)) hx hb dX10_order_19 (by decide) ?_
      obtain ⟨rfl, rfl⟩ := rt_ok hf
      exact hp_iret cx hB hr hlk (Nat.le_of_ble_eq_true rfl) (Nat.le_of_ble_eq_true rfl) dX10_order_20
end
set_option maxHeartbeats 4000000 in
set_option maxRecDepth 100000 in
theorem cX10_order (l : Launch) (D : va_G) (cA : Nat → ClassId) (t0 : Nat) (v1 : Int32) (v2 : Int32) (h : Hp) (r : Int32) (h9 : Hp) (hf : fX10_order t0 v1 v2 h = some (r, h9)) : hp_M l yX10_order prog_1_method_22_code 4 (Option.some FieldType.int) rmX10_order D cA h [.ref t0, .int v1, .int v2] (hp_Qi D cA h h9 r) := by
  refine Met.ofW (cc := prog_1_method_22_code) (maxL := 4) (ret := (Option.some FieldType.int)) (by decide) rfl ?_
  intro p e s m args below meth c s₁ B hml hv
  obtain ⟨rfl, hU⟩ := hv
  have hts := atoms_spec (ws := Cond.code yX10_order prog_1_method_22_code 4 (Option.some FieldType.int) :: tbG) B.pre
  have hl := lv_entry ([.ref t0, .int v1, .int v2]) (n := 4) (Nat.le_of_ble_eq_true rfl)
  rw [lg_entry_eq]
  generalize (lg_sl ([.ref t0, .int v1, .int v2]) ++ List.replicate (4 - (lg_sl ([.ref t0, .int v1, .int v2])).length) Slot.unset).toArray = ls at hl ⊢
  exact tX10_order_0 ⟨B.exec, B.bytes, hml, findClass_of_methodNamed B.named, fun w hw => hts w (List.mem_cons_of_mem _ hw)⟩ B.returns B.notSynchronized t0 v1 v2 h _ _ _ (hp_B.entry hU) hl hf
section
variable {p : Program} {l : Launch} {e : Env} {R : Room} {s : State} {m : MethodId} {args : Array Value} {below : List Frame} {meth : Method} {c : Code} {H : Heap} {locs : List Loc} {cells slots : Nat} {Q : State → Prop}
variable {cc : ByteArray} {pc nL : Nat} {ls : Array Slot} {rest : List Value} {D : va_G} {cA : Nat → ClassId} {A : Nat → Prop} {a : Nat} {h : Hp}
theorem cl_X10_247 {As st0 : List Value} {b : Nat} {Qc : Array Value → State → Outcome → State → Prop} (cx : CallFix p m c cc nL s args tbG RX10) (hB : hp_B D cA A s h H locs) (hM : hp_M l yX4_putInOrder prog_6_method_7_code 3 none rmX4_putInOrder D cA h (.ref b :: As) Qc) (hkb : h.1 b = 5) (hR : rmX4_putInOrder.frames + 1 ≤ R.frames ∧ 8 + (3 + 11) + rmX4_putInOrder.locals ≤ R.locals) (hn : As.length = 1) (hls : ls.size = nL) (hst : st0 = As.reverse ++ .ref b :: rest) (hW : (rest.map fun v => v.category).sum ≤ 8) (hf : cells + rmX4_putInOrder.cells ≤ R.cells ∧ slots + rmX4_putInOrder.slots ≤ R.slots) (hdg : decode cc pc = .ok (.invokevirtual 247, 3)) :
    va_Run p l e R s m args below meth c H locs cells slots rmX4_putInOrder.cells rmX4_putInOrder.slots (F0 m pc ls st0) rest (Qc (Value.ref b :: As).toArray) (hp_A h) :=
  hp_runV cx hB hM (ci := 4) rfl (by decide) hkb qw_678 qw_675 qw_676 qw_677 qw_6 (by decide +kernel) hR hn hls hst hW hf hdg
end
abbrev yX10_arrange : MethodName := ⟨"SpokenMenus", "arrange", "(I)I"⟩
theorem dX10_arrange_0 : decode prog_1_method_23_code 0 = .ok (.aload_n 0, 1) := by decide +kernel
theorem dX10_arrange_1 : decode prog_1_method_23_code 1 = .ok (.getfield 10, 3) := by decide +kernel
theorem dX10_arrange_4 : decode prog_1_method_23_code 4 = .ok (.iload_n 1, 1) := by decide +kernel
theorem dX10_arrange_5 : decode prog_1_method_23_code 5 = .ok (.invokevirtual 86, 3) := by decide +kernel
theorem dX10_arrange_8 : decode prog_1_method_23_code 8 = .ok (.astore_n 2, 1) := by decide +kernel
theorem dX10_arrange_9 : decode prog_1_method_23_code 9 = .ok (.aload_n 2, 1) := by decide +kernel
theorem dX10_arrange_10 : decode prog_1_method_23_code 10 = .ok (.ifnonnull 5, 3) := by decide +kernel
theorem dX10_arrange_13 : decode prog_1_method_23_code 13 = .ok (.iconst (-1), 1) := by decide +kernel
theorem dX10_arrange_14 : decode prog_1_method_23_code 14 = .ok (.ireturn, 1) := by decide +kernel
theorem dX10_arrange_15 : decode prog_1_method_23_code 15 = .ok (.aload_n 0, 1) := by decide +kernel
theorem dX10_arrange_16 : decode prog_1_method_23_code 16 = .ok (.iload_n 1, 1) := by decide +kernel
theorem dX10_arrange_17 : decode prog_1_method_23_code 17 = .ok (.aload_n 2, 1) := by decide +kernel
theorem dX10_arrange_18 : decode prog_1_method_23_code 18 = .ok (.invokevirtual 230, 3) := by decide +kernel
theorem dX10_arrange_21 : decode prog_1_method_23_code 21 = .ok (.aload_n 0, 1) := by decide +kernel
theorem dX10_arrange_22 : decode prog_1_method_23_code 22 = .ok (.getfield 40, 3) := by decide +kernel
theorem dX10_arrange_25 : decode prog_1_method_23_code 25 = .ok (.aload_n 2, 1) := by decide +kernel
theorem dX10_arrange_26 : decode prog_1_method_23_code 26 = .ok (.invokevirtual 237, 3) := by decide +kernel
theorem dX10_arrange_29 : decode prog_1_method_23_code 29 = .ok (.aload_n 0, 1) := by decide +kernel
theorem dX10_arrange_30 : decode prog_1_method_23_code 30 = .ok (.getfield 40, 3) := by decide +kernel
theorem dX10_arrange_33 : decode prog_1_method_23_code 33 = .ok (.aload_n 2, 1) := by decide +kernel
theorem dX10_arrange_34 : decode prog_1_method_23_code 34 = .ok (.invokevirtual 247, 3) := by decide +kernel
theorem dX10_arrange_37 : decode prog_1_method_23_code 37 = .ok (.iconst 0, 1) := by decide +kernel
theorem dX10_arrange_38 : decode prog_1_method_23_code 38 = .ok (.ireturn, 1) := by decide +kernel
abbrev rmX10_arrange : Room := { frames := 6, cells := 0, slots := 0, locals := 142 }
def fX10_arrange  (t0 : Nat) (v1 : Int32) (h : Hp) : Option (Int32 × Hp) :=
  gk (h.1 t0) 11 <|
  bd (h.2.2.2.1 t0 0) fun a2 =>
  gk (h.1 a2) 3 <|
  b2 (fX2_menuAt a2 v1 h) fun o8 g5 =>
  rn o8
  (some ((-1), g5))
  (fun a9 =>
  gk (g5.1 t0) 11 <|
  b2 (fX10_countListeners t0 v1 (some a9) g5) fun _ g11 =>
  gk (g11.1 t0) 11 <|
  bd (g11.2.2.2.1 t0 4) fun a16 =>
  gk (g11.1 a16) 5 <|
  b2 (fX4_sort a16 (some a9) g11) fun _ g19 =>
  gk (g19.1 t0) 11 <|
  bd (g19.2.2.2.1 t0 4) fun a24 =>
  gk (g19.1 a24) 5 <|
  b2 (fX4_putInOrder a24 (some a9) g19) fun _ g27 =>
  some (0, g27))
section
variable {p : Program} {l : Launch} {e : Env} {s : State} {m : MethodId} {args : Array Value} {below : List Frame} {meth : Method} {c : Code} {D : va_G} {cA : Nat → ClassId} {h0 h9 : Hp}
set_option maxHeartbeats 4000000 in
set_option maxRecDepth 100000 in
theorem tX10_arrange_0  {r : Int32} (cx : CallFix p m c prog_1_method_23_code 3 s args tbG RX10) (hr : meth.sig.returnType = (Option.some FieldType.int)) (hlk : meth.locks = false)  (t0 : Nat) (v1 : Int32) (h : Hp) (H : Heap) (locs : List Loc) (ls : Array Slot) (hB : hp_B D cA (hp_A h0) s h H locs) (hl : lv_has ls 3 [(0, .ref t0), (1, .int v1)]) (hf : fX10_arrange  t0 v1 h = some (r, h9)) : W p l e rmX10_arrange s m args below meth c H locs 0 0 (MQ below (hp_Qi D cA h0 h9 r) args s 0 0 (hp_A h0)) (F0 m 0 ls []) := by
  obtain ⟨hx, hb, -⟩ := id cx
  unfold fX10_arrange at hf
  refine lv_aload_n hx hb dX10_arrange_0 rfl (lv_at hl 0 rfl) ?_
  obtain ⟨k1, hf⟩ := gk_ok hf
  obtain ⟨a2, q3, hf⟩ := bd_ok hf
  refine gf_X10_10 cx hB k1 q3 dX10_arrange_1 ?_
  refine lv_iload_n hx hb dX10_arrange_4 rfl (lv_at hl 1 rfl) ?_
  obtain ⟨k4, hf⟩ := gk_ok hf
  obtain ⟨o8, g5, m6, hf⟩ := b2_ok hf
  refine hp_cR0 (cl_X10_86 cx hB (cX2_menuAt l D cA a2 v1 h _ g5 m6) k4 ⟨Nat.le_of_ble_eq_true rfl, Nat.le_of_ble_eq_true rfl⟩ rfl hl.1 rfl (Nat.le_of_ble_eq_true rfl) ⟨Nat.le_of_ble_eq_true rfl, Nat.le_of_ble_eq_true rfl⟩ dX10_arrange_5) rfl rfl hB (fun H locs hB => ?_)
  refine lq_astore_n (lv' := [(2, va_rf o8), (0, .ref t0), (1, .int v1)]) hx hb dX10_arrange_8 rfl hl (by decide) rfl (fun ls hl => ?_)
  refine lq_aload_n hx hb dX10_arrange_9 rfl (lv_at hl 0 rfl) ?_
  refine lq_ifnonnull (tgt := 15) hx hb dX10_arrange_10 (by decide) (fun eo => ?_) (fun a9 eo => ?_)
  · subst eo
    replace hf := rn_n hf
    refine lv_iconst (v := (-1)) hx hb dX10_arrange_13 (by decide) ?_
    obtain ⟨rfl, rfl⟩ := rt_ok hf
    exact hp_iret cx hB hr hlk (Nat.le_of_ble_eq_true rfl) (Nat.le_of_ble_eq_true rfl) dX10_arrange_14
  · subst eo
    replace hf := rn_s hf
    refine lv_aload_n hx hb dX10_arrange_15 rfl (lv_at hl 1 rfl) ?_
    refine lv_iload_n hx hb dX10_arrange_16 rfl (lv_at hl 2 rfl) ?_
    refine lv_aload_n hx hb dX10_arrange_17 rfl (lv_at hl 0 rfl) ?_
    obtain ⟨k10, hf⟩ := gk_ok hf
    obtain ⟨uu, g11, m12, hf⟩ := b2_ok hf
    refine hp_cV0 (cl_X10_230 cx hB (cX10_countListeners l D cA t0 v1 (some a9) g5 _ g11 m12) k10 ⟨Nat.le_of_ble_eq_true rfl, Nat.le_of_ble_eq_true rfl⟩ rfl hl.1 rfl (Nat.le_of_ble_eq_true rfl) ⟨Nat.le_of_ble_eq_true rfl, Nat.le_of_ble_eq_true rfl⟩ dX10_arrange_18) rfl rfl hB (fun H locs hB => ?_)
    refine lv_aload_n hx hb dX10_arrange_21 rfl (lv_at hl 1 rfl) ?_
    obtain ⟨k15, hf⟩ := gk_ok hf
    obtain ⟨a16, q17, hf⟩ := bd_ok hf
    refine gf_X10_40 cx hB k15 q17 dX10_arrange_22 ?_
    refine lv_aload_n hx hb dX10_arrange_25 rfl (lv_at hl 0 rfl) ?_
    obtain ⟨k18, hf⟩ := gk_ok hf
    obtain ⟨uu, g19, m20, hf⟩ := b2_ok hf
    refine hp_cV0 (cl_X10_237 cx hB (cX4_sort l D cA a16 (some a9) g11 _ g19 m20) k18 ⟨Nat.le_of_ble_eq_true rfl, Nat.le_of_ble_eq_true rfl⟩ rfl hl.1 rfl (Nat.le_of_ble_eq_true rfl) ⟨Nat.le_of_ble_eq_true rfl, Nat.le_of_ble_eq_true rfl⟩ dX10_arrange_26) rfl rfl hB (fun H locs hB => ?_)
    refine lv_aload_n hx hb dX10_arrange_29 rfl (lv_at hl 1 rfl) ?_
    obtain ⟨k23, hf⟩ := gk_ok hf
    obtain ⟨a24, q25, hf⟩ := bd_ok hf
    refine gf_X10_40 cx hB k23 q25 dX10_arrange_30 ?_
    refine lv_aload_n hx hb dX10_arrange_33 rfl (lv_at hl 0 rfl) ?_
    obtain ⟨k26, hf⟩ := gk_ok hf
    obtain ⟨uu, g27, m28, hf⟩ := b2_ok hf
    refine hp_cV0 (cl_X10_247 cx hB (cX4_putInOrder l D cA a24 (some a9) g19 _ g27 m28) k26 ⟨Nat.le_of_ble_eq_true rfl, Nat.le_of_ble_eq_true rfl⟩ rfl hl.1 rfl (Nat.le_of_ble_eq_true rfl) ⟨Nat.le_of_ble_eq_true rfl, Nat.le_of_ble_eq_true rfl⟩ dX10_arrange_34) rfl rfl hB (fun H locs hB => ?_)
    refine lv_iconst (v := 0) hx hb dX10_arrange_37 (by decide) ?_
    obtain ⟨rfl, rfl⟩ := rt_ok hf
    exact hp_iret cx hB hr hlk (Nat.le_of_ble_eq_true rfl) (Nat.le_of_ble_eq_true rfl) dX10_arrange_38
end
set_option maxHeartbeats 4000000 in
set_option maxRecDepth 100000 in
theorem cX10_arrange (l : Launch) (D : va_G) (cA : Nat → ClassId) (t0 : Nat) (v1 : Int32) (h : Hp) (r : Int32) (h9 : Hp) (hf : fX10_arrange t0 v1 h = some (r, h9)) : hp_M l yX10_arrange prog_1_method_23_code 3 (Option.some FieldType.int) rmX10_arrange D cA h [.ref t0, .int v1] (hp_Qi D cA h h9 r) := by
  refine Met.ofW (cc := prog_1_method_23_code) (maxL := 3) (ret := (Option.some FieldType.int)) (by decide) rfl ?_
  intro p e s m args below meth c s₁ B hml hv
  obtain ⟨rfl, hU⟩ := hv
  have hts := atoms_spec (ws := Cond.code yX10_arrange prog_1_method_23_code 3 (Option.some FieldType.int) :: tbG) B.pre
  have hl := lv_entry ([.ref t0, .int v1]) (n := 3) (Nat.le_of_ble_eq_true rfl)
  rw [lg_entry_eq]
  generalize (lg_sl ([.ref t0, .int v1]) ++ List.replicate (3 - (lg_sl ([.ref t0, .int v1])).length) Slot.unset).toArray = ls at hl ⊢
  exact tX10_arrange_0 ⟨B.exec, B.bytes, hml, findClass_of_methodNamed B.named, fun w hw => hts w (List.mem_cons_of_mem _ hw)⟩ B.returns B.notSynchronized t0 v1 h _ _ _ (hp_B.entry hU) hl hf
section
variable {p : Program} {l : Launch} {e : Env} {R : Room} {s : State} {m : MethodId} {args : Array Value} {below : List Frame} {meth : Method} {c : Code} {H : Heap} {locs : List Loc} {cells slots : Nat} {Q : State → Prop}
variable {cc : ByteArray} {pc nL : Nat} {ls : Array Slot} {rest : List Value} {D : va_G} {cA : Nat → ClassId} {A : Nat → Prop} {a : Nat} {h : Hp}
theorem gf_X10_47 (cx : CallFix p m c cc nL s args tbG RX10) (hB : hp_B D cA A s h H locs) (hka : h.1 a = 11) {b : Nat} (ho : h.2.2.2.1 a 5 = some b) (hdg : decode cc pc = .ok (.getfield 47, 3)) (kk : W p l e R s m args below meth c H locs cells slots Q (F0 m (pc + 3) ls (.ref b :: rest))) : W p l e R s m args below meth c H locs cells slots Q (F0 m pc ls (.ref a :: rest)) :=
  hp_getR cx hB (ci := 10) 5 rfl inX10 (by decide) rfl (by decide) rfl qw_205 hka (o := some b) ho.symm hdg kk
theorem gf_X10_250 (cx : CallFix p m c cc nL s args tbG RX10) (hB : hp_B D cA A s h H locs) (hka : h.1 a = 7) {b : Nat} (ho : h.2.2.2.1 a 0 = some b) (hdg : decode cc pc = .ok (.getfield 250, 3)) (kk : W p l e R s m args below meth c H locs cells slots Q (F0 m (pc + 3) ls (.ref b :: rest))) : W p l e R s m args below meth c H locs cells slots Q (F0 m pc ls (.ref a :: rest)) :=
  hp_getR cx hB (ci := 6) 0 rfl inX6 (by decide) rfl (by decide) rfl qw_122 hka (o := some b) ho.symm hdg kk
theorem gf_X10_253 (cx : CallFix p m c cc nL s args tbG RX10) (hB : hp_B D cA A s h H locs) (hka : h.1 a = 7) {b : Nat} (ho : h.2.2.2.1 a 1 = some b) (hdg : decode cc pc = .ok (.getfield 253, 3)) (kk : W p l e R s m args below meth c H locs cells slots Q (F0 m (pc + 3) ls (.ref b :: rest))) : W p l e R s m args below meth c H locs cells slots Q (F0 m pc ls (.ref a :: rest)) :=
  hp_getR cx hB (ci := 6) 1 rfl inX6 (by decide) rfl (by decide) rfl qw_124 hka (o := some b) ho.symm hdg kk
end
abbrev yX10_wish : MethodName := ⟨"SpokenMenus", "wish", "(III)I"⟩
theorem dX10_wish_0 : decode prog_1_method_24_code 0 = .ok (.iload_n 1, 1) := by decide +kernel
theorem dX10_wish_1 : decode prog_1_method_24_code 1 = .ok (.iconst 0, 1) := by decide +kernel
theorem dX10_wish_2 : decode prog_1_method_24_code 2 = .ok (.bipush 7, 2) := by decide +kernel
theorem dX10_wish_4 : decode prog_1_method_24_code 4 = .ok (.invokestatic 61, 3) := by decide +kernel
theorem dX10_wish_7 : decode prog_1_method_24_code 7 = .ok (.ifCond .eq 25, 3) := by decide +kernel
theorem dX10_wish_10 : decode prog_1_method_24_code 10 = .ok (.iload_n 2, 1) := by decide +kernel
theorem dX10_wish_11 : decode prog_1_method_24_code 11 = .ok (.iconst 1, 1) := by decide +kernel
theorem dX10_wish_12 : decode prog_1_method_24_code 12 = .ok (.sipush 200, 3) := by decide +kernel
theorem dX10_wish_15 : decode prog_1_method_24_code 15 = .ok (.invokestatic 61, 3) := by decide +kernel
theorem dX10_wish_18 : decode prog_1_method_24_code 18 = .ok (.ifCond .eq 14, 3) := by decide +kernel
theorem dX10_wish_21 : decode prog_1_method_24_code 21 = .ok (.iload_n 3, 1) := by decide +kernel
theorem dX10_wish_22 : decode prog_1_method_24_code 22 = .ok (.iconst 0, 1) := by decide +kernel
theorem dX10_wish_23 : decode prog_1_method_24_code 23 = .ok (.sipush 1000, 3) := by decide +kernel
theorem dX10_wish_26 : decode prog_1_method_24_code 26 = .ok (.invokestatic 61, 3) := by decide +kernel
theorem dX10_wish_29 : decode prog_1_method_24_code 29 = .ok (.ifCond .ne 5, 3) := by decide +kernel
theorem dX10_wish_32 : decode prog_1_method_24_code 32 = .ok (.iconst (-1), 1) := by decide +kernel
theorem dX10_wish_33 : decode prog_1_method_24_code 33 = .ok (.ireturn, 1) := by decide +kernel
theorem dX10_wish_34 : decode prog_1_method_24_code 34 = .ok (.aload_n 0, 1) := by decide +kernel
theorem dX10_wish_35 : decode prog_1_method_24_code 35 = .ok (.getfield 47, 3) := by decide +kernel
theorem dX10_wish_38 : decode prog_1_method_24_code 38 = .ok (.getfield 250, 3) := by decide +kernel
theorem dX10_wish_41 : decode prog_1_method_24_code 41 = .ok (.iload_n 1, 1) := by decide +kernel
theorem dX10_wish_42 : decode prog_1_method_24_code 42 = .ok (.iload_n 2, 1) := by decide +kernel
theorem dX10_wish_43 : decode prog_1_method_24_code 43 = .ok (.iastore, 1) := by decide +kernel
theorem dX10_wish_44 : decode prog_1_method_24_code 44 = .ok (.aload_n 0, 1) := by decide +kernel
theorem dX10_wish_45 : decode prog_1_method_24_code 45 = .ok (.getfield 47, 3) := by decide +kernel
theorem dX10_wish_48 : decode prog_1_method_24_code 48 = .ok (.getfield 253, 3) := by decide +kernel
theorem dX10_wish_51 : decode prog_1_method_24_code 51 = .ok (.iload_n 1, 1) := by decide +kernel
theorem dX10_wish_52 : decode prog_1_method_24_code 52 = .ok (.iload_n 3, 1) := by decide +kernel
theorem dX10_wish_53 : decode prog_1_method_24_code 53 = .ok (.iastore, 1) := by decide +kernel
theorem dX10_wish_54 : decode prog_1_method_24_code 54 = .ok (.iconst 0, 1) := by decide +kernel
theorem dX10_wish_55 : decode prog_1_method_24_code 55 = .ok (.ireturn, 1) := by decide +kernel
abbrev rmX10_wish : Room := { frames := 1, cells := 0, slots := 0, locals := 22 }
def fX10_wish  (t0 : Nat) (v1 : Int32) (v2 : Int32) (v3 : Int32) (h : Hp) : Option (Int32 × Hp) :=
  b2 (fX10_within v1 0 7 h) fun r3 g1 =>
  if r3 = 0 then
  (some ((-1), g1))
  else
  (b2 (fX10_within v2 1 200 g1) fun r8 g6 =>
  if r8 = 0 then
  (some ((-1), g6))
  else
  (b2 (fX10_within v3 0 1000 g6) fun r13 g11 =>
  if r13 = 0 then
  (some ((-1), g11))
  else
  (gk (g11.1 t0) 11 <|
  bd (g11.2.2.2.1 t0 5) fun a17 =>
  gk (g11.1 a17) 7 <|
  bd (g11.2.2.2.1 a17 0) fun a20 =>
  gk (g11.1 a20) 13 <|
  gd (ix v1 (g11.2.1 a20)) <|
  nm (hp_si g11 a20 (Int32.toNatClampNeg v1) v2) fun g24 =>
  bd (g24.2.2.2.1 a17 1) fun a28 =>
  gk (g24.1 a28) 13 <|
  gd (ix v1 (g24.2.1 a28)) <|
  nm (hp_si g24 a28 (Int32.toNatClampNeg v1) v3) fun g32 =>
  some (0, g32))))
section
variable {p : Program} {l : Launch} {e : Env} {s : State} {m : MethodId} {args : Array Value} {below : List Frame} {meth : Method} {c : Code} {D : va_G} {cA : Nat → ClassId} {h0 h9 : Hp}
set_option maxHeartbeats 4000000 in
set_option maxRecDepth 100000 in
theorem tX10_wish_0  {r : Int32} (cx : CallFix p m c prog_1_method_24_code 4 s args tbG RX10) (hr : meth.sig.returnType = (Option.some FieldType.int)) (hlk : meth.locks = false)  (t0 : Nat) (v1 : Int32) (v2 : Int32) (v3 : Int32) (h : Hp) (H : Heap) (locs : List Loc) (ls : Array Slot) (hB : hp_B D cA (hp_A h0) s h H locs) (hl : lv_has ls 4 [(0, .ref t0), (1, .int v1), (2, .int v2), (3, .int v3)]) (hf : fX10_wish  t0 v1 v2 v3 h = some (r, h9)) : W p l e rmX10_wish s m args below meth c H locs 0 0 (MQ below (hp_Qi D cA h0 h9 r) args s 0 0 (hp_A h0)) (F0 m 0 ls []) := by
  obtain ⟨hx, hb, -⟩ := id cx
  unfold fX10_wish at hf
  refine lv_iload_n hx hb dX10_wish_0 rfl (lv_at hl 1 rfl) ?_
  refine lv_iconst (v := 0) hx hb dX10_wish_1 (by decide) ?_
  refine lv_bipush (v := 7) hx hb dX10_wish_2 (by decide) ?_
  obtain ⟨r3, g1, m2, hf⟩ := b2_ok hf
  refine hp_cI0 (cl_X10_61 cx hB (cX10_within l D cA v1 0 7 h _ g1 m2) ⟨Nat.le_of_ble_eq_true rfl, Nat.le_of_ble_eq_true rfl⟩ rfl hl.1 rfl (Nat.le_of_ble_eq_true rfl) ⟨Nat.le_of_ble_eq_true rfl, Nat.le_of_ble_eq_true rfl⟩ dX10_wish_4) rfl rfl hB (fun H locs hB => ?_)
  refine lv_if_eq (tgt := 32) hx hb dX10_wish_7 (by decide) (fun c5 => ?_) (fun c5 => ?_)
  · replace hf := it_t c5 hf
    refine lv_iconst (v := (-1)) hx hb dX10_wish_32 (by decide) ?_
    obtain ⟨rfl, rfl⟩ := rt_ok hf
    exact hp_iret cx hB hr hlk (Nat.le_of_ble_eq_true rfl) (Nat.le_of_ble_eq_true rfl) dX10_wish_33
  · replace hf := it_f c5 hf
    refine lv_iload_n hx hb dX10_wish_10 rfl (lv_at hl 2 rfl) ?_
    refine lv_iconst (v := 1) hx hb dX10_wish_11 (by decide) ?_
    refine lv_sipush (v := 200) hx hb dX10_wish_12 (by decide) ?_
    obtain ⟨r8, g6, m7, hf⟩ := b2_ok hf
    refine hp_cI0 (cl_X10_61 cx hB (cX10_within l D cA v2 1 200 g1 _ g6 m7) ⟨Nat.le_of_ble_eq_true rfl, Nat.le_of_ble_eq_true rfl⟩ rfl hl.1 rfl (Nat.le_of_ble_eq_true rfl) ⟨Nat.le_of_ble_eq_true rfl, Nat.le_of_ble_eq_true rfl⟩ dX10_wish_15) rfl rfl hB (fun H locs hB => ?_)
    refine lv_if_eq (tgt := 32) hx hb dX10_wish_18 (by decide) (fun c10 => ?_) (fun c10 => ?_)
    · replace hf := it_t c10 hf
      refine lv_iconst (v := (-1)) hx hb dX10_wish_32 (by decide) ?_
      obtain ⟨rfl, rfl⟩ := rt_ok hf
      exact hp_iret cx hB hr hlk (Nat.le_of_ble_eq_true rfl) (Nat.le_of_ble_eq_true rfl) dX10_wish_33
    · replace hf := it_f c10 hf
      refine lv_iload_n hx hb dX10_wish_21 rfl (lv_at hl 3 rfl) ?_
      refine lv_iconst (v := 0) hx hb dX10_wish_22 (by decide) ?_
      refine lv_sipush (v := 1000) hx hb dX10_wish_23 (by decide) ?_
      obtain ⟨r13, g11, m12, hf⟩ := b2_ok hf
      refine hp_cI0 (cl_X10_61 cx hB (cX10_within l D cA v3 0 1000 g6 _ g11 m12) ⟨Nat.le_of_ble_eq_true rfl, Nat.le_of_ble_eq_true rfl⟩ rfl hl.1 rfl (Nat.le_of_ble_eq_true rfl) ⟨Nat.le_of_ble_eq_true rfl, Nat.le_of_ble_eq_true rfl⟩ dX10_wish_26) rfl rfl hB (fun H locs hB => ?_)
      refine lv_if_ne (tgt := 34) hx hb dX10_wish_29 (by decide) (fun c15 => ?_) (fun c15 => ?_)
      · replace hf := it_f c15 hf
        refine lv_aload_n hx hb dX10_wish_34 rfl (lv_at hl 0 rfl) ?_
        obtain ⟨k16, hf⟩ := gk_ok hf
        obtain ⟨a17, q18, hf⟩ := bd_ok hf
        refine gf_X10_47 cx hB k16 q18 dX10_wish_35 ?_
        obtain ⟨k19, hf⟩ := gk_ok hf
        obtain ⟨a20, q21, hf⟩ := bd_ok hf
        refine gf_X10_250 cx hB k19 q21 dX10_wish_38 ?_
        refine lv_iload_n hx hb dX10_wish_41 rfl (lv_at hl 1 rfl) ?_
        refine lv_iload_n hx hb dX10_wish_42 rfl (lv_at hl 2 rfl) ?_
        obtain ⟨k22, hf⟩ := gk_ok hf
        obtain ⟨j23, hf⟩ := gd_ok hf
        obtain ⟨g24, eg24, hf⟩ := nm_ok hf
        refine hp_iast cx hB k22 j23 dX10_wish_43 (fun H locs hB => ?_)
        rw [← eg24] at hB
        refine lv_aload_n hx hb dX10_wish_44 rfl (lv_at hl 0 rfl) ?_
        have k25 : g24.1 t0 = 11 := by rw [eg24]; exact k16
        have q26 : g24.2.2.2.1 t0 5 = some a17 := by rw [eg24]; exact q18
        refine gf_X10_47 cx hB k25 q26 dX10_wish_45 ?_
        have k27 : g24.1 a17 = 7 := by rw [eg24]; exact k19
        obtain ⟨a28, q29, hf⟩ := bd_ok hf
        refine gf_X10_253 cx hB k27 q29 dX10_wish_48 ?_
        refine lv_iload_n hx hb dX10_wish_51 rfl (lv_at hl 1 rfl) ?_
        refine lv_iload_n hx hb dX10_wish_52 rfl (lv_at hl 3 rfl) ?_
        obtain ⟨k30, hf⟩ := gk_ok hf
        obtain ⟨j31, hf⟩ := gd_ok hf
        obtain ⟨g32, eg32, hf⟩ := nm_ok hf
        refine hp_iast cx hB k30 j31 dX10_wish_53 (fun H locs hB => ?_)
        rw [← eg32] at hB
        refine lv_iconst (v := 0) hx hb dX10_wish_54 (by decide) ?_
        obtain ⟨rfl, rfl⟩ := rt_ok hf
        exact hp_iret cx hB hr hlk (Nat.le_of_ble_eq_true rfl) (Nat.le_of_ble_eq_true rfl) dX10_wish_55
      · replace hf := it_t c15 hf
        refine lv_iconst (v := (-1)) hx hb dX10_wish_32 (by decide) ?_
        obtain ⟨rfl, rfl⟩ := rt_ok hf
        exact hp_iret cx hB hr hlk (Nat.le_of_ble_eq_true rfl) (Nat.le_of_ble_eq_true rfl) dX10_wish_33
end
set_option maxHeartbeats 4000000 in
set_option maxRecDepth 100000 in
theorem cX10_wish (l : Launch) (D : va_G) (cA : Nat → ClassId) (t0 : Nat) (v1 : Int32) (v2 : Int32) (v3 : Int32) (h : Hp) (r : Int32) (h9 : Hp) (hf : fX10_wish t0 v1 v2 v3 h = some (r, h9)) : hp_M l yX10_wish prog_1_method_24_code 4 (Option.some FieldType.int) rmX10_wish D cA h [.ref t0, .int v1, .int v2, .int v3] (hp_Qi D cA h h9 r) := by
  refine Met.ofW (cc := prog_1_method_24_code) (maxL := 4) (ret := (Option.some FieldType.int)) (by decide) rfl ?_
  intro p e s m args below meth c s₁ B hml hv
  obtain ⟨rfl, hU⟩ := hv
  have hts := atoms_spec (ws := Cond.code yX10_wish prog_1_method_24_code 4 (Option.some FieldType.int) :: tbG) B.pre
  have hl := lv_entry ([.ref t0, .int v1, .int v2, .int v3]) (n := 4) (Nat.le_of_ble_eq_true rfl)
  rw [lg_entry_eq]
  generalize (lg_sl ([.ref t0, .int v1, .int v2, .int v3]) ++ List.replicate (4 - (lg_sl ([.ref t0, .int v1, .int v2, .int v3])).length) Slot.unset).toArray = ls at hl ⊢
  exact tX10_wish_0 ⟨B.exec, B.bytes, hml, findClass_of_methodNamed B.named, fun w hw => hts w (List.mem_cons_of_mem _ hw)⟩ B.returns B.notSynchronized t0 v1 v2 v3 h _ _ _ (hp_B.entry hU) hl hf
section
variable {p : Program} {l : Launch} {e : Env} {R : Room} {s : State} {m : MethodId} {args : Array Value} {below : List Frame} {meth : Method} {c : Code} {H : Heap} {locs : List Loc} {cells slots : Nat} {Q : State → Prop}
variable {cc : ByteArray} {pc nL : Nat} {ls : Array Slot} {rest : List Value} {D : va_G} {cA : Nat → ClassId} {A : Nat → Prop} {a : Nat} {h : Hp}
theorem cl_X10_256 {As st0 : List Value} {b : Nat} {Qc : Array Value → State → Outcome → State → Prop} (cx : CallFix p m c cc nL s args tbG RX10) (hB : hp_B D cA A s h H locs) (hM : hp_M l yX6_make prog_8_method_2_code 7 (Option.some FieldType.int) rmX6_make D cA h (.ref b :: As) Qc) (hkb : h.1 b = 7) (hR : rmX6_make.frames + 1 ≤ R.frames ∧ 8 + (7 + 11) + rmX6_make.locals ≤ R.locals) (hn : As.length = 3) (hls : ls.size = nL) (hst : st0 = As.reverse ++ .ref b :: rest) (hW : (rest.map fun v => v.category).sum ≤ 8) (hf : cells + rmX6_make.cells ≤ R.cells ∧ slots + rmX6_make.slots ≤ R.slots) (hdg : decode cc pc = .ok (.invokevirtual 256, 3)) :
    va_Run p l e R s m args below meth c H locs cells slots rmX6_make.cells rmX6_make.slots (F0 m pc ls st0) rest (Qc (Value.ref b :: As).toArray) (hp_A h) :=
  hp_runV cx hB hM (ci := 6) rfl (by decide) hkb qw_690 qw_687 qw_688 qw_689 qw_7 (by decide +kernel) hR hn hls hst hW hf hdg
end
abbrev yX10_plan : MethodName := ⟨"SpokenMenus", "plan", "(III)I"⟩
theorem dX10_plan_0 : decode prog_1_method_25_code 0 = .ok (.iload_n 1, 1) := by decide +kernel
theorem dX10_plan_1 : decode prog_1_method_25_code 1 = .ok (.iconst 1, 1) := by decide +kernel
theorem dX10_plan_2 : decode prog_1_method_25_code 2 = .ok (.bipush 8, 2) := by decide +kernel
theorem dX10_plan_4 : decode prog_1_method_25_code 4 = .ok (.invokestatic 61, 3) := by decide +kernel
theorem dX10_plan_7 : decode prog_1_method_25_code 7 = .ok (.ifCond .eq 24, 3) := by decide +kernel
theorem dX10_plan_10 : decode prog_1_method_25_code 10 = .ok (.iload_n 2, 1) := by decide +kernel
theorem dX10_plan_11 : decode prog_1_method_25_code 11 = .ok (.iconst 1, 1) := by decide +kernel
theorem dX10_plan_12 : decode prog_1_method_25_code 12 = .ok (.sipush 200, 3) := by decide +kernel
theorem dX10_plan_15 : decode prog_1_method_25_code 15 = .ok (.invokestatic 61, 3) := by decide +kernel
theorem dX10_plan_18 : decode prog_1_method_25_code 18 = .ok (.ifCond .eq 13, 3) := by decide +kernel
theorem dX10_plan_21 : decode prog_1_method_25_code 21 = .ok (.iload_n 3, 1) := by decide +kernel
theorem dX10_plan_22 : decode prog_1_method_25_code 22 = .ok (.iconst 2, 1) := by decide +kernel
theorem dX10_plan_23 : decode prog_1_method_25_code 23 = .ok (.bipush 6, 2) := by decide +kernel
theorem dX10_plan_25 : decode prog_1_method_25_code 25 = .ok (.invokestatic 61, 3) := by decide +kernel
theorem dX10_plan_28 : decode prog_1_method_25_code 28 = .ok (.ifCond .ne 5, 3) := by decide +kernel
theorem dX10_plan_31 : decode prog_1_method_25_code 31 = .ok (.iconst (-1), 1) := by decide +kernel
theorem dX10_plan_32 : decode prog_1_method_25_code 32 = .ok (.ireturn, 1) := by decide +kernel
theorem dX10_plan_33 : decode prog_1_method_25_code 33 = .ok (.aload_n 0, 1) := by decide +kernel
theorem dX10_plan_34 : decode prog_1_method_25_code 34 = .ok (.getfield 47, 3) := by decide +kernel
theorem dX10_plan_37 : decode prog_1_method_25_code 37 = .ok (.iload_n 1, 1) := by decide +kernel
theorem dX10_plan_38 : decode prog_1_method_25_code 38 = .ok (.iload_n 2, 1) := by decide +kernel
theorem dX10_plan_39 : decode prog_1_method_25_code 39 = .ok (.iload_n 3, 1) := by decide +kernel
theorem dX10_plan_40 : decode prog_1_method_25_code 40 = .ok (.invokevirtual 256, 3) := by decide +kernel
theorem dX10_plan_43 : decode prog_1_method_25_code 43 = .ok (.ireturn, 1) := by decide +kernel
abbrev rmX10_plan : Room := { frames := 4, cells := 0, slots := 0, locals := 94 }
def fX10_plan  (t0 : Nat) (v1 : Int32) (v2 : Int32) (v3 : Int32) (h : Hp) : Option (Int32 × Hp) :=
  b2 (fX10_within v1 1 8 h) fun r3 g1 =>
  if r3 = 0 then
  (some ((-1), g1))
  else
  (b2 (fX10_within v2 1 200 g1) fun r8 g6 =>
  if r8 = 0 then
  (some ((-1), g6))
  else
  (b2 (fX10_within v3 2 6 g6) fun r13 g11 =>
  if r13 = 0 then
  (some ((-1), g11))
  else
  (gk (g11.1 t0) 11 <|
  bd (g11.2.2.2.1 t0 5) fun a17 =>
  gk (g11.1 a17) 7 <|
  b2 (fX6_make a17 v1 v2 v3 g11) fun r22 g20 =>
  some (r22, g20))))
section
variable {p : Program} {l : Launch} {e : Env} {s : State} {m : MethodId} {args : Array Value} {below : List Frame} {meth : Method} {c : Code} {D : va_G} {cA : Nat → ClassId} {h0 h9 : Hp}
set_option maxHeartbeats 4000000 in
set_option maxRecDepth 100000 in
theorem tX10_plan_0  {r : Int32} (cx : CallFix p m c prog_1_method_25_code 4 s args tbG RX10) (hr : meth.sig.returnType = (Option.some FieldType.int)) (hlk : meth.locks = false)  (t0 : Nat) (v1 : Int32) (v2 : Int32) (v3 : Int32) (h : Hp) (H : Heap) (locs : List Loc) (ls : Array Slot) (hB : hp_B D cA (hp_A h0) s h H locs) (hl : lv_has ls 4 [(0, .ref t0), (1, .int v1), (2, .int v2), (3, .int v3)]) (hf : fX10_plan  t0 v1 v2 v3 h = some (r, h9)) : W p l e rmX10_plan s m args below meth c H locs 0 0 (MQ below (hp_Qi D cA h0 h9 r) args s 0 0 (hp_A h0)) (F0 m 0 ls []) := by
  obtain ⟨hx, hb, -⟩ := id cx
  unfold fX10_plan at hf
  refine lv_iload_n hx hb dX10_plan_0 rfl (lv_at hl 1 rfl) ?_
  refine lv_iconst (v := 1) hx hb dX10_plan_1 (by decide) ?_
  refine lv_bipush (v := 8) hx hb dX10_plan_2 (by decide) ?_
  obtain ⟨r3, g1, m2, hf⟩ := b2_ok hf
  refine hp_cI0 (cl_X10_61 cx hB (cX10_within l D cA v1 1 8 h _ g1 m2) ⟨Nat.le_of_ble_eq_true rfl, Nat.le_of_ble_eq_true rfl⟩ rfl hl.1 rfl (Nat.le_of_ble_eq_true rfl) ⟨Nat.le_of_ble_eq_true rfl, Nat.le_of_ble_eq_true rfl⟩ dX10_plan_4) rfl rfl hB (fun H locs hB => ?_)
  refine lv_if_eq (tgt := 31) hx hb dX10_plan_7 (by decide) (fun c5 => ?_) (fun c5 => ?_)
  · replace hf := it_t c5 hf
    refine lv_iconst (v := (-1)) hx hb dX10_plan_31 (by decide) ?_
    obtain ⟨rfl, rfl⟩ := rt_ok hf
    exact hp_iret cx hB hr hlk (Nat.le_of_ble_eq_true rfl) (Nat.le_of_ble_eq_true rfl) dX10_plan_32
  · replace hf := it_f c5 hf
    refine lv_iload_n hx hb dX10_plan_10 rfl (lv_at hl 2 rfl) ?_
    refine lv_iconst (v := 1) hx hb dX10_plan_11 (by decide) ?_
    refine lv_sipush (v := 200) hx hb dX10_plan_12 (by decide) ?_
    obtain ⟨r8, g6, m7, hf⟩ := b2_ok hf
    refine hp_cI0 (cl_X10_61 cx hB (cX10_within l D cA v2 1 200 g1 _ g6 m7) ⟨Nat.le_of_ble_eq_true rfl, Nat.le_of_ble_eq_true rfl⟩ rfl hl.1 rfl (Nat.le_of_ble_eq_true rfl) ⟨Nat.le_of_ble_eq_true rfl, Nat.le_of_ble_eq_true rfl⟩ dX10_plan_15) rfl rfl hB (fun H locs hB => ?_)
    refine lv_if_eq (tgt := 31) hx hb dX10_plan_18 (by decide) (fun c10 => ?_) (fun c10 => ?_)
    · replace hf := it_t c10 hf
      refine lv_iconst (v := (-1)) hx hb dX10_plan_31 (by decide) ?_
      obtain ⟨rfl, rfl⟩ := rt_ok hf
      exact hp_iret cx hB hr hlk (Nat.le_of_ble_eq_true rfl) (Nat.le_of_ble_eq_true rfl) dX10_plan_32
    · replace hf := it_f c10 hf
      refine lv_iload_n hx hb dX10_plan_21 rfl (lv_at hl 3 rfl) ?_
      refine lv_iconst (v := 2) hx hb dX10_plan_22 (by decide) ?_
      refine lv_bipush (v := 6) hx hb dX10_plan_23 (by decide) ?_
      obtain ⟨r13, g11, m12, hf⟩ := b2_ok hf
      refine hp_cI0 (cl_X10_61 cx hB (cX10_within l D cA v3 2 6 g6 _ g11 m12) ⟨Nat.le_of_ble_eq_true rfl, Nat.le_of_ble_eq_true rfl⟩ rfl hl.1 rfl (Nat.le_of_ble_eq_true rfl) ⟨Nat.le_of_ble_eq_true rfl, Nat.le_of_ble_eq_true rfl⟩ dX10_plan_25) rfl rfl hB (fun H locs hB => ?_)
      refine lv_if_ne (tgt := 33) hx hb dX10_plan_28 (by decide) (fun c15 => ?_) (fun c15 => ?_)
      · replace hf := it_f c15 hf
        refine lv_aload_n hx hb dX10_plan_33 rfl (lv_at hl 0 rfl) ?_
        obtain ⟨k16, hf⟩ := gk_ok hf
        obtain ⟨a17, q18, hf⟩ := bd_ok hf
        refine gf_X10_47 cx hB k16 q18 dX10_plan_34 ?_
        refine lv_iload_n hx hb dX10_plan_37 rfl (lv_at hl 1 rfl) ?_
        refine lv_iload_n hx hb dX10_plan_38 rfl (lv_at hl 2 rfl) ?_
        refine lv_iload_n hx hb dX10_plan_39 rfl (lv_at hl 3 rfl) ?_
        obtain ⟨k19, hf⟩ := gk_ok hf
        obtain ⟨r22, g20, m21, hf⟩ := b2_ok hf
        refine hp_cI0 (cl_X10_256 cx hB (cX6_make l D cA a17 v1 v2 v3 g11 _ g20 m21) k19 ⟨Nat.le_of_ble_eq_true rfl, Nat.le_of_ble_eq_true rfl⟩ rfl hl.1 rfl (Nat.le_of_ble_eq_true rfl) ⟨Nat.le_of_ble_eq_true rfl, Nat.le_of_ble_eq_true rfl⟩ dX10_plan_40) rfl rfl hB (fun H locs hB => ?_)
        obtain ⟨rfl, rfl⟩ := rt_ok hf
        exact hp_iret cx hB hr hlk (Nat.le_of_ble_eq_true rfl) (Nat.le_of_ble_eq_true rfl) dX10_plan_43
      · replace hf := it_t c15 hf
        refine lv_iconst (v := (-1)) hx hb dX10_plan_31 (by decide) ?_
        obtain ⟨rfl, rfl⟩ := rt_ok hf
        exact hp_iret cx hB hr hlk (Nat.le_of_ble_eq_true rfl) (Nat.le_of_ble_eq_true rfl) dX10_plan_32
end
set_option maxHeartbeats 4000000 in
set_option maxRecDepth 100000 in
theorem cX10_plan (l : Launch) (D : va_G) (cA : Nat → ClassId) (t0 : Nat) (v1 : Int32) (v2 : Int32) (v3 : Int32) (h : Hp) (r : Int32) (h9 : Hp) (hf : fX10_plan t0 v1 v2 v3 h = some (r, h9)) : hp_M l yX10_plan prog_1_method_25_code 4 (Option.some FieldType.int) rmX10_plan D cA h [.ref t0, .int v1, .int v2, .int v3] (hp_Qi D cA h h9 r) := by
  refine Met.ofW (cc := prog_1_method_25_code) (maxL := 4) (ret := (Option.some FieldType.int)) (by decide) rfl ?_
  intro p e s m args below meth c s₁ B hml hv
  obtain ⟨rfl, hU⟩ := hv
  have hts := atoms_spec (ws := Cond.code yX10_plan prog_1_method_25_code 4 (Option.some FieldType.int) :: tbG) B.pre
  have hl := lv_entry ([.ref t0, .int v1, .int v2, .int v3]) (n := 4) (Nat.le_of_ble_eq_true rfl)
  rw [lg_entry_eq]
  generalize (lg_sl ([.ref t0, .int v1, .int v2, .int v3]) ++ List.replicate (4 - (lg_sl ([.ref t0, .int v1, .int v2, .int v3])).length) Slot.unset).toArray = ls at hl ⊢
  exact tX10_plan_0 ⟨B.exec, B.bytes, hml, findClass_of_methodNamed B.named, fun w hw => hts w (List.mem_cons_of_mem _ hw)⟩ B.returns B.notSynchronized t0 v1 v2 v3 h _ _ _ (hp_B.entry hU) hl hf
section
variable {p : Program} {l : Launch} {e : Env} {R : Room} {s : State} {m : MethodId} {args : Array Value} {below : List Frame} {meth : Method} {c : Code} {H : Heap} {locs : List Loc} {cells slots : Nat} {Q : State → Prop}
variable {cc : ByteArray} {pc nL : Nat} {ls : Array Slot} {rest : List Value} {D : va_G} {cA : Nat → ClassId} {A : Nat → Prop} {a : Nat} {h : Hp}
theorem gf_X10_260 (cx : CallFix p m c cc nL s args tbG RX10) (hB : hp_B D cA A s h H locs) (hka : h.1 a = 7) (hdg : decode cc pc = .ok (.getfield 260, 3)) (kk : W p l e R s m args below meth c H locs cells slots Q (F0 m (pc + 3) ls (.int (h.2.2.1 a 2) :: rest))) : W p l e R s m args below meth c H locs cells slots Q (F0 m pc ls (.ref a :: rest)) :=
  hp_getI cx hB (ci := 6) 2 rfl inX6 (by decide) rfl (by decide) rfl qw_126 hka hdg kk
theorem cl_X10_263 {As st0 : List Value} {b : Nat} {Qc : Array Value → State → Outcome → State → Prop} (cx : CallFix p m c cc nL s args tbG RX10) (hB : hp_B D cA A s h H locs) (hM : hp_M l yX6_partOf prog_8_method_3_code 6 (Option.some FieldType.int) rmX6_partOf D cA h (.ref b :: As) Qc) (hkb : h.1 b = 7) (hR : rmX6_partOf.frames + 1 ≤ R.frames ∧ 8 + (6 + 11) + rmX6_partOf.locals ≤ R.locals) (hn : As.length = 2) (hls : ls.size = nL) (hst : st0 = As.reverse ++ .ref b :: rest) (hW : (rest.map fun v => v.category).sum ≤ 8) (hf : cells + rmX6_partOf.cells ≤ R.cells ∧ slots + rmX6_partOf.slots ≤ R.slots) (hdg : decode cc pc = .ok (.invokevirtual 263, 3)) :
    va_Run p l e R s m args below meth c H locs cells slots rmX6_partOf.cells rmX6_partOf.slots (F0 m pc ls st0) rest (Qc (Value.ref b :: As).toArray) (hp_A h) :=
  hp_runV cx hB hM (ci := 6) rfl (by decide) hkb qw_717 qw_714 qw_715 qw_716 qw_7 (by decide +kernel) hR hn hls hst hW hf hdg
end
abbrev yX10_planned : MethodName := ⟨"SpokenMenus", "planned", "(II)I"⟩
theorem dX10_planned_0 : decode prog_1_method_26_code 0 = .ok (.iload_n 1, 1) := by decide +kernel
theorem dX10_planned_1 : decode prog_1_method_26_code 1 = .ok (.iconst 1, 1) := by decide +kernel
theorem dX10_planned_2 : decode prog_1_method_26_code 2 = .ok (.sipush 255, 3) := by decide +kernel
theorem dX10_planned_5 : decode prog_1_method_26_code 5 = .ok (.invokestatic 61, 3) := by decide +kernel
theorem dX10_planned_8 : decode prog_1_method_26_code 8 = .ok (.ifCond .eq 7, 3) := by decide +kernel
theorem dX10_planned_11 : decode prog_1_method_26_code 11 = .ok (.iload_n 2, 1) := by decide +kernel
theorem dX10_planned_12 : decode prog_1_method_26_code 12 = .ok (.ifCond .ge 5, 3) := by decide +kernel
theorem dX10_planned_15 : decode prog_1_method_26_code 15 = .ok (.iconst (-1), 1) := by decide +kernel
theorem dX10_planned_16 : decode prog_1_method_26_code 16 = .ok (.ireturn, 1) := by decide +kernel
theorem dX10_planned_17 : decode prog_1_method_26_code 17 = .ok (.aload_n 0, 1) := by decide +kernel
theorem dX10_planned_18 : decode prog_1_method_26_code 18 = .ok (.getfield 47, 3) := by decide +kernel
theorem dX10_planned_21 : decode prog_1_method_26_code 21 = .ok (.getfield 260, 3) := by decide +kernel
theorem dX10_planned_24 : decode prog_1_method_26_code 24 = .ok (.ifCond .ne 6, 3) := by decide +kernel
theorem dX10_planned_27 : decode prog_1_method_26_code 27 = .ok (.bipush (-2), 2) := by decide +kernel
theorem dX10_planned_29 : decode prog_1_method_26_code 29 = .ok (.ireturn, 1) := by decide +kernel
theorem dX10_planned_30 : decode prog_1_method_26_code 30 = .ok (.iload_n 1, 1) := by decide +kernel
theorem dX10_planned_31 : decode prog_1_method_26_code 31 = .ok (.aload_n 0, 1) := by decide +kernel
theorem dX10_planned_32 : decode prog_1_method_26_code 32 = .ok (.getfield 47, 3) := by decide +kernel
theorem dX10_planned_35 : decode prog_1_method_26_code 35 = .ok (.getfield 260, 3) := by decide +kernel
theorem dX10_planned_38 : decode prog_1_method_26_code 38 = .ok (.iconst (-1), 1) := by decide +kernel
theorem dX10_planned_39 : decode prog_1_method_26_code 39 = .ok (.ixor, 1) := by decide +kernel
theorem dX10_planned_40 : decode prog_1_method_26_code 40 = .ok (.iand, 1) := by decide +kernel
theorem dX10_planned_41 : decode prog_1_method_26_code 41 = .ok (.ifCond .eq 7, 3) := by decide +kernel
theorem dX10_planned_44 : decode prog_1_method_26_code 44 = .ok (.iconst (-1), 1) := by decide +kernel
theorem dX10_planned_45 : decode prog_1_method_26_code 45 = .ok (.goto 12, 3) := by decide +kernel
theorem dX10_planned_48 : decode prog_1_method_26_code 48 = .ok (.aload_n 0, 1) := by decide +kernel
theorem dX10_planned_49 : decode prog_1_method_26_code 49 = .ok (.getfield 47, 3) := by decide +kernel
theorem dX10_planned_52 : decode prog_1_method_26_code 52 = .ok (.iload_n 1, 1) := by decide +kernel
theorem dX10_planned_53 : decode prog_1_method_26_code 53 = .ok (.iload_n 2, 1) := by decide +kernel
theorem dX10_planned_54 : decode prog_1_method_26_code 54 = .ok (.invokevirtual 263, 3) := by decide +kernel
theorem dX10_planned_57 : decode prog_1_method_26_code 57 = .ok (.ireturn, 1) := by decide +kernel
abbrev rmX10_planned : Room := { frames := 2, cells := 0, slots := 0, locals := 45 }
def fX10_planned  (t0 : Nat) (v1 : Int32) (v2 : Int32) (h : Hp) : Option (Int32 × Hp) :=
  b2 (fX10_within v1 1 255 h) fun r3 g1 =>
  if r3 = 0 then
  (some ((-1), g1))
  else
  (if 0 ≤ v2 then
  (gk (g1.1 t0) 11 <|
  bd (g1.2.2.2.1 t0 5) fun a8 =>
  gk (g1.1 a8) 7 <|
  if (g1.2.2.1 a8 2) = 0 then
  (some ((-2), g1))
  else
  (if (v1 &&& ((g1.2.2.1 a8 2) ^^^ (-1))) = 0 then
  (b2 (fX6_partOf a8 v1 v2 g1) fun r15 g13 =>
  some (r15, g13))
  else
  (some ((-1), g1))))
  else
  (some ((-1), g1)))
section
variable {p : Program} {l : Launch} {e : Env} {s : State} {m : MethodId} {args : Array Value} {below : List Frame} {meth : Method} {c : Code} {D : va_G} {cA : Nat → ClassId} {h0 h9 : Hp}
set_option maxHeartbeats 4000000 in
set_option maxRecDepth 100000 in
theorem tX10_planned_0  {r : Int32} (cx : CallFix p m c prog_1_method_26_code 3 s args tbG RX10) (hr : meth.sig.returnType = (Option.some FieldType.int)) (hlk : meth.locks = false)  (t0 : Nat) (v1 : Int32) (v2 : Int32) (h : Hp) (H : Heap) (locs : List Loc) (ls : Array Slot) (hB : hp_B D cA (hp_A h0) s h H locs) (hl : lv_has ls 3 [(0, .ref t0), (1, .int v1), (2, .int v2)]) (hf : fX10_planned  t0 v1 v2 h = some (r, h9)) : W p l e rmX10_planned s m args below meth c H locs 0 0 (MQ below (hp_Qi D cA h0 h9 r) args s 0 0 (hp_A h0)) (F0 m 0 ls []) := by
  obtain ⟨hx, hb, -⟩ := id cx
  unfold fX10_planned at hf
  refine lv_iload_n hx hb dX10_planned_0 rfl (lv_at hl 1 rfl) ?_
  refine lv_iconst (v := 1) hx hb dX10_planned_1 (by decide) ?_
  refine lv_sipush (v := 255) hx hb dX10_planned_2 (by decide) ?_
  obtain ⟨r3, g1, m2, hf⟩ := b2_ok hf
  refine hp_cI0 (cl_X10_61 cx hB (cX10_within l D cA v1 1 255 h _ g1 m2) ⟨Nat.le_of_ble_eq_true rfl, Nat.le_of_ble_eq_true rfl⟩ rfl hl.1 rfl (Nat.le_of_ble_eq_true rfl) ⟨Nat.le_of_ble_eq_true rfl, Nat.le_of_ble_eq_true rfl⟩ dX10_planned_5) rfl rfl hB (fun H locs hB => ?_)
  refine lv_if_eq (tgt := 15) hx hb dX10_planned_8 (by decide) (fun c5 => ?_) (fun c5 => ?_)
  · replace hf := it_t c5 hf
    refine lv_iconst (v := (-1)) hx hb dX10_planned_15 (by decide) ?_
    obtain ⟨rfl, rfl⟩ := rt_ok hf
    exact hp_iret cx hB hr hlk (Nat.le_of_ble_eq_true rfl) (Nat.le_of_ble_eq_true rfl) dX10_planned_16
  · replace hf := it_f c5 hf
    refine lv_iload_n hx hb dX10_planned_11 rfl (lv_at hl 2 rfl) ?_
    refine lv_if_ge (tgt := 17) hx hb dX10_planned_12 (by decide) (fun c6 => ?_) (fun c6 => ?_)
    · replace hf := it_t c6 hf
      refine lv_aload_n hx hb dX10_planned_17 rfl (lv_at hl 0 rfl) ?_
      obtain ⟨k7, hf⟩ := gk_ok hf
      obtain ⟨a8, q9, hf⟩ := bd_ok hf
      refine gf_X10_47 cx hB k7 q9 dX10_planned_18 ?_
      obtain ⟨k10, hf⟩ := gk_ok hf
      refine gf_X10_260 cx hB k10 dX10_planned_21 ?_
      refine lv_if_ne (tgt := 30) hx hb dX10_planned_24 (by decide) (fun c11 => ?_) (fun c11 => ?_)
      · replace hf := it_f c11 hf
        refine lv_iload_n hx hb dX10_planned_30 rfl (lv_at hl 1 rfl) ?_
        refine lv_aload_n hx hb dX10_planned_31 rfl (lv_at hl 0 rfl) ?_
        refine gf_X10_47 cx hB k7 q9 dX10_planned_32 ?_
        refine gf_X10_260 cx hB k10 dX10_planned_35 ?_
        refine lv_iconst (v := (-1)) hx hb dX10_planned_38 (by decide) ?_
        refine lv_ixor hx hb dX10_planned_39 ?_
        refine lv_iand hx hb dX10_planned_40 ?_
        refine lv_if_eq (tgt := 48) hx hb dX10_planned_41 (by decide) (fun c12 => ?_) (fun c12 => ?_)
        · replace hf := it_t c12 hf
          refine lv_aload_n hx hb dX10_planned_48 rfl (lv_at hl 0 rfl) ?_
          refine gf_X10_47 cx hB k7 q9 dX10_planned_49 ?_
          refine lv_iload_n hx hb dX10_planned_52 rfl (lv_at hl 1 rfl) ?_
          refine lv_iload_n hx hb dX10_planned_53 rfl (lv_at hl 2 rfl) ?_
          obtain ⟨r15, g13, m14, hf⟩ := b2_ok hf
          refine hp_cI0 (cl_X10_263 cx hB (cX6_partOf l D cA a8 v1 v2 g1 _ g13 m14) k10 ⟨Nat.le_of_ble_eq_true rfl, Nat.le_of_ble_eq_true rfl⟩ rfl hl.1 rfl (Nat.le_of_ble_eq_true rfl) ⟨Nat.le_of_ble_eq_true rfl, Nat.le_of_ble_eq_true rfl⟩ dX10_planned_54) rfl rfl hB (fun H locs hB => ?_)
          obtain ⟨rfl, rfl⟩ := rt_ok hf
          exact hp_iret cx hB hr hlk (Nat.le_of_ble_eq_true rfl) (Nat.le_of_ble_eq_true rfl) dX10_planned_57
        · replace hf := it_f c12 hf
          refine lv_iconst (v := (-1)) hx hb dX10_planned_44 (by decide) ?_
          refine lv_goto (tgt := 57) hx hb dX10_planned_45 (by decide) ?_
          obtain ⟨rfl, rfl⟩ := rt_ok hf
          exact hp_iret cx hB hr hlk (Nat.le_of_ble_eq_true rfl) (Nat.le_of_ble_eq_true rfl) dX10_planned_57
      · replace hf := it_t c11 hf
        refine lv_bipush (v := (-2)) hx hb dX10_planned_27 (by decide) ?_
        obtain ⟨rfl, rfl⟩ := rt_ok hf
        exact hp_iret cx hB hr hlk (Nat.le_of_ble_eq_true rfl) (Nat.le_of_ble_eq_true rfl) dX10_planned_29
    · replace hf := it_f c6 hf
      refine lv_iconst (v := (-1)) hx hb dX10_planned_15 (by decide) ?_
      obtain ⟨rfl, rfl⟩ := rt_ok hf
      exact hp_iret cx hB hr hlk (Nat.le_of_ble_eq_true rfl) (Nat.le_of_ble_eq_true rfl) dX10_planned_16
end
set_option maxHeartbeats 4000000 in
set_option maxRecDepth 100000 in
theorem cX10_planned (l : Launch) (D : va_G) (cA : Nat → ClassId) (t0 : Nat) (v1 : Int32) (v2 : Int32) (h : Hp) (r : Int32) (h9 : Hp) (hf : fX10_planned t0 v1 v2 h = some (r, h9)) : hp_M l yX10_planned prog_1_method_26_code 3 (Option.some FieldType.int) rmX10_planned D cA h [.ref t0, .int v1, .int v2] (hp_Qi D cA h h9 r) := by
  refine Met.ofW (cc := prog_1_method_26_code) (maxL := 3) (ret := (Option.some FieldType.int)) (by decide) rfl ?_
  intro p e s m args below meth c s₁ B hml hv
  obtain ⟨rfl, hU⟩ := hv
  have hts := atoms_spec (ws := Cond.code yX10_planned prog_1_method_26_code 3 (Option.some FieldType.int) :: tbG) B.pre
  have hl := lv_entry ([.ref t0, .int v1, .int v2]) (n := 3) (Nat.le_of_ble_eq_true rfl)
  rw [lg_entry_eq]
  generalize (lg_sl ([.ref t0, .int v1, .int v2]) ++ List.replicate (3 - (lg_sl ([.ref t0, .int v1, .int v2])).length) Slot.unset).toArray = ls at hl ⊢
  exact tX10_planned_0 ⟨B.exec, B.bytes, hml, findClass_of_methodNamed B.named, fun w hw => hts w (List.mem_cons_of_mem _ hw)⟩ B.returns B.notSynchronized t0 v1 v2 h _ _ _ (hp_B.entry hU) hl hf
section
variable {p : Program} {l : Launch} {e : Env} {R : Room} {s : State} {m : MethodId} {args : Array Value} {below : List Frame} {meth : Method} {c : Code} {H : Heap} {locs : List Loc} {cells slots : Nat} {Q : State → Prop}
variable {cc : ByteArray} {pc nL : Nat} {ls : Array Slot} {rest : List Value} {D : va_G} {cA : Nat → ClassId} {A : Nat → Prop} {a : Nat} {h : Hp}
theorem cl_X10_267 {As st0 : List Value} {b : Nat} {Qc : Array Value → State → Outcome → State → Prop} (cx : CallFix p m c cc nL s args tbG RX10) (hB : hp_B D cA A s h H locs) (hM : hp_M l yX1_howManyCallers prog_3_method_3_code 3 (Option.some FieldType.int) rmX1_howManyCallers D cA h (.ref b :: As) Qc) (hkb : h.1 b = 2) (hR : rmX1_howManyCallers.frames + 1 ≤ R.frames ∧ 8 + (3 + 11) + rmX1_howManyCallers.locals ≤ R.locals) (hn : As.length = 0) (hls : ls.size = nL) (hst : st0 = As.reverse ++ .ref b :: rest) (hW : (rest.map fun v => v.category).sum ≤ 8) (hf : cells + rmX1_howManyCallers.cells ≤ R.cells ∧ slots + rmX1_howManyCallers.slots ≤ R.slots) (hdg : decode cc pc = .ok (.invokevirtual 267, 3)) :
    va_Run p l e R s m args below meth c H locs cells slots rmX1_howManyCallers.cells rmX1_howManyCallers.slots (F0 m pc ls st0) rest (Qc (Value.ref b :: As).toArray) (hp_A h) :=
  hp_runV cx hB hM (ci := 1) rfl (by decide) hkb qw_725 qw_722 qw_723 qw_724 qw_5 (by decide +kernel) hR hn hls hst hW hf hdg
end
abbrev yX10_count : MethodName := ⟨"SpokenMenus", "count", "(I)I"⟩
theorem dX10_count_0 : decode prog_1_method_27_code 0 = .ok (.iload_n 1, 1) := by decide +kernel
theorem dX10_count_1 : decode prog_1_method_27_code 1 = .ok (.tableswitch 51 0 2 #[27, 35, 43], 27) := by decide +kernel
theorem dX10_count_28 : decode prog_1_method_27_code 28 = .ok (.aload_n 0, 1) := by decide +kernel
theorem dX10_count_29 : decode prog_1_method_27_code 29 = .ok (.getfield 10, 3) := by decide +kernel
theorem dX10_count_32 : decode prog_1_method_27_code 32 = .ok (.getfield 160, 3) := by decide +kernel
theorem dX10_count_35 : decode prog_1_method_27_code 35 = .ok (.ireturn, 1) := by decide +kernel
theorem dX10_count_36 : decode prog_1_method_27_code 36 = .ok (.aload_n 0, 1) := by decide +kernel
theorem dX10_count_37 : decode prog_1_method_27_code 37 = .ok (.getfield 33, 3) := by decide +kernel
theorem dX10_count_40 : decode prog_1_method_27_code 40 = .ok (.getfield 219, 3) := by decide +kernel
theorem dX10_count_43 : decode prog_1_method_27_code 43 = .ok (.ireturn, 1) := by decide +kernel
theorem dX10_count_44 : decode prog_1_method_27_code 44 = .ok (.aload_n 0, 1) := by decide +kernel
theorem dX10_count_45 : decode prog_1_method_27_code 45 = .ok (.getfield 33, 3) := by decide +kernel
theorem dX10_count_48 : decode prog_1_method_27_code 48 = .ok (.invokevirtual 267, 3) := by decide +kernel
theorem dX10_count_51 : decode prog_1_method_27_code 51 = .ok (.ireturn, 1) := by decide +kernel
theorem dX10_count_52 : decode prog_1_method_27_code 52 = .ok (.iconst (-1), 1) := by decide +kernel
theorem dX10_count_53 : decode prog_1_method_27_code 53 = .ok (.ireturn, 1) := by decide +kernel
abbrev rmX10_count : Room := { frames := 1, cells := 0, slots := 0, locals := 22 }
def fX10_count  (t0 : Nat) (v1 : Int32) (h : Hp) : Option (Int32 × Hp) :=
  if v1 = 0 then
  (gk (h.1 t0) 11 <|
  bd (h.2.2.2.1 t0 0) fun a3 =>
  gk (h.1 a3) 3 <|
  some (h.2.2.1 a3 1, h))
  else
  if v1 = 1 then
  (gk (h.1 t0) 11 <|
  bd (h.2.2.2.1 t0 3) fun a8 =>
  gk (h.1 a8) 2 <|
  some (h.2.2.1 a8 2, h))
  else
  if v1 = 2 then
  (gk (h.1 t0) 11 <|
  bd (h.2.2.2.1 t0 3) fun a13 =>
  gk (h.1 a13) 2 <|
  b2 (fX1_howManyCallers a13 h) fun r18 g16 =>
  some (r18, g16))
  else
  (some ((-1), h))
section
variable {p : Program} {l : Launch} {e : Env} {s : State} {m : MethodId} {args : Array Value} {below : List Frame} {meth : Method} {c : Code} {D : va_G} {cA : Nat → ClassId} {h0 h9 : Hp}
set_option maxHeartbeats 4000000 in
set_option maxRecDepth 100000 in
theorem tX10_count_0  {r : Int32} (cx : CallFix p m c prog_1_method_27_code 2 s args tbG RX10) (hr : meth.sig.returnType = (Option.some FieldType.int)) (hlk : meth.locks = false)  (t0 : Nat) (v1 : Int32) (h : Hp) (H : Heap) (locs : List Loc) (ls : Array Slot) (hB : hp_B D cA (hp_A h0) s h H locs) (hl : lv_has ls 2 [(0, .ref t0), (1, .int v1)]) (hf : fX10_count  t0 v1 h = some (r, h9)) : W p l e rmX10_count s m args below meth c H locs 0 0 (MQ below (hp_Qi D cA h0 h9 r) args s 0 0 (hp_A h0)) (F0 m 0 ls []) := by
  obtain ⟨hx, hb, -⟩ := id cx
  unfold fX10_count at hf
  refine lv_iload_n hx hb dX10_count_0 rfl (lv_at hl 1 rfl) ?_
  by_cases c1 : v1 = 0
  · replace hf := it_t c1 hf
    refine lv_tableIn (off := 27) (tgt := 28) hx hb dX10_count_1 (by rw [c1]; decide) (by rw [c1]; decide) (by rw [c1]; rfl) (by decide) ?_
    refine lv_aload_n hx hb dX10_count_28 rfl (lv_at hl 0 rfl) ?_
    obtain ⟨k2, hf⟩ := gk_ok hf
    obtain ⟨a3, q4, hf⟩ := bd_ok hf
    refine gf_X10_10 cx hB k2 q4 dX10_count_29 ?_
    obtain ⟨k5, hf⟩ := gk_ok hf
    refine gf_X10_160 cx hB k5 dX10_count_32 ?_
    obtain ⟨rfl, rfl⟩ := rt_ok hf
    exact hp_iret cx hB hr hlk (Nat.le_of_ble_eq_true rfl) (Nat.le_of_ble_eq_true rfl) dX10_count_35
  · replace hf := it_f c1 hf
    by_cases c6 : v1 = 1
    · replace hf := it_t c6 hf
      refine lv_tableIn (off := 35) (tgt := 36) hx hb dX10_count_1 (by rw [c6]; decide) (by rw [c6]; decide) (by rw [c6]; rfl) (by decide) ?_
      refine lv_aload_n hx hb dX10_count_36 rfl (lv_at hl 0 rfl) ?_
      obtain ⟨k7, hf⟩ := gk_ok hf
      obtain ⟨a8, q9, hf⟩ := bd_ok hf
      refine gf_X10_33 cx hB k7 q9 dX10_count_37 ?_
      obtain ⟨k10, hf⟩ := gk_ok hf
      refine gf_X10_219 cx hB k10 dX10_count_40 ?_
      obtain ⟨rfl, rfl⟩ := rt_ok hf
      exact hp_iret cx hB hr hlk (Nat.le_of_ble_eq_true rfl) (Nat.le_of_ble_eq_true rfl) dX10_count_43
    · replace hf := it_f c6 hf
      by_cases c11 : v1 = 2
      · replace hf := it_t c11 hf
        refine lv_tableIn (off := 43) (tgt := 44) hx hb dX10_count_1 (by rw [c11]; decide) (by rw [c11]; decide) (by rw [c11]; rfl) (by decide) ?_
        refine lv_aload_n hx hb dX10_count_44 rfl (lv_at hl 0 rfl) ?_
        obtain ⟨k12, hf⟩ := gk_ok hf
        obtain ⟨a13, q14, hf⟩ := bd_ok hf
        refine gf_X10_33 cx hB k12 q14 dX10_count_45 ?_
        obtain ⟨k15, hf⟩ := gk_ok hf
        obtain ⟨r18, g16, m17, hf⟩ := b2_ok hf
        refine hp_cI0 (cl_X10_267 cx hB (cX1_howManyCallers l D cA a13 h _ g16 m17) k15 ⟨Nat.le_of_ble_eq_true rfl, Nat.le_of_ble_eq_true rfl⟩ rfl hl.1 rfl (Nat.le_of_ble_eq_true rfl) ⟨Nat.le_of_ble_eq_true rfl, Nat.le_of_ble_eq_true rfl⟩ dX10_count_48) rfl rfl hB (fun H locs hB => ?_)
        obtain ⟨rfl, rfl⟩ := rt_ok hf
        exact hp_iret cx hB hr hlk (Nat.le_of_ble_eq_true rfl) (Nat.le_of_ble_eq_true rfl) dX10_count_51
      · replace hf := it_f c11 hf
        refine lv_tableOut (tgt := 52) hx hb dX10_count_1 (by have nc1 := lv_neT c1 (a := 0) rfl; have nc6 := lv_neT c6 (a := 1) rfl; have nc11 := lv_neT c11 (a := 2) rfl; omega) (by decide) ?_
        refine lv_iconst (v := (-1)) hx hb dX10_count_52 (by decide) ?_
        obtain ⟨rfl, rfl⟩ := rt_ok hf
        exact hp_iret cx hB hr hlk (Nat.le_of_ble_eq_true rfl) (Nat.le_of_ble_eq_true rfl) dX10_count_53
end
set_option maxHeartbeats 4000000 in
set_option maxRecDepth 100000 in
theorem cX10_count (l : Launch) (D : va_G) (cA : Nat → ClassId) (t0 : Nat) (v1 : Int32) (h : Hp) (r : Int32) (h9 : Hp) (hf : fX10_count t0 v1 h = some (r, h9)) : hp_M l yX10_count prog_1_method_27_code 2 (Option.some FieldType.int) rmX10_count D cA h [.ref t0, .int v1] (hp_Qi D cA h h9 r) := by
  refine Met.ofW (cc := prog_1_method_27_code) (maxL := 2) (ret := (Option.some FieldType.int)) (by decide) rfl ?_
  intro p e s m args below meth c s₁ B hml hv
  obtain ⟨rfl, hU⟩ := hv
  have hts := atoms_spec (ws := Cond.code yX10_count prog_1_method_27_code 2 (Option.some FieldType.int) :: tbG) B.pre
  have hl := lv_entry ([.ref t0, .int v1]) (n := 2) (Nat.le_of_ble_eq_true rfl)
  rw [lg_entry_eq]
  generalize (lg_sl ([.ref t0, .int v1]) ++ List.replicate (2 - (lg_sl ([.ref t0, .int v1])).length) Slot.unset).toArray = ls at hl ⊢
  exact tX10_count_0 ⟨B.exec, B.bytes, hml, findClass_of_methodNamed B.named, fun w hw => hts w (List.mem_cons_of_mem _ hw)⟩ B.returns B.notSynchronized t0 v1 h _ _ _ (hp_B.entry hU) hl hf
section
variable {p : Program} {l : Launch} {e : Env} {R : Room} {s : State} {m : MethodId} {args : Array Value} {below : List Frame} {meth : Method} {c : Code} {H : Heap} {locs : List Loc} {cells slots : Nat} {Q : State → Prop}
variable {cc : ByteArray} {pc nL : Nat} {ls : Array Slot} {rest : List Value} {D : va_G} {cA : Nat → ClassId} {A : Nat → Prop} {a : Nat} {h : Hp}
theorem pf_X11_7 (cx : CallFix p m c cc nL s args tbG RX11) (hB : hp_B D cA A s h H locs) (hnm : meth.name = "<init>") (hka : h.1 a = 12) {b : Nat} (hdg : decode cc pc = .ok (.putfield 7, 3)) (kk : ∀ (H1 : Heap) (locs1 : List Loc), hp_B D cA A s (hp_sr h a 1 (some b)) H1 locs1 → W p l e R s m args below meth c H1 locs1 cells slots Q (F0 m (pc + 3) ls rest)) : W p l e R s m args below meth c H locs cells slots Q (F0 m pc ls (.ref b :: .ref a :: rest)) :=
  hp_putX cx hB (ci := 11) 1 tyX11 tyX11_ok nmX11 rfl inX11 (by decide) rfl (by decide) (Or.inr ⟨rfl, hnm, rfl⟩) qw_733 hka (v := va_rf (some b)) (hp_like_sr h a 1 (some b)) (hp_fs_sr (by decide) rfl) rfl rfl hdg kk
theorem pf_X11_13 (cx : CallFix p m c cc nL s args tbG RX11) (hB : hp_B D cA A s h H locs) (hnm : meth.name = "<init>") (hka : h.1 a = 12) {b : Nat} (hdg : decode cc pc = .ok (.putfield 13, 3)) (kk : ∀ (H1 : Heap) (locs1 : List Loc), hp_B D cA A s (hp_sr h a 2 (some b)) H1 locs1 → W p l e R s m args below meth c H1 locs1 cells slots Q (F0 m (pc + 3) ls rest)) : W p l e R s m args below meth c H locs cells slots Q (F0 m pc ls (.ref b :: .ref a :: rest)) :=
  hp_putX cx hB (ci := 11) 2 tyX11 tyX11_ok nmX11 rfl inX11 (by decide) rfl (by decide) (Or.inr ⟨rfl, hnm, rfl⟩) qw_734 hka (v := va_rf (some b)) (hp_like_sr h a 2 (some b)) (hp_fs_sr (by decide) rfl) rfl rfl hdg kk
theorem pf_X11_16 (cx : CallFix p m c cc nL s args tbG RX11) (hB : hp_B D cA A s h H locs) (hnm : meth.name = "<init>") (hka : h.1 a = 12) {b : Nat} (hdg : decode cc pc = .ok (.putfield 16, 3)) (kk : ∀ (H1 : Heap) (locs1 : List Loc), hp_B D cA A s (hp_sr h a 3 (some b)) H1 locs1 → W p l e R s m args below meth c H1 locs1 cells slots Q (F0 m (pc + 3) ls rest)) : W p l e R s m args below meth c H locs cells slots Q (F0 m pc ls (.ref b :: .ref a :: rest)) :=
  hp_putX cx hB (ci := 11) 3 tyX11 tyX11_ok nmX11 rfl inX11 (by decide) rfl (by decide) (Or.inr ⟨rfl, hnm, rfl⟩) qw_735 hka (v := va_rf (some b)) (hp_like_sr h a 3 (some b)) (hp_fs_sr (by decide) rfl) rfl rfl hdg kk
theorem pf_X11_19 (cx : CallFix p m c cc nL s args tbG RX11) (hB : hp_B D cA A s h H locs) (hnm : meth.name = "<init>") (hka : h.1 a = 12) {b : Nat} (hdg : decode cc pc = .ok (.putfield 19, 3)) (kk : ∀ (H1 : Heap) (locs1 : List Loc), hp_B D cA A s (hp_sr h a 4 (some b)) H1 locs1 → W p l e R s m args below meth c H1 locs1 cells slots Q (F0 m (pc + 3) ls rest)) : W p l e R s m args below meth c H locs cells slots Q (F0 m pc ls (.ref b :: .ref a :: rest)) :=
  hp_putX cx hB (ci := 11) 4 tyX11 tyX11_ok nmX11 rfl inX11 (by decide) rfl (by decide) (Or.inr ⟨rfl, hnm, rfl⟩) qw_736 hka (v := va_rf (some b)) (hp_like_sr h a 4 (some b)) (hp_fs_sr (by decide) rfl) rfl rfl hdg kk
theorem pf_X11_22 (cx : CallFix p m c cc nL s args tbG RX11) (hB : hp_B D cA A s h H locs) (hnm : meth.name = "<init>") (hka : h.1 a = 12) {b : Nat} (hdg : decode cc pc = .ok (.putfield 22, 3)) (kk : ∀ (H1 : Heap) (locs1 : List Loc), hp_B D cA A s (hp_sr h a 5 (some b)) H1 locs1 → W p l e R s m args below meth c H1 locs1 cells slots Q (F0 m (pc + 3) ls rest)) : W p l e R s m args below meth c H locs cells slots Q (F0 m pc ls (.ref b :: .ref a :: rest)) :=
  hp_putX cx hB (ci := 11) 5 tyX11 tyX11_ok nmX11 rfl inX11 (by decide) rfl (by decide) (Or.inr ⟨rfl, hnm, rfl⟩) qw_737 hka (v := va_rf (some b)) (hp_like_sr h a 5 (some b)) (hp_fs_sr (by decide) rfl) rfl rfl hdg kk
theorem pf_X11_25 (cx : CallFix p m c cc nL s args tbG RX11) (hB : hp_B D cA A s h H locs) (hnm : meth.name = "<init>") (hka : h.1 a = 12) {b : Nat} (hdg : decode cc pc = .ok (.putfield 25, 3)) (kk : ∀ (H1 : Heap) (locs1 : List Loc), hp_B D cA A s (hp_sr h a 6 (some b)) H1 locs1 → W p l e R s m args below meth c H1 locs1 cells slots Q (F0 m (pc + 3) ls rest)) : W p l e R s m args below meth c H locs cells slots Q (F0 m pc ls (.ref b :: .ref a :: rest)) :=
  hp_putX cx hB (ci := 11) 6 tyX11 tyX11_ok nmX11 rfl inX11 (by decide) rfl (by decide) (Or.inr ⟨rfl, hnm, rfl⟩) qw_738 hka (v := va_rf (some b)) (hp_like_sr h a 6 (some b)) (hp_fs_sr (by decide) rfl) rfl rfl hdg kk
theorem pf_X11_28 (cx : CallFix p m c cc nL s args tbG RX11) (hB : hp_B D cA A s h H locs) (hnm : meth.name = "<init>") (hka : h.1 a = 12) {b : Nat} (hdg : decode cc pc = .ok (.putfield 28, 3)) (kk : ∀ (H1 : Heap) (locs1 : List Loc), hp_B D cA A s (hp_sr h a 7 (some b)) H1 locs1 → W p l e R s m args below meth c H1 locs1 cells slots Q (F0 m (pc + 3) ls rest)) : W p l e R s m args below meth c H locs cells slots Q (F0 m pc ls (.ref b :: .ref a :: rest)) :=
  hp_putX cx hB (ci := 11) 7 tyX11 tyX11_ok nmX11 rfl inX11 (by decide) rfl (by decide) (Or.inr ⟨rfl, hnm, rfl⟩) qw_739 hka (v := va_rf (some b)) (hp_like_sr h a 7 (some b)) (hp_fs_sr (by decide) rfl) rfl rfl hdg kk
theorem pf_X11_31 (cx : CallFix p m c cc nL s args tbG RX11) (hB : hp_B D cA A s h H locs) (hnm : meth.name = "<init>") (hka : h.1 a = 12) {b : Nat} (hdg : decode cc pc = .ok (.putfield 31, 3)) (kk : ∀ (H1 : Heap) (locs1 : List Loc), hp_B D cA A s (hp_sr h a 8 (some b)) H1 locs1 → W p l e R s m args below meth c H1 locs1 cells slots Q (F0 m (pc + 3) ls rest)) : W p l e R s m args below meth c H locs cells slots Q (F0 m pc ls (.ref b :: .ref a :: rest)) :=
  hp_putX cx hB (ci := 11) 8 tyX11 tyX11_ok nmX11 rfl inX11 (by decide) rfl (by decide) (Or.inr ⟨rfl, hnm, rfl⟩) qw_740 hka (v := va_rf (some b)) (hp_like_sr h a 8 (some b)) (hp_fs_sr (by decide) rfl) rfl rfl hdg kk
theorem pf_X11_34 (cx : CallFix p m c cc nL s args tbG RX11) (hB : hp_B D cA A s h H locs) (hnm : meth.name = "<init>") (hka : h.1 a = 12) {b : Nat} (hdg : decode cc pc = .ok (.putfield 34, 3)) (kk : ∀ (H1 : Heap) (locs1 : List Loc), hp_B D cA A s (hp_sr h a 9 (some b)) H1 locs1 → W p l e R s m args below meth c H1 locs1 cells slots Q (F0 m (pc + 3) ls rest)) : W p l e R s m args below meth c H locs cells slots Q (F0 m pc ls (.ref b :: .ref a :: rest)) :=
  hp_putX cx hB (ci := 11) 9 tyX11 tyX11_ok nmX11 rfl inX11 (by decide) rfl (by decide) (Or.inr ⟨rfl, hnm, rfl⟩) qw_741 hka (v := va_rf (some b)) (hp_like_sr h a 9 (some b)) (hp_fs_sr (by decide) rfl) rfl rfl hdg kk
theorem pf_X11_37 (cx : CallFix p m c cc nL s args tbG RX11) (hB : hp_B D cA A s h H locs) (hnm : meth.name = "<init>") (hka : h.1 a = 12) {b : Nat} (hdg : decode cc pc = .ok (.putfield 37, 3)) (kk : ∀ (H1 : Heap) (locs1 : List Loc), hp_B D cA A s (hp_sr h a 10 (some b)) H1 locs1 → W p l e R s m args below meth c H1 locs1 cells slots Q (F0 m (pc + 3) ls rest)) : W p l e R s m args below meth c H locs cells slots Q (F0 m pc ls (.ref b :: .ref a :: rest)) :=
  hp_putX cx hB (ci := 11) 10 tyX11 tyX11_ok nmX11 rfl inX11 (by decide) rfl (by decide) (Or.inr ⟨rfl, hnm, rfl⟩) qw_742 hka (v := va_rf (some b)) (hp_like_sr h a 10 (some b)) (hp_fs_sr (by decide) rfl) rfl rfl hdg kk
theorem pf_X11_40 (cx : CallFix p m c cc nL s args tbG RX11) (hB : hp_B D cA A s h H locs) (hnm : meth.name = "<init>") (hka : h.1 a = 12) {b : Nat} (hdg : decode cc pc = .ok (.putfield 40, 3)) (kk : ∀ (H1 : Heap) (locs1 : List Loc), hp_B D cA A s (hp_sr h a 11 (some b)) H1 locs1 → W p l e R s m args below meth c H1 locs1 cells slots Q (F0 m (pc + 3) ls rest)) : W p l e R s m args below meth c H locs cells slots Q (F0 m pc ls (.ref b :: .ref a :: rest)) :=
  hp_putX cx hB (ci := 11) 11 tyX11 tyX11_ok nmX11 rfl inX11 (by decide) rfl (by decide) (Or.inr ⟨rfl, hnm, rfl⟩) qw_743 hka (v := va_rf (some b)) (hp_like_sr h a 11 (some b)) (hp_fs_sr (by decide) rfl) rfl rfl hdg kk
theorem pf_X11_43 (cx : CallFix p m c cc nL s args tbG RX11) (hB : hp_B D cA A s h H locs) (hnm : meth.name = "<init>") (hka : h.1 a = 12) {b : Nat} (hdg : decode cc pc = .ok (.putfield 43, 3)) (kk : ∀ (H1 : Heap) (locs1 : List Loc), hp_B D cA A s (hp_sr h a 12 (some b)) H1 locs1 → W p l e R s m args below meth c H1 locs1 cells slots Q (F0 m (pc + 3) ls rest)) : W p l e R s m args below meth c H locs cells slots Q (F0 m pc ls (.ref b :: .ref a :: rest)) :=
  hp_putX cx hB (ci := 11) 12 tyX11 tyX11_ok nmX11 rfl inX11 (by decide) rfl (by decide) (Or.inr ⟨rfl, hnm, rfl⟩) qw_744 hka (v := va_rf (some b)) (hp_like_sr h a 12 (some b)) (hp_fs_sr (by decide) rfl) rfl rfl hdg kk
theorem pf_X11_46 (cx : CallFix p m c cc nL s args tbG RX11) (hB : hp_B D cA A s h H locs) (hnm : meth.name = "<init>") (hka : h.1 a = 12) {b : Nat} (hdg : decode cc pc = .ok (.putfield 46, 3)) (kk : ∀ (H1 : Heap) (locs1 : List Loc), hp_B D cA A s (hp_sr h a 13 (some b)) H1 locs1 → W p l e R s m args below meth c H1 locs1 cells slots Q (F0 m (pc + 3) ls rest)) : W p l e R s m args below meth c H locs cells slots Q (F0 m pc ls (.ref b :: .ref a :: rest)) :=
  hp_putX cx hB (ci := 11) 13 tyX11 tyX11_ok nmX11 rfl inX11 (by decide) rfl (by decide) (Or.inr ⟨rfl, hnm, rfl⟩) qw_745 hka (v := va_rf (some b)) (hp_like_sr h a 13 (some b)) (hp_fs_sr (by decide) rfl) rfl rfl hdg kk
theorem pf_X11_49 (cx : CallFix p m c cc nL s args tbG RX11) (hB : hp_B D cA A s h H locs) (hnm : meth.name = "<init>") (hka : h.1 a = 12) {b : Nat} (hdg : decode cc pc = .ok (.putfield 49, 3)) (kk : ∀ (H1 : Heap) (locs1 : List Loc), hp_B D cA A s (hp_sr h a 14 (some b)) H1 locs1 → W p l e R s m args below meth c H1 locs1 cells slots Q (F0 m (pc + 3) ls rest)) : W p l e R s m args below meth c H locs cells slots Q (F0 m pc ls (.ref b :: .ref a :: rest)) :=
  hp_putX cx hB (ci := 11) 14 tyX11 tyX11_ok nmX11 rfl inX11 (by decide) rfl (by decide) (Or.inr ⟨rfl, hnm, rfl⟩) qw_746 hka (v := va_rf (some b)) (hp_like_sr h a 14 (some b)) (hp_fs_sr (by decide) rfl) rfl rfl hdg kk
theorem pf_X11_52 (cx : CallFix p m c cc nL s args tbG RX11) (hB : hp_B D cA A s h H locs) (hnm : meth.name = "<init>") (hka : h.1 a = 12) {b : Nat} (hdg : decode cc pc = .ok (.putfield 52, 3)) (kk : ∀ (H1 : Heap) (locs1 : List Loc), hp_B D cA A s (hp_sr h a 16 (some b)) H1 locs1 → W p l e R s m args below meth c H1 locs1 cells slots Q (F0 m (pc + 3) ls rest)) : W p l e R s m args below meth c H locs cells slots Q (F0 m pc ls (.ref b :: .ref a :: rest)) :=
  hp_putX cx hB (ci := 11) 16 tyX11 tyX11_ok nmX11 rfl inX11 (by decide) rfl (by decide) (Or.inr ⟨rfl, hnm, rfl⟩) qw_748 hka (v := va_rf (some b)) (hp_like_sr h a 16 (some b)) (hp_fs_sr (by decide) rfl) rfl rfl hdg kk
theorem pf_X11_55 (cx : CallFix p m c cc nL s args tbG RX11) (hB : hp_B D cA A s h H locs) (hnm : meth.name = "<init>") (hka : h.1 a = 12) {b : Nat} (hdg : decode cc pc = .ok (.putfield 55, 3)) (kk : ∀ (H1 : Heap) (locs1 : List Loc), hp_B D cA A s (hp_sr h a 17 (some b)) H1 locs1 → W p l e R s m args below meth c H1 locs1 cells slots Q (F0 m (pc + 3) ls rest)) : W p l e R s m args below meth c H locs cells slots Q (F0 m pc ls (.ref b :: .ref a :: rest)) :=
  hp_putX cx hB (ci := 11) 17 tyX11 tyX11_ok nmX11 rfl inX11 (by decide) rfl (by decide) (Or.inr ⟨rfl, hnm, rfl⟩) qw_749 hka (v := va_rf (some b)) (hp_like_sr h a 17 (some b)) (hp_fs_sr (by decide) rfl) rfl rfl hdg kk
theorem pf_X11_58 (cx : CallFix p m c cc nL s args tbG RX11) (hB : hp_B D cA A s h H locs) (hnm : meth.name = "<init>") (hka : h.1 a = 12) {b : Nat} (hdg : decode cc pc = .ok (.putfield 58, 3)) (kk : ∀ (H1 : Heap) (locs1 : List Loc), hp_B D cA A s (hp_sr h a 18 (some b)) H1 locs1 → W p l e R s m args below meth c H1 locs1 cells slots Q (F0 m (pc + 3) ls rest)) : W p l e R s m args below meth c H locs cells slots Q (F0 m pc ls (.ref b :: .ref a :: rest)) :=
  hp_putX cx hB (ci := 11) 18 tyX11 tyX11_ok nmX11 rfl inX11 (by decide) rfl (by decide) (Or.inr ⟨rfl, hnm, rfl⟩) qw_750 hka (v := va_rf (some b)) (hp_like_sr h a 18 (some b)) (hp_fs_sr (by decide) rfl) rfl rfl hdg kk
theorem pf_X11_61 (cx : CallFix p m c cc nL s args tbG RX11) (hB : hp_B D cA A s h H locs) (hnm : meth.name = "<init>") (hka : h.1 a = 12) {b : Nat} (hdg : decode cc pc = .ok (.putfield 61, 3)) (kk : ∀ (H1 : Heap) (locs1 : List Loc), hp_B D cA A s (hp_sr h a 19 (some b)) H1 locs1 → W p l e R s m args below meth c H1 locs1 cells slots Q (F0 m (pc + 3) ls rest)) : W p l e R s m args below meth c H locs cells slots Q (F0 m pc ls (.ref b :: .ref a :: rest)) :=
  hp_putX cx hB (ci := 11) 19 tyX11 tyX11_ok nmX11 rfl inX11 (by decide) rfl (by decide) (Or.inr ⟨rfl, hnm, rfl⟩) qw_751 hka (v := va_rf (some b)) (hp_like_sr h a 19 (some b)) (hp_fs_sr (by decide) rfl) rfl rfl hdg kk
theorem pf_X11_64 (cx : CallFix p m c cc nL s args tbG RX11) (hB : hp_B D cA A s h H locs) (hnm : meth.name = "<init>") (hka : h.1 a = 12) {b : Nat} (hdg : decode cc pc = .ok (.putfield 64, 3)) (kk : ∀ (H1 : Heap) (locs1 : List Loc), hp_B D cA A s (hp_sr h a 20 (some b)) H1 locs1 → W p l e R s m args below meth c H1 locs1 cells slots Q (F0 m (pc + 3) ls rest)) : W p l e R s m args below meth c H locs cells slots Q (F0 m pc ls (.ref b :: .ref a :: rest)) :=
  hp_putX cx hB (ci := 11) 20 tyX11 tyX11_ok nmX11 rfl inX11 (by decide) rfl (by decide) (Or.inr ⟨rfl, hnm, rfl⟩) qw_752 hka (v := va_rf (some b)) (hp_like_sr h a 20 (some b)) (hp_fs_sr (by decide) rfl) rfl rfl hdg kk
theorem pf_X11_67 (cx : CallFix p m c cc nL s args tbG RX11) (hB : hp_B D cA A s h H locs) (hnm : meth.name = "<init>") (hka : h.1 a = 12) {b : Nat} (hdg : decode cc pc = .ok (.putfield 67, 3)) (kk : ∀ (H1 : Heap) (locs1 : List Loc), hp_B D cA A s (hp_sr h a 21 (some b)) H1 locs1 → W p l e R s m args below meth c H1 locs1 cells slots Q (F0 m (pc + 3) ls rest)) : W p l e R s m args below meth c H locs cells slots Q (F0 m pc ls (.ref b :: .ref a :: rest)) :=
  hp_putX cx hB (ci := 11) 21 tyX11 tyX11_ok nmX11 rfl inX11 (by decide) rfl (by decide) (Or.inr ⟨rfl, hnm, rfl⟩) qw_753 hka (v := va_rf (some b)) (hp_like_sr h a 21 (some b)) (hp_fs_sr (by decide) rfl) rfl rfl hdg kk
theorem pf_X11_70 (cx : CallFix p m c cc nL s args tbG RX11) (hB : hp_B D cA A s h H locs) (hnm : meth.name = "<init>") (hka : h.1 a = 12) {b : Nat} (hdg : decode cc pc = .ok (.putfield 70, 3)) (kk : ∀ (H1 : Heap) (locs1 : List Loc), hp_B D cA A s (hp_sr h a 27 (some b)) H1 locs1 → W p l e R s m args below meth c H1 locs1 cells slots Q (F0 m (pc + 3) ls rest)) : W p l e R s m args below meth c H locs cells slots Q (F0 m pc ls (.ref b :: .ref a :: rest)) :=
  hp_putX cx hB (ci := 11) 27 tyX11 tyX11_ok nmX11 rfl inX11 (by decide) rfl (by decide) (Or.inr ⟨rfl, hnm, rfl⟩) qw_759 hka (v := va_rf (some b)) (hp_like_sr h a 27 (some b)) (hp_fs_sr (by decide) rfl) rfl rfl hdg kk
theorem pf_X11_73 (cx : CallFix p m c cc nL s args tbG RX11) (hB : hp_B D cA A s h H locs) (hnm : meth.name = "<init>") (hka : h.1 a = 12) {b : Nat} (hdg : decode cc pc = .ok (.putfield 73, 3)) (kk : ∀ (H1 : Heap) (locs1 : List Loc), hp_B D cA A s (hp_sr h a 28 (some b)) H1 locs1 → W p l e R s m args below meth c H1 locs1 cells slots Q (F0 m (pc + 3) ls rest)) : W p l e R s m args below meth c H locs cells slots Q (F0 m pc ls (.ref b :: .ref a :: rest)) :=
  hp_putX cx hB (ci := 11) 28 tyX11 tyX11_ok nmX11 rfl inX11 (by decide) rfl (by decide) (Or.inr ⟨rfl, hnm, rfl⟩) qw_760 hka (v := va_rf (some b)) (hp_like_sr h a 28 (some b)) (hp_fs_sr (by decide) rfl) rfl rfl hdg kk
theorem pf_X11_76 (cx : CallFix p m c cc nL s args tbG RX11) (hB : hp_B D cA A s h H locs) (hnm : meth.name = "<init>") (hka : h.1 a = 12) {b : Nat} (hdg : decode cc pc = .ok (.putfield 76, 3)) (kk : ∀ (H1 : Heap) (locs1 : List Loc), hp_B D cA A s (hp_sr h a 29 (some b)) H1 locs1 → W p l e R s m args below meth c H1 locs1 cells slots Q (F0 m (pc + 3) ls rest)) : W p l e R s m args below meth c H locs cells slots Q (F0 m pc ls (.ref b :: .ref a :: rest)) :=
  hp_putX cx hB (ci := 11) 29 tyX11 tyX11_ok nmX11 rfl inX11 (by decide) rfl (by decide) (Or.inr ⟨rfl, hnm, rfl⟩) qw_761 hka (v := va_rf (some b)) (hp_like_sr h a 29 (some b)) (hp_fs_sr (by decide) rfl) rfl rfl hdg kk
theorem pf_X11_79 (cx : CallFix p m c cc nL s args tbG RX11) (hB : hp_B D cA A s h H locs) (hnm : meth.name = "<init>") (hka : h.1 a = 12) {b : Nat} (hdg : decode cc pc = .ok (.putfield 79, 3)) (kk : ∀ (H1 : Heap) (locs1 : List Loc), hp_B D cA A s (hp_sr h a 30 (some b)) H1 locs1 → W p l e R s m args below meth c H1 locs1 cells slots Q (F0 m (pc + 3) ls rest)) : W p l e R s m args below meth c H locs cells slots Q (F0 m pc ls (.ref b :: .ref a :: rest)) :=
  hp_putX cx hB (ci := 11) 30 tyX11 tyX11_ok nmX11 rfl inX11 (by decide) rfl (by decide) (Or.inr ⟨rfl, hnm, rfl⟩) qw_762 hka (v := va_rf (some b)) (hp_like_sr h a 30 (some b)) (hp_fs_sr (by decide) rfl) rfl rfl hdg kk
theorem pf_X11_82 (cx : CallFix p m c cc nL s args tbG RX11) (hB : hp_B D cA A s h H locs) (hnm : meth.name = "<init>") (hka : h.1 a = 12) {b : Nat} (hdg : decode cc pc = .ok (.putfield 82, 3)) (kk : ∀ (H1 : Heap) (locs1 : List Loc), hp_B D cA A s (hp_sr h a 36 (some b)) H1 locs1 → W p l e R s m args below meth c H1 locs1 cells slots Q (F0 m (pc + 3) ls rest)) : W p l e R s m args below meth c H locs cells slots Q (F0 m pc ls (.ref b :: .ref a :: rest)) :=
  hp_putX cx hB (ci := 11) 36 tyX11 tyX11_ok nmX11 rfl inX11 (by decide) rfl (by decide) (Or.inr ⟨rfl, hnm, rfl⟩) qw_768 hka (v := va_rf (some b)) (hp_like_sr h a 36 (some b)) (hp_fs_sr (by decide) rfl) rfl rfl hdg kk
theorem pf_X11_85 (cx : CallFix p m c cc nL s args tbG RX11) (hB : hp_B D cA A s h H locs) (hnm : meth.name = "<init>") (hka : h.1 a = 12) {b : Nat} (hdg : decode cc pc = .ok (.putfield 85, 3)) (kk : ∀ (H1 : Heap) (locs1 : List Loc), hp_B D cA A s (hp_sr h a 42 (some b)) H1 locs1 → W p l e R s m args below meth c H1 locs1 cells slots Q (F0 m (pc + 3) ls rest)) : W p l e R s m args below meth c H locs cells slots Q (F0 m pc ls (.ref b :: .ref a :: rest)) :=
  hp_putX cx hB (ci := 11) 42 tyX11 tyX11_ok nmX11 rfl inX11 (by decide) rfl (by decide) (Or.inr ⟨rfl, hnm, rfl⟩) qw_774 hka (v := va_rf (some b)) (hp_like_sr h a 42 (some b)) (hp_fs_sr (by decide) rfl) rfl rfl hdg kk
theorem pf_X11_89 (cx : CallFix p m c cc nL s args tbG RX11) (hB : hp_B D cA A s h H locs) (hnm : meth.name = "<init>") (hka : h.1 a = 12) {b : Nat} (hdg : decode cc pc = .ok (.putfield 89, 3)) (kk : ∀ (H1 : Heap) (locs1 : List Loc), hp_B D cA A s (hp_sr h a 43 (some b)) H1 locs1 → W p l e R s m args below meth c H1 locs1 cells slots Q (F0 m (pc + 3) ls rest)) : W p l e R s m args below meth c H locs cells slots Q (F0 m pc ls (.ref b :: .ref a :: rest)) :=
  hp_putX cx hB (ci := 11) 43 tyX11 tyX11_ok nmX11 rfl inX11 (by decide) rfl (by decide) (Or.inr ⟨rfl, hnm, rfl⟩) qw_775 hka (v := va_rf (some b)) (hp_like_sr h a 43 (some b)) (hp_fs_sr (by decide) rfl) rfl rfl hdg kk
theorem pf_X11_92 (cx : CallFix p m c cc nL s args tbG RX11) (hB : hp_B D cA A s h H locs) (hnm : meth.name = "<init>") (hka : h.1 a = 12) {b : Nat} (hdg : decode cc pc = .ok (.putfield 92, 3)) (kk : ∀ (H1 : Heap) (locs1 : List Loc), hp_B D cA A s (hp_sr h a 44 (some b)) H1 locs1 → W p l e R s m args below meth c H1 locs1 cells slots Q (F0 m (pc + 3) ls rest)) : W p l e R s m args below meth c H locs cells slots Q (F0 m pc ls (.ref b :: .ref a :: rest)) :=
  hp_putX cx hB (ci := 11) 44 tyX11 tyX11_ok nmX11 rfl inX11 (by decide) rfl (by decide) (Or.inr ⟨rfl, hnm, rfl⟩) qw_776 hka (v := va_rf (some b)) (hp_like_sr h a 44 (some b)) (hp_fs_sr (by decide) rfl) rfl rfl hdg kk
theorem pf_X11_95 (cx : CallFix p m c cc nL s args tbG RX11) (hB : hp_B D cA A s h H locs) (hnm : meth.name = "<init>") (hka : h.1 a = 12) {b : Nat} (hdg : decode cc pc = .ok (.putfield 95, 3)) (kk : ∀ (H1 : Heap) (locs1 : List Loc), hp_B D cA A s (hp_sr h a 45 (some b)) H1 locs1 → W p l e R s m args below meth c H1 locs1 cells slots Q (F0 m (pc + 3) ls rest)) : W p l e R s m args below meth c H locs cells slots Q (F0 m pc ls (.ref b :: .ref a :: rest)) :=
  hp_putX cx hB (ci := 11) 45 tyX11 tyX11_ok nmX11 rfl inX11 (by decide) rfl (by decide) (Or.inr ⟨rfl, hnm, rfl⟩) qw_777 hka (v := va_rf (some b)) (hp_like_sr h a 45 (some b)) (hp_fs_sr (by decide) rfl) rfl rfl hdg kk
theorem pf_X11_98 (cx : CallFix p m c cc nL s args tbG RX11) (hB : hp_B D cA A s h H locs) (hnm : meth.name = "<init>") (hka : h.1 a = 12) {b : Nat} (hdg : decode cc pc = .ok (.putfield 98, 3)) (kk : ∀ (H1 : Heap) (locs1 : List Loc), hp_B D cA A s (hp_sr h a 46 (some b)) H1 locs1 → W p l e R s m args below meth c H1 locs1 cells slots Q (F0 m (pc + 3) ls rest)) : W p l e R s m args below meth c H locs cells slots Q (F0 m pc ls (.ref b :: .ref a :: rest)) :=
  hp_putX cx hB (ci := 11) 46 tyX11 tyX11_ok nmX11 rfl inX11 (by decide) rfl (by decide) (Or.inr ⟨rfl, hnm, rfl⟩) qw_778 hka (v := va_rf (some b)) (hp_like_sr h a 46 (some b)) (hp_fs_sr (by decide) rfl) rfl rfl hdg kk
theorem pf_X11_101 (cx : CallFix p m c cc nL s args tbG RX11) (hB : hp_B D cA A s h H locs) (hnm : meth.name = "<init>") (hka : h.1 a = 12) {b : Nat} (hdg : decode cc pc = .ok (.putfield 101, 3)) (kk : ∀ (H1 : Heap) (locs1 : List Loc), hp_B D cA A s (hp_sr h a 47 (some b)) H1 locs1 → W p l e R s m args below meth c H1 locs1 cells slots Q (F0 m (pc + 3) ls rest)) : W p l e R s m args below meth c H locs cells slots Q (F0 m pc ls (.ref b :: .ref a :: rest)) :=
  hp_putX cx hB (ci := 11) 47 tyX11 tyX11_ok nmX11 rfl inX11 (by decide) rfl (by decide) (Or.inr ⟨rfl, hnm, rfl⟩) qw_779 hka (v := va_rf (some b)) (hp_like_sr h a 47 (some b)) (hp_fs_sr (by decide) rfl) rfl rfl hdg kk
theorem pf_X11_104 (cx : CallFix p m c cc nL s args tbG RX11) (hB : hp_B D cA A s h H locs) (hnm : meth.name = "<init>") (hka : h.1 a = 12) {b : Nat} (hdg : decode cc pc = .ok (.putfield 104, 3)) (kk : ∀ (H1 : Heap) (locs1 : List Loc), hp_B D cA A s (hp_sr h a 48 (some b)) H1 locs1 → W p l e R s m args below meth c H1 locs1 cells slots Q (F0 m (pc + 3) ls rest)) : W p l e R s m args below meth c H locs cells slots Q (F0 m pc ls (.ref b :: .ref a :: rest)) :=
  hp_putX cx hB (ci := 11) 48 tyX11 tyX11_ok nmX11 rfl inX11 (by decide) rfl (by decide) (Or.inr ⟨rfl, hnm, rfl⟩) qw_780 hka (v := va_rf (some b)) (hp_like_sr h a 48 (some b)) (hp_fs_sr (by decide) rfl) rfl rfl hdg kk
theorem pf_X11_107 (cx : CallFix p m c cc nL s args tbG RX11) (hB : hp_B D cA A s h H locs) (hnm : meth.name = "<init>") (hka : h.1 a = 12) {b : Nat} (hdg : decode cc pc = .ok (.putfield 107, 3)) (kk : ∀ (H1 : Heap) (locs1 : List Loc), hp_B D cA A s (hp_sr h a 49 (some b)) H1 locs1 → W p l e R s m args below meth c H1 locs1 cells slots Q (F0 m (pc + 3) ls rest)) : W p l e R s m args below meth c H locs cells slots Q (F0 m pc ls (.ref b :: .ref a :: rest)) :=
  hp_putX cx hB (ci := 11) 49 tyX11 tyX11_ok nmX11 rfl inX11 (by decide) rfl (by decide) (Or.inr ⟨rfl, hnm, rfl⟩) qw_781 hka (v := va_rf (some b)) (hp_like_sr h a 49 (some b)) (hp_fs_sr (by decide) rfl) rfl rfl hdg kk
theorem pf_X11_110 (cx : CallFix p m c cc nL s args tbG RX11) (hB : hp_B D cA A s h H locs) (hnm : meth.name = "<init>") (hka : h.1 a = 12) {b : Nat} (hdg : decode cc pc = .ok (.putfield 110, 3)) (kk : ∀ (H1 : Heap) (locs1 : List Loc), hp_B D cA A s (hp_sr h a 50 (some b)) H1 locs1 → W p l e R s m args below meth c H1 locs1 cells slots Q (F0 m (pc + 3) ls rest)) : W p l e R s m args below meth c H locs cells slots Q (F0 m pc ls (.ref b :: .ref a :: rest)) :=
  hp_putX cx hB (ci := 11) 50 tyX11 tyX11_ok nmX11 rfl inX11 (by decide) rfl (by decide) (Or.inr ⟨rfl, hnm, rfl⟩) qw_782 hka (v := va_rf (some b)) (hp_like_sr h a 50 (some b)) (hp_fs_sr (by decide) rfl) rfl rfl hdg kk
theorem pf_X11_113 (cx : CallFix p m c cc nL s args tbG RX11) (hB : hp_B D cA A s h H locs) (hnm : meth.name = "<init>") (hka : h.1 a = 12) {b : Nat} (hdg : decode cc pc = .ok (.putfield 113, 3)) (kk : ∀ (H1 : Heap) (locs1 : List Loc), hp_B D cA A s (hp_sr h a 51 (some b)) H1 locs1 → W p l e R s m args below meth c H1 locs1 cells slots Q (F0 m (pc + 3) ls rest)) : W p l e R s m args below meth c H locs cells slots Q (F0 m pc ls (.ref b :: .ref a :: rest)) :=
  hp_putX cx hB (ci := 11) 51 tyX11 tyX11_ok nmX11 rfl inX11 (by decide) rfl (by decide) (Or.inr ⟨rfl, hnm, rfl⟩) qw_783 hka (v := va_rf (some b)) (hp_like_sr h a 51 (some b)) (hp_fs_sr (by decide) rfl) rfl rfl hdg kk
theorem pf_X11_116 (cx : CallFix p m c cc nL s args tbG RX11) (hB : hp_B D cA A s h H locs) (hnm : meth.name = "<init>") (hka : h.1 a = 12) {b : Nat} (hdg : decode cc pc = .ok (.putfield 116, 3)) (kk : ∀ (H1 : Heap) (locs1 : List Loc), hp_B D cA A s (hp_sr h a 52 (some b)) H1 locs1 → W p l e R s m args below meth c H1 locs1 cells slots Q (F0 m (pc + 3) ls rest)) : W p l e R s m args below meth c H locs cells slots Q (F0 m pc ls (.ref b :: .ref a :: rest)) :=
  hp_putX cx hB (ci := 11) 52 tyX11 tyX11_ok nmX11 rfl inX11 (by decide) rfl (by decide) (Or.inr ⟨rfl, hnm, rfl⟩) qw_784 hka (v := va_rf (some b)) (hp_like_sr h a 52 (some b)) (hp_fs_sr (by decide) rfl) rfl rfl hdg kk
theorem pf_X11_119 (cx : CallFix p m c cc nL s args tbG RX11) (hB : hp_B D cA A s h H locs) (hnm : meth.name = "<init>") (hka : h.1 a = 12) {b : Nat} (hdg : decode cc pc = .ok (.putfield 119, 3)) (kk : ∀ (H1 : Heap) (locs1 : List Loc), hp_B D cA A s (hp_sr h a 55 (some b)) H1 locs1 → W p l e R s m args below meth c H1 locs1 cells slots Q (F0 m (pc + 3) ls rest)) : W p l e R s m args below meth c H locs cells slots Q (F0 m pc ls (.ref b :: .ref a :: rest)) :=
  hp_putX cx hB (ci := 11) 55 tyX11 tyX11_ok nmX11 rfl inX11 (by decide) rfl (by decide) (Or.inr ⟨rfl, hnm, rfl⟩) qw_787 hka (v := va_rf (some b)) (hp_like_sr h a 55 (some b)) (hp_fs_sr (by decide) rfl) rfl rfl hdg kk
theorem pf_X11_122 (cx : CallFix p m c cc nL s args tbG RX11) (hB : hp_B D cA A s h H locs) (hnm : meth.name = "<init>") (hka : h.1 a = 12) {b : Nat} (hdg : decode cc pc = .ok (.putfield 122, 3)) (kk : ∀ (H1 : Heap) (locs1 : List Loc), hp_B D cA A s (hp_sr h a 56 (some b)) H1 locs1 → W p l e R s m args below meth c H1 locs1 cells slots Q (F0 m (pc + 3) ls rest)) : W p l e R s m args below meth c H locs cells slots Q (F0 m pc ls (.ref b :: .ref a :: rest)) :=
  hp_putX cx hB (ci := 11) 56 tyX11 tyX11_ok nmX11 rfl inX11 (by decide) rfl (by decide) (Or.inr ⟨rfl, hnm, rfl⟩) qw_788 hka (v := va_rf (some b)) (hp_like_sr h a 56 (some b)) (hp_fs_sr (by decide) rfl) rfl rfl hdg kk
theorem gf_X11_76 (cx : CallFix p m c cc nL s args tbG RX11) (hB : hp_B D cA A s h H locs) (hka : h.1 a = 12) {b : Nat} (ho : h.2.2.2.1 a 29 = some b) (hdg : decode cc pc = .ok (.getfield 76, 3)) (kk : W p l e R s m args below meth c H locs cells slots Q (F0 m (pc + 3) ls (.ref b :: rest))) : W p l e R s m args below meth c H locs cells slots Q (F0 m pc ls (.ref a :: rest)) :=
  hp_getR cx hB (ci := 11) 29 rfl inX11 (by decide) rfl (by decide) rfl qw_761 hka (o := some b) ho.symm hdg kk
end
abbrev yX11_init : MethodName := ⟨"SpokenMenusModel", "<init>", "()V"⟩
theorem dX11_init_0 : decode prog_13_method_1_code 0 = .ok (.aload_n 0, 1) := by decide +kernel
theorem dX11_init_1 : decode prog_13_method_1_code 1 = .ok (.invokespecial 1, 3) := by decide +kernel
theorem dX11_init_4 : decode prog_13_method_1_code 4 = .ok (.aload_n 0, 1) := by decide +kernel
theorem dX11_init_5 : decode prog_13_method_1_code 5 = .ok (.bipush 40, 2) := by decide +kernel
theorem dX11_init_7 : decode prog_13_method_1_code 7 = .ok (.newarray .int, 2) := by decide +kernel
theorem dX11_init_9 : decode prog_13_method_1_code 9 = .ok (.putfield 7, 3) := by decide +kernel
theorem dX11_init_12 : decode prog_13_method_1_code 12 = .ok (.aload_n 0, 1) := by decide +kernel
theorem dX11_init_13 : decode prog_13_method_1_code 13 = .ok (.bipush 40, 2) := by decide +kernel
theorem dX11_init_15 : decode prog_13_method_1_code 15 = .ok (.newarray .int, 2) := by decide +kernel
theorem dX11_init_17 : decode prog_13_method_1_code 17 = .ok (.putfield 13, 3) := by decide +kernel
theorem dX11_init_20 : decode prog_13_method_1_code 20 = .ok (.aload_n 0, 1) := by decide +kernel
theorem dX11_init_21 : decode prog_13_method_1_code 21 = .ok (.bipush 40, 2) := by decide +kernel
theorem dX11_init_23 : decode prog_13_method_1_code 23 = .ok (.newarray .int, 2) := by decide +kernel
theorem dX11_init_25 : decode prog_13_method_1_code 25 = .ok (.putfield 16, 3) := by decide +kernel
theorem dX11_init_28 : decode prog_13_method_1_code 28 = .ok (.aload_n 0, 1) := by decide +kernel
theorem dX11_init_29 : decode prog_13_method_1_code 29 = .ok (.bipush 40, 2) := by decide +kernel
theorem dX11_init_31 : decode prog_13_method_1_code 31 = .ok (.newarray .int, 2) := by decide +kernel
theorem dX11_init_33 : decode prog_13_method_1_code 33 = .ok (.putfield 19, 3) := by decide +kernel
theorem dX11_init_36 : decode prog_13_method_1_code 36 = .ok (.aload_n 0, 1) := by decide +kernel
theorem dX11_init_37 : decode prog_13_method_1_code 37 = .ok (.bipush 40, 2) := by decide +kernel
theorem dX11_init_39 : decode prog_13_method_1_code 39 = .ok (.newarray .int, 2) := by decide +kernel
theorem dX11_init_41 : decode prog_13_method_1_code 41 = .ok (.putfield 22, 3) := by decide +kernel
theorem dX11_init_44 : decode prog_13_method_1_code 44 = .ok (.aload_n 0, 1) := by decide +kernel
theorem dX11_init_45 : decode prog_13_method_1_code 45 = .ok (.bipush 40, 2) := by decide +kernel
theorem dX11_init_47 : decode prog_13_method_1_code 47 = .ok (.newarray .int, 2) := by decide +kernel
theorem dX11_init_49 : decode prog_13_method_1_code 49 = .ok (.putfield 25, 3) := by decide +kernel
theorem dX11_init_52 : decode prog_13_method_1_code 52 = .ok (.aload_n 0, 1) := by decide +kernel
theorem dX11_init_53 : decode prog_13_method_1_code 53 = .ok (.bipush 40, 2) := by decide +kernel
theorem dX11_init_55 : decode prog_13_method_1_code 55 = .ok (.newarray .int, 2) := by decide +kernel
theorem dX11_init_57 : decode prog_13_method_1_code 57 = .ok (.putfield 28, 3) := by decide +kernel
theorem dX11_init_60 : decode prog_13_method_1_code 60 = .ok (.aload_n 0, 1) := by decide +kernel
theorem dX11_init_61 : decode prog_13_method_1_code 61 = .ok (.bipush 40, 2) := by decide +kernel
theorem dX11_init_63 : decode prog_13_method_1_code 63 = .ok (.newarray .int, 2) := by decide +kernel
theorem dX11_init_65 : decode prog_13_method_1_code 65 = .ok (.putfield 31, 3) := by decide +kernel
theorem dX11_init_68 : decode prog_13_method_1_code 68 = .ok (.aload_n 0, 1) := by decide +kernel
theorem dX11_init_69 : decode prog_13_method_1_code 69 = .ok (.bipush 40, 2) := by decide +kernel
theorem dX11_init_71 : decode prog_13_method_1_code 71 = .ok (.newarray .int, 2) := by decide +kernel
theorem dX11_init_73 : decode prog_13_method_1_code 73 = .ok (.putfield 34, 3) := by decide +kernel
theorem dX11_init_76 : decode prog_13_method_1_code 76 = .ok (.aload_n 0, 1) := by decide +kernel
theorem dX11_init_77 : decode prog_13_method_1_code 77 = .ok (.bipush 40, 2) := by decide +kernel
theorem dX11_init_79 : decode prog_13_method_1_code 79 = .ok (.newarray .int, 2) := by decide +kernel
theorem dX11_init_81 : decode prog_13_method_1_code 81 = .ok (.putfield 37, 3) := by decide +kernel
theorem dX11_init_84 : decode prog_13_method_1_code 84 = .ok (.aload_n 0, 1) := by decide +kernel
theorem dX11_init_85 : decode prog_13_method_1_code 85 = .ok (.sipush 240, 3) := by decide +kernel
theorem dX11_init_88 : decode prog_13_method_1_code 88 = .ok (.newarray .int, 2) := by decide +kernel
theorem dX11_init_90 : decode prog_13_method_1_code 90 = .ok (.putfield 40, 3) := by decide +kernel
theorem dX11_init_93 : decode prog_13_method_1_code 93 = .ok (.aload_n 0, 1) := by decide +kernel
theorem dX11_init_94 : decode prog_13_method_1_code 94 = .ok (.sipush 240, 3) := by decide +kernel
theorem dX11_init_97 : decode prog_13_method_1_code 97 = .ok (.newarray .int, 2) := by decide +kernel
theorem dX11_init_99 : decode prog_13_method_1_code 99 = .ok (.putfield 43, 3) := by decide +kernel
theorem dX11_init_102 : decode prog_13_method_1_code 102 = .ok (.aload_n 0, 1) := by decide +kernel
theorem dX11_init_103 : decode prog_13_method_1_code 103 = .ok (.sipush 240, 3) := by decide +kernel
theorem dX11_init_106 : decode prog_13_method_1_code 106 = .ok (.newarray .int, 2) := by decide +kernel
theorem dX11_init_108 : decode prog_13_method_1_code 108 = .ok (.putfield 46, 3) := by decide +kernel
theorem dX11_init_111 : decode prog_13_method_1_code 111 = .ok (.aload_n 0, 1) := by decide +kernel
theorem dX11_init_112 : decode prog_13_method_1_code 112 = .ok (.sipush 240, 3) := by decide +kernel
theorem dX11_init_115 : decode prog_13_method_1_code 115 = .ok (.newarray .int, 2) := by decide +kernel
theorem dX11_init_117 : decode prog_13_method_1_code 117 = .ok (.putfield 49, 3) := by decide +kernel
theorem dX11_init_120 : decode prog_13_method_1_code 120 = .ok (.aload_n 0, 1) := by decide +kernel
theorem dX11_init_121 : decode prog_13_method_1_code 121 = .ok (.bipush 12, 2) := by decide +kernel
theorem dX11_init_123 : decode prog_13_method_1_code 123 = .ok (.newarray .int, 2) := by decide +kernel
theorem dX11_init_125 : decode prog_13_method_1_code 125 = .ok (.putfield 52, 3) := by decide +kernel
theorem dX11_init_128 : decode prog_13_method_1_code 128 = .ok (.aload_n 0, 1) := by decide +kernel
theorem dX11_init_129 : decode prog_13_method_1_code 129 = .ok (.bipush 12, 2) := by decide +kernel
theorem dX11_init_131 : decode prog_13_method_1_code 131 = .ok (.newarray .int, 2) := by decide +kernel
theorem dX11_init_133 : decode prog_13_method_1_code 133 = .ok (.putfield 55, 3) := by decide +kernel
theorem dX11_init_136 : decode prog_13_method_1_code 136 = .ok (.aload_n 0, 1) := by decide +kernel
theorem dX11_init_137 : decode prog_13_method_1_code 137 = .ok (.bipush 12, 2) := by decide +kernel
theorem dX11_init_139 : decode prog_13_method_1_code 139 = .ok (.newarray .int, 2) := by decide +kernel
theorem dX11_init_141 : decode prog_13_method_1_code 141 = .ok (.putfield 58, 3) := by decide +kernel
theorem dX11_init_144 : decode prog_13_method_1_code 144 = .ok (.aload_n 0, 1) := by decide +kernel
theorem dX11_init_145 : decode prog_13_method_1_code 145 = .ok (.bipush 12, 2) := by decide +kernel
theorem dX11_init_147 : decode prog_13_method_1_code 147 = .ok (.newarray .int, 2) := by decide +kernel
theorem dX11_init_149 : decode prog_13_method_1_code 149 = .ok (.putfield 61, 3) := by decide +kernel
theorem dX11_init_152 : decode prog_13_method_1_code 152 = .ok (.aload_n 0, 1) := by decide +kernel
theorem dX11_init_153 : decode prog_13_method_1_code 153 = .ok (.bipush 12, 2) := by decide +kernel
theorem dX11_init_155 : decode prog_13_method_1_code 155 = .ok (.newarray .int, 2) := by decide +kernel
theorem dX11_init_157 : decode prog_13_method_1_code 157 = .ok (.putfield 64, 3) := by decide +kernel
theorem dX11_init_160 : decode prog_13_method_1_code 160 = .ok (.aload_n 0, 1) := by decide +kernel
theorem dX11_init_161 : decode prog_13_method_1_code 161 = .ok (.bipush 12, 2) := by decide +kernel
theorem dX11_init_163 : decode prog_13_method_1_code 163 = .ok (.newarray .int, 2) := by decide +kernel
theorem dX11_init_165 : decode prog_13_method_1_code 165 = .ok (.putfield 67, 3) := by decide +kernel
theorem dX11_init_168 : decode prog_13_method_1_code 168 = .ok (.aload_n 0, 1) := by decide +kernel
theorem dX11_init_169 : decode prog_13_method_1_code 169 = .ok (.bipush 60, 2) := by decide +kernel
theorem dX11_init_171 : decode prog_13_method_1_code 171 = .ok (.newarray .int, 2) := by decide +kernel
theorem dX11_init_173 : decode prog_13_method_1_code 173 = .ok (.putfield 70, 3) := by decide +kernel
theorem dX11_init_176 : decode prog_13_method_1_code 176 = .ok (.aload_n 0, 1) := by decide +kernel
theorem dX11_init_177 : decode prog_13_method_1_code 177 = .ok (.bipush 60, 2) := by decide +kernel
theorem dX11_init_179 : decode prog_13_method_1_code 179 = .ok (.newarray .int, 2) := by decide +kernel
theorem dX11_init_181 : decode prog_13_method_1_code 181 = .ok (.putfield 73, 3) := by decide +kernel
theorem dX11_init_184 : decode prog_13_method_1_code 184 = .ok (.aload_n 0, 1) := by decide +kernel
theorem dX11_init_185 : decode prog_13_method_1_code 185 = .ok (.bipush 8, 2) := by decide +kernel
theorem dX11_init_187 : decode prog_13_method_1_code 187 = .ok (.newarray .int, 2) := by decide +kernel
theorem dX11_init_189 : decode prog_13_method_1_code 189 = .ok (.putfield 76, 3) := by decide +kernel
theorem dX11_init_192 : decode prog_13_method_1_code 192 = .ok (.aload_n 0, 1) := by decide +kernel
theorem dX11_init_193 : decode prog_13_method_1_code 193 = .ok (.bipush 8, 2) := by decide +kernel
theorem dX11_init_195 : decode prog_13_method_1_code 195 = .ok (.newarray .int, 2) := by decide +kernel
theorem dX11_init_197 : decode prog_13_method_1_code 197 = .ok (.putfield 79, 3) := by decide +kernel
theorem dX11_init_200 : decode prog_13_method_1_code 200 = .ok (.aload_n 0, 1) := by decide +kernel
theorem dX11_init_201 : decode prog_13_method_1_code 201 = .ok (.bipush 40, 2) := by decide +kernel
theorem dX11_init_203 : decode prog_13_method_1_code 203 = .ok (.newarray .int, 2) := by decide +kernel
theorem dX11_init_205 : decode prog_13_method_1_code 205 = .ok (.putfield 82, 3) := by decide +kernel
theorem dX11_init_208 : decode prog_13_method_1_code 208 = .ok (.aload_n 0, 1) := by decide +kernel
theorem dX11_init_209 : decode prog_13_method_1_code 209 = .ok (.bipush 40, 2) := by decide +kernel
theorem dX11_init_211 : decode prog_13_method_1_code 211 = .ok (.newarray .boolean, 2) := by decide +kernel
theorem dX11_init_213 : decode prog_13_method_1_code 213 = .ok (.putfield 85, 3) := by decide +kernel
theorem dX11_init_216 : decode prog_13_method_1_code 216 = .ok (.aload_n 0, 1) := by decide +kernel
theorem dX11_init_217 : decode prog_13_method_1_code 217 = .ok (.bipush 60, 2) := by decide +kernel
theorem dX11_init_219 : decode prog_13_method_1_code 219 = .ok (.newarray .int, 2) := by decide +kernel
theorem dX11_init_221 : decode prog_13_method_1_code 221 = .ok (.putfield 89, 3) := by decide +kernel
theorem dX11_init_224 : decode prog_13_method_1_code 224 = .ok (.aload_n 0, 1) := by decide +kernel
theorem dX11_init_225 : decode prog_13_method_1_code 225 = .ok (.bipush 60, 2) := by decide +kernel
theorem dX11_init_227 : decode prog_13_method_1_code 227 = .ok (.newarray .int, 2) := by decide +kernel
theorem dX11_init_229 : decode prog_13_method_1_code 229 = .ok (.putfield 92, 3) := by decide +kernel
theorem dX11_init_232 : decode prog_13_method_1_code 232 = .ok (.aload_n 0, 1) := by decide +kernel
theorem dX11_init_233 : decode prog_13_method_1_code 233 = .ok (.bipush 40, 2) := by decide +kernel
theorem dX11_init_235 : decode prog_13_method_1_code 235 = .ok (.newarray .boolean, 2) := by decide +kernel
theorem dX11_init_237 : decode prog_13_method_1_code 237 = .ok (.putfield 95, 3) := by decide +kernel
theorem dX11_init_240 : decode prog_13_method_1_code 240 = .ok (.aload_n 0, 1) := by decide +kernel
theorem dX11_init_241 : decode prog_13_method_1_code 241 = .ok (.bipush 40, 2) := by decide +kernel
theorem dX11_init_243 : decode prog_13_method_1_code 243 = .ok (.newarray .boolean, 2) := by decide +kernel
theorem dX11_init_245 : decode prog_13_method_1_code 245 = .ok (.putfield 98, 3) := by decide +kernel
theorem dX11_init_248 : decode prog_13_method_1_code 248 = .ok (.aload_n 0, 1) := by decide +kernel
theorem dX11_init_249 : decode prog_13_method_1_code 249 = .ok (.bipush 40, 2) := by decide +kernel
theorem dX11_init_251 : decode prog_13_method_1_code 251 = .ok (.newarray .boolean, 2) := by decide +kernel
theorem dX11_init_253 : decode prog_13_method_1_code 253 = .ok (.putfield 101, 3) := by decide +kernel
theorem dX11_init_256 : decode prog_13_method_1_code 256 = .ok (.aload_n 0, 1) := by decide +kernel
theorem dX11_init_257 : decode prog_13_method_1_code 257 = .ok (.bipush 6, 2) := by decide +kernel
theorem dX11_init_259 : decode prog_13_method_1_code 259 = .ok (.newarray .int, 2) := by decide +kernel
theorem dX11_init_261 : decode prog_13_method_1_code 261 = .ok (.putfield 104, 3) := by decide +kernel
theorem dX11_init_264 : decode prog_13_method_1_code 264 = .ok (.aload_n 0, 1) := by decide +kernel
theorem dX11_init_265 : decode prog_13_method_1_code 265 = .ok (.bipush 6, 2) := by decide +kernel
theorem dX11_init_267 : decode prog_13_method_1_code 267 = .ok (.newarray .int, 2) := by decide +kernel
theorem dX11_init_269 : decode prog_13_method_1_code 269 = .ok (.putfield 107, 3) := by decide +kernel
theorem dX11_init_272 : decode prog_13_method_1_code 272 = .ok (.aload_n 0, 1) := by decide +kernel
theorem dX11_init_273 : decode prog_13_method_1_code 273 = .ok (.bipush 24, 2) := by decide +kernel
theorem dX11_init_275 : decode prog_13_method_1_code 275 = .ok (.newarray .int, 2) := by decide +kernel
theorem dX11_init_277 : decode prog_13_method_1_code 277 = .ok (.putfield 110, 3) := by decide +kernel
theorem dX11_init_280 : decode prog_13_method_1_code 280 = .ok (.aload_n 0, 1) := by decide +kernel
theorem dX11_init_281 : decode prog_13_method_1_code 281 = .ok (.sipush 1792, 3) := by decide +kernel
theorem dX11_init_284 : decode prog_13_method_1_code 284 = .ok (.newarray .int, 2) := by decide +kernel
theorem dX11_init_286 : decode prog_13_method_1_code 286 = .ok (.putfield 113, 3) := by decide +kernel
theorem dX11_init_289 : decode prog_13_method_1_code 289 = .ok (.aload_n 0, 1) := by decide +kernel
theorem dX11_init_290 : decode prog_13_method_1_code 290 = .ok (.sipush 256, 3) := by decide +kernel
theorem dX11_init_293 : decode prog_13_method_1_code 293 = .ok (.newarray .int, 2) := by decide +kernel
theorem dX11_init_295 : decode prog_13_method_1_code 295 = .ok (.putfield 116, 3) := by decide +kernel
theorem dX11_init_298 : decode prog_13_method_1_code 298 = .ok (.aload_n 0, 1) := by decide +kernel
theorem dX11_init_299 : decode prog_13_method_1_code 299 = .ok (.sipush 256, 3) := by decide +kernel
theorem dX11_init_302 : decode prog_13_method_1_code 302 = .ok (.newarray .int, 2) := by decide +kernel
theorem dX11_init_304 : decode prog_13_method_1_code 304 = .ok (.putfield 119, 3) := by decide +kernel
theorem dX11_init_307 : decode prog_13_method_1_code 307 = .ok (.aload_n 0, 1) := by decide +kernel
theorem dX11_init_308 : decode prog_13_method_1_code 308 = .ok (.bipush 8, 2) := by decide +kernel
theorem dX11_init_310 : decode prog_13_method_1_code 310 = .ok (.newarray .int, 2) := by decide +kernel
theorem dX11_init_312 : decode prog_13_method_1_code 312 = .ok (.putfield 122, 3) := by decide +kernel
theorem dX11_init_315 : decode prog_13_method_1_code 315 = .ok (.iconst 0, 1) := by decide +kernel
theorem dX11_init_316 : decode prog_13_method_1_code 316 = .ok (.istore_n 1, 1) := by decide +kernel
theorem dX11_init_317 : decode prog_13_method_1_code 317 = .ok (.iload_n 1, 1) := by decide +kernel
theorem dX11_init_318 : decode prog_13_method_1_code 318 = .ok (.bipush 8, 2) := by decide +kernel
theorem dX11_init_320 : decode prog_13_method_1_code 320 = .ok (.if_icmp .ge 16, 3) := by decide +kernel
theorem dX11_init_323 : decode prog_13_method_1_code 323 = .ok (.aload_n 0, 1) := by decide +kernel
theorem dX11_init_324 : decode prog_13_method_1_code 324 = .ok (.getfield 76, 3) := by decide +kernel
theorem dX11_init_327 : decode prog_13_method_1_code 327 = .ok (.iload_n 1, 1) := by decide +kernel
theorem dX11_init_328 : decode prog_13_method_1_code 328 = .ok (.iconst 1, 1) := by decide +kernel
theorem dX11_init_329 : decode prog_13_method_1_code 329 = .ok (.iastore, 1) := by decide +kernel
theorem dX11_init_330 : decode prog_13_method_1_code 330 = .ok (.iinc 1 1, 3) := by decide +kernel
theorem dX11_init_333 : decode prog_13_method_1_code 333 = .ok (.goto (-16), 3) := by decide +kernel
theorem dX11_init_336 : decode prog_13_method_1_code 336 = .ok (.return_, 1) := by decide +kernel
abbrev rmX11_init : Room := { frames := 1, cells := 38, slots := 4236, locals := 20 }
def bX11_init_317  (rc : Nat → Int32 → Hp → Option (Unit × Hp)) (t0 : Nat) (v1 : Int32) (h : Hp) : Option (Unit × Hp) :=
  if 8 ≤ v1 then
  (some ((), h))
  else
  (gk (h.1 t0) 12 <|
  bd (h.2.2.2.1 t0 29) fun a3 =>
  gk (h.1 a3) 13 <|
  gd (ix v1 (h.2.1 a3)) <|
  nm (hp_si h a3 (Int32.toNatClampNeg v1) 1) fun g7 =>
  nm (v1 + 1) fun x8 =>
  rc t0 x8 g7)
def fX11_init_317  : Nat → Int32 → Hp → Option (Unit × Hp) := fx (bX11_init_317 ) (fun _ _ _ => none) NF
def fX11_init  (t0 : Nat) (h : Hp) : Option (Unit × Hp) :=
  nm h.2.2.2.2 fun a1 =>
  nm (hp_nw h 13 40) fun g2 =>
  gk (g2.1 t0) 12 <|
  nm (hp_sr g2 t0 1 (some a1)) fun g5 =>
  nm g5.2.2.2.2 fun a6 =>
  nm (hp_nw g5 13 40) fun g7 =>
  gk (g7.1 t0) 12 <|
  nm (hp_sr g7 t0 2 (some a6)) fun g10 =>
  nm g10.2.2.2.2 fun a11 =>
  nm (hp_nw g10 13 40) fun g12 =>
  gk (g12.1 t0) 12 <|
  nm (hp_sr g12 t0 3 (some a11)) fun g15 =>
  nm g15.2.2.2.2 fun a16 =>
  nm (hp_nw g15 13 40) fun g17 =>
  gk (g17.1 t0) 12 <|
  nm (hp_sr g17 t0 4 (some a16)) fun g20 =>
  nm g20.2.2.2.2 fun a21 =>
  nm (hp_nw g20 13 40) fun g22 =>
  gk (g22.1 t0) 12 <|
  nm (hp_sr g22 t0 5 (some a21)) fun g25 =>
  nm g25.2.2.2.2 fun a26 =>
  nm (hp_nw g25 13 40) fun g27 =>
  gk (g27.1 t0) 12 <|
  nm (hp_sr g27 t0 6 (some a26)) fun g30 =>
  nm g30.2.2.2.2 fun a31 =>
  nm (hp_nw g30 13 40) fun g32 =>
  gk (g32.1 t0) 12 <|
  nm (hp_sr g32 t0 7 (some a31)) fun g35 =>
  nm g35.2.2.2.2 fun a36 =>
  nm (hp_nw g35 13 40) fun g37 =>
  gk (g37.1 t0) 12 <|
  nm (hp_sr g37 t0 8 (some a36)) fun g40 =>
  nm g40.2.2.2.2 fun a41 =>
  nm (hp_nw g40 13 40) fun g42 =>
  gk (g42.1 t0) 12 <|
  nm (hp_sr g42 t0 9 (some a41)) fun g45 =>
  nm g45.2.2.2.2 fun a46 =>
  nm (hp_nw g45 13 40) fun g47 =>
  gk (g47.1 t0) 12 <|
  nm (hp_sr g47 t0 10 (some a46)) fun g50 =>
  nm g50.2.2.2.2 fun a51 =>
  nm (hp_nw g50 13 240) fun g52 =>
  gk (g52.1 t0) 12 <|
  nm (hp_sr g52 t0 11 (some a51)) fun g55 =>
  nm g55.2.2.2.2 fun a56 =>
  nm (hp_nw g55 13 240) fun g57 =>
  gk (g57.1 t0) 12 <|
  nm (hp_sr g57 t0 12 (some a56)) fun g60 =>
  nm g60.2.2.2.2 fun a61 =>
  nm (hp_nw g60 13 240) fun g62 =>
  gk (g62.1 t0) 12 <|
  nm (hp_sr g62 t0 13 (some a61)) fun g65 =>
  nm g65.2.2.2.2 fun a66 =>
  nm (hp_nw g65 13 240) fun g67 =>
  gk (g67.1 t0) 12 <|
  nm (hp_sr g67 t0 14 (some a66)) fun g70 =>
  nm g70.2.2.2.2 fun a71 =>
  nm (hp_nw g70 13 12) fun g72 =>
  gk (g72.1 t0) 12 <|
  nm (hp_sr g72 t0 16 (some a71)) fun g75 =>
  nm g75.2.2.2.2 fun a76 =>
  nm (hp_nw g75 13 12) fun g77 =>
  gk (g77.1 t0) 12 <|
  nm (hp_sr g77 t0 17 (some a76)) fun g80 =>
  nm g80.2.2.2.2 fun a81 =>
  nm (hp_nw g80 13 12) fun g82 =>
  gk (g82.1 t0) 12 <|
  nm (hp_sr g82 t0 18 (some a81)) fun g85 =>
  nm g85.2.2.2.2 fun a86 =>
  nm (hp_nw g85 13 12) fun g87 =>
  gk (g87.1 t0) 12 <|
  nm (hp_sr g87 t0 19 (some a86)) fun g90 =>
  nm g90.2.2.2.2 fun a91 =>
  nm (hp_nw g90 13 12) fun g92 =>
  gk (g92.1 t0) 12 <|
  nm (hp_sr g92 t0 20 (some a91)) fun g95 =>
  nm g95.2.2.2.2 fun a96 =>
  nm (hp_nw g95 13 12) fun g97 =>
  gk (g97.1 t0) 12 <|
  nm (hp_sr g97 t0 21 (some a96)) fun g100 =>
  nm g100.2.2.2.2 fun a101 =>
  nm (hp_nw g100 13 60) fun g102 =>
  gk (g102.1 t0) 12 <|
  nm (hp_sr g102 t0 27 (some a101)) fun g105 =>
  nm g105.2.2.2.2 fun a106 =>
  nm (hp_nw g105 13 60) fun g107 =>
  gk (g107.1 t0) 12 <|
  nm (hp_sr g107 t0 28 (some a106)) fun g110 =>
  nm g110.2.2.2.2 fun a111 =>
  nm (hp_nw g110 13 8) fun g112 =>
  gk (g112.1 t0) 12 <|
  nm (hp_sr g112 t0 29 (some a111)) fun g115 =>
  nm g115.2.2.2.2 fun a116 =>
  nm (hp_nw g115 13 8) fun g117 =>
  gk (g117.1 t0) 12 <|
  nm (hp_sr g117 t0 30 (some a116)) fun g120 =>
  nm g120.2.2.2.2 fun a121 =>
  nm (hp_nw g120 13 40) fun g122 =>
  gk (g122.1 t0) 12 <|
  nm (hp_sr g122 t0 36 (some a121)) fun g125 =>
  nm g125.2.2.2.2 fun a126 =>
  nm (hp_nw g125 14 40) fun g127 =>
  gk (g127.1 t0) 12 <|
  nm (hp_sr g127 t0 42 (some a126)) fun g130 =>
  nm g130.2.2.2.2 fun a131 =>
  nm (hp_nw g130 13 60) fun g132 =>
  gk (g132.1 t0) 12 <|
  nm (hp_sr g132 t0 43 (some a131)) fun g135 =>
  nm g135.2.2.2.2 fun a136 =>
  nm (hp_nw g135 13 60) fun g137 =>
  gk (g137.1 t0) 12 <|
  nm (hp_sr g137 t0 44 (some a136)) fun g140 =>
  nm g140.2.2.2.2 fun a141 =>
  nm (hp_nw g140 14 40) fun g142 =>
  gk (g142.1 t0) 12 <|
  nm (hp_sr g142 t0 45 (some a141)) fun g145 =>
  nm g145.2.2.2.2 fun a146 =>
  nm (hp_nw g145 14 40) fun g147 =>
  gk (g147.1 t0) 12 <|
  nm (hp_sr g147 t0 46 (some a146)) fun g150 =>
  nm g150.2.2.2.2 fun a151 =>
  nm (hp_nw g150 14 40) fun g152 =>
  gk (g152.1 t0) 12 <|
  nm (hp_sr g152 t0 47 (some a151)) fun g155 =>
  nm g155.2.2.2.2 fun a156 =>
  nm (hp_nw g155 13 6) fun g157 =>
  gk (g157.1 t0) 12 <|
  nm (hp_sr g157 t0 48 (some a156)) fun g160 =>
  nm g160.2.2.2.2 fun a161 =>
  nm (hp_nw g160 13 6) fun g162 =>
  gk (g162.1 t0) 12 <|
  nm (hp_sr g162 t0 49 (some a161)) fun g165 =>
  nm g165.2.2.2.2 fun a166 =>
  nm (hp_nw g165 13 24) fun g167 =>
  gk (g167.1 t0) 12 <|
  nm (hp_sr g167 t0 50 (some a166)) fun g170 =>
  nm g170.2.2.2.2 fun a171 =>
  nm (hp_nw g170 13 1792) fun g172 =>
  gk (g172.1 t0) 12 <|
  nm (hp_sr g172 t0 51 (some a171)) fun g175 =>
  nm g175.2.2.2.2 fun a176 =>
  nm (hp_nw g175 13 256) fun g177 =>
  gk (g177.1 t0) 12 <|
  nm (hp_sr g177 t0 52 (some a176)) fun g180 =>
  nm g180.2.2.2.2 fun a181 =>
  nm (hp_nw g180 13 256) fun g182 =>
  gk (g182.1 t0) 12 <|
  nm (hp_sr g182 t0 55 (some a181)) fun g185 =>
  nm g185.2.2.2.2 fun a186 =>
  nm (hp_nw g185 13 8) fun g187 =>
  gk (g187.1 t0) 12 <|
  nm (hp_sr g187 t0 56 (some a186)) fun g190 =>
  fX11_init_317  t0 0 g190
section
variable {p : Program} {l : Launch} {e : Env} {s : State} {m : MethodId} {args : Array Value} {below : List Frame} {meth : Method} {c : Code} {D : va_G} {cA : Nat → ClassId} {h0 h9 : Hp}
set_option maxHeartbeats 4000000 in
set_option maxRecDepth 100000 in
theorem tX11_init_317  (cx : CallFix p m c prog_13_method_1_code 2 s args tbG RX11) (hr : meth.sig.returnType = none) (hlk : meth.locks = false) (hnm : meth.name = "<init>")  (n : Nat) : ∀ (t0 : Nat) (v1 : Int32) (h : Hp) (H : Heap) (locs : List Loc) (ls : Array Slot), hp_B D cA (hp_A h0) s h H locs → lv_has ls 2 [(0, .ref t0), (1, .int v1)] → fx (bX11_init_317 ) (fun _ _ _ => none) n t0 v1 h = some ((), h9) → W p l e rmX11_init s m args below meth c H locs 38 4236 (MQ below (hp_Qv D cA h0 h9) args s 38 4236 (hp_A h0)) (F0 m 317 ls []) := by
  obtain ⟨hx, hb, -⟩ := id cx
  induction n with
  | zero => intro t0 v1 h H locs ls hB hl hf; cases hf
  | succ n ih =>
    intro t0 v1 h H locs ls hB hl hf
    replace hf : bX11_init_317  (fx (bX11_init_317 ) (fun _ _ _ => none) n) t0 v1 h = some ((), h9) := hf
    unfold bX11_init_317 at hf
    refine lv_iload_n hx hb dX11_init_317 rfl (lv_at hl 1 rfl) ?_
    refine lv_bipush (v := 8) hx hb dX11_init_318 (by decide) ?_
    refine lv_icmp_ge (tgt := 336) hx hb dX11_init_320 (by decide) (fun c1 => ?_) (fun c1 => ?_)
    · replace hf := it_t c1 hf
      obtain ⟨-, rfl⟩ := rt_ok hf
      exact hp_vret cx hB hr hlk (Nat.le_of_ble_eq_true rfl) (Nat.le_of_ble_eq_true rfl) dX11_init_336
    · replace hf := it_f c1 hf
      refine lv_aload_n hx hb dX11_init_323 rfl (lv_at hl 0 rfl) ?_
      obtain ⟨k2, hf⟩ := gk_ok hf
      obtain ⟨a3, q4, hf⟩ := bd_ok hf
      refine gf_X11_76 cx hB k2 q4 dX11_init_324 ?_
      refine lv_iload_n hx hb dX11_init_327 rfl (lv_at hl 1 rfl) ?_
      refine lv_iconst (v := 1) hx hb dX11_init_328 (by decide) ?_
      obtain ⟨k5, hf⟩ := gk_ok hf
      obtain ⟨j6, hf⟩ := gd_ok hf
      obtain ⟨g7, eg7, hf⟩ := nm_ok hf
      refine hp_iast cx hB k5 j6 dX11_init_329 (fun H locs hB => ?_)
      rw [← eg7] at hB
      obtain ⟨x8, ex8, hf⟩ := nm_ok hf
      refine lv_iinc (v := x8) (lv' := [(1, .int x8), (0, .ref t0)]) hx hb dX11_init_330 hl (k := 1) rfl (by rw [ex8]; rfl) (by decide) rfl (fun ls hl => ?_)
      refine lv_goto (tgt := 317) hx hb dX11_init_333 (by decide) ?_
      refine W.widen (k := 38) (n := 4236) (Nat.le_of_ble_eq_true rfl) (Nat.le_of_ble_eq_true rfl) ?_
      exact ih t0 x8 g7 _ _ _ hB (lv_sub hl [1, 0] rfl) hf
set_option maxHeartbeats 4000000 in
set_option maxRecDepth 100000 in
theorem tX11_init_0  (cx : CallFix p m c prog_13_method_1_code 2 s args tbG RX11) (hr : meth.sig.returnType = none) (hlk : meth.locks = false) (hnm : meth.name = "<init>")  (t0 : Nat) (h : Hp) (H : Heap) (locs : List Loc) (ls : Array Slot) (hB : hp_B D cA (hp_A h0) s h H locs) (hl : lv_has ls 2 [(0, .ref t0)]) (hf : fX11_init  t0 h = some ((), h9)) : W p l e rmX11_init s m args below meth c H locs 0 0 (MQ below (hp_Qv D cA h0 h9) args s 38 4236 (hp_A h0)) (F0 m 0 ls []) := by
  obtain ⟨hx, hb, -⟩ := id cx
  unfold fX11_init at hf
  refine lv_aload_n hx hb dX11_init_0 rfl (lv_at hl 0 rfl) ?_
  refine W.objInit hx hb cx.2.2.2.1 (cx.2.2.2.2 _ (tb_in qw_731 rfl)) (cx.2.2.2.2 _ (tb_in qw_22 rfl)) (cx.2.2.2.2 _ (tb_in qw_23 rfl)) rfl (by rw [cx.2.2.1]; exact hl.1) rfl dX11_init_1 (Nat.le_of_ble_eq_true rfl) (Nat.le_of_ble_eq_true rfl) ?_
  refine W.eq (g2 := F0 m 4 ls []) rfl ?_
  refine lv_aload_n hx hb dX11_init_4 rfl (lv_at hl 0 rfl) ?_
  refine lv_bipush (v := 40) hx hb dX11_init_5 (by decide) ?_
  obtain ⟨a1, ea1, hf⟩ := nm_ok hf
  obtain ⟨g2, eg2, hf⟩ := nm_ok hf
  refine hp_newa cx hB 13 (N' := 40) (ty := .int) rfl (by decide) rfl (fun h9 => h9) rfl qw_54 ea1 (by decide) (by decide) (by decide) (Nat.le_of_ble_eq_true rfl) (Nat.le_of_ble_eq_true rfl) dX11_init_7 (fun H hB => ?_)
  rw [← eg2] at hB
  have k3 : g2.1 a1 = 13 := by rw [eg2, ea1]; exact va_up_self _ _ _
  obtain ⟨k4, hf⟩ := gk_ok hf
  obtain ⟨g5, eg5, hf⟩ := nm_ok hf
  refine pf_X11_7 cx hB hnm k4 dX11_init_9 (fun H locs hB => ?_)
  rw [← eg5] at hB
  refine lv_aload_n hx hb dX11_init_12 rfl (lv_at hl 0 rfl) ?_
  refine lv_bipush (v := 40) hx hb dX11_init_13 (by decide) ?_
  obtain ⟨a6, ea6, hf⟩ := nm_ok hf
  obtain ⟨g7, eg7, hf⟩ := nm_ok hf
  refine hp_newa cx hB 13 (N' := 40) (ty := .int) rfl (by decide) rfl (fun h9 => h9) rfl qw_54 ea6 (by decide) (by decide) (by decide) (Nat.le_of_ble_eq_true rfl) (Nat.le_of_ble_eq_true rfl) dX11_init_15 (fun H hB => ?_)
  rw [← eg7] at hB
  have k8 : g7.1 a6 = 13 := by rw [eg7, ea6]; exact va_up_self _ _ _
  obtain ⟨k9, hf⟩ := gk_ok hf
  obtain ⟨g10, eg10, hf⟩ := nm_ok hf
  refine pf_X11_13 cx hB hnm k9 dX11_init_17 (fun H locs hB => ?_)
  rw [← eg10] at hB
  refine lv_aload_n hx hb dX11_init_20 rfl (lv_at hl 0 rfl) ?_
  refine lv_bipush (v := 40) hx hb dX11_init_21 (by decide) ?_
  obtain ⟨a11, ea11, hf⟩ := nm_ok hf
  obtain ⟨g12, eg12, hf⟩ := nm_ok hf
  refine hp_newa cx hB 13 (N' := 40) (ty := .int) rfl (by decide) rfl (fun h9 => h9) rfl qw_54 ea11 (by decide) (by decide) (by decide) (Nat.le_of_ble_eq_true rfl) (Nat.le_of_ble_eq_true rfl) dX11_init_23 (fun H hB => ?_)
  rw [← eg12] at hB
  have k13 : g12.1 a11 = 13 := by rw [eg12, ea11]; exact va_up_self _ _ _
  obtain ⟨k14, hf⟩ := gk_ok hf
  obtain ⟨g15, eg15, hf⟩ := nm_ok hf
  refine pf_X11_16 cx hB hnm k14 dX11_init_25 (fun H locs hB => ?_)
  rw [← eg15] at hB
  refine lv_aload_n hx hb dX11_init_28 rfl (lv_at hl 0 rfl) ?_
  refine lv_bipush (v := 40) hx hb dX11_init_29 (by decide) ?_
  obtain ⟨a16, ea16, hf⟩ := nm_ok hf
  obtain ⟨g17, eg17, hf⟩ := nm_ok hf
  refine hp_newa cx hB 13 (N' := 40) (ty := .int) rfl (by decide) rfl (fun h9 => h9) rfl qw_54 ea16 (by decide) (by decide) (by decide) (Nat.le_of_ble_eq_true rfl) (Nat.le_of_ble_eq_true rfl) dX11_init_31 (fun H hB => ?_)
  rw [← eg17] at hB
  have k18 : g17.1 a16 = 13 := by rw [eg17, ea16]; exact va_up_self _ _ _
  obtain ⟨k19, hf⟩ := gk_ok hf
  obtain ⟨g20, eg20, hf⟩ := nm_ok hf
  refine pf_X11_19 cx hB hnm k19 dX11_init_33 (fun H locs hB => ?_)
  rw [← eg20] at hB
  refine lv_aload_n hx hb dX11_init_36 rfl (lv_at hl 0 rfl) ?_
  refine lv_bipush (v := 40) hx hb dX11_init_37 (by decide) ?_
  obtain ⟨a21, ea21, hf⟩ := nm_ok hf
  obtain ⟨g22, eg22, hf⟩ := nm_ok hf
  refine hp_newa cx hB 13 (N' := 40) (ty := .int) rfl (by decide) rfl (fun h9 => h9) rfl qw_54 ea21 (by decide) (by decide) (by decide) (Nat.le_of_ble_eq_true rfl) (Nat.le_of_ble_eq_true rfl) dX11_init_39 (fun H hB => ?_)
  rw [← eg22] at hB
  have k23 : g22.1 a21 = 13 := by rw [eg22, ea21]; exact va_up_self _ _ _
  obtain ⟨k24, hf⟩ := gk_ok hf
  obtain ⟨g25, eg25, hf⟩ := nm_ok hf
  refine pf_X11_22 cx hB hnm k24 dX11_init_41 (fun H locs hB => ?_)
  rw [← eg25] at hB
  refine lv_aload_n hx hb dX11_init_44 rfl (lv_at hl 0 rfl) ?_
  refine lv_bipush (v := 40) hx hb dX11_init_45 (by decide) ?_
  obtain ⟨a26, ea26, hf⟩ := nm_ok hf
  obtain ⟨g27, eg27, hf⟩ := nm_ok hf
  refine hp_newa cx hB 13 (N' := 40) (ty := .int) rfl (by decide) rfl (fun h9 => h9) rfl qw_54 ea26 (by decide) (by decide) (by decide) (Nat.le_of_ble_eq_true rfl) (Nat.le_of_ble_eq_true rfl) dX11_init_47 (fun H hB => ?_)
  rw [← eg27] at hB
  have k28 : g27.1 a26 = 13 := by rw [eg27, ea26]; exact va_up_self _ _ _
  obtain ⟨k29, hf⟩ := gk_ok hf
  obtain ⟨g30, eg30, hf⟩ := nm_ok hf
  refine pf_X11_25 cx hB hnm k29 dX11_init_49 (fun H locs hB => ?_)
  rw [← eg30] at hB
  refine lv_aload_n hx hb dX11_init_52 rfl (lv_at hl 0 rfl) ?_
  refine lv_bipush (v := 40) hx hb dX11_init_53 (by decide) ?_
  obtain ⟨a31, ea31, hf⟩ := nm_ok hf
  obtain ⟨g32, eg32, hf⟩ := nm_ok hf
  refine hp_newa cx hB 13 (N' := 40) (ty := .int) rfl (by decide) rfl (fun h9 => h9) rfl qw_54 ea31 (by decide) (by decide) (by decide) (Nat.le_of_ble_eq_true rfl) (Nat.le_of_ble_eq_true rfl) dX11_init_55 (fun H hB => ?_)
  rw [← eg32] at hB
  have k33 : g32.1 a31 = 13 := by rw [eg32, ea31]; exact va_up_self _ _ _
  obtain ⟨k34, hf⟩ := gk_ok hf
  obtain ⟨g35, eg35, hf⟩ := nm_ok hf
  refine pf_X11_28 cx hB hnm k34 dX11_init_57 (fun H locs hB => ?_)
  rw [← eg35] at hB
  refine lv_aload_n hx hb dX11_init_60 rfl (lv_at hl 0 rfl) ?_
  refine lv_bipush (v := 40) hx hb dX11_init_61 (by decide) ?_
  obtain ⟨a36, ea36, hf⟩ := nm_ok hf
  obtain ⟨g37, eg37, hf⟩ := nm_ok hf
  refine hp_newa cx hB 13 (N' := 40) (ty := .int) rfl (by decide) rfl (fun h9 => h9) rfl qw_54 ea36 (by decide) (by decide) (by decide) (Nat.le_of_ble_eq_true rfl) (Nat.le_of_ble_eq_true rfl) dX11_init_63 (fun H hB => ?_)
  rw [← eg37] at hB
  have k38 : g37.1 a36 = 13 := by rw [eg37, ea36]; exact va_up_self _ _ _
  obtain ⟨k39, hf⟩ := gk_ok hf
  obtain ⟨g40, eg40, hf⟩ := nm_ok hf
  refine pf_X11_31 cx hB hnm k39 dX11_init_65 (fun H locs hB => ?_)
  rw [← eg40] at hB
  refine lv_aload_n hx hb dX11_init_68 rfl (lv_at hl 0 rfl) ?_
  refine lv_bipush (v := 40) hx hb dX11_init_69 (by decide) ?_
  obtain ⟨a41, ea41, hf⟩ := nm_ok hf
  obtain ⟨g42, eg42, hf⟩ := nm_ok hf
  refine hp_newa cx hB 13 (N' := 40) (ty := .int) rfl (by decide) rfl (fun h9 => h9) rfl qw_54 ea41 (by decide) (by decide) (by decide) (Nat.le_of_ble_eq_true rfl) (Nat.le_of_ble_eq_true rfl) dX11_init_71 (fun H hB => ?_)
  rw [← eg42] at hB
  have k43 : g42.1 a41 = 13 := by rw [eg42, ea41]; exact va_up_self _ _ _
  obtain ⟨k44, hf⟩ := gk_ok hf
  obtain ⟨g45, eg45, hf⟩ := nm_ok hf
  refine pf_X11_34 cx hB hnm k44 dX11_init_73 (fun H locs hB => ?_)
  rw [← eg45] at hB
  refine lv_aload_n hx hb dX11_init_76 rfl (lv_at hl 0 rfl) ?_
  refine lv_bipush (v := 40) hx hb dX11_init_77 (by decide) ?_
  obtain ⟨a46, ea46, hf⟩ := nm_ok hf
  obtain ⟨g47, eg47, hf⟩ := nm_ok hf
  refine hp_newa cx hB 13 (N' := 40) (ty := .int) rfl (by decide) rfl (fun h9 => h9) rfl qw_54 ea46 (by decide) (by decide) (by decide) (Nat.le_of_ble_eq_true rfl) (Nat.le_of_ble_eq_true rfl) dX11_init_79 (fun H hB => ?_)
  rw [← eg47] at hB
  have k48 : g47.1 a46 = 13 := by rw [eg47, ea46]; exact va_up_self _ _ _
  obtain ⟨k49, hf⟩ := gk_ok hf
  obtain ⟨g50, eg50, hf⟩ := nm_ok hf
  refine pf_X11_37 cx hB hnm k49 dX11_init_81 (fun H locs hB => ?_)
  rw [← eg50] at hB
  refine lv_aload_n hx hb dX11_init_84 rfl (lv_at hl 0 rfl) ?_
  refine lv_sipush (v := 240) hx hb dX11_init_85 (by decide) ?_
  obtain ⟨a51, ea51, hf⟩ := nm_ok hf
  obtain ⟨g52, eg52, hf⟩ := nm_ok hf
  refine hp_newa cx hB 13 (N' := 240) (ty := .int) rfl (by decide) rfl (fun h9 => h9) rfl qw_54 ea51 (by decide) (by decide) (by decide) (Nat.le_of_ble_eq_true rfl) (Nat.le_of_ble_eq_true rfl) dX11_init_88 (fun H hB => ?_)
  rw [← eg52] at hB
  have k53 : g52.1 a51 = 13 := by rw [eg52, ea51]; exact va_up_self _ _ _
  obtain ⟨k54, hf⟩ := gk_ok hf
  obtain ⟨g55, eg55, hf⟩ := nm_ok hf
  refine pf_X11_40 cx hB hnm k54 dX11_init_90 (fun H locs hB => ?_)
  rw [← eg55] at hB
  refine lv_aload_n hx hb dX11_init_93 rfl (lv_at hl 0 rfl) ?_
  refine lv_sipush (v := 240) hx hb dX11_init_94 (by decide) ?_
  obtain ⟨a56, ea56, hf⟩ := nm_ok hf
  obtain ⟨g57, eg57, hf⟩ := nm_ok hf
  refine hp_newa cx hB 13 (N' := 240) (ty := .int) rfl (by decide) rfl (fun h9 => h9) rfl qw_54 ea56 (by decide) (by decide) (by decide) (Nat.le_of_ble_eq_true rfl) (Nat.le_of_ble_eq_true rfl) dX11_init_97 (fun H hB => ?_)
  rw [← eg57] at hB
  have k58 : g57.1 a56 = 13 := by rw [eg57, ea56]; exact va_up_self _ _ _
  obtain ⟨k59, hf⟩ := gk_ok hf
  obtain ⟨g60, eg60, hf⟩ := nm_ok hf
  refine pf_X11_43 cx hB hnm k59 dX11_init_99 (fun H locs hB => ?_)
  rw [← eg60] at hB
  refine lv_aload_n hx hb dX11_init_102 rfl (lv_at hl 0 rfl) ?_
  refine lv_sipush (v := 240) hx hb dX11_init_103 (by decide) ?_
  obtain ⟨a61, ea61, hf⟩ := nm_ok hf
  obtain ⟨g62, eg62, hf⟩ := nm_ok hf
  refine hp_newa cx hB 13 (N' := 240) (ty := .int) rfl (by decide) rfl (fun h9 => h9) rfl qw_54 ea61 (by decide) (by decide) (by decide) (Nat.le_of_ble_eq_true rfl) (Nat.le_of_ble_eq_true rfl) dX11_init_106 (fun H hB => ?_)
  rw [← eg62] at hB
  have k63 : g62.1 a61 = 13 := by rw [eg62, ea61]; exact va_up_self _ _ _
  obtain ⟨k64, hf⟩ := gk_ok hf
  obtain ⟨g65, eg65, hf⟩ := nm_ok hf
  refine pf_X11_46 cx hB hnm k64 dX11_init_108 (fun H locs hB => ?_)
  rw [← eg65] at hB
  refine lv_aload_n hx hb dX11_init_111 rfl (lv_at hl 0 rfl) ?_
  refine lv_sipush (v := 240) hx hb dX11_init_112 (by decide) ?_
  obtain ⟨a66, ea66, hf⟩ := nm_ok hf
  obtain ⟨g67, eg67, hf⟩ := nm_ok hf
  refine hp_newa cx hB 13 (N' := 240) (ty := .int) rfl (by decide) rfl (fun h9 => h9) rfl qw_54 ea66 (by decide) (by decide) (by decide) (Nat.le_of_ble_eq_true rfl) (Nat.le_of_ble_eq_true rfl) dX11_init_115 (fun H hB => ?_)
  rw [← eg67] at hB
  have k68 : g67.1 a66 = 13 := by rw [eg67, ea66]; exact va_up_self _ _ _
  obtain ⟨k69, hf⟩ := gk_ok hf
  obtain ⟨g70, eg70, hf⟩ := nm_ok hf
  refine pf_X11_49 cx hB hnm k69 dX11_init_117 (fun H locs hB => ?_)
  rw [← eg70] at hB
  refine lv_aload_n hx hb dX11_init_120 rfl (lv_at hl 0 rfl) ?_
  refine lv_bipush (v := 12) hx hb dX11_init_121 (by decide) ?_
  obtain ⟨a71, ea71, hf⟩ := nm_ok hf
  obtain ⟨g72, eg72, hf⟩ := nm_ok hf
  refine hp_newa cx hB 13 (N' := 12) (ty := .int) rfl (by decide) rfl (fun h9 => h9) rfl qw_54 ea71 (by decide) (by decide) (by decide) (Nat.le_of_ble_eq_true rfl) (Nat.le_of_ble_eq_true rfl) dX11_init_123 (fun H hB => ?_)
  rw [← eg72] at hB
  have k73 : g72.1 a71 = 13 := by rw [eg72, ea71]; exact va_up_self _ _ _
  obtain ⟨k74, hf⟩ := gk_ok hf
  obtain ⟨g75, eg75, hf⟩ := nm_ok hf
  refine pf_X11_52 cx hB hnm k74 dX11_init_125 (fun H locs hB => ?_)
  rw [← eg75] at hB
  refine lv_aload_n hx hb dX11_init_128 rfl (lv_at hl 0 rfl) ?_
  refine lv_bipush (v := 12) hx hb dX11_init_129 (by decide) ?_
  obtain ⟨a76, ea76, hf⟩ := nm_ok hf
  obtain ⟨g77, eg77, hf⟩ := nm_ok hf
  refine hp_newa cx hB 13 (N' := 12) (ty := .int) rfl (by decide) rfl (fun h9 => h9) rfl qw_54 ea76 (by decide) (by decide) (by decide) (Nat.le_of_ble_eq_true rfl) (Nat.le_of_ble_eq_true rfl) dX11_init_131 (fun H hB => ?_)
  rw [← eg77] at hB
  have k78 : g77.1 a76 = 13 := by rw [eg77, ea76]; exact va_up_self _ _ _
  obtain ⟨k79, hf⟩ := gk_ok hf
  obtain ⟨g80, eg80, hf⟩ := nm_ok hf
  refine pf_X11_55 cx hB hnm k79 dX11_init_133 (fun H locs hB => ?_)
  rw [← eg80] at hB
  refine lv_aload_n hx hb dX11_init_136 rfl (lv_at hl 0 rfl) ?_
  refine lv_bipush (v := 12) hx hb dX11_init_137 (by decide) ?_
  obtain ⟨a81, ea81, hf⟩ := nm_ok hf
  obtain ⟨g82, eg82, hf⟩ := nm_ok hf
  refine hp_newa cx hB 13 (N' := 12) (ty := .int) rfl (by decide) rfl (fun h9 => h9) rfl qw_54 ea81 (by decide) (by decide) (by decide) (Nat.le_of_ble_eq_true rfl) (Nat.le_of_ble_eq_true rfl) dX11_init_139 (fun H hB => ?_)
  rw [← eg82] at hB
  have k83 : g82.1 a81 = 13 := by rw [eg82, ea81]; exact va_up_self _ _ _
  obtain ⟨k84, hf⟩ := gk_ok hf
  obtain ⟨g85, eg85, hf⟩ := nm_ok hf
  refine pf_X11_58 cx hB hnm k84 dX11_init_141 (fun H locs hB => ?_)
  rw [← eg85] at hB
  refine lv_aload_n hx hb dX11_init_144 rfl (lv_at hl 0 rfl) ?_
  refine lv_bipush (v := 12) hx hb dX11_init_145 (by decide) ?_
  obtain ⟨a86, ea86, hf⟩ := nm_ok hf
  obtain ⟨g87, eg87, hf⟩ := nm_ok hf
  refine hp_newa cx hB 13 (N' := 12) (ty := .int) rfl (by decide) rfl (fun h9 => h9) rfl qw_54 ea86 (by decide) (by decide) (by decide) (Nat.le_of_ble_eq_true rfl) (Nat.le_of_ble_eq_true rfl) dX11_init_147 (fun H hB => ?_)
  rw [← eg87] at hB
  have k88 : g87.1 a86 = 13 := by rw [eg87, ea86]; exact va_up_self _ _ _
  obtain ⟨k89, hf⟩ := gk_ok hf
  obtain ⟨g90, eg90, hf⟩ := nm_ok hf
  refine pf_X11_61 cx hB hnm k89 dX11_init_149 (fun H locs hB => ?_)
  rw [← eg90] at hB
  refine lv_aload_n hx hb dX11_init_152 rfl (lv_at hl 0 rfl) ?_
  refine lv_bipush (v := 12) hx hb dX11_init_153 (by decide) ?_
  obtain ⟨a91, ea91, hf⟩ := nm_ok hf
  obtain ⟨g92, eg92, hf⟩ := nm_ok hf
  refine hp_newa cx hB 13 (N' := 12) (ty := .int) rfl (by decide) rfl (fun h9 => h9) rfl qw_54 ea91 (by decide) (by decide) (by decide) (Nat.le_of_ble_eq_true rfl) (Nat.le_of_ble_eq_true rfl) dX11_init_155 (fun H hB => ?_)
  rw [← eg92] at hB
  have k93 : g92.1 a91 = 13 := by rw [eg92, ea91]; exact va_up_self _ _ _
  obtain ⟨k94, hf⟩ := gk_ok hf
  obtain ⟨g95, eg95, hf⟩ := nm_ok hf
  refine pf_X11_64 cx hB hnm k94 dX11_init_157 (fun H locs hB => ?_)
  rw [← eg95] at hB
  refine lv_aload_n hx hb dX11_init_160 rfl (lv_at hl 0 rfl) ?_
  refine lv_bipush (v := 12) hx hb dX11_init_161 (by decide) ?_
  obtain ⟨a96, ea96, hf⟩ := nm_ok hf
  obtain ⟨g97, eg97, hf⟩ := nm_ok hf
  refine hp_newa cx hB 13 (N' := 12) (ty := .int) rfl (by decide) rfl (fun h9 => h9) rfl qw_54 ea96 (by decide) (by decide) (by decide) (Nat.le_of_ble_eq_true rfl) (Nat.le_of_ble_eq_true rfl) dX11_init_163 (fun H hB => ?_)
  rw [← eg97] at hB
  have k98 : g97.1 a96 = 13 := by rw [eg97, ea96]; exact va_up_self _ _ _
  obtain ⟨k99, hf⟩ := gk_ok hf
  obtain ⟨g100, eg100, hf⟩ := nm_ok hf
  refine pf_X11_67 cx hB hnm k99 dX11_init_165 (fun H locs hB => ?_)
  rw [← eg100] at hB
  refine lv_aload_n hx hb dX11_init_168 rfl (lv_at hl 0 rfl) ?_
  refine lv_bipush (v := 60) hx hb dX11_init_169 (by decide) ?_
  obtain ⟨a101, ea101, hf⟩ := nm_ok hf
  obtain ⟨g102, eg102, hf⟩ := nm_ok hf
  refine hp_newa cx hB 13 (N' := 60) (ty := .int) rfl (by decide) rfl (fun h9 => h9) rfl qw_54 ea101 (by decide) (by decide) (by decide) (Nat.le_of_ble_eq_true rfl) (Nat.le_of_ble_eq_true rfl) dX11_init_171 (fun H hB => ?_)
  rw [← eg102] at hB
  have k103 : g102.1 a101 = 13 := by rw [eg102, ea101]; exact va_up_self _ _ _
  obtain ⟨k104, hf⟩ := gk_ok hf
  obtain ⟨g105, eg105, hf⟩ := nm_ok hf
  refine pf_X11_70 cx hB hnm k104 dX11_init_173 (fun H locs hB => ?_)
  rw [← eg105] at hB
  refine lv_aload_n hx hb dX11_init_176 rfl (lv_at hl 0 rfl) ?_
  refine lv_bipush (v := 60) hx hb dX11_init_177 (by decide) ?_
  obtain ⟨a106, ea106, hf⟩ := nm_ok hf
  obtain ⟨g107, eg107, hf⟩ := nm_ok hf
  refine hp_newa cx hB 13 (N' := 60) (ty := .int) rfl (by decide) rfl (fun h9 => h9) rfl qw_54 ea106 (by decide) (by decide) (by decide) (Nat.le_of_ble_eq_true rfl) (Nat.le_of_ble_eq_true rfl) dX11_init_179 (fun H hB => ?_)
  rw [← eg107] at hB
  have k108 : g107.1 a106 = 13 := by rw [eg107, ea106]; exact va_up_self _ _ _
  obtain ⟨k109, hf⟩ := gk_ok hf
  obtain ⟨g110, eg110, hf⟩ := nm_ok hf
  refine pf_X11_73 cx hB hnm k109 dX11_init_181 (fun H locs hB => ?_)
  rw [← eg110] at hB
  refine lv_aload_n hx hb dX11_init_184 rfl (lv_at hl 0 rfl) ?_
  refine lv_bipush (v := 8) hx hb dX11_init_185 (by decide) ?_
  obtain ⟨a111, ea111, hf⟩ := nm_ok hf
  obtain ⟨g112, eg112, hf⟩ := nm_ok hf
  refine hp_newa cx hB 13 (N' := 8) (ty := .int) rfl (by decide) rfl (fun h9 => h9) rfl qw_54 ea111 (by decide) (by decide) (by decide) (Nat.le_of_ble_eq_true rfl) (Nat.le_of_ble_eq_true rfl) dX11_init_187 (fun H hB => ?_)
  rw [← eg112] at hB
  have k113 : g112.1 a111 = 13 := by rw [eg112, ea111]; exact va_up_self _ _ _
  obtain ⟨k114, hf⟩ := gk_ok hf
  obtain ⟨g115, eg115, hf⟩ := nm_ok hf
  refine pf_X11_76 cx hB hnm k114 dX11_init_189 (fun H locs hB => ?_)
  rw [← eg115] at hB
  refine lv_aload_n hx hb dX11_init_192 rfl (lv_at hl 0 rfl) ?_
  refine lv_bipush (v := 8) hx hb dX11_init_193 (by decide) ?_
  obtain ⟨a116, ea116, hf⟩ := nm_ok hf
  obtain ⟨g117, eg117, hf⟩ := nm_ok hf
  refine hp_newa cx hB 13 (N' := 8) (ty := .int) rfl (by decide) rfl (fun h9 => h9) rfl qw_54 ea116 (by decide) (by decide) (by decide) (Nat.le_of_ble_eq_true rfl) (Nat.le_of_ble_eq_true rfl) dX11_init_195 (fun H hB => ?_)
  rw [← eg117] at hB
  have k118 : g117.1 a116 = 13 := by rw [eg117, ea116]; exact va_up_self _ _ _
  obtain ⟨k119, hf⟩ := gk_ok hf
  obtain ⟨g120, eg120, hf⟩ := nm_ok hf
  refine pf_X11_79 cx hB hnm k119 dX11_init_197 (fun H locs hB => ?_)
  rw [← eg120] at hB
  refine lv_aload_n hx hb dX11_init_200 rfl (lv_at hl 0 rfl) ?_
  refine lv_bipush (v := 40) hx hb dX11_init_201 (by decide) ?_
  obtain ⟨a121, ea121, hf⟩ := nm_ok hf
  obtain ⟨g122, eg122, hf⟩ := nm_ok hf
  refine hp_newa cx hB 13 (N' := 40) (ty := .int) rfl (by decide) rfl (fun h9 => h9) rfl qw_54 ea121 (by decide) (by decide) (by decide) (Nat.le_of_ble_eq_true rfl) (Nat.le_of_ble_eq_true rfl) dX11_init_203 (fun H hB => ?_)
  rw [← eg122] at hB
  have k123 : g122.1 a121 = 13 := by rw [eg122, ea121]; exact va_up_self _ _ _
  obtain ⟨k124, hf⟩ := gk_ok hf
  obtain ⟨g125, eg125, hf⟩ := nm_ok hf
  refine pf_X11_82 cx hB hnm k124 dX11_init_205 (fun H locs hB => ?_)
  rw [← eg125] at hB
  refine lv_aload_n hx hb dX11_init_208 rfl (lv_at hl 0 rfl) ?_
  refine lv_bipush (v := 40) hx hb dX11_init_209 (by decide) ?_
  obtain ⟨a126, ea126, hf⟩ := nm_ok hf
  obtain ⟨g127, eg127, hf⟩ := nm_ok hf
  refine hp_newa cx hB 14 (N' := 40) (ty := .boolean) rfl (by decide) rfl (fun h9 => h9) rfl qw_68 ea126 (by decide) (by decide) (by decide) (Nat.le_of_ble_eq_true rfl) (Nat.le_of_ble_eq_true rfl) dX11_init_211 (fun H hB => ?_)
  rw [← eg127] at hB
  have k128 : g127.1 a126 = 14 := by rw [eg127, ea126]; exact va_up_self _ _ _
  obtain ⟨k129, hf⟩ := gk_ok hf
  obtain ⟨g130, eg130, hf⟩ := nm_ok hf
  refine pf_X11_85 cx hB hnm k129 dX11_init_213 (fun H locs hB => ?_)
  rw [← eg130] at hB
  refine lv_aload_n hx hb dX11_init_216 rfl (lv_at hl 0 rfl) ?_
  refine lv_bipush (v := 60) hx hb dX11_init_217 (by decide) ?_
  obtain ⟨a131, ea131, hf⟩ := nm_ok hf
  obtain ⟨g132, eg132, hf⟩ := nm_ok hf
  refine hp_newa cx hB 13 (N' := 60) (ty := .int) rfl (by decide) rfl (fun h9 => h9) rfl qw_54 ea131 (by decide) (by decide) (by decide) (Nat.le_of_ble_eq_true rfl) (Nat.le_of_ble_eq_true rfl) dX11_init_219 (fun H hB => ?_)
  rw [← eg132] at hB
  have k133 : g132.1 a131 = 13 := by rw [eg132, ea131]; exact va_up_self _ _ _
  obtain ⟨k134, hf⟩ := gk_ok hf
  obtain ⟨g135, eg135, hf⟩ := nm_ok hf
  refine pf_X11_89 cx hB hnm k134 dX11_init_221 (fun H locs hB => ?_)
  rw [← eg135] at hB
  refine lv_aload_n hx hb dX11_init_224 rfl (lv_at hl 0 rfl) ?_
  refine lv_bipush (v := 60) hx hb dX11_init_225 (by decide) ?_
  obtain ⟨a136, ea136, hf⟩ := nm_ok hf
  obtain ⟨g137, eg137, hf⟩ := nm_ok hf
  refine hp_newa cx hB 13 (N' := 60) (ty := .int) rfl (by decide) rfl (fun h9 => h9) rfl qw_54 ea136 (by decide) (by decide) (by decide) (Nat.le_of_ble_eq_true rfl) (Nat.le_of_ble_eq_true rfl) dX11_init_227 (fun H hB => ?_)
  rw [← eg137] at hB
  have k138 : g137.1 a136 = 13 := by rw [eg137, ea136]; exact va_up_self _ _ _
  obtain ⟨k139, hf⟩ := gk_ok hf
  obtain ⟨g140, eg140, hf⟩ := nm_ok hf
  refine pf_X11_92 cx hB hnm k139 dX11_init_229 (fun H locs hB => ?_)
  rw [← eg140] at hB
  refine lv_aload_n hx hb dX11_init_232 rfl (lv_at hl 0 rfl) ?_
  refine lv_bipush (v := 40) hx hb dX11_init_233 (by decide) ?_
  obtain ⟨a141, ea141, hf⟩ := nm_ok hf
  obtain ⟨g142, eg142, hf⟩ := nm_ok hf
  refine hp_newa cx hB 14 (N' := 40) (ty := .boolean) rfl (by decide) rfl (fun h9 => h9) rfl qw_68 ea141 (by decide) (by decide) (by decide) (Nat.le_of_ble_eq_true rfl) (Nat.le_of_ble_eq_true rfl) dX11_init_235 (fun H hB => ?_)
  rw [← eg142] at hB
  have k143 : g142.1 a141 = 14 := by rw [eg142, ea141]; exact va_up_self _ _ _
  obtain ⟨k144, hf⟩ := gk_ok hf
  obtain ⟨g145, eg145, hf⟩ := nm_ok hf
  refine pf_X11_95 cx hB hnm k144 dX11_init_237 (fun H locs hB => ?_)
  rw [← eg145] at hB
  refine lv_aload_n hx hb dX11_init_240 rfl (lv_at hl 0 rfl) ?_
  refine lv_bipush (v := 40) hx hb dX11_init_241 (by decide) ?_
  obtain ⟨a146, ea146, hf⟩ := nm_ok hf
  obtain ⟨g147, eg147, hf⟩ := nm_ok hf
  refine hp_newa cx hB 14 (N' := 40) (ty := .boolean) rfl (by decide) rfl (fun h9 => h9) rfl qw_68 ea146 (by decide) (by decide) (by decide) (Nat.le_of_ble_eq_true rfl) (Nat.le_of_ble_eq_true rfl) dX11_init_243 (fun H hB => ?_)
  rw [← eg147] at hB
  have k148 : g147.1 a146 = 14 := by rw [eg147, ea146]; exact va_up_self _ _ _
  obtain ⟨k149, hf⟩ := gk_ok hf
  obtain ⟨g150, eg150, hf⟩ := nm_ok hf
  refine pf_X11_98 cx hB hnm k149 dX11_init_245 (fun H locs hB => ?_)
  rw [← eg150] at hB
  refine lv_aload_n hx hb dX11_init_248 rfl (lv_at hl 0 rfl) ?_
  refine lv_bipush (v := 40) hx hb dX11_init_249 (by decide) ?_
  obtain ⟨a151, ea151, hf⟩ := nm_ok hf
  obtain ⟨g152, eg152, hf⟩ := nm_ok hf
  refine hp_newa cx hB 14 (N' := 40) (ty := .boolean) rfl (by decide) rfl (fun h9 => h9) rfl qw_68 ea151 (by decide) (by decide) (by decide) (Nat.le_of_ble_eq_true rfl) (Nat.le_of_ble_eq_true rfl) dX11_init_251 (fun H hB => ?_)
  rw [← eg152] at hB
  have k153 : g152.1 a151 = 14 := by rw [eg152, ea151]; exact va_up_self _ _ _
  obtain ⟨k154, hf⟩ := gk_ok hf
  obtain ⟨g155, eg155, hf⟩ := nm_ok hf
  refine pf_X11_101 cx hB hnm k154 dX11_init_253 (fun H locs hB => ?_)
  rw [← eg155] at hB
  refine lv_aload_n hx hb dX11_init_256 rfl (lv_at hl 0 rfl) ?_
  refine lv_bipush (v := 6) hx hb dX11_init_257 (by decide) ?_
  obtain ⟨a156, ea156, hf⟩ := nm_ok hf
  obtain ⟨g157, eg157, hf⟩ := nm_ok hf
  refine hp_newa cx hB 13 (N' := 6) (ty := .int) rfl (by decide) rfl (fun h9 => h9) rfl qw_54 ea156 (by decide) (by decide) (by decide) (Nat.le_of_ble_eq_true rfl) (Nat.le_of_ble_eq_true rfl) dX11_init_259 (fun H hB => ?_)
  rw [← eg157] at hB
  have k158 : g157.1 a156 = 13 := by rw [eg157, ea156]; exact va_up_self _ _ _
  obtain ⟨k159, hf⟩ := gk_ok hf
  obtain ⟨g160, eg160, hf⟩ := nm_ok hf
  refine pf_X11_104 cx hB hnm k159 dX11_init_261 (fun H locs hB => ?_)
  rw [← eg160] at hB
  refine lv_aload_n hx hb dX11_init_264 rfl (lv_at hl 0 rfl) ?_
  refine lv_bipush (v := 6) hx hb dX11_init_265 (by decide) ?_
  obtain ⟨a161, ea161, hf⟩ := nm_ok hf
  obtain ⟨g162, eg162, hf⟩ := nm_ok hf
  refine hp_newa cx hB 13 (N' := 6) (ty := .int) rfl (by decide) rfl (fun h9 => h9) rfl qw_54 ea161 (by decide) (by decide) (by decide) (Nat.le_of_ble_eq_true rfl) (Nat.le_of_ble_eq_true rfl) dX11_init_267 (fun H hB => ?_)
  rw [← eg162] at hB
  have k163 : g162.1 a161 = 13 := by rw [eg162, ea161]; exact va_up_self _ _ _
  obtain ⟨k164, hf⟩ := gk_ok hf
  obtain ⟨g165, eg165, hf⟩ := nm_ok hf
  refine pf_X11_107 cx hB hnm k164 dX11_init_269 (fun H locs hB => ?_)
  rw [← eg165] at hB
  refine lv_aload_n hx hb dX11_init_272 rfl (lv_at hl 0 rfl) ?_
  refine lv_bipush (v := 24) hx hb dX11_init_273 (by decide) ?_
  obtain ⟨a166, ea166, hf⟩ := nm_ok hf
  obtain ⟨g167, eg167, hf⟩ := nm_ok hf
  refine hp_newa cx hB 13 (N' := 24) (ty := .int) rfl (by decide) rfl (fun h9 => h9) rfl qw_54 ea166 (by decide) (by decide) (by decide) (Nat.le_of_ble_eq_true rfl) (Nat.le_of_ble_eq_true rfl) dX11_init_275 (fun H hB => ?_)
  rw [← eg167] at hB
  have k168 : g167.1 a166 = 13 := by rw [eg167, ea166]; exact va_up_self _ _ _
  obtain ⟨k169, hf⟩ := gk_ok hf
  obtain ⟨g170, eg170, hf⟩ := nm_ok hf
  refine pf_X11_110 cx hB hnm k169 dX11_init_277 (fun H locs hB => ?_)
  rw [← eg170] at hB
  refine lv_aload_n hx hb dX11_init_280 rfl (lv_at hl 0 rfl) ?_
  refine lv_sipush (v := 1792) hx hb dX11_init_281 (by decide) ?_
  obtain ⟨a171, ea171, hf⟩ := nm_ok hf
  obtain ⟨g172, eg172, hf⟩ := nm_ok hf
  refine hp_newa cx hB 13 (N' := 1792) (ty := .int) rfl (by decide) rfl (fun h9 => h9) rfl qw_54 ea171 (by decide) (by decide) (by decide) (Nat.le_of_ble_eq_true rfl) (Nat.le_of_ble_eq_true rfl) dX11_init_284 (fun H hB => ?_)
  rw [← eg172] at hB
  have k173 : g172.1 a171 = 13 := by rw [eg172, ea171]; exact va_up_self _ _ _
  obtain ⟨k174, hf⟩ := gk_ok hf
  obtain ⟨g175, eg175, hf⟩ := nm_ok hf
  refine pf_X11_113 cx hB hnm k174 dX11_init_286 (fun H locs hB => ?_)
  rw [← eg175] at hB
  refine lv_aload_n hx hb dX11_init_289 rfl (lv_at hl 0 rfl) ?_
  refine lv_sipush (v := 256) hx hb dX11_init_290 (by decide) ?_
  obtain ⟨a176, ea176, hf⟩ := nm_ok hf
  obtain ⟨g177, eg177, hf⟩ := nm_ok hf
  refine hp_newa cx hB 13 (N' := 256) (ty := .int) rfl (by decide) rfl (fun h9 => h9) rfl qw_54 ea176 (by decide) (by decide) (by decide) (Nat.le_of_ble_eq_true rfl) (Nat.le_of_ble_eq_true rfl) dX11_init_293 (fun H hB => ?_)
  rw [← eg177] at hB
  have k178 : g177.1 a176 = 13 := by rw [eg177, ea176]; exact va_up_self _ _ _
  obtain ⟨k179, hf⟩ := gk_ok hf
  obtain ⟨g180, eg180, hf⟩ := nm_ok hf
  refine pf_X11_116 cx hB hnm k179 dX11_init_295 (fun H locs hB => ?_)
  rw [← eg180] at hB
  refine lv_aload_n hx hb dX11_init_298 rfl (lv_at hl 0 rfl) ?_
  refine lv_sipush (v := 256) hx hb dX11_init_299 (by decide) ?_
  obtain ⟨a181, ea181, hf⟩ := nm_ok hf
  obtain ⟨g182, eg182, hf⟩ := nm_ok hf
  refine hp_newa cx hB 13 (N' := 256) (ty := .int) rfl (by decide) rfl (fun h9 => h9) rfl qw_54 ea181 (by decide) (by decide) (by decide) (Nat.le_of_ble_eq_true rfl) (Nat.le_of_ble_eq_true rfl) dX11_init_302 (fun H hB => ?_)
  rw [← eg182] at hB
  have k183 : g182.1 a181 = 13 := by rw [eg182, ea181]; exact va_up_self _ _ _
  obtain ⟨k184, hf⟩ := gk_ok hf
  obtain ⟨g185, eg185, hf⟩ := nm_ok hf
  refine pf_X11_119 cx hB hnm k184 dX11_init_304 (fun H locs hB => ?_)
  rw [← eg185] at hB
  refine lv_aload_n hx hb dX11_init_307 rfl (lv_at hl 0 rfl) ?_
  refine lv_bipush (v := 8) hx hb dX11_init_308 (by decide) ?_
  obtain ⟨a186, ea186, hf⟩ := nm_ok hf
  obtain ⟨g187, eg187, hf⟩ := nm_ok hf
  refine hp_newa cx hB 13 (N' := 8) (ty := .int) rfl (by decide) rfl (fun h9 => h9) rfl qw_54 ea186 (by decide) (by decide) (by decide) (Nat.le_of_ble_eq_true rfl) (Nat.le_of_ble_eq_true rfl) dX11_init_310 (fun H hB => ?_)
  rw [← eg187] at hB
  have k188 : g187.1 a186 = 13 := by rw [eg187, ea186]; exact va_up_self _ _ _
  obtain ⟨k189, hf⟩ := gk_ok hf
  obtain ⟨g190, eg190, hf⟩ := nm_ok hf
  refine pf_X11_122 cx hB hnm k189 dX11_init_312 (fun H locs hB => ?_)
  rw [← eg190] at hB
  refine lv_iconst (v := 0) hx hb dX11_init_315 (by decide) ?_
  refine lv_istore_n (lv' := [(1, .int 0), (0, .ref t0)]) hx hb dX11_init_316 rfl hl (by decide) rfl (fun ls hl => ?_)
  refine W.widen (k := 38) (n := 4236) (Nat.le_of_ble_eq_true rfl) (Nat.le_of_ble_eq_true rfl) ?_
  exact tX11_init_317 cx hr hlk hnm  NF t0 0 g190 _ _ _ hB (lv_sub hl [1, 0] rfl) hf
end
set_option maxHeartbeats 4000000 in
set_option maxRecDepth 100000 in
theorem cX11_init (l : Launch) (D : va_G) (cA : Nat → ClassId) (t0 : Nat) (h : Hp) (_u : Unit) (h9 : Hp) (hf : fX11_init t0 h = some (_u, h9)) : hp_M l yX11_init prog_13_method_1_code 2 none rmX11_init D cA h [.ref t0] (hp_Qv D cA h h9) := by
  refine Met.ofW (cc := prog_13_method_1_code) (maxL := 2) (ret := none) (by decide) rfl ?_
  intro p e s m args below meth c s₁ B hml hv
  obtain ⟨rfl, hU⟩ := hv
  have hts := atoms_spec (ws := Cond.code yX11_init prog_13_method_1_code 2 none :: tbG) B.pre
  have hl := lv_entry ([.ref t0]) (n := 2) (Nat.le_of_ble_eq_true rfl)
  rw [lg_entry_eq]
  generalize (lg_sl ([.ref t0]) ++ List.replicate (2 - (lg_sl ([.ref t0])).length) Slot.unset).toArray = ls at hl ⊢
  exact tX11_init_0 ⟨B.exec, B.bytes, hml, findClass_of_methodNamed B.named, fun w hw => hts w (List.mem_cons_of_mem _ hw)⟩ B.returns B.notSynchronized ((name_of_methodNamed B.named B.method).1) t0 h _ _ _ (hp_B.entry hU) hl hf
abbrev yX11_in : MethodName := ⟨"SpokenMenusModel", "in", "(III)Z"⟩
theorem dX11_in_0 : decode prog_13_method_2_code 0 = .ok (.iload_n 0, 1) := by decide +kernel
theorem dX11_in_1 : decode prog_13_method_2_code 1 = .ok (.iload_n 1, 1) := by decide +kernel
theorem dX11_in_2 : decode prog_13_method_2_code 2 = .ok (.if_icmp .lt 12, 3) := by decide +kernel
theorem dX11_in_5 : decode prog_13_method_2_code 5 = .ok (.iload_n 0, 1) := by decide +kernel
theorem dX11_in_6 : decode prog_13_method_2_code 6 = .ok (.iload_n 2, 1) := by decide +kernel
theorem dX11_in_7 : decode prog_13_method_2_code 7 = .ok (.if_icmp .gt 7, 3) := by decide +kernel
theorem dX11_in_10 : decode prog_13_method_2_code 10 = .ok (.iconst 1, 1) := by decide +kernel
theorem dX11_in_11 : decode prog_13_method_2_code 11 = .ok (.goto 4, 3) := by decide +kernel
theorem dX11_in_14 : decode prog_13_method_2_code 14 = .ok (.iconst 0, 1) := by decide +kernel
theorem dX11_in_15 : decode prog_13_method_2_code 15 = .ok (.ireturn, 1) := by decide +kernel
abbrev rmX11_in : Room := { frames := 0, cells := 0, slots := 0, locals := 0 }
def fX11_in  (v0 : Int32) (v1 : Int32) (v2 : Int32) (h : Hp) : Option (Int32 × Hp) :=
  if v0 < v1 then
  (some (0, h))
  else
  (if v2 < v0 then
  (some (0, h))
  else
  (some (1, h)))
section
variable {p : Program} {l : Launch} {e : Env} {s : State} {m : MethodId} {args : Array Value} {below : List Frame} {meth : Method} {c : Code} {D : va_G} {cA : Nat → ClassId} {h0 h9 : Hp}
set_option maxHeartbeats 4000000 in
set_option maxRecDepth 100000 in
theorem tX11_in_0  {r : Int32} (cx : CallFix p m c prog_13_method_2_code 3 s args tbG RX11) (hr : meth.sig.returnType = (Option.some FieldType.boolean)) (hlk : meth.locks = false)  (v0 : Int32) (v1 : Int32) (v2 : Int32) (h : Hp) (H : Heap) (locs : List Loc) (ls : Array Slot) (hB : hp_B D cA (hp_A h0) s h H locs) (hl : lv_has ls 3 [(0, .int v0), (1, .int v1), (2, .int v2)]) (hf : fX11_in  v0 v1 v2 h = some (r, h9)) : W p l e rmX11_in s m args below meth c H locs 0 0 (MQ below (hp_Qi D cA h0 h9 r) args s 0 0 (hp_A h0)) (F0 m 0 ls []) := by
  obtain ⟨hx, hb, -⟩ := id cx
  unfold fX11_in at hf
  refine lv_iload_n hx hb dX11_in_0 rfl (lv_at hl 0 rfl) ?_
  refine lv_iload_n hx hb dX11_in_1 rfl (lv_at hl 1 rfl) ?_
  refine lv_icmp_lt (tgt := 14) hx hb dX11_in_2 (by decide) (fun c1 => ?_) (fun c1 => ?_)
  · replace hf := it_t c1 hf
    refine lv_iconst (v := 0) hx hb dX11_in_14 (by decide) ?_
    obtain ⟨rfl, rfl⟩ := rt_ok hf
    exact hp_zret cx hB hr hlk (Nat.le_of_ble_eq_true rfl) (Nat.le_of_ble_eq_true rfl) rfl dX11_in_15
  · replace hf := it_f c1 hf
    refine lv_iload_n hx hb dX11_in_5 rfl (lv_at hl 0 rfl) ?_
    refine lv_iload_n hx hb dX11_in_6 rfl (lv_at hl 2 rfl) ?_
    refine lv_icmp_gt (tgt := 14) hx hb dX11_in_7 (by decide) (fun c2 => ?_) (fun c2 => ?_)
    · replace hf := it_t c2 hf
      refine lv_iconst (v := 0) hx hb dX11_in_14 (by decide) ?_
      obtain ⟨rfl, rfl⟩ := rt_ok hf
      exact hp_zret cx hB hr hlk (Nat.le_of_ble_eq_true rfl) (Nat.le_of_ble_eq_true rfl) rfl dX11_in_15
    · replace hf := it_f c2 hf
      refine lv_iconst (v := 1) hx hb dX11_in_10 (by decide) ?_
      refine lv_goto (tgt := 15) hx hb dX11_in_11 (by decide) ?_
      obtain ⟨rfl, rfl⟩ := rt_ok hf
      exact hp_zret cx hB hr hlk (Nat.le_of_ble_eq_true rfl) (Nat.le_of_ble_eq_true rfl) rfl dX11_in_15
end
set_option maxHeartbeats 4000000 in
set_option maxRecDepth 100000 in
theorem cX11_in (l : Launch) (D : va_G) (cA : Nat → ClassId) (v0 : Int32) (v1 : Int32) (v2 : Int32) (h : Hp) (r : Int32) (h9 : Hp) (hf : fX11_in v0 v1 v2 h = some (r, h9)) : hp_M l yX11_in prog_13_method_2_code 3 (Option.some FieldType.boolean) rmX11_in D cA h [.int v0, .int v1, .int v2] (hp_Qi D cA h h9 r) := by
  refine Met.ofW (cc := prog_13_method_2_code) (maxL := 3) (ret := (Option.some FieldType.boolean)) (by decide) rfl ?_
  intro p e s m args below meth c s₁ B hml hv
  obtain ⟨rfl, hU⟩ := hv
  have hts := atoms_spec (ws := Cond.code yX11_in prog_13_method_2_code 3 (Option.some FieldType.boolean) :: tbG) B.pre
  have hl := lv_entry ([.int v0, .int v1, .int v2]) (n := 3) (Nat.le_of_ble_eq_true rfl)
  rw [lg_entry_eq]
  generalize (lg_sl ([.int v0, .int v1, .int v2]) ++ List.replicate (3 - (lg_sl ([.int v0, .int v1, .int v2])).length) Slot.unset).toArray = ls at hl ⊢
  exact tX11_in_0 ⟨B.exec, B.bytes, hml, findClass_of_methodNamed B.named, fun w hw => hts w (List.mem_cons_of_mem _ hw)⟩ B.returns B.notSynchronized v0 v1 v2 h _ _ _ (hp_B.entry hU) hl hf
section
variable {p : Program} {l : Launch} {e : Env} {R : Room} {s : State} {m : MethodId} {args : Array Value} {below : List Frame} {meth : Method} {c : Code} {H : Heap} {locs : List Loc} {cells slots : Nat} {Q : State → Prop}
variable {cc : ByteArray} {pc nL : Nat} {ls : Array Slot} {rest : List Value} {D : va_G} {cA : Nat → ClassId} {A : Nat → Prop} {a : Nat} {h : Hp}
theorem gf_X11_125 (cx : CallFix p m c cc nL s args tbG RX11) (hB : hp_B D cA A s h H locs) (hka : h.1 a = 12) (hdg : decode cc pc = .ok (.getfield 125, 3)) (kk : W p l e R s m args below meth c H locs cells slots Q (F0 m (pc + 3) ls (.int (h.2.2.1 a 0) :: rest))) : W p l e R s m args below meth c H locs cells slots Q (F0 m pc ls (.ref a :: rest)) :=
  hp_getI cx hB (ci := 11) 0 rfl inX11 (by decide) rfl (by decide) rfl qw_732 hka hdg kk
theorem cl_X11_129 {As st0 : List Value} {Qc : Array Value → State → Outcome → State → Prop} (cx : CallFix p m c cc nL s args tbG RX11) (hB : hp_B D cA A s h H locs) (hM : hp_M l yX11_in prog_13_method_2_code 3 (Option.some FieldType.boolean) rmX11_in D cA h As Qc) (hR : rmX11_in.frames + 1 ≤ R.frames ∧ 8 + (3 + 11) + rmX11_in.locals ≤ R.locals) (hn : As.length = 3) (hls : ls.size = nL) (hst : st0 = As.reverse ++ rest) (hW : (rest.map fun v => v.category).sum ≤ 8) (hf : cells + rmX11_in.cells ≤ R.cells ∧ slots + rmX11_in.slots ≤ R.slots) (hdg : decode cc pc = .ok (.invokestatic 129, 3)) :
    va_Run p l e R s m args below meth c H locs cells slots rmX11_in.cells rmX11_in.slots (F0 m pc ls st0) rest (Qc As.toArray) (hp_A h) :=
  hp_runS cx hB hM qw_910 qw_908 qw_909 qw_10 (by decide +kernel) hR hn hls hst hW hf hdg
end
abbrev yX11_isPlace : MethodName := ⟨"SpokenMenusModel", "isPlace", "(I)Z"⟩
theorem dX11_isPlace_0 : decode prog_13_method_3_code 0 = .ok (.iload_n 1, 1) := by decide +kernel
theorem dX11_isPlace_1 : decode prog_13_method_3_code 1 = .ok (.iconst 0, 1) := by decide +kernel
theorem dX11_isPlace_2 : decode prog_13_method_3_code 2 = .ok (.aload_n 0, 1) := by decide +kernel
theorem dX11_isPlace_3 : decode prog_13_method_3_code 3 = .ok (.getfield 125, 3) := by decide +kernel
theorem dX11_isPlace_6 : decode prog_13_method_3_code 6 = .ok (.iconst 1, 1) := by decide +kernel
theorem dX11_isPlace_7 : decode prog_13_method_3_code 7 = .ok (.isub, 1) := by decide +kernel
theorem dX11_isPlace_8 : decode prog_13_method_3_code 8 = .ok (.invokestatic 129, 3) := by decide +kernel
theorem dX11_isPlace_11 : decode prog_13_method_3_code 11 = .ok (.ireturn, 1) := by decide +kernel
abbrev rmX11_isPlace : Room := { frames := 1, cells := 0, slots := 0, locals := 22 }
def fX11_isPlace  (t0 : Nat) (v1 : Int32) (h : Hp) : Option (Int32 × Hp) :=
  gk (h.1 t0) 12 <|
  b2 (fX11_in v1 0 ((h.2.2.1 t0 0) - 1) h) fun r4 g2 =>
  gd (zb r4) <|
  some (r4, g2)
section
variable {p : Program} {l : Launch} {e : Env} {s : State} {m : MethodId} {args : Array Value} {below : List Frame} {meth : Method} {c : Code} {D : va_G} {cA : Nat → ClassId} {h0 h9 : Hp}
set_option maxHeartbeats 4000000 in
set_option maxRecDepth 100000 in
theorem tX11_isPlace_0  {r : Int32} (cx : CallFix p m c prog_13_method_3_code 2 s args tbG RX11) (hr : meth.sig.returnType = (Option.some FieldType.boolean)) (hlk : meth.locks = false)  (t0 : Nat) (v1 : Int32) (h : Hp) (H : Heap) (locs : List Loc) (ls : Array Slot) (hB : hp_B D cA (hp_A h0) s h H locs) (hl : lv_has ls 2 [(0, .ref t0), (1, .int v1)]) (hf : fX11_isPlace  t0 v1 h = some (r, h9)) : W p l e rmX11_isPlace s m args below meth c H locs 0 0 (MQ below (hp_Qi D cA h0 h9 r) args s 0 0 (hp_A h0)) (F0 m 0 ls []) := by
  obtain ⟨hx, hb, -⟩ := id cx
  unfold fX11_isPlace at hf
  refine lv_iload_n hx hb dX11_isPlace_0 rfl (lv_at hl 1 rfl) ?_
  refine lv_iconst (v := 0) hx hb dX11_isPlace_1 (by decide) ?_
  refine lv_aload_n hx hb dX11_isPlace_2 rfl (lv_at hl 0 rfl) ?_
  obtain ⟨k1, hf⟩ := gk_ok hf
  refine gf_X11_125 cx hB k1 dX11_isPlace_3 ?_
  refine lv_iconst (v := 1) hx hb dX11_isPlace_6 (by decide) ?_
  refine lv_isub hx hb dX11_isPlace_7 ?_
  obtain ⟨r4, g2, m3, hf⟩ := b2_ok hf
  refine hp_cI0 (cl_X11_129 cx hB (cX11_in l D cA v1 0 ((h.2.2.1 t0 0) - 1) h _ g2 m3) ⟨Nat.le_of_ble_eq_true rfl, Nat.le_of_ble_eq_true rfl⟩ rfl hl.1 rfl (Nat.le_of_ble_eq_true rfl) ⟨Nat.le_of_ble_eq_true rfl, Nat.le_of_ble_eq_true rfl⟩ dX11_isPlace_8) rfl rfl hB (fun H locs hB => ?_)
  obtain ⟨c6, hf⟩ := gd_ok hf
  obtain ⟨rfl, rfl⟩ := rt_ok hf
  exact hp_zret cx hB hr hlk (Nat.le_of_ble_eq_true rfl) (Nat.le_of_ble_eq_true rfl) c6 dX11_isPlace_11
end
set_option maxHeartbeats 4000000 in
set_option maxRecDepth 100000 in
theorem cX11_isPlace (l : Launch) (D : va_G) (cA : Nat → ClassId) (t0 : Nat) (v1 : Int32) (h : Hp) (r : Int32) (h9 : Hp) (hf : fX11_isPlace t0 v1 h = some (r, h9)) : hp_M l yX11_isPlace prog_13_method_3_code 2 (Option.some FieldType.boolean) rmX11_isPlace D cA h [.ref t0, .int v1] (hp_Qi D cA h h9 r) := by
  refine Met.ofW (cc := prog_13_method_3_code) (maxL := 2) (ret := (Option.some FieldType.boolean)) (by decide) rfl ?_
  intro p e s m args below meth c s₁ B hml hv
  obtain ⟨rfl, hU⟩ := hv
  have hts := atoms_spec (ws := Cond.code yX11_isPlace prog_13_method_3_code 2 (Option.some FieldType.boolean) :: tbG) B.pre
  have hl := lv_entry ([.ref t0, .int v1]) (n := 2) (Nat.le_of_ble_eq_true rfl)
  rw [lg_entry_eq]
  generalize (lg_sl ([.ref t0, .int v1]) ++ List.replicate (2 - (lg_sl ([.ref t0, .int v1])).length) Slot.unset).toArray = ls at hl ⊢
  exact tX11_isPlace_0 ⟨B.exec, B.bytes, hml, findClass_of_methodNamed B.named, fun w hw => hts w (List.mem_cons_of_mem _ hw)⟩ B.returns B.notSynchronized t0 v1 h _ _ _ (hp_B.entry hU) hl hf
abbrev yX11_isNext : MethodName := ⟨"SpokenMenusModel", "isNext", "(I)Z"⟩
theorem dX11_isNext_0 : decode prog_13_method_4_code 0 = .ok (.iload_n 0, 1) := by decide +kernel
theorem dX11_isNext_1 : decode prog_13_method_4_code 1 = .ok (.iconst (-1), 1) := by decide +kernel
theorem dX11_isNext_2 : decode prog_13_method_4_code 2 = .ok (.bipush 39, 2) := by decide +kernel
theorem dX11_isNext_4 : decode prog_13_method_4_code 4 = .ok (.invokestatic 129, 3) := by decide +kernel
theorem dX11_isNext_7 : decode prog_13_method_4_code 7 = .ok (.ireturn, 1) := by decide +kernel
abbrev rmX11_isNext : Room := { frames := 1, cells := 0, slots := 0, locals := 22 }
def fX11_isNext  (v0 : Int32) (h : Hp) : Option (Int32 × Hp) :=
  b2 (fX11_in v0 (-1) 39 h) fun r3 g1 =>
  gd (zb r3) <|
  some (r3, g1)
section
variable {p : Program} {l : Launch} {e : Env} {s : State} {m : MethodId} {args : Array Value} {below : List Frame} {meth : Method} {c : Code} {D : va_G} {cA : Nat → ClassId} {h0 h9 : Hp}
set_option maxHeartbeats 4000000 in
set_option maxRecDepth 100000 in
theorem tX11_isNext_0  {r : Int32} (cx : CallFix p m c prog_13_method_4_code 1 s args tbG RX11) (hr : meth.sig.returnType = (Option.some FieldType.boolean)) (hlk : meth.locks = false)  (v0 : Int32) (h : Hp) (H : Heap) (locs : List Loc) (ls : Array Slot) (hB : hp_B D cA (hp_A h0) s h H locs) (hl : lv_has ls 1 [(0, .int v0)]) (hf : fX11_isNext  v0 h = some (r, h9)) : W p l e rmX11_isNext s m args below meth c H locs 0 0 (MQ below (hp_Qi D cA h0 h9 r) args s 0 0 (hp_A h0)) (F0 m 0 ls []) := by
  obtain ⟨hx, hb, -⟩ := id cx
  unfold fX11_isNext at hf
  refine lv_iload_n hx hb dX11_isNext_0 rfl (lv_at hl 0 rfl) ?_
  refine lv_iconst (v := (-1)) hx hb dX11_isNext_1 (by decide) ?_
  refine lv_bipush (v := 39) hx hb dX11_isNext_2 (by decide) ?_
  obtain ⟨r3, g1, m2, hf⟩ := b2_ok hf
  refine hp_cI0 (cl_X11_129 cx hB (cX11_in l D cA v0 (-1) 39 h _ g1 m2) ⟨Nat.le_of_ble_eq_true rfl, Nat.le_of_ble_eq_true rfl⟩ rfl hl.1 rfl (Nat.le_of_ble_eq_true rfl) ⟨Nat.le_of_ble_eq_true rfl, Nat.le_of_ble_eq_true rfl⟩ dX11_isNext_4) rfl rfl hB (fun H locs hB => ?_)
  obtain ⟨c5, hf⟩ := gd_ok hf
  obtain ⟨rfl, rfl⟩ := rt_ok hf
  exact hp_zret cx hB hr hlk (Nat.le_of_ble_eq_true rfl) (Nat.le_of_ble_eq_true rfl) c5 dX11_isNext_7
end
set_option maxHeartbeats 4000000 in
set_option maxRecDepth 100000 in
theorem cX11_isNext (l : Launch) (D : va_G) (cA : Nat → ClassId) (v0 : Int32) (h : Hp) (r : Int32) (h9 : Hp) (hf : fX11_isNext v0 h = some (r, h9)) : hp_M l yX11_isNext prog_13_method_4_code 1 (Option.some FieldType.boolean) rmX11_isNext D cA h [.int v0] (hp_Qi D cA h h9 r) := by
  refine Met.ofW (cc := prog_13_method_4_code) (maxL := 1) (ret := (Option.some FieldType.boolean)) (by decide) rfl ?_
  intro p e s m args below meth c s₁ B hml hv
  obtain ⟨rfl, hU⟩ := hv
  have hts := atoms_spec (ws := Cond.code yX11_isNext prog_13_method_4_code 1 (Option.some FieldType.boolean) :: tbG) B.pre
  have hl := lv_entry ([.int v0]) (n := 1) (Nat.le_of_ble_eq_true rfl)
  rw [lg_entry_eq]
  generalize (lg_sl ([.int v0]) ++ List.replicate (1 - (lg_sl ([.int v0])).length) Slot.unset).toArray = ls at hl ⊢
  exact tX11_isNext_0 ⟨B.exec, B.bytes, hml, findClass_of_methodNamed B.named, fun w hw => hts w (List.mem_cons_of_mem _ hw)⟩ B.returns B.notSynchronized v0 h _ _ _ (hp_B.entry hU) hl hf
abbrev yX11_areWishes : MethodName := ⟨"SpokenMenusModel", "areWishes", "(I)Z"⟩
theorem dX11_areWishes_0 : decode prog_13_method_5_code 0 = .ok (.iload_n 0, 1) := by decide +kernel
theorem dX11_areWishes_1 : decode prog_13_method_5_code 1 = .ok (.iconst 0, 1) := by decide +kernel
theorem dX11_areWishes_2 : decode prog_13_method_5_code 2 = .ok (.ldc 133, 2) := by decide +kernel
theorem dX11_areWishes_4 : decode prog_13_method_5_code 4 = .ok (.invokestatic 129, 3) := by decide +kernel
theorem dX11_areWishes_7 : decode prog_13_method_5_code 7 = .ok (.ireturn, 1) := by decide +kernel
abbrev rmX11_areWishes : Room := { frames := 1, cells := 0, slots := 0, locals := 22 }
def fX11_areWishes  (v0 : Int32) (h : Hp) : Option (Int32 × Hp) :=
  b2 (fX11_in v0 0 65535 h) fun r3 g1 =>
  gd (zb r3) <|
  some (r3, g1)
section
variable {p : Program} {l : Launch} {e : Env} {s : State} {m : MethodId} {args : Array Value} {below : List Frame} {meth : Method} {c : Code} {D : va_G} {cA : Nat → ClassId} {h0 h9 : Hp}
set_option maxHeartbeats 4000000 in
set_option maxRecDepth 100000 in
theorem tX11_areWishes_0  {r : Int32} (cx : CallFix p m c prog_13_method_5_code 1 s args tbG RX11) (hr : meth.sig.returnType = (Option.some FieldType.boolean)) (hlk : meth.locks = false)  (v0 : Int32) (h : Hp) (H : Heap) (locs : List Loc) (ls : Array Slot) (hB : hp_B D cA (hp_A h0) s h H locs) (hl : lv_has ls 1 [(0, .int v0)]) (hf : fX11_areWishes  v0 h = some (r, h9)) : W p l e rmX11_areWishes s m args below meth c H locs 0 0 (MQ below (hp_Qi D cA h0 h9 r) args s 0 0 (hp_A h0)) (F0 m 0 ls []) := by
  obtain ⟨hx, hb, -⟩ := id cx
  unfold fX11_areWishes at hf
  refine lv_iload_n hx hb dX11_areWishes_0 rfl (lv_at hl 0 rfl) ?_
  refine lv_iconst (v := 0) hx hb dX11_areWishes_1 (by decide) ?_
  refine lv_ldc (v := 65535) hx hb cx.2.2.2.1 (cx.2.2.2.2 _ (tb_in qw_933 rfl)) dX11_areWishes_2 ?_
  obtain ⟨r3, g1, m2, hf⟩ := b2_ok hf
  refine hp_cI0 (cl_X11_129 cx hB (cX11_in l D cA v0 0 65535 h _ g1 m2) ⟨Nat.le_of_ble_eq_true rfl, Nat.le_of_ble_eq_true rfl⟩ rfl hl.1 rfl (Nat.le_of_ble_eq_true rfl) ⟨Nat.le_of_ble_eq_true rfl, Nat.le_of_ble_eq_true rfl⟩ dX11_areWishes_4) rfl rfl hB (fun H locs hB => ?_)
  obtain ⟨c5, hf⟩ := gd_ok hf
  obtain ⟨rfl, rfl⟩ := rt_ok hf
  exact hp_zret cx hB hr hlk (Nat.le_of_ble_eq_true rfl) (Nat.le_of_ble_eq_true rfl) c5 dX11_areWishes_7
end
set_option maxHeartbeats 4000000 in
set_option maxRecDepth 100000 in
theorem cX11_areWishes (l : Launch) (D : va_G) (cA : Nat → ClassId) (v0 : Int32) (h : Hp) (r : Int32) (h9 : Hp) (hf : fX11_areWishes v0 h = some (r, h9)) : hp_M l yX11_areWishes prog_13_method_5_code 1 (Option.some FieldType.boolean) rmX11_areWishes D cA h [.int v0] (hp_Qi D cA h h9 r) := by
  refine Met.ofW (cc := prog_13_method_5_code) (maxL := 1) (ret := (Option.some FieldType.boolean)) (by decide) rfl ?_
  intro p e s m args below meth c s₁ B hml hv
  obtain ⟨rfl, hU⟩ := hv
  have hts := atoms_spec (ws := Cond.code yX11_areWishes prog_13_method_5_code 1 (Option.some FieldType.boolean) :: tbG) B.pre
  have hl := lv_entry ([.int v0]) (n := 1) (Nat.le_of_ble_eq_true rfl)
  rw [lg_entry_eq]
  generalize (lg_sl ([.int v0]) ++ List.replicate (1 - (lg_sl ([.int v0])).length) Slot.unset).toArray = ls at hl ⊢
  exact tX11_areWishes_0 ⟨B.exec, B.bytes, hml, findClass_of_methodNamed B.named, fun w hw => hts w (List.mem_cons_of_mem _ hw)⟩ B.returns B.notSynchronized v0 h _ _ _ (hp_B.entry hU) hl hf
section
variable {p : Program} {l : Launch} {e : Env} {R : Room} {s : State} {m : MethodId} {args : Array Value} {below : List Frame} {meth : Method} {c : Code} {H : Heap} {locs : List Loc} {cells slots : Nat} {Q : State → Prop}
variable {cc : ByteArray} {pc nL : Nat} {ls : Array Slot} {rest : List Value} {D : va_G} {cA : Nat → ClassId} {A : Nat → Prop} {a : Nat} {h : Hp}
theorem gf_X11_7 (cx : CallFix p m c cc nL s args tbG RX11) (hB : hp_B D cA A s h H locs) (hka : h.1 a = 12) {b : Nat} (ho : h.2.2.2.1 a 1 = some b) (hdg : decode cc pc = .ok (.getfield 7, 3)) (kk : W p l e R s m args below meth c H locs cells slots Q (F0 m (pc + 3) ls (.ref b :: rest))) : W p l e R s m args below meth c H locs cells slots Q (F0 m pc ls (.ref a :: rest)) :=
  hp_getR cx hB (ci := 11) 1 rfl inX11 (by decide) rfl (by decide) rfl qw_733 hka (o := some b) ho.symm hdg kk
theorem gf_X11_13 (cx : CallFix p m c cc nL s args tbG RX11) (hB : hp_B D cA A s h H locs) (hka : h.1 a = 12) {b : Nat} (ho : h.2.2.2.1 a 2 = some b) (hdg : decode cc pc = .ok (.getfield 13, 3)) (kk : W p l e R s m args below meth c H locs cells slots Q (F0 m (pc + 3) ls (.ref b :: rest))) : W p l e R s m args below meth c H locs cells slots Q (F0 m pc ls (.ref a :: rest)) :=
  hp_getR cx hB (ci := 11) 2 rfl inX11 (by decide) rfl (by decide) rfl qw_734 hka (o := some b) ho.symm hdg kk
theorem gf_X11_19 (cx : CallFix p m c cc nL s args tbG RX11) (hB : hp_B D cA A s h H locs) (hka : h.1 a = 12) {b : Nat} (ho : h.2.2.2.1 a 4 = some b) (hdg : decode cc pc = .ok (.getfield 19, 3)) (kk : W p l e R s m args below meth c H locs cells slots Q (F0 m (pc + 3) ls (.ref b :: rest))) : W p l e R s m args below meth c H locs cells slots Q (F0 m pc ls (.ref a :: rest)) :=
  hp_getR cx hB (ci := 11) 4 rfl inX11 (by decide) rfl (by decide) rfl qw_736 hka (o := some b) ho.symm hdg kk
theorem gf_X11_22 (cx : CallFix p m c cc nL s args tbG RX11) (hB : hp_B D cA A s h H locs) (hka : h.1 a = 12) {b : Nat} (ho : h.2.2.2.1 a 5 = some b) (hdg : decode cc pc = .ok (.getfield 22, 3)) (kk : W p l e R s m args below meth c H locs cells slots Q (F0 m (pc + 3) ls (.ref b :: rest))) : W p l e R s m args below meth c H locs cells slots Q (F0 m pc ls (.ref a :: rest)) :=
  hp_getR cx hB (ci := 11) 5 rfl inX11 (by decide) rfl (by decide) rfl qw_737 hka (o := some b) ho.symm hdg kk
theorem gf_X11_25 (cx : CallFix p m c cc nL s args tbG RX11) (hB : hp_B D cA A s h H locs) (hka : h.1 a = 12) {b : Nat} (ho : h.2.2.2.1 a 6 = some b) (hdg : decode cc pc = .ok (.getfield 25, 3)) (kk : W p l e R s m args below meth c H locs cells slots Q (F0 m (pc + 3) ls (.ref b :: rest))) : W p l e R s m args below meth c H locs cells slots Q (F0 m pc ls (.ref a :: rest)) :=
  hp_getR cx hB (ci := 11) 6 rfl inX11 (by decide) rfl (by decide) rfl qw_738 hka (o := some b) ho.symm hdg kk
theorem gf_X11_37 (cx : CallFix p m c cc nL s args tbG RX11) (hB : hp_B D cA A s h H locs) (hka : h.1 a = 12) {b : Nat} (ho : h.2.2.2.1 a 10 = some b) (hdg : decode cc pc = .ok (.getfield 37, 3)) (kk : W p l e R s m args below meth c H locs cells slots Q (F0 m (pc + 3) ls (.ref b :: rest))) : W p l e R s m args below meth c H locs cells slots Q (F0 m pc ls (.ref a :: rest)) :=
  hp_getR cx hB (ci := 11) 10 rfl inX11 (by decide) rfl (by decide) rfl qw_742 hka (o := some b) ho.symm hdg kk
theorem pf_X11_125 (cx : CallFix p m c cc nL s args tbG RX11) (hB : hp_B D cA A s h H locs) (hka : h.1 a = 12) {x : Int32} (hdg : decode cc pc = .ok (.putfield 125, 3)) (kk : ∀ (H1 : Heap) (locs1 : List Loc), hp_B D cA A s (hp_si h a 0 x) H1 locs1 → W p l e R s m args below meth c H1 locs1 cells slots Q (F0 m (pc + 3) ls rest)) : W p l e R s m args below meth c H locs cells slots Q (F0 m pc ls (.int x :: .ref a :: rest)) :=
  hp_putX cx hB (ci := 11) 0 tyX11 tyX11_ok nmX11 rfl inX11 (by decide) rfl (by decide) (Or.inl rfl) qw_732 hka (v := .int x) (hp_like_si h a 0 x) (hp_fs_si (by decide) rfl) rfl rfl hdg kk
end
abbrev yX11_newPlace : MethodName := ⟨"SpokenMenusModel", "newPlace", "(IIII)I"⟩
theorem dX11_newPlace_0 : decode prog_13_method_6_code 0 = .ok (.aload_n 0, 1) := by decide +kernel
theorem dX11_newPlace_1 : decode prog_13_method_6_code 1 = .ok (.getfield 7, 3) := by decide +kernel
theorem dX11_newPlace_4 : decode prog_13_method_6_code 4 = .ok (.aload_n 0, 1) := by decide +kernel
theorem dX11_newPlace_5 : decode prog_13_method_6_code 5 = .ok (.getfield 125, 3) := by decide +kernel
theorem dX11_newPlace_8 : decode prog_13_method_6_code 8 = .ok (.iload_n 1, 1) := by decide +kernel
theorem dX11_newPlace_9 : decode prog_13_method_6_code 9 = .ok (.iastore, 1) := by decide +kernel
theorem dX11_newPlace_10 : decode prog_13_method_6_code 10 = .ok (.aload_n 0, 1) := by decide +kernel
theorem dX11_newPlace_11 : decode prog_13_method_6_code 11 = .ok (.getfield 13, 3) := by decide +kernel
theorem dX11_newPlace_14 : decode prog_13_method_6_code 14 = .ok (.aload_n 0, 1) := by decide +kernel
theorem dX11_newPlace_15 : decode prog_13_method_6_code 15 = .ok (.getfield 125, 3) := by decide +kernel
theorem dX11_newPlace_18 : decode prog_13_method_6_code 18 = .ok (.iload_n 2, 1) := by decide +kernel
theorem dX11_newPlace_19 : decode prog_13_method_6_code 19 = .ok (.iastore, 1) := by decide +kernel
theorem dX11_newPlace_20 : decode prog_13_method_6_code 20 = .ok (.aload_n 0, 1) := by decide +kernel
theorem dX11_newPlace_21 : decode prog_13_method_6_code 21 = .ok (.getfield 19, 3) := by decide +kernel
theorem dX11_newPlace_24 : decode prog_13_method_6_code 24 = .ok (.aload_n 0, 1) := by decide +kernel
theorem dX11_newPlace_25 : decode prog_13_method_6_code 25 = .ok (.getfield 125, 3) := by decide +kernel
theorem dX11_newPlace_28 : decode prog_13_method_6_code 28 = .ok (.iload_n 3, 1) := by decide +kernel
theorem dX11_newPlace_29 : decode prog_13_method_6_code 29 = .ok (.iastore, 1) := by decide +kernel
theorem dX11_newPlace_30 : decode prog_13_method_6_code 30 = .ok (.aload_n 0, 1) := by decide +kernel
theorem dX11_newPlace_31 : decode prog_13_method_6_code 31 = .ok (.getfield 22, 3) := by decide +kernel
theorem dX11_newPlace_34 : decode prog_13_method_6_code 34 = .ok (.aload_n 0, 1) := by decide +kernel
theorem dX11_newPlace_35 : decode prog_13_method_6_code 35 = .ok (.getfield 125, 3) := by decide +kernel
theorem dX11_newPlace_38 : decode prog_13_method_6_code 38 = .ok (.iload 4, 2) := by decide +kernel
theorem dX11_newPlace_40 : decode prog_13_method_6_code 40 = .ok (.iastore, 1) := by decide +kernel
theorem dX11_newPlace_41 : decode prog_13_method_6_code 41 = .ok (.aload_n 0, 1) := by decide +kernel
theorem dX11_newPlace_42 : decode prog_13_method_6_code 42 = .ok (.getfield 25, 3) := by decide +kernel
theorem dX11_newPlace_45 : decode prog_13_method_6_code 45 = .ok (.aload_n 0, 1) := by decide +kernel
theorem dX11_newPlace_46 : decode prog_13_method_6_code 46 = .ok (.getfield 125, 3) := by decide +kernel
theorem dX11_newPlace_49 : decode prog_13_method_6_code 49 = .ok (.iconst 0, 1) := by decide +kernel
theorem dX11_newPlace_50 : decode prog_13_method_6_code 50 = .ok (.iastore, 1) := by decide +kernel
theorem dX11_newPlace_51 : decode prog_13_method_6_code 51 = .ok (.aload_n 0, 1) := by decide +kernel
theorem dX11_newPlace_52 : decode prog_13_method_6_code 52 = .ok (.getfield 37, 3) := by decide +kernel
theorem dX11_newPlace_55 : decode prog_13_method_6_code 55 = .ok (.aload_n 0, 1) := by decide +kernel
theorem dX11_newPlace_56 : decode prog_13_method_6_code 56 = .ok (.getfield 125, 3) := by decide +kernel
theorem dX11_newPlace_59 : decode prog_13_method_6_code 59 = .ok (.iconst 0, 1) := by decide +kernel
theorem dX11_newPlace_60 : decode prog_13_method_6_code 60 = .ok (.iastore, 1) := by decide +kernel
theorem dX11_newPlace_61 : decode prog_13_method_6_code 61 = .ok (.aload_n 0, 1) := by decide +kernel
theorem dX11_newPlace_62 : decode prog_13_method_6_code 62 = .ok (.dup, 1) := by decide +kernel
theorem dX11_newPlace_63 : decode prog_13_method_6_code 63 = .ok (.getfield 125, 3) := by decide +kernel
theorem dX11_newPlace_66 : decode prog_13_method_6_code 66 = .ok (.iconst 1, 1) := by decide +kernel
theorem dX11_newPlace_67 : decode prog_13_method_6_code 67 = .ok (.iadd, 1) := by decide +kernel
theorem dX11_newPlace_68 : decode prog_13_method_6_code 68 = .ok (.putfield 125, 3) := by decide +kernel
theorem dX11_newPlace_71 : decode prog_13_method_6_code 71 = .ok (.aload_n 0, 1) := by decide +kernel
theorem dX11_newPlace_72 : decode prog_13_method_6_code 72 = .ok (.getfield 125, 3) := by decide +kernel
theorem dX11_newPlace_75 : decode prog_13_method_6_code 75 = .ok (.iconst 1, 1) := by decide +kernel
theorem dX11_newPlace_76 : decode prog_13_method_6_code 76 = .ok (.isub, 1) := by decide +kernel
theorem dX11_newPlace_77 : decode prog_13_method_6_code 77 = .ok (.ireturn, 1) := by decide +kernel
abbrev rmX11_newPlace : Room := { frames := 0, cells := 0, slots := 0, locals := 0 }
def fX11_newPlace  (t0 : Nat) (v1 : Int32) (v2 : Int32) (v3 : Int32) (v4 : Int32) (h : Hp) : Option (Int32 × Hp) :=
  gk (h.1 t0) 12 <|
  bd (h.2.2.2.1 t0 1) fun a2 =>
  gk (h.1 a2) 13 <|
  gd (ix (h.2.2.1 t0 0) (h.2.1 a2)) <|
  nm (hp_si h a2 (Int32.toNatClampNeg (h.2.2.1 t0 0)) v1) fun g6 =>
  bd (g6.2.2.2.1 t0 2) fun a8 =>
  gk (g6.1 a8) 13 <|
  gd (ix (g6.2.2.1 t0 0) (g6.2.1 a8)) <|
  nm (hp_si g6 a8 (Int32.toNatClampNeg (g6.2.2.1 t0 0)) v2) fun g12 =>
  bd (g12.2.2.2.1 t0 4) fun a14 =>
  gk (g12.1 a14) 13 <|
  gd (ix (g12.2.2.1 t0 0) (g12.2.1 a14)) <|
  nm (hp_si g12 a14 (Int32.toNatClampNeg (g12.2.2.1 t0 0)) v3) fun g18 =>
  bd (g18.2.2.2.1 t0 5) fun a20 =>
  gk (g18.1 a20) 13 <|
  gd (ix (g18.2.2.1 t0 0) (g18.2.1 a20)) <|
  nm (hp_si g18 a20 (Int32.toNatClampNeg (g18.2.2.1 t0 0)) v4) fun g24 =>
  bd (g24.2.2.2.1 t0 6) fun a26 =>
  gk (g24.1 a26) 13 <|
  gd (ix (g24.2.2.1 t0 0) (g24.2.1 a26)) <|
  nm (hp_si g24 a26 (Int32.toNatClampNeg (g24.2.2.1 t0 0)) 0) fun g30 =>
  bd (g30.2.2.2.1 t0 10) fun a32 =>
  gk (g30.1 a32) 13 <|
  gd (ix (g30.2.2.1 t0 0) (g30.2.1 a32)) <|
  nm (hp_si g30 a32 (Int32.toNatClampNeg (g30.2.2.1 t0 0)) 0) fun g36 =>
  nm (hp_si g36 t0 0 ((g36.2.2.1 t0 0) + 1)) fun g38 =>
  some ((g38.2.2.1 t0 0) - 1, g38)
section
variable {p : Program} {l : Launch} {e : Env} {s : State} {m : MethodId} {args : Array Value} {below : List Frame} {meth : Method} {c : Code} {D : va_G} {cA : Nat → ClassId} {h0 h9 : Hp}
set_option maxHeartbeats 4000000 in
set_option maxRecDepth 100000 in
theorem tX11_newPlace_0  {r : Int32} (cx : CallFix p m c prog_13_method_6_code 5 s args tbG RX11) (hr : meth.sig.returnType = (Option.some FieldType.int)) (hlk : meth.locks = false)  (t0 : Nat) (v1 : Int32) (v2 : Int32) (v3 : Int32) (v4 : Int32) (h : Hp) (H : Heap) (locs : List Loc) (ls : Array Slot) (hB : hp_B D cA (hp_A h0) s h H locs) (hl : lv_has ls 5 [(0, .ref t0), (1, .int v1), (2, .int v2), (3, .int v3), (4, .int v4)]) (hf : fX11_newPlace  t0 v1 v2 v3 v4 h = some (r, h9)) : W p l e rmX11_newPlace s m args below meth c H locs 0 0 (MQ below (hp_Qi D cA h0 h9 r) args s 0 0 (hp_A h0)) (F0 m 0 ls []) := by
  obtain ⟨hx, hb, -⟩ := id cx
  unfold fX11_newPlace at hf
  refine lv_aload_n hx hb dX11_newPlace_0 rfl (lv_at hl 0 rfl) ?_
  obtain ⟨k1, hf⟩ := gk_ok hf
  obtain ⟨a2, q3, hf⟩ := bd_ok hf
  refine gf_X11_7 cx hB k1 q3 dX11_newPlace_1 ?_
  refine lv_aload_n hx hb dX11_newPlace_4 rfl (lv_at hl 0 rfl) ?_
  refine gf_X11_125 cx hB k1 dX11_newPlace_5 ?_
  refine lv_iload_n hx hb dX11_newPlace_8 rfl (lv_at hl 1 rfl) ?_
  obtain ⟨k4, hf⟩ := gk_ok hf
  obtain ⟨j5, hf⟩ := gd_ok hf
  obtain ⟨g6, eg6, hf⟩ := nm_ok hf
  refine hp_iast cx hB k4 j5 dX11_newPlace_9 (fun H locs hB => ?_)
  rw [← eg6] at hB
  refine lv_aload_n hx hb dX11_newPlace_10 rfl (lv_at hl 0 rfl) ?_
  have k7 : g6.1 t0 = 12 := by rw [eg6]; exact k1
  obtain ⟨a8, q9, hf⟩ := bd_ok hf
  refine gf_X11_13 cx hB k7 q9 dX11_newPlace_11 ?_
  refine lv_aload_n hx hb dX11_newPlace_14 rfl (lv_at hl 0 rfl) ?_
  refine gf_X11_125 cx hB k7 dX11_newPlace_15 ?_
  refine lv_iload_n hx hb dX11_newPlace_18 rfl (lv_at hl 2 rfl) ?_
  obtain ⟨k10, hf⟩ := gk_ok hf
  obtain ⟨j11, hf⟩ := gd_ok hf
  obtain ⟨g12, eg12, hf⟩ := nm_ok hf
  refine hp_iast cx hB k10 j11 dX11_newPlace_19 (fun H locs hB => ?_)
  rw [← eg12] at hB
  refine lv_aload_n hx hb dX11_newPlace_20 rfl (lv_at hl 0 rfl) ?_
  have k13 : g12.1 t0 = 12 := by rw [eg12]; exact k7
  obtain ⟨a14, q15, hf⟩ := bd_ok hf
  refine gf_X11_19 cx hB k13 q15 dX11_newPlace_21 ?_
  refine lv_aload_n hx hb dX11_newPlace_24 rfl (lv_at hl 0 rfl) ?_
  refine gf_X11_125 cx hB k13 dX11_newPlace_25 ?_
  refine lv_iload_n hx hb dX11_newPlace_28 rfl (lv_at hl 3 rfl) ?_
  obtain ⟨k16, hf⟩ := gk_ok hf
  obtain ⟨j17, hf⟩ := gd_ok hf
  obtain ⟨g18, eg18, hf⟩ := nm_ok hf
  refine hp_iast cx hB k16 j17 dX11_newPlace_29 (fun H locs hB => ?_)
  rw [← eg18] at hB
  refine lv_aload_n hx hb dX11_newPlace_30 rfl (lv_at hl 0 rfl) ?_
  have k19 : g18.1 t0 = 12 := by rw [eg18]; exact k13
  obtain ⟨a20, q21, hf⟩ := bd_ok hf
  refine gf_X11_22 cx hB k19 q21 dX11_newPlace_31 ?_
  refine lv_aload_n hx hb dX11_newPlace_34 rfl (lv_at hl 0 rfl) ?_
  refine gf_X11_125 cx hB k19 dX11_newPlace_35 ?_
  refine lv_iload hx hb dX11_newPlace_38 (lv_at hl 4 rfl) ?_
  obtain ⟨k22, hf⟩ := gk_ok hf
  obtain ⟨j23, hf⟩ := gd_ok hf
  obtain ⟨g24, eg24, hf⟩ := nm_ok hf
  refine hp_iast cx hB k22 j23 dX11_newPlace_40 (fun H locs hB => ?_)
  rw [← eg24] at hB
  refine lv_aload_n hx hb dX11_newPlace_41 rfl (lv_at hl 0 rfl) ?_
  have k25 : g24.1 t0 = 12 := by rw [eg24]; exact k19
  obtain ⟨a26, q27, hf⟩ := bd_ok hf
  refine gf_X11_25 cx hB k25 q27 dX11_newPlace_42 ?_
  refine lv_aload_n hx hb dX11_newPlace_45 rfl (lv_at hl 0 rfl) ?_
  refine gf_X11_125 cx hB k25 dX11_newPlace_46 ?_
  refine lv_iconst (v := 0) hx hb dX11_newPlace_49 (by decide) ?_
  obtain ⟨k28, hf⟩ := gk_ok hf
  obtain ⟨j29, hf⟩ := gd_ok hf
  obtain ⟨g30, eg30, hf⟩ := nm_ok hf
  refine hp_iast cx hB k28 j29 dX11_newPlace_50 (fun H locs hB => ?_)
  rw [← eg30] at hB
  refine lv_aload_n hx hb dX11_newPlace_51 rfl (lv_at hl 0 rfl) ?_
  have k31 : g30.1 t0 = 12 := by rw [eg30]; exact k25
  obtain ⟨a32, q33, hf⟩ := bd_ok hf
  refine gf_X11_37 cx hB k31 q33 dX11_newPlace_52 ?_
  refine lv_aload_n hx hb dX11_newPlace_55 rfl (lv_at hl 0 rfl) ?_
  refine gf_X11_125 cx hB k31 dX11_newPlace_56 ?_
  refine lv_iconst (v := 0) hx hb dX11_newPlace_59 (by decide) ?_
  obtain ⟨k34, hf⟩ := gk_ok hf
  obtain ⟨j35, hf⟩ := gd_ok hf
  obtain ⟨g36, eg36, hf⟩ := nm_ok hf
  refine hp_iast cx hB k34 j35 dX11_newPlace_60 (fun H locs hB => ?_)
  rw [← eg36] at hB
  refine lv_aload_n hx hb dX11_newPlace_61 rfl (lv_at hl 0 rfl) ?_
  refine lv_dup hx hb dX11_newPlace_62 rfl ?_
  have k37 : g36.1 t0 = 12 := by rw [eg36]; exact k31
  refine gf_X11_125 cx hB k37 dX11_newPlace_63 ?_
  refine lv_iconst (v := 1) hx hb dX11_newPlace_66 (by decide) ?_
  refine lv_iadd hx hb dX11_newPlace_67 ?_
  obtain ⟨g38, eg38, hf⟩ := nm_ok hf
  refine pf_X11_125 cx hB k37 dX11_newPlace_68 (fun H locs hB => ?_)
  rw [← eg38] at hB
  refine lv_aload_n hx hb dX11_newPlace_71 rfl (lv_at hl 0 rfl) ?_
  have k39 : g38.1 t0 = 12 := by rw [eg38]; exact k37
  refine gf_X11_125 cx hB k39 dX11_newPlace_72 ?_
  refine lv_iconst (v := 1) hx hb dX11_newPlace_75 (by decide) ?_
  refine lv_isub hx hb dX11_newPlace_76 ?_
  obtain ⟨rfl, rfl⟩ := rt_ok hf
  exact hp_iret cx hB hr hlk (Nat.le_of_ble_eq_true rfl) (Nat.le_of_ble_eq_true rfl) dX11_newPlace_77
end
set_option maxHeartbeats 4000000 in
set_option maxRecDepth 100000 in
theorem cX11_newPlace (l : Launch) (D : va_G) (cA : Nat → ClassId) (t0 : Nat) (v1 : Int32) (v2 : Int32) (v3 : Int32) (v4 : Int32) (h : Hp) (r : Int32) (h9 : Hp) (hf : fX11_newPlace t0 v1 v2 v3 v4 h = some (r, h9)) : hp_M l yX11_newPlace prog_13_method_6_code 5 (Option.some FieldType.int) rmX11_newPlace D cA h [.ref t0, .int v1, .int v2, .int v3, .int v4] (hp_Qi D cA h h9 r) := by
  refine Met.ofW (cc := prog_13_method_6_code) (maxL := 5) (ret := (Option.some FieldType.int)) (by decide) rfl ?_
  intro p e s m args below meth c s₁ B hml hv
  obtain ⟨rfl, hU⟩ := hv
  have hts := atoms_spec (ws := Cond.code yX11_newPlace prog_13_method_6_code 5 (Option.some FieldType.int) :: tbG) B.pre
  have hl := lv_entry ([.ref t0, .int v1, .int v2, .int v3, .int v4]) (n := 5) (Nat.le_of_ble_eq_true rfl)
  rw [lg_entry_eq]
  generalize (lg_sl ([.ref t0, .int v1, .int v2, .int v3, .int v4]) ++ List.replicate (5 - (lg_sl ([.ref t0, .int v1, .int v2, .int v3, .int v4])).length) Slot.unset).toArray = ls at hl ⊢
  exact tX11_newPlace_0 ⟨B.exec, B.bytes, hml, findClass_of_methodNamed B.named, fun w hw => hts w (List.mem_cons_of_mem _ hw)⟩ B.returns B.notSynchronized t0 v1 v2 v3 v4 h _ _ _ (hp_B.entry hU) hl hf
section
variable {p : Program} {l : Launch} {e : Env} {R : Room} {s : State} {m : MethodId} {args : Array Value} {below : List Frame} {meth : Method} {c : Code} {H : Heap} {locs : List Loc} {cells slots : Nat} {Q : State → Prop}
variable {cc : ByteArray} {pc nL : Nat} {ls : Array Slot} {rest : List Value} {D : va_G} {cA : Nat → ClassId} {A : Nat → Prop} {a : Nat} {h : Hp}
theorem cl_X11_134 {As st0 : List Value} {Qc : Array Value → State → Outcome → State → Prop} (cx : CallFix p m c cc nL s args tbG RX11) (hB : hp_B D cA A s h H locs) (hM : hp_M l yX11_isNext prog_13_method_4_code 1 (Option.some FieldType.boolean) rmX11_isNext D cA h As Qc) (hR : rmX11_isNext.frames + 1 ≤ R.frames ∧ 8 + (1 + 11) + rmX11_isNext.locals ≤ R.locals) (hn : As.length = 1) (hls : ls.size = nL) (hst : st0 = As.reverse ++ rest) (hW : (rest.map fun v => v.category).sum ≤ 8) (hf : cells + rmX11_isNext.cells ≤ R.cells ∧ slots + rmX11_isNext.slots ≤ R.slots) (hdg : decode cc pc = .ok (.invokestatic 134, 3)) :
    va_Run p l e R s m args below meth c H locs cells slots rmX11_isNext.cells rmX11_isNext.slots (F0 m pc ls st0) rest (Qc As.toArray) (hp_A h) :=
  hp_runS cx hB hM qw_913 qw_911 qw_912 qw_10 (by decide +kernel) hR hn hls hst hW hf hdg
theorem gf_X11_16 (cx : CallFix p m c cc nL s args tbG RX11) (hB : hp_B D cA A s h H locs) (hka : h.1 a = 12) {b : Nat} (ho : h.2.2.2.1 a 3 = some b) (hdg : decode cc pc = .ok (.getfield 16, 3)) (kk : W p l e R s m args below meth c H locs cells slots Q (F0 m (pc + 3) ls (.ref b :: rest))) : W p l e R s m args below meth c H locs cells slots Q (F0 m pc ls (.ref a :: rest)) :=
  hp_getR cx hB (ci := 11) 3 rfl inX11 (by decide) rfl (by decide) rfl qw_735 hka (o := some b) ho.symm hdg kk
theorem cl_X11_138 {As st0 : List Value} {b : Nat} {Qc : Array Value → State → Outcome → State → Prop} (cx : CallFix p m c cc nL s args tbG RX11) (hB : hp_B D cA A s h H locs) (hM : hp_M l yX11_newPlace prog_13_method_6_code 5 (Option.some FieldType.int) rmX11_newPlace D cA h (.ref b :: As) Qc) (hkb : h.1 b = 12) (hR : rmX11_newPlace.frames + 1 ≤ R.frames ∧ 8 + (5 + 11) + rmX11_newPlace.locals ≤ R.locals) (hn : As.length = 4) (hls : ls.size = nL) (hst : st0 = As.reverse ++ .ref b :: rest) (hW : (rest.map fun v => v.category).sum ≤ 8) (hf : cells + rmX11_newPlace.cells ≤ R.cells ∧ slots + rmX11_newPlace.slots ≤ R.slots) (hdg : decode cc pc = .ok (.invokevirtual 138, 3)) :
    va_Run p l e R s m args below meth c H locs cells slots rmX11_newPlace.cells rmX11_newPlace.slots (F0 m pc ls st0) rest (Qc (Value.ref b :: As).toArray) (hp_A h) :=
  hp_runV cx hB hM (ci := 11) rfl (by decide) hkb qw_917 qw_914 qw_916 qp_16 qw_10 (by decide +kernel) hR hn hls hst hW hf hdg
end
abbrev yX11_menu : MethodName := ⟨"SpokenMenusModel", "menu", "(III)I"⟩
theorem dX11_menu_0 : decode prog_13_method_7_code 0 = .ok (.iload_n 1, 1) := by decide +kernel
theorem dX11_menu_1 : decode prog_13_method_7_code 1 = .ok (.iconst 1, 1) := by decide +kernel
theorem dX11_menu_2 : decode prog_13_method_7_code 2 = .ok (.bipush 100, 2) := by decide +kernel
theorem dX11_menu_4 : decode prog_13_method_7_code 4 = .ok (.invokestatic 129, 3) := by decide +kernel
theorem dX11_menu_7 : decode prog_13_method_7_code 7 = .ok (.ifCond .eq 19, 3) := by decide +kernel
theorem dX11_menu_10 : decode prog_13_method_7_code 10 = .ok (.iload_n 2, 1) := by decide +kernel
theorem dX11_menu_11 : decode prog_13_method_7_code 11 = .ok (.iconst 1, 1) := by decide +kernel
theorem dX11_menu_12 : decode prog_13_method_7_code 12 = .ok (.iconst 3, 1) := by decide +kernel
theorem dX11_menu_13 : decode prog_13_method_7_code 13 = .ok (.invokestatic 129, 3) := by decide +kernel
theorem dX11_menu_16 : decode prog_13_method_7_code 16 = .ok (.ifCond .eq 10, 3) := by decide +kernel
theorem dX11_menu_19 : decode prog_13_method_7_code 19 = .ok (.iload_n 3, 1) := by decide +kernel
theorem dX11_menu_20 : decode prog_13_method_7_code 20 = .ok (.invokestatic 134, 3) := by decide +kernel
theorem dX11_menu_23 : decode prog_13_method_7_code 23 = .ok (.ifCond .ne 5, 3) := by decide +kernel
theorem dX11_menu_26 : decode prog_13_method_7_code 26 = .ok (.iconst (-1), 1) := by decide +kernel
theorem dX11_menu_27 : decode prog_13_method_7_code 27 = .ok (.ireturn, 1) := by decide +kernel
theorem dX11_menu_28 : decode prog_13_method_7_code 28 = .ok (.aload_n 0, 1) := by decide +kernel
theorem dX11_menu_29 : decode prog_13_method_7_code 29 = .ok (.getfield 125, 3) := by decide +kernel
theorem dX11_menu_32 : decode prog_13_method_7_code 32 = .ok (.bipush 40, 2) := by decide +kernel
theorem dX11_menu_34 : decode prog_13_method_7_code 34 = .ok (.if_icmp .ne 6, 3) := by decide +kernel
theorem dX11_menu_37 : decode prog_13_method_7_code 37 = .ok (.bipush (-3), 2) := by decide +kernel
theorem dX11_menu_39 : decode prog_13_method_7_code 39 = .ok (.ireturn, 1) := by decide +kernel
theorem dX11_menu_40 : decode prog_13_method_7_code 40 = .ok (.aload_n 0, 1) := by decide +kernel
theorem dX11_menu_41 : decode prog_13_method_7_code 41 = .ok (.getfield 16, 3) := by decide +kernel
theorem dX11_menu_44 : decode prog_13_method_7_code 44 = .ok (.aload_n 0, 1) := by decide +kernel
theorem dX11_menu_45 : decode prog_13_method_7_code 45 = .ok (.getfield 125, 3) := by decide +kernel
theorem dX11_menu_48 : decode prog_13_method_7_code 48 = .ok (.iload_n 2, 1) := by decide +kernel
theorem dX11_menu_49 : decode prog_13_method_7_code 49 = .ok (.iastore, 1) := by decide +kernel
theorem dX11_menu_50 : decode prog_13_method_7_code 50 = .ok (.aload_n 0, 1) := by decide +kernel
theorem dX11_menu_51 : decode prog_13_method_7_code 51 = .ok (.iconst 0, 1) := by decide +kernel
theorem dX11_menu_52 : decode prog_13_method_7_code 52 = .ok (.iload_n 1, 1) := by decide +kernel
theorem dX11_menu_53 : decode prog_13_method_7_code 53 = .ok (.iload_n 3, 1) := by decide +kernel
theorem dX11_menu_54 : decode prog_13_method_7_code 54 = .ok (.iconst (-1), 1) := by decide +kernel
theorem dX11_menu_55 : decode prog_13_method_7_code 55 = .ok (.invokevirtual 138, 3) := by decide +kernel
theorem dX11_menu_58 : decode prog_13_method_7_code 58 = .ok (.ireturn, 1) := by decide +kernel
abbrev rmX11_menu : Room := { frames := 2, cells := 0, slots := 0, locals := 42 }
def fX11_menu  (t0 : Nat) (v1 : Int32) (v2 : Int32) (v3 : Int32) (h : Hp) : Option (Int32 × Hp) :=
  b2 (fX11_in v1 1 100 h) fun r3 g1 =>
  if r3 = 0 then
  (some ((-1), g1))
  else
  (b2 (fX11_in v2 1 3 g1) fun r8 g6 =>
  if r8 = 0 then
  (some ((-1), g6))
  else
  (b2 (fX11_isNext v3 g6) fun r13 g11 =>
  if r13 = 0 then
  (some ((-1), g11))
  else
  (gk (g11.1 t0) 12 <|
  if (g11.2.2.1 t0 0) = 40 then
  (some ((-3), g11))
  else
  (bd (g11.2.2.2.1 t0 3) fun a18 =>
  gk (g11.1 a18) 13 <|
  gd (ix (g11.2.2.1 t0 0) (g11.2.1 a18)) <|
  nm (hp_si g11 a18 (Int32.toNatClampNeg (g11.2.2.1 t0 0)) v2) fun g22 =>
  b2 (fX11_newPlace t0 0 v1 v3 (-1) g22) fun r26 g24 =>
  some (r26, g24)))))
section
variable {p : Program} {l : Launch} {e : Env} {s : State} {m : MethodId} {args : Array Value} {below : List Frame} {meth : Method} {c : Code} {D : va_G} {cA : Nat → ClassId} {h0 h9 : Hp}
set_option maxHeartbeats 4000000 in
set_option maxRecDepth 100000 in
theorem tX11_menu_0  {r : Int32} (cx : CallFix p m c prog_13_method_7_code 4 s args tbG RX11) (hr : meth.sig.returnType = (Option.some FieldType.int)) (hlk : meth.locks = false)  (t0 : Nat) (v1 : Int32) (v2 : Int32) (v3 : Int32) (h : Hp) (H : Heap) (locs : List Loc) (ls : Array Slot) (hB : hp_B D cA (hp_A h0) s h H locs) (hl : lv_has ls 4 [(0, .ref t0), (1, .int v1), (2, .int v2), (3, .int v3)]) (hf : fX11_menu  t0 v1 v2 v3 h = some (r, h9)) : W p l e rmX11_menu s m args below meth c H locs 0 0 (MQ below (hp_Qi D cA h0 h9 r) args s 0 0 (hp_A h0)) (F0 m 0 ls []) := by
  obtain ⟨hx, hb, -⟩ := id cx
  unfold fX11_menu at hf
  refine lv_iload_n hx hb dX11_menu_0 rfl (lv_at hl 1 rfl) ?_
  refine lv_iconst (v := 1) hx hb dX11_menu_1 (by decide) ?_
  refine lv_bipush (v := 100) hx hb dX11_menu_2 (by decide) ?_
  obtain ⟨r3, g1, m2, hf⟩ := b2_ok hf
  refine hp_cI0 (cl_X11_129 cx hB (cX11_in l D cA v1 1 100 h _ g1 m2) ⟨Nat.le_of_ble_eq_true rfl, Nat.le_of_ble_eq_true rfl⟩ rfl hl.1 rfl (Nat.le_of_ble_eq_true rfl) ⟨Nat.le_of_ble_eq_true rfl, Nat.le_of_ble_eq_true rfl⟩ dX11_menu_4) rfl rfl hB (fun H locs hB => ?_)
  refine lv_if_eq (tgt := 26) hx hb dX11_menu_7 (by decide) (fun c5 => ?_) (fun c5 => ?_)
  · replace hf := it_t c5 hf
    refine lv_iconst (v := (-1)) hx hb dX11_menu_26 (by decide) ?_
    obtain ⟨rfl, rfl⟩ := rt_ok hf
    exact hp_iret cx hB hr hlk (Nat.le_of_ble_eq_true rfl) (Nat.le_of_ble_eq_true rfl) dX11_menu_27
  · replace hf := it_f c5 hf
    refine lv_iload_n hx hb dX11_menu_10 rfl (lv_at hl 2 rfl) ?_
    refine lv_iconst (v := 1) hx hb dX11_menu_11 (by decide) ?_
    refine lv_iconst (v := 3) hx hb dX11_menu_12 (by decide) ?_
    obtain ⟨r8, g6, m7, hf⟩ := b2_ok hf
    refine hp_cI0 (cl_X11_129 cx hB (cX11_in l D cA v2 1 3 g1 _ g6 m7) ⟨Nat.le_of_ble_eq_true rfl, Nat.le_of_ble_eq_true rfl⟩ rfl hl.1 rfl (Nat.le_of_ble_eq_true rfl) ⟨Nat.le_of_ble_eq_true rfl, Nat.le_of_ble_eq_true rfl⟩ dX11_menu_13) rfl rfl hB (fun H locs hB => ?_)
    refine lv_if_eq (tgt := 26) hx hb dX11_menu_16 (by decide) (fun c10 => ?_) (fun c10 => ?_)
    · replace hf := it_t c10 hf
      refine lv_iconst (v := (-1)) hx hb dX11_menu_26 (by decide) ?_
      obtain ⟨rfl, rfl⟩ := rt_ok hf
      exact hp_iret cx hB hr hlk (Nat.le_of_ble_eq_true rfl) (Nat.le_of_ble_eq_true rfl) dX11_menu_27
    · replace hf := it_f c10 hf
      refine lv_iload_n hx hb dX11_menu_19 rfl (lv_at hl 3 rfl) ?_
      obtain ⟨r13, g11, m12, hf⟩ := b2_ok hf
      refine hp_cI0 (cl_X11_134 cx hB (cX11_isNext l D cA v3 g6 _ g11 m12) ⟨Nat.le_of_ble_eq_true rfl, Nat.le_of_ble_eq_true rfl⟩ rfl hl.1 rfl (Nat.le_of_ble_eq_true rfl) ⟨Nat.le_of_ble_eq_true rfl, Nat.le_of_ble_eq_true rfl⟩ dX11_menu_20) rfl rfl hB (fun H locs hB => ?_)
      refine lv_if_ne (tgt := 28) hx hb dX11_menu_23 (by decide) (fun c15 => ?_) (fun c15 => ?_)
      · replace hf := it_f c15 hf
        refine lv_aload_n hx hb dX11_menu_28 rfl (lv_at hl 0 rfl) ?_
        obtain ⟨k16, hf⟩ := gk_ok hf
        refine gf_X11_125 cx hB k16 dX11_menu_29 ?_
        refine lv_bipush (v := 40) hx hb dX11_menu_32 (by decide) ?_
        refine lv_icmp_ne (tgt := 40) hx hb dX11_menu_34 (by decide) (fun c17 => ?_) (fun c17 => ?_)
        · replace hf := it_f c17 hf
          refine lv_aload_n hx hb dX11_menu_40 rfl (lv_at hl 0 rfl) ?_
          obtain ⟨a18, q19, hf⟩ := bd_ok hf
          refine gf_X11_16 cx hB k16 q19 dX11_menu_41 ?_
          refine lv_aload_n hx hb dX11_menu_44 rfl (lv_at hl 0 rfl) ?_
          refine gf_X11_125 cx hB k16 dX11_menu_45 ?_
          refine lv_iload_n hx hb dX11_menu_48 rfl (lv_at hl 2 rfl) ?_
          obtain ⟨k20, hf⟩ := gk_ok hf
          obtain ⟨j21, hf⟩ := gd_ok hf
          obtain ⟨g22, eg22, hf⟩ := nm_ok hf
          refine hp_iast cx hB k20 j21 dX11_menu_49 (fun H locs hB => ?_)
          rw [← eg22] at hB
          refine lv_aload_n hx hb dX11_menu_50 rfl (lv_at hl 0 rfl) ?_
          refine lv_iconst (v := 0) hx hb dX11_menu_51 (by decide) ?_
          refine lv_iload_n hx hb dX11_menu_52 rfl (lv_at hl 1 rfl) ?_
          refine lv_iload_n hx hb dX11_menu_53 rfl (lv_at hl 3 rfl) ?_
          refine lv_iconst (v := (-1)) hx hb dX11_menu_54 (by decide) ?_
          have k23 : g22.1 t0 = 12 := by rw [eg22]; exact k16
          obtain ⟨r26, g24, m25, hf⟩ := b2_ok hf
          refine hp_cI0 (cl_X11_138 cx hB (cX11_newPlace l D cA t0 0 v1 v3 (-1) g22 _ g24 m25) k23 ⟨Nat.le_of_ble_eq_true rfl, Nat.le_of_ble_eq_true rfl⟩ rfl hl.1 rfl (Nat.le_of_ble_eq_true rfl) ⟨Nat.le_of_ble_eq_true rfl, Nat.le_of_ble_eq_true rfl⟩ dX11_menu_55) rfl rfl hB (fun H locs hB => ?_)
          obtain ⟨rfl, rfl⟩ := rt_ok hf
          exact hp_iret cx hB hr hlk (Nat.le_of_ble_eq_true rfl) (Nat.le_of_ble_eq_true rfl) dX11_menu_58
        · replace hf := it_t c17 hf
          refine lv_bipush (v := (-3)) hx hb dX11_menu_37 (by decide) ?_
          obtain ⟨rfl, rfl⟩ := rt_ok hf
          exact hp_iret cx hB hr hlk (Nat.le_of_ble_eq_true rfl) (Nat.le_of_ble_eq_true rfl) dX11_menu_39
      · replace hf := it_t c15 hf
        refine lv_iconst (v := (-1)) hx hb dX11_menu_26 (by decide) ?_
        obtain ⟨rfl, rfl⟩ := rt_ok hf
        exact hp_iret cx hB hr hlk (Nat.le_of_ble_eq_true rfl) (Nat.le_of_ble_eq_true rfl) dX11_menu_27
end
set_option maxHeartbeats 4000000 in
set_option maxRecDepth 100000 in
theorem cX11_menu (l : Launch) (D : va_G) (cA : Nat → ClassId) (t0 : Nat) (v1 : Int32) (v2 : Int32) (v3 : Int32) (h : Hp) (r : Int32) (h9 : Hp) (hf : fX11_menu t0 v1 v2 v3 h = some (r, h9)) : hp_M l yX11_menu prog_13_method_7_code 4 (Option.some FieldType.int) rmX11_menu D cA h [.ref t0, .int v1, .int v2, .int v3] (hp_Qi D cA h h9 r) := by
  refine Met.ofW (cc := prog_13_method_7_code) (maxL := 4) (ret := (Option.some FieldType.int)) (by decide) rfl ?_
  intro p e s m args below meth c s₁ B hml hv
  obtain ⟨rfl, hU⟩ := hv
  have hts := atoms_spec (ws := Cond.code yX11_menu prog_13_method_7_code 4 (Option.some FieldType.int) :: tbG) B.pre
  have hl := lv_entry ([.ref t0, .int v1, .int v2, .int v3]) (n := 4) (Nat.le_of_ble_eq_true rfl)
  rw [lg_entry_eq]
  generalize (lg_sl ([.ref t0, .int v1, .int v2, .int v3]) ++ List.replicate (4 - (lg_sl ([.ref t0, .int v1, .int v2, .int v3])).length) Slot.unset).toArray = ls at hl ⊢
  exact tX11_menu_0 ⟨B.exec, B.bytes, hml, findClass_of_methodNamed B.named, fun w hw => hts w (List.mem_cons_of_mem _ hw)⟩ B.returns B.notSynchronized t0 v1 v2 v3 h _ _ _ (hp_B.entry hU) hl hf
