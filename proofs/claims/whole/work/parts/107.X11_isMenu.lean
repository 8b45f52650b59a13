section
variable {p : Program} {l : Launch} {e : Env} {R : Room} {s : State} {m : MethodId} {args : Array Value} {below : List Frame} {meth : Method} {c : Code} {H : Heap} {locs : List Loc} {cells slots : Nat} {Q : State → Prop}
variable {cc : ByteArray} {pc nL : Nat} {ls : Array Slot} {rest : List Value} {D : va_G} {cA : Nat → ClassId} {A : Nat → Prop} {a : Nat} {h : Hp}
theorem cl_X11_142 {As st0 : List Value} {b : Nat} {Qc : Array Value → State → Outcome → State → Prop} (cx : CallFix p m c cc nL s args tbG RX11) (hB : hp_B D cA A s h H locs) (hM : hp_M l yX11_isPlace prog_13_method_3_code 2 (Option.some FieldType.boolean) rmX11_isPlace D cA h (.ref b :: As) Qc) (hkb : h.1 b = 12) (hR : rmX11_isPlace.frames + 1 ≤ R.frames ∧ 8 + (2 + 11) + rmX11_isPlace.locals ≤ R.locals) (hn : As.length = 1) (hls : ls.size = nL) (hst : st0 = As.reverse ++ .ref b :: rest) (hW : (rest.map fun v => v.category).sum ≤ 8) (hf : cells + rmX11_isPlace.cells ≤ R.cells ∧ slots + rmX11_isPlace.slots ≤ R.slots) (hdg : decode cc pc = .ok (.invokevirtual 142, 3)) :
    va_Run p l e R s m args below meth c H locs cells slots rmX11_isPlace.cells rmX11_isPlace.slots (F0 m pc ls st0) rest (Qc (Value.ref b :: As).toArray) (hp_A h) :=
  hp_runV cx hB hM (ci := 11) rfl (by decide) hkb qw_929 qw_926 qw_928 qp_18 qw_10 (by decide +kernel) hR hn hls hst hW hf hdg
end
abbrev yX11_isMenu : MethodName := ⟨"SpokenMenusModel", "isMenu", "(I)Z"⟩
theorem dX11_isMenu_0 : decode prog_13_method_8_code 0 = .ok (.aload_n 0, 1) := by decide +kernel
theorem dX11_isMenu_1 : decode prog_13_method_8_code 1 = .ok (.iload_n 1, 1) := by decide +kernel
theorem dX11_isMenu_2 : decode prog_13_method_8_code 2 = .ok (.invokevirtual 142, 3) := by decide +kernel
theorem dX11_isMenu_5 : decode prog_13_method_8_code 5 = .ok (.ifCond .eq 16, 3) := by decide +kernel
theorem dX11_isMenu_8 : decode prog_13_method_8_code 8 = .ok (.aload_n 0, 1) := by decide +kernel
theorem dX11_isMenu_9 : decode prog_13_method_8_code 9 = .ok (.getfield 7, 3) := by decide +kernel
theorem dX11_isMenu_12 : decode prog_13_method_8_code 12 = .ok (.iload_n 1, 1) := by decide +kernel
theorem dX11_isMenu_13 : decode prog_13_method_8_code 13 = .ok (.iaload, 1) := by decide +kernel
theorem dX11_isMenu_14 : decode prog_13_method_8_code 14 = .ok (.ifCond .ne 7, 3) := by decide +kernel
theorem dX11_isMenu_17 : decode prog_13_method_8_code 17 = .ok (.iconst 1, 1) := by decide +kernel
theorem dX11_isMenu_18 : decode prog_13_method_8_code 18 = .ok (.goto 4, 3) := by decide +kernel
theorem dX11_isMenu_21 : decode prog_13_method_8_code 21 = .ok (.iconst 0, 1) := by decide +kernel
theorem dX11_isMenu_22 : decode prog_13_method_8_code 22 = .ok (.ireturn, 1) := by decide +kernel
abbrev rmX11_isMenu : Room := { frames := 2, cells := 0, slots := 0, locals := 43 }
def fX11_isMenu  (t0 : Nat) (v1 : Int32) (h : Hp) : Option (Int32 × Hp) :=
  gk (h.1 t0) 12 <|
  b2 (fX11_isPlace t0 v1 h) fun r4 g2 =>
  if r4 = 0 then
  (some (0, g2))
  else
  (gk (g2.1 t0) 12 <|
  bd (g2.2.2.2.1 t0 1) fun a8 =>
  gk (g2.1 a8) 13 <|
  gd (ix v1 (g2.2.1 a8)) <|
  if (g2.2.2.1 a8 (Int32.toNatClampNeg v1)) = 0 then
  (some (1, g2))
  else
  (some (0, g2)))
section
variable {p : Program} {l : Launch} {e : Env} {s : State} {m : MethodId} {args : Array Value} {below : List Frame} {meth : Method} {c : Code} {D : va_G} {cA : Nat → ClassId} {h0 h9 : Hp}
set_option maxHeartbeats 4000000 in
set_option maxRecDepth 100000 in
theorem tX11_isMenu_0  {r : Int32} (cx : CallFix p m c prog_13_method_8_code 2 s args tbG RX11) (hr : meth.sig.returnType = (Option.some FieldType.boolean)) (hlk : meth.locks = false)  (t0 : Nat) (v1 : Int32) (h : Hp) (H : Heap) (locs : List Loc) (ls : Array Slot) (hB : hp_B D cA (hp_A h0) s h H locs) (hl : lv_has ls 2 [(0, .ref t0), (1, .int v1)]) (hf : fX11_isMenu  t0 v1 h = some (r, h9)) : W p l e rmX11_isMenu s m args below meth c H locs 0 0 (MQ below (hp_Qi D cA h0 h9 r) args s 0 0 (hp_A h0)) (F0 m 0 ls []) := by
  obtain ⟨hx, hb, -⟩ := id cx
  unfold fX11_isMenu at hf
  refine lv_aload_n hx hb dX11_isMenu_0 rfl (lv_at hl 0 rfl) ?_
  refine lv_iload_n hx hb dX11_isMenu_1 rfl (lv_at hl 1 rfl) ?_
  obtain ⟨k1, hf⟩ := gk_ok hf
  obtain ⟨r4, g2, m3, hf⟩ := b2_ok hf
  refine hp_cI0 (cl_X11_142 cx hB (cX11_isPlace l D cA t0 v1 h _ g2 m3) k1 ⟨Nat.le_of_ble_eq_true rfl, Nat.le_of_ble_eq_true rfl⟩ rfl hl.1 rfl (Nat.le_of_ble_eq_true rfl) ⟨Nat.le_of_ble_eq_true rfl, Nat.le_of_ble_eq_true rfl⟩ dX11_isMenu_2) rfl rfl hB (fun H locs hB => ?_)
  refine lv_if_eq (tgt := 21) hx hb dX11_isMenu_5 (by decide) (fun c6 => ?_) (fun c6 => ?_)
  · replace hf := it_t c6 hf
    refine lv_iconst (v := 0) hx hb dX11_isMenu_21 (by decide) ?_
    obtain ⟨rfl, rfl⟩ := rt_ok hf
    exact hp_zret cx hB hr hlk (Nat.le_of_ble_eq_true rfl) (Nat.le_of_ble_eq_true rfl) rfl dX11_isMenu_22
  · replace hf := it_f c6 hf
    refine lv_aload_n hx hb dX11_isMenu_8 rfl (lv_at hl 0 rfl) ?_
    obtain ⟨k7, hf⟩ := gk_ok hf
    obtain ⟨a8, q9, hf⟩ := bd_ok hf
    refine gf_X11_7 cx hB k7 q9 dX11_isMenu_9 ?_
    refine lv_iload_n hx hb dX11_isMenu_12 rfl (lv_at hl 1 rfl) ?_
    obtain ⟨k10, hf⟩ := gk_ok hf
    obtain ⟨j11, hf⟩ := gd_ok hf
    refine hp_iald cx hB k10 j11 dX11_isMenu_13 ?_
    refine lv_if_ne (tgt := 21) hx hb dX11_isMenu_14 (by decide) (fun c12 => ?_) (fun c12 => ?_)
    · replace hf := it_f c12 hf
      refine lv_iconst (v := 0) hx hb dX11_isMenu_21 (by decide) ?_
      obtain ⟨rfl, rfl⟩ := rt_ok hf
      exact hp_zret cx hB hr hlk (Nat.le_of_ble_eq_true rfl) (Nat.le_of_ble_eq_true rfl) rfl dX11_isMenu_22
    · replace hf := it_t c12 hf
      refine lv_iconst (v := 1) hx hb dX11_isMenu_17 (by decide) ?_
      refine lv_goto (tgt := 22) hx hb dX11_isMenu_18 (by decide) ?_
      obtain ⟨rfl, rfl⟩ := rt_ok hf
      exact hp_zret cx hB hr hlk (Nat.le_of_ble_eq_true rfl) (Nat.le_of_ble_eq_true rfl) rfl dX11_isMenu_22
end
set_option maxHeartbeats 4000000 in
set_option maxRecDepth 100000 in
theorem cX11_isMenu (l : Launch) (D : va_G) (cA : Nat → ClassId) (t0 : Nat) (v1 : Int32) (h : Hp) (r : Int32) (h9 : Hp) (hf : fX11_isMenu t0 v1 h = some (r, h9)) : hp_M l yX11_isMenu prog_13_method_8_code 2 (Option.some FieldType.boolean) rmX11_isMenu D cA h [.ref t0, .int v1] (hp_Qi D cA h h9 r) := by
  refine Met.ofW (cc := prog_13_method_8_code) (maxL := 2) (ret := (Option.some FieldType.boolean)) (by decide) rfl ?_
  intro p e s m args below meth c s₁ B hml hv
  obtain ⟨rfl, hU⟩ := hv
  have hts := atoms_spec (ws := Cond.code yX11_isMenu prog_13_method_8_code 2 (Option.some FieldType.boolean) :: tbG) B.pre
  have hl := lv_entry ([.ref t0, .int v1]) (n := 2) (Nat.le_of_ble_eq_true rfl)
  rw [lg_entry_eq]
  generalize (lg_sl ([.ref t0, .int v1]) ++ List.replicate (2 - (lg_sl ([.ref t0, .int v1])).length) Slot.unset).toArray = ls at hl ⊢
  exact tX11_isMenu_0 ⟨B.exec, B.bytes, hml, findClass_of_methodNamed B.named, fun w hw => hts w (List.mem_cons_of_mem _ hw)⟩ B.returns B.notSynchronized t0 v1 h _ _ _ (hp_B.entry hU) hl hf
section
variable {p : Program} {l : Launch} {e : Env} {R : Room} {s : State} {m : MethodId} {args : Array Value} {below : List Frame} {meth : Method} {c : Code} {H : Heap} {locs : List Loc} {cells slots : Nat} {Q : State → Prop}
variable {cc : ByteArray} {pc nL : Nat} {ls : Array Slot} {rest : List Value} {D : va_G} {cA : Nat → ClassId} {A : Nat → Prop} {a : Nat} {h : Hp}
theorem cl_X11_145 {As st0 : List Value} {b : Nat} {Qc : Array Value → State → Outcome → State → Prop} (cx : CallFix p m c cc nL s args tbG RX11) (hB : hp_B D cA A s h H locs) (hM : hp_M l yX11_isMenu prog_13_method_8_code 2 (Option.some FieldType.boolean) rmX11_isMenu D cA h (.ref b :: As) Qc) (hkb : h.1 b = 12) (hR : rmX11_isMenu.frames + 1 ≤ R.frames ∧ 8 + (2 + 11) + rmX11_isMenu.locals ≤ R.locals) (hn : As.length = 1) (hls : ls.size = nL) (hst : st0 = As.reverse ++ .ref b :: rest) (hW : (rest.map fun v => v.category).sum ≤ 8) (hf : cells + rmX11_isMenu.cells ≤ R.cells ∧ slots + rmX11_isMenu.slots ≤ R.slots) (hdg : decode cc pc = .ok (.invokevirtual 145, 3)) :
    va_Run p l e R s m args below meth c H locs cells slots rmX11_isMenu.cells rmX11_isMenu.slots (F0 m pc ls st0) rest (Qc (Value.ref b :: As).toArray) (hp_A h) :=
  hp_runV cx hB hM (ci := 11) rfl (by decide) hkb qw_925 qw_922 qw_924 qp_17 qw_10 (by decide +kernel) hR hn hls hst hW hf hdg
theorem cl_X11_148 {As st0 : List Value} {Qc : Array Value → State → Outcome → State → Prop} (cx : CallFix p m c cc nL s args tbG RX11) (hB : hp_B D cA A s h H locs) (hM : hp_M l yX11_areWishes prog_13_method_5_code 1 (Option.some FieldType.boolean) rmX11_areWishes D cA h As Qc) (hR : rmX11_areWishes.frames + 1 ≤ R.frames ∧ 8 + (1 + 11) + rmX11_areWishes.locals ≤ R.locals) (hn : As.length = 1) (hls : ls.size = nL) (hst : st0 = As.reverse ++ rest) (hW : (rest.map fun v => v.category).sum ≤ 8) (hf : cells + rmX11_areWishes.cells ≤ R.cells ∧ slots + rmX11_areWishes.slots ≤ R.slots) (hdg : decode cc pc = .ok (.invokestatic 148, 3)) :
    va_Run p l e R s m args below meth c H locs cells slots rmX11_areWishes.cells rmX11_areWishes.slots (F0 m pc ls st0) rest (Qc As.toArray) (hp_A h) :=
  hp_runS cx hB hM qw_932 qw_930 qw_931 qw_10 (by decide +kernel) hR hn hls hst hW hf hdg
theorem gf_X11_40 (cx : CallFix p m c cc nL s args tbG RX11) (hB : hp_B D cA A s h H locs) (hka : h.1 a = 12) {b : Nat} (ho : h.2.2.2.1 a 11 = some b) (hdg : decode cc pc = .ok (.getfield 40, 3)) (kk : W p l e R s m args below meth c H locs cells slots Q (F0 m (pc + 3) ls (.ref b :: rest))) : W p l e R s m args below meth c H locs cells slots Q (F0 m pc ls (.ref a :: rest)) :=
  hp_getR cx hB (ci := 11) 11 rfl inX11 (by decide) rfl (by decide) rfl qw_743 hka (o := some b) ho.symm hdg kk
theorem gf_X11_43 (cx : CallFix p m c cc nL s args tbG RX11) (hB : hp_B D cA A s h H locs) (hka : h.1 a = 12) {b : Nat} (ho : h.2.2.2.1 a 12 = some b) (hdg : decode cc pc = .ok (.getfield 43, 3)) (kk : W p l e R s m args below meth c H locs cells slots Q (F0 m (pc + 3) ls (.ref b :: rest))) : W p l e R s m args below meth c H locs cells slots Q (F0 m pc ls (.ref a :: rest)) :=
  hp_getR cx hB (ci := 11) 12 rfl inX11 (by decide) rfl (by decide) rfl qw_744 hka (o := some b) ho.symm hdg kk
theorem gf_X11_46 (cx : CallFix p m c cc nL s args tbG RX11) (hB : hp_B D cA A s h H locs) (hka : h.1 a = 12) {b : Nat} (ho : h.2.2.2.1 a 13 = some b) (hdg : decode cc pc = .ok (.getfield 46, 3)) (kk : W p l e R s m args below meth c H locs cells slots Q (F0 m (pc + 3) ls (.ref b :: rest))) : W p l e R s m args below meth c H locs cells slots Q (F0 m pc ls (.ref a :: rest)) :=
  hp_getR cx hB (ci := 11) 13 rfl inX11 (by decide) rfl (by decide) rfl qw_745 hka (o := some b) ho.symm hdg kk
theorem gf_X11_49 (cx : CallFix p m c cc nL s args tbG RX11) (hB : hp_B D cA A s h H locs) (hka : h.1 a = 12) {b : Nat} (ho : h.2.2.2.1 a 14 = some b) (hdg : decode cc pc = .ok (.getfield 49, 3)) (kk : W p l e R s m args below meth c H locs cells slots Q (F0 m (pc + 3) ls (.ref b :: rest))) : W p l e R s m args below meth c H locs cells slots Q (F0 m pc ls (.ref a :: rest)) :=
  hp_getR cx hB (ci := 11) 14 rfl inX11 (by decide) rfl (by decide) rfl qw_746 hka (o := some b) ho.symm hdg kk
end
abbrev yX11_line : MethodName := ⟨"SpokenMenusModel", "line", "(IIIII)I"⟩
theorem dX11_line_0 : decode prog_13_method_9_code 0 = .ok (.aload_n 0, 1) := by decide +kernel
theorem dX11_line_1 : decode prog_13_method_9_code 1 = .ok (.iload_n 1, 1) := by decide +kernel
theorem dX11_line_2 : decode prog_13_method_9_code 2 = .ok (.invokevirtual 145, 3) := by decide +kernel
theorem dX11_line_5 : decode prog_13_method_9_code 5 = .ok (.ifCond .eq 40, 3) := by decide +kernel
theorem dX11_line_8 : decode prog_13_method_9_code 8 = .ok (.iload_n 2, 1) := by decide +kernel
theorem dX11_line_9 : decode prog_13_method_9_code 9 = .ok (.iconst 1, 1) := by decide +kernel
theorem dX11_line_10 : decode prog_13_method_9_code 10 = .ok (.sipush 200, 3) := by decide +kernel
theorem dX11_line_13 : decode prog_13_method_9_code 13 = .ok (.invokestatic 129, 3) := by decide +kernel
theorem dX11_line_16 : decode prog_13_method_9_code 16 = .ok (.ifCond .eq 29, 3) := by decide +kernel
theorem dX11_line_19 : decode prog_13_method_9_code 19 = .ok (.iload_n 3, 1) := by decide +kernel
theorem dX11_line_20 : decode prog_13_method_9_code 20 = .ok (.iconst 0, 1) := by decide +kernel
theorem dX11_line_21 : decode prog_13_method_9_code 21 = .ok (.bipush 11, 2) := by decide +kernel
theorem dX11_line_23 : decode prog_13_method_9_code 23 = .ok (.invokestatic 129, 3) := by decide +kernel
theorem dX11_line_26 : decode prog_13_method_9_code 26 = .ok (.ifCond .eq 19, 3) := by decide +kernel
theorem dX11_line_29 : decode prog_13_method_9_code 29 = .ok (.iload 4, 2) := by decide +kernel
theorem dX11_line_31 : decode prog_13_method_9_code 31 = .ok (.invokestatic 148, 3) := by decide +kernel
theorem dX11_line_34 : decode prog_13_method_9_code 34 = .ok (.ifCond .eq 11, 3) := by decide +kernel
theorem dX11_line_37 : decode prog_13_method_9_code 37 = .ok (.iload 5, 2) := by decide +kernel
theorem dX11_line_39 : decode prog_13_method_9_code 39 = .ok (.invokestatic 134, 3) := by decide +kernel
theorem dX11_line_42 : decode prog_13_method_9_code 42 = .ok (.ifCond .ne 5, 3) := by decide +kernel
theorem dX11_line_45 : decode prog_13_method_9_code 45 = .ok (.iconst (-1), 1) := by decide +kernel
theorem dX11_line_46 : decode prog_13_method_9_code 46 = .ok (.ireturn, 1) := by decide +kernel
theorem dX11_line_47 : decode prog_13_method_9_code 47 = .ok (.iconst 0, 1) := by decide +kernel
theorem dX11_line_48 : decode prog_13_method_9_code 48 = .ok (.istore 6, 2) := by decide +kernel
theorem dX11_line_50 : decode prog_13_method_9_code 50 = .ok (.iload 6, 2) := by decide +kernel
theorem dX11_line_52 : decode prog_13_method_9_code 52 = .ok (.aload_n 0, 1) := by decide +kernel
theorem dX11_line_53 : decode prog_13_method_9_code 53 = .ok (.getfield 37, 3) := by decide +kernel
theorem dX11_line_56 : decode prog_13_method_9_code 56 = .ok (.iload_n 1, 1) := by decide +kernel
theorem dX11_line_57 : decode prog_13_method_9_code 57 = .ok (.iaload, 1) := by decide +kernel
theorem dX11_line_58 : decode prog_13_method_9_code 58 = .ok (.if_icmp .ge 27, 3) := by decide +kernel
theorem dX11_line_61 : decode prog_13_method_9_code 61 = .ok (.aload_n 0, 1) := by decide +kernel
theorem dX11_line_62 : decode prog_13_method_9_code 62 = .ok (.getfield 43, 3) := by decide +kernel
theorem dX11_line_65 : decode prog_13_method_9_code 65 = .ok (.bipush 6, 2) := by decide +kernel
theorem dX11_line_67 : decode prog_13_method_9_code 67 = .ok (.iload_n 1, 1) := by decide +kernel
theorem dX11_line_68 : decode prog_13_method_9_code 68 = .ok (.imul, 1) := by decide +kernel
theorem dX11_line_69 : decode prog_13_method_9_code 69 = .ok (.iload 6, 2) := by decide +kernel
theorem dX11_line_71 : decode prog_13_method_9_code 71 = .ok (.iadd, 1) := by decide +kernel
theorem dX11_line_72 : decode prog_13_method_9_code 72 = .ok (.iaload, 1) := by decide +kernel
theorem dX11_line_73 : decode prog_13_method_9_code 73 = .ok (.iload_n 3, 1) := by decide +kernel
theorem dX11_line_74 : decode prog_13_method_9_code 74 = .ok (.if_icmp .ne 5, 3) := by decide +kernel
theorem dX11_line_77 : decode prog_13_method_9_code 77 = .ok (.iconst (-1), 1) := by decide +kernel
theorem dX11_line_78 : decode prog_13_method_9_code 78 = .ok (.ireturn, 1) := by decide +kernel
theorem dX11_line_79 : decode prog_13_method_9_code 79 = .ok (.iinc 6 1, 3) := by decide +kernel
theorem dX11_line_82 : decode prog_13_method_9_code 82 = .ok (.goto (-32), 3) := by decide +kernel
theorem dX11_line_85 : decode prog_13_method_9_code 85 = .ok (.aload_n 0, 1) := by decide +kernel
theorem dX11_line_86 : decode prog_13_method_9_code 86 = .ok (.getfield 37, 3) := by decide +kernel
theorem dX11_line_89 : decode prog_13_method_9_code 89 = .ok (.iload_n 1, 1) := by decide +kernel
theorem dX11_line_90 : decode prog_13_method_9_code 90 = .ok (.iaload, 1) := by decide +kernel
theorem dX11_line_91 : decode prog_13_method_9_code 91 = .ok (.bipush 6, 2) := by decide +kernel
theorem dX11_line_93 : decode prog_13_method_9_code 93 = .ok (.if_icmp .ne 6, 3) := by decide +kernel
theorem dX11_line_96 : decode prog_13_method_9_code 96 = .ok (.bipush (-3), 2) := by decide +kernel
theorem dX11_line_98 : decode prog_13_method_9_code 98 = .ok (.ireturn, 1) := by decide +kernel
theorem dX11_line_99 : decode prog_13_method_9_code 99 = .ok (.bipush 6, 2) := by decide +kernel
theorem dX11_line_101 : decode prog_13_method_9_code 101 = .ok (.iload_n 1, 1) := by decide +kernel
theorem dX11_line_102 : decode prog_13_method_9_code 102 = .ok (.imul, 1) := by decide +kernel
theorem dX11_line_103 : decode prog_13_method_9_code 103 = .ok (.aload_n 0, 1) := by decide +kernel
theorem dX11_line_104 : decode prog_13_method_9_code 104 = .ok (.getfield 37, 3) := by decide +kernel
theorem dX11_line_107 : decode prog_13_method_9_code 107 = .ok (.iload_n 1, 1) := by decide +kernel
theorem dX11_line_108 : decode prog_13_method_9_code 108 = .ok (.iaload, 1) := by decide +kernel
theorem dX11_line_109 : decode prog_13_method_9_code 109 = .ok (.iadd, 1) := by decide +kernel
theorem dX11_line_110 : decode prog_13_method_9_code 110 = .ok (.istore 6, 2) := by decide +kernel
theorem dX11_line_112 : decode prog_13_method_9_code 112 = .ok (.aload_n 0, 1) := by decide +kernel
theorem dX11_line_113 : decode prog_13_method_9_code 113 = .ok (.getfield 40, 3) := by decide +kernel
theorem dX11_line_116 : decode prog_13_method_9_code 116 = .ok (.iload 6, 2) := by decide +kernel
theorem dX11_line_118 : decode prog_13_method_9_code 118 = .ok (.iload_n 2, 1) := by decide +kernel
theorem dX11_line_119 : decode prog_13_method_9_code 119 = .ok (.iastore, 1) := by decide +kernel
theorem dX11_line_120 : decode prog_13_method_9_code 120 = .ok (.aload_n 0, 1) := by decide +kernel
theorem dX11_line_121 : decode prog_13_method_9_code 121 = .ok (.getfield 43, 3) := by decide +kernel
theorem dX11_line_124 : decode prog_13_method_9_code 124 = .ok (.iload 6, 2) := by decide +kernel
theorem dX11_line_126 : decode prog_13_method_9_code 126 = .ok (.iload_n 3, 1) := by decide +kernel
theorem dX11_line_127 : decode prog_13_method_9_code 127 = .ok (.iastore, 1) := by decide +kernel
theorem dX11_line_128 : decode prog_13_method_9_code 128 = .ok (.aload_n 0, 1) := by decide +kernel
theorem dX11_line_129 : decode prog_13_method_9_code 129 = .ok (.getfield 46, 3) := by decide +kernel
theorem dX11_line_132 : decode prog_13_method_9_code 132 = .ok (.iload 6, 2) := by decide +kernel
theorem dX11_line_134 : decode prog_13_method_9_code 134 = .ok (.iload 4, 2) := by decide +kernel
theorem dX11_line_136 : decode prog_13_method_9_code 136 = .ok (.iastore, 1) := by decide +kernel
theorem dX11_line_137 : decode prog_13_method_9_code 137 = .ok (.aload_n 0, 1) := by decide +kernel
theorem dX11_line_138 : decode prog_13_method_9_code 138 = .ok (.getfield 49, 3) := by decide +kernel
theorem dX11_line_141 : decode prog_13_method_9_code 141 = .ok (.iload 6, 2) := by decide +kernel
theorem dX11_line_143 : decode prog_13_method_9_code 143 = .ok (.iload 5, 2) := by decide +kernel
theorem dX11_line_145 : decode prog_13_method_9_code 145 = .ok (.iastore, 1) := by decide +kernel
theorem dX11_line_146 : decode prog_13_method_9_code 146 = .ok (.aload_n 0, 1) := by decide +kernel
theorem dX11_line_147 : decode prog_13_method_9_code 147 = .ok (.getfield 37, 3) := by decide +kernel
theorem dX11_line_150 : decode prog_13_method_9_code 150 = .ok (.iload_n 1, 1) := by decide +kernel
theorem dX11_line_151 : decode prog_13_method_9_code 151 = .ok (.dup2, 1) := by decide +kernel
theorem dX11_line_152 : decode prog_13_method_9_code 152 = .ok (.iaload, 1) := by decide +kernel
theorem dX11_line_153 : decode prog_13_method_9_code 153 = .ok (.iconst 1, 1) := by decide +kernel
theorem dX11_line_154 : decode prog_13_method_9_code 154 = .ok (.iadd, 1) := by decide +kernel
theorem dX11_line_155 : decode prog_13_method_9_code 155 = .ok (.iastore, 1) := by decide +kernel
theorem dX11_line_156 : decode prog_13_method_9_code 156 = .ok (.aload_n 0, 1) := by decide +kernel
theorem dX11_line_157 : decode prog_13_method_9_code 157 = .ok (.getfield 37, 3) := by decide +kernel
theorem dX11_line_160 : decode prog_13_method_9_code 160 = .ok (.iload_n 1, 1) := by decide +kernel
theorem dX11_line_161 : decode prog_13_method_9_code 161 = .ok (.iaload, 1) := by decide +kernel
theorem dX11_line_162 : decode prog_13_method_9_code 162 = .ok (.ireturn, 1) := by decide +kernel
abbrev rmX11_line : Room := { frames := 3, cells := 0, slots := 0, locals := 64 }
def bX11_line_50  (rc : Nat → Int32 → Int32 → Int32 → Int32 → Int32 → Int32 → Hp → Option (Int32 × Hp)) (t0 : Nat) (v1 : Int32) (v2 : Int32) (v3 : Int32) (v4 : Int32) (v5 : Int32) (v6 : Int32) (h : Hp) : Option (Int32 × Hp) :=
  gk (h.1 t0) 12 <|
  bd (h.2.2.2.1 t0 10) fun a2 =>
  gk (h.1 a2) 13 <|
  gd (ix v1 (h.2.1 a2)) <|
  if (h.2.2.1 a2 (Int32.toNatClampNeg v1)) ≤ v6 then
  (gd (ix v1 (h.2.1 a2)) <|
  if (h.2.2.1 a2 (Int32.toNatClampNeg v1)) = 6 then
  (some ((-3), h))
  else
  (gd (ix v1 (h.2.1 a2)) <|
  nm ((6 * v1) + (h.2.2.1 a2 (Int32.toNatClampNeg v1))) fun x10 =>
  bd (h.2.2.2.1 t0 11) fun a11 =>
  gk (h.1 a11) 13 <|
  gd (ix x10 (h.2.1 a11)) <|
  nm (hp_si h a11 (Int32.toNatClampNeg x10) v2) fun g15 =>
  bd (g15.2.2.2.1 t0 12) fun a17 =>
  gk (g15.1 a17) 13 <|
  gd (ix x10 (g15.2.1 a17)) <|
  nm (hp_si g15 a17 (Int32.toNatClampNeg x10) v3) fun g21 =>
  bd (g21.2.2.2.1 t0 13) fun a23 =>
  gk (g21.1 a23) 13 <|
  gd (ix x10 (g21.2.1 a23)) <|
  nm (hp_si g21 a23 (Int32.toNatClampNeg x10) v4) fun g27 =>
  bd (g27.2.2.2.1 t0 14) fun a29 =>
  gk (g27.1 a29) 13 <|
  gd (ix x10 (g27.2.1 a29)) <|
  nm (hp_si g27 a29 (Int32.toNatClampNeg x10) v5) fun g33 =>
  gd (ix v1 (g33.2.1 a2)) <|
  gd (ix v1 (g33.2.1 a2)) <|
  nm (hp_si g33 a2 (Int32.toNatClampNeg v1) ((g33.2.2.1 a2 (Int32.toNatClampNeg v1)) + 1)) fun g45 =>
  gd (ix v1 (g45.2.1 a2)) <|
  some (g45.2.2.1 a2 (Int32.toNatClampNeg v1), g45)))
  else
  (bd (h.2.2.2.1 t0 12) fun a50 =>
  gk (h.1 a50) 13 <|
  gd (ix ((6 * v1) + v6) (h.2.1 a50)) <|
  if (h.2.2.1 a50 (Int32.toNatClampNeg ((6 * v1) + v6))) = v3 then
  (some ((-1), h))
  else
  (nm (v6 + 1) fun x55 =>
  rc t0 v1 v2 v3 v4 v5 x55 h))
def fX11_line_50  : Nat → Int32 → Int32 → Int32 → Int32 → Int32 → Int32 → Hp → Option (Int32 × Hp) := fx (bX11_line_50 ) (fun _ _ _ _ _ _ _ _ => none) NF
def fX11_line  (t0 : Nat) (v1 : Int32) (v2 : Int32) (v3 : Int32) (v4 : Int32) (v5 : Int32) (h : Hp) : Option (Int32 × Hp) :=
  gk (h.1 t0) 12 <|
  b2 (fX11_isMenu t0 v1 h) fun r4 g2 =>
  if r4 = 0 then
  (some ((-1), g2))
  else
  (b2 (fX11_in v2 1 200 g2) fun r9 g7 =>
  if r9 = 0 then
  (some ((-1), g7))
  else
  (b2 (fX11_in v3 0 11 g7) fun r14 g12 =>
  if r14 = 0 then
  (some ((-1), g12))
  else
  (b2 (fX11_areWishes v4 g12) fun r19 g17 =>
  if r19 = 0 then
  (some ((-1), g17))
  else
  (b2 (fX11_isNext v5 g17) fun r24 g22 =>
  if r24 = 0 then
  (some ((-1), g22))
  else
  (fX11_line_50  t0 v1 v2 v3 v4 v5 0 g22)))))
section
variable {p : Program} {l : Launch} {e : Env} {s : State} {m : MethodId} {args : Array Value} {below : List Frame} {meth : Method} {c : Code} {D : va_G} {cA : Nat → ClassId} {h0 h9 : Hp}
set_option maxHeartbeats 4000000 in
set_option maxRecDepth 100000 in
theorem tX11_line_50  {r : Int32} (cx : CallFix p m c prog_13_method_9_code 7 s args tbG RX11) (hr : meth.sig.returnType = (Option.some FieldType.int)) (hlk : meth.locks = false)  (n : Nat) : ∀ (t0 : Nat) (v1 : Int32) (v2 : Int32) (v3 : Int32) (v4 : Int32) (v5 : Int32) (v6 : Int32) (h : Hp) (H : Heap) (locs : List Loc) (ls : Array Slot), hp_B D cA (hp_A h0) s h H locs → lv_has ls 7 [(0, .ref t0), (1, .int v1), (2, .int v2), (3, .int v3), (4, .int v4), (5, .int v5), (6, .int v6)] → fx (bX11_line_50 ) (fun _ _ _ _ _ _ _ _ => none) n t0 v1 v2 v3 v4 v5 v6 h = some (r, h9) → W p l e rmX11_line s m args below meth c H locs 0 0 (MQ below (hp_Qi D cA h0 h9 r) args s 0 0 (hp_A h0)) (F0 m 50 ls []) := by
  obtain ⟨hx, hb, -⟩ := id cx
  induction n with
  | zero => intro t0 v1 v2 v3 v4 v5 v6 h H locs ls hB hl hf; cases hf
  | succ n ih =>
    intro t0 v1 v2 v3 v4 v5 v6 h H locs ls hB hl hf
    replace hf : bX11_line_50  (fx (bX11_line_50 ) (fun _ _ _ _ _ _ _ _ => none) n) t0 v1 v2 v3 v4 v5 v6 h = some (r, h9) := hf
    unfold bX11_line_50 at hf
    refine lv_iload hx hb dX11_line_50 (lv_at hl 6 rfl) ?_
    refine lv_aload_n hx hb dX11_line_52 rfl (lv_at hl 0 rfl) ?_
    obtain ⟨k1, hf⟩ := gk_ok hf
    obtain ⟨a2, q3, hf⟩ := bd_ok hf
    refine gf_X11_37 cx hB k1 q3 dX11_line_53 ?_
    refine lv_iload_n hx hb dX11_line_56 rfl (lv_at hl 1 rfl) ?_
    obtain ⟨k4, hf⟩ := gk_ok hf
    obtain ⟨j5, hf⟩ := gd_ok hf
    refine hp_iald cx hB k4 j5 dX11_line_57 ?_
    refine lv_icmp_ge (tgt := 85) hx hb dX11_line_58 (by decide) (fun c6 => ?_) (fun c6 => ?_)
    · replace hf := it_t c6 hf
      refine lv_aload_n hx hb dX11_line_85 rfl (lv_at hl 0 rfl) ?_
      refine gf_X11_37 cx hB k1 q3 dX11_line_86 ?_
      refine lv_iload_n hx hb dX11_line_89 rfl (lv_at hl 1 rfl) ?_
      obtain ⟨j7, hf⟩ := gd_ok hf
      refine hp_iald cx hB k4 j7 dX11_line_90 ?_
      refine lv_bipush (v := 6) hx hb dX11_line_91 (by decide) ?_
      refine lv_icmp_ne (tgt := 99) hx hb dX11_line_93 (by decide) (fun c8 => ?_) (fun c8 => ?_)
      · replace hf := it_f c8 hf
        refine lv_bipush (v := 6) hx hb dX11_line_99 (by decide) ?_
        refine lv_iload_n hx hb dX11_line_101 rfl (lv_at hl 1 rfl) ?_
        refine lv_imul hx hb dX11_line_102 ?_
        refine lv_aload_n hx hb dX11_line_103 rfl (lv_at hl 0 rfl) ?_
        refine gf_X11_37 cx hB k1 q3 dX11_line_104 ?_
        refine lv_iload_n hx hb dX11_line_107 rfl (lv_at hl 1 rfl) ?_
        obtain ⟨j9, hf⟩ := gd_ok hf
        refine hp_iald cx hB k4 j9 dX11_line_108 ?_
        refine lv_iadd hx hb dX11_line_109 ?_
        obtain ⟨x10, ex10, hf⟩ := nm_ok hf
        refine lv_ren ex10 ?_
        refine lv_istore (lv' := [(6, .int x10), (0, .ref t0), (1, .int v1), (2, .int v2), (3, .int v3), (4, .int v4), (5, .int v5)]) hx hb dX11_line_110 hl (by decide) rfl (fun ls hl => ?_)
        refine lv_aload_n hx hb dX11_line_112 rfl (lv_at hl 1 rfl) ?_
        obtain ⟨a11, q12, hf⟩ := bd_ok hf
        refine gf_X11_40 cx hB k1 q12 dX11_line_113 ?_
        refine lv_iload hx hb dX11_line_116 (lv_at hl 0 rfl) ?_
        refine lv_iload_n hx hb dX11_line_118 rfl (lv_at hl 3 rfl) ?_
        obtain ⟨k13, hf⟩ := gk_ok hf
        obtain ⟨j14, hf⟩ := gd_ok hf
        obtain ⟨g15, eg15, hf⟩ := nm_ok hf
        refine hp_iast cx hB k13 j14 dX11_line_119 (fun H locs hB => ?_)
        rw [← eg15] at hB
        refine lv_aload_n hx hb dX11_line_120 rfl (lv_at hl 1 rfl) ?_
        have k16 : g15.1 t0 = 12 := by rw [eg15]; exact k1
        obtain ⟨a17, q18, hf⟩ := bd_ok hf
        refine gf_X11_43 cx hB k16 q18 dX11_line_121 ?_
        refine lv_iload hx hb dX11_line_124 (lv_at hl 0 rfl) ?_
        refine lv_iload_n hx hb dX11_line_126 rfl (lv_at hl 4 rfl) ?_
        obtain ⟨k19, hf⟩ := gk_ok hf
        obtain ⟨j20, hf⟩ := gd_ok hf
        obtain ⟨g21, eg21, hf⟩ := nm_ok hf
        refine hp_iast cx hB k19 j20 dX11_line_127 (fun H locs hB => ?_)
        rw [← eg21] at hB
        refine lv_aload_n hx hb dX11_line_128 rfl (lv_at hl 1 rfl) ?_
        have k22 : g21.1 t0 = 12 := by rw [eg21]; exact k16
        obtain ⟨a23, q24, hf⟩ := bd_ok hf
        refine gf_X11_46 cx hB k22 q24 dX11_line_129 ?_
        refine lv_iload hx hb dX11_line_132 (lv_at hl 0 rfl) ?_
        refine lv_iload hx hb dX11_line_134 (lv_at hl 5 rfl) ?_
        obtain ⟨k25, hf⟩ := gk_ok hf
        obtain ⟨j26, hf⟩ := gd_ok hf
        obtain ⟨g27, eg27, hf⟩ := nm_ok hf
        refine hp_iast cx hB k25 j26 dX11_line_136 (fun H locs hB => ?_)
        rw [← eg27] at hB
        refine lv_aload_n hx hb dX11_line_137 rfl (lv_at hl 1 rfl) ?_
        have k28 : g27.1 t0 = 12 := by rw [eg27]; exact k22
        obtain ⟨a29, q30, hf⟩ := bd_ok hf
        refine gf_X11_49 cx hB k28 q30 dX11_line_138 ?_
        refine lv_iload hx hb dX11_line_141 (lv_at hl 0 rfl) ?_
        refine lv_iload hx hb dX11_line_143 (lv_at hl 6 rfl) ?_
        obtain ⟨k31, hf⟩ := gk_ok hf
        obtain ⟨j32, hf⟩ := gd_ok hf
        obtain ⟨g33, eg33, hf⟩ := nm_ok hf
        refine hp_iast cx hB k31 j32 dX11_line_145 (fun H locs hB => ?_)
        rw [← eg33] at hB
        refine lv_aload_n hx hb dX11_line_146 rfl (lv_at hl 1 rfl) ?_
        have k34 : g33.1 t0 = 12 := by rw [eg33]; exact k28
        have q35 : g15.2.2.2.1 t0 10 = some a2 := by rw [eg15]; exact q3
        have q36 : g21.2.2.2.1 t0 10 = some a2 := by rw [eg21]; exact q35
        have q37 : g27.2.2.2.1 t0 10 = some a2 := by rw [eg27]; exact q36
        have q38 : g33.2.2.2.1 t0 10 = some a2 := by rw [eg33]; exact q37
        refine gf_X11_37 cx hB k34 q38 dX11_line_147 ?_
        refine lv_iload_n hx hb dX11_line_150 rfl (lv_at hl 2 rfl) ?_
        refine lv_dup2_11 hx hb dX11_line_151 rfl rfl ?_
        have k39 : g15.1 a2 = 13 := by rw [eg15]; exact k4
        have k40 : g21.1 a2 = 13 := by rw [eg21]; exact k39
        have k41 : g27.1 a2 = 13 := by rw [eg27]; exact k40
        have k42 : g33.1 a2 = 13 := by rw [eg33]; exact k41
        obtain ⟨j43, hf⟩ := gd_ok hf
        refine hp_iald cx hB k42 j43 dX11_line_152 ?_
        refine lv_iconst (v := 1) hx hb dX11_line_153 (by decide) ?_
        refine lv_iadd hx hb dX11_line_154 ?_
        obtain ⟨j44, hf⟩ := gd_ok hf
        obtain ⟨g45, eg45, hf⟩ := nm_ok hf
        refine hp_iast cx hB k42 j44 dX11_line_155 (fun H locs hB => ?_)
        rw [← eg45] at hB
        refine lv_aload_n hx hb dX11_line_156 rfl (lv_at hl 1 rfl) ?_
        have k46 : g45.1 t0 = 12 := by rw [eg45]; exact k34
        have q47 : g45.2.2.2.1 t0 10 = some a2 := by rw [eg45]; exact q38
        refine gf_X11_37 cx hB k46 q47 dX11_line_157 ?_
        refine lv_iload_n hx hb dX11_line_160 rfl (lv_at hl 2 rfl) ?_
        have k48 : g45.1 a2 = 13 := by rw [eg45]; exact k42
        obtain ⟨j49, hf⟩ := gd_ok hf
        refine hp_iald cx hB k48 j49 dX11_line_161 ?_
        obtain ⟨rfl, rfl⟩ := rt_ok hf
        exact hp_iret cx hB hr hlk (Nat.le_of_ble_eq_true rfl) (Nat.le_of_ble_eq_true rfl) dX11_line_162
      · replace hf := it_t c8 hf
        refine lv_bipush (v := (-3)) hx hb dX11_line_96 (by decide) ?_
        obtain ⟨rfl, rfl⟩ := rt_ok hf
        exact hp_iret cx hB hr hlk (Nat.le_of_ble_eq_true rfl) (Nat.le_of_ble_eq_true rfl) dX11_line_98
    · replace hf := it_f c6 hf
      refine lv_aload_n hx hb dX11_line_61 rfl (lv_at hl 0 rfl) ?_
      obtain ⟨a50, q51, hf⟩ := bd_ok hf
      refine gf_X11_43 cx hB k1 q51 dX11_line_62 ?_
      refine lv_bipush (v := 6) hx hb dX11_line_65 (by decide) ?_
      refine lv_iload_n hx hb dX11_line_67 rfl (lv_at hl 1 rfl) ?_
      refine lv_imul hx hb dX11_line_68 ?_
      refine lv_iload hx hb dX11_line_69 (lv_at hl 6 rfl) ?_
      refine lv_iadd hx hb dX11_line_71 ?_
      obtain ⟨k52, hf⟩ := gk_ok hf
      obtain ⟨j53, hf⟩ := gd_ok hf
      refine hp_iald cx hB k52 j53 dX11_line_72 ?_
      refine lv_iload_n hx hb dX11_line_73 rfl (lv_at hl 3 rfl) ?_
      refine lv_icmp_ne (tgt := 79) hx hb dX11_line_74 (by decide) (fun c54 => ?_) (fun c54 => ?_)
      · replace hf := it_f c54 hf
        obtain ⟨x55, ex55, hf⟩ := nm_ok hf
        refine lv_iinc (v := x55) (lv' := [(6, .int x55), (0, .ref t0), (1, .int v1), (2, .int v2), (3, .int v3), (4, .int v4), (5, .int v5)]) hx hb dX11_line_79 hl (k := 6) rfl (by rw [ex55]; rfl) (by decide) rfl (fun ls hl => ?_)
        refine lv_goto (tgt := 50) hx hb dX11_line_82 (by decide) ?_
        exact ih t0 v1 v2 v3 v4 v5 x55 h _ _ _ hB (lv_sub hl [1, 2, 3, 4, 5, 6, 0] rfl) hf
      · replace hf := it_t c54 hf
        refine lv_iconst (v := (-1)) hx hb dX11_line_77 (by decide) ?_
        obtain ⟨rfl, rfl⟩ := rt_ok hf
        exact hp_iret cx hB hr hlk (Nat.le_of_ble_eq_true rfl) (Nat.le_of_ble_eq_true rfl) dX11_line_78
set_option maxHeartbeats 4000000 in
set_option maxRecDepth 100000 in
theorem tX11_line_0  {r : Int32} (cx : CallFix p m c prog_13_method_9_code 7 s args tbG RX11) (hr : meth.sig.returnType = (Option.some FieldType.int)) (hlk : meth.locks = false)  (t0 : Nat) (v1 : Int32) (v2 : Int32) (v3 : Int32) (v4 : Int32) (v5 : Int32) (h : Hp) (H : Heap) (locs : List Loc) (ls : Array Slot) (hB : hp_B D cA (hp_A h0) s h H locs) (hl : lv_has ls 7 [(0, .ref t0), (1, .int v1), (2, .int v2), (3, .int v3), (4, .int v4), (5, .int v5)]) (hf : fX11_line  t0 v1 v2 v3 v4 v5 h = some (r, h9)) : W p l e rmX11_line s m args below meth c H locs 0 0 (MQ below (hp_Qi D cA h0 h9 r) args s 0 0 (hp_A h0)) (F0 m 0 ls []) := by
  obtain ⟨hx, hb, -⟩ := id cx
  unfold fX11_line at hf
  refine lv_aload_n hx hb dX11_line_0 rfl (lv_at hl 0 rfl) ?_
  refine lv_iload_n hx hb dX11_line_1 rfl (lv_at hl 1 rfl) ?_
  obtain ⟨k1, hf⟩ := gk_ok hf
  obtain ⟨r4, g2, m3, hf⟩ := b2_ok hf
  refine hp_cI0 (cl_X11_145 cx hB (cX11_isMenu l D cA t0 v1 h _ g2 m3) k1 ⟨Nat.le_of_ble_eq_true rfl, Nat.le_of_ble_eq_true rfl⟩ rfl hl.1 rfl (Nat.le_of_ble_eq_true rfl) ⟨Nat.le_of_ble_eq_true rfl, Nat.le_of_ble_eq_true rfl⟩ dX11_line_2) rfl rfl hB (fun H locs hB => ?_)
  refine lv_if_eq (tgt := 45) hx hb dX11_line_5 (by decide) (fun c6 => ?_) (fun c6 => ?_)
  · replace hf := it_t c6 hf
    refine lv_iconst (v := (-1)) hx hb dX11_line_45 (by decide) ?_
    obtain ⟨rfl, rfl⟩ := rt_ok hf
    exact hp_iret cx hB hr hlk (Nat.le_of_ble_eq_true rfl) (Nat.le_of_ble_eq_true rfl) dX11_line_46
  · replace hf := it_f c6 hf
    refine lv_iload_n hx hb dX11_line_8 rfl (lv_at hl 2 rfl) ?_
    refine lv_iconst (v := 1) hx hb dX11_line_9 (by decide) ?_
    refine lv_sipush (v := 200) hx hb dX11_line_10 (by decide) ?_
    obtain ⟨r9, g7, m8, hf⟩ := b2_ok hf
    refine hp_cI0 (cl_X11_129 cx hB (cX11_in l D cA v2 1 200 g2 _ g7 m8) ⟨Nat.le_of_ble_eq_true rfl, Nat.le_of_ble_eq_true rfl⟩ rfl hl.1 rfl (Nat.le_of_ble_eq_true rfl) ⟨Nat.le_of_ble_eq_true rfl, Nat.le_of_ble_eq_true rfl⟩ dX11_line_13) rfl rfl hB (fun H locs hB => ?_)
    refine lv_if_eq (tgt := 45) hx hb dX11_line_16 (by decide) (fun c11 => ?_) (fun c11 => ?_)
    · replace hf := it_t c11 hf
      refine lv_iconst (v := (-1)) hx hb dX11_line_45 (by decide) ?_
      obtain ⟨rfl, rfl⟩ := rt_ok hf
      exact hp_iret cx hB hr hlk (Nat.le_of_ble_eq_true rfl) (Nat.le_of_ble_eq_true rfl) dX11_line_46
    · replace hf := it_f c11 hf
      refine lv_iload_n hx hb dX11_line_19 rfl (lv_at hl 3 rfl) ?_
      refine lv_iconst (v := 0) hx hb dX11_line_20 (by decide) ?_
      refine lv_bipush (v := 11) hx hb dX11_line_21 (by decide) ?_
      obtain ⟨r14, g12, m13, hf⟩ := b2_ok hf
      refine hp_cI0 (cl_X11_129 cx hB (cX11_in l D cA v3 0 11 g7 _ g12 m13) ⟨Nat.le_of_ble_eq_true rfl, Nat.le_of_ble_eq_true rfl⟩ rfl hl.1 rfl (Nat.le_of_ble_eq_true rfl) ⟨Nat.le_of_ble_eq_true rfl, Nat.le_of_ble_eq_true rfl⟩ dX11_line_23) rfl rfl hB (fun H locs hB => ?_)
      refine lv_if_eq (tgt := 45) hx hb dX11_line_26 (by decide) (fun c16 => ?_) (fun c16 => ?_)
      · replace hf := it_t c16 hf
        refine lv_iconst (v := (-1)) hx hb dX11_line_45 (by decide) ?_
        obtain ⟨rfl, rfl⟩ := rt_ok hf
        exact hp_iret cx hB hr hlk (Nat.le_of_ble_eq_true rfl) (Nat.le_of_ble_eq_true rfl) dX11_line_46
      · replace hf := it_f c16 hf
        refine lv_iload hx hb dX11_line_29 (lv_at hl 4 rfl) ?_
        obtain ⟨r19, g17, m18, hf⟩ := b2_ok hf
        refine hp_cI0 (cl_X11_148 cx hB (cX11_areWishes l D cA v4 g12 _ g17 m18) ⟨Nat.le_of_ble_eq_true rfl, Nat.le_of_ble_eq_true rfl⟩ rfl hl.1 rfl (Nat.le_of_ble_eq_true rfl) ⟨Nat.le_of_ble_eq_true rfl, Nat.le_of_ble_eq_true rfl⟩ dX11_line_31) rfl rfl hB (fun H locs hB => ?_)
        refine lv_if_eq (tgt := 45) hx hb dX11_line_34 (by decide) (fun c21 => ?_) (fun c21 => ?_)
        · replace hf := it_t c21 hf
          refine lv_iconst (v := (-1)) hx hb dX11_line_45 (by decide) ?_
          obtain ⟨rfl, rfl⟩ := rt_ok hf
          exact hp_iret cx hB hr hlk (Nat.le_of_ble_eq_true rfl) (Nat.le_of_ble_eq_true rfl) dX11_line_46
        · replace hf := it_f c21 hf
          refine lv_iload hx hb dX11_line_37 (lv_at hl 5 rfl) ?_
          obtain ⟨r24, g22, m23, hf⟩ := b2_ok hf
          refine hp_cI0 (cl_X11_134 cx hB (cX11_isNext l D cA v5 g17 _ g22 m23) ⟨Nat.le_of_ble_eq_true rfl, Nat.le_of_ble_eq_true rfl⟩ rfl hl.1 rfl (Nat.le_of_ble_eq_true rfl) ⟨Nat.le_of_ble_eq_true rfl, Nat.le_of_ble_eq_true rfl⟩ dX11_line_39) rfl rfl hB (fun H locs hB => ?_)
          refine lv_if_ne (tgt := 47) hx hb dX11_line_42 (by decide) (fun c26 => ?_) (fun c26 => ?_)
          · replace hf := it_f c26 hf
            refine lv_iconst (v := 0) hx hb dX11_line_47 (by decide) ?_
            refine lv_istore (lv' := [(6, .int 0), (0, .ref t0), (1, .int v1), (2, .int v2), (3, .int v3), (4, .int v4), (5, .int v5)]) hx hb dX11_line_48 hl (by decide) rfl (fun ls hl => ?_)
            exact tX11_line_50 cx hr hlk  NF t0 v1 v2 v3 v4 v5 0 g22 _ _ _ hB (lv_sub hl [1, 2, 3, 4, 5, 6, 0] rfl) hf
          · replace hf := it_t c26 hf
            refine lv_iconst (v := (-1)) hx hb dX11_line_45 (by decide) ?_
            obtain ⟨rfl, rfl⟩ := rt_ok hf
            exact hp_iret cx hB hr hlk (Nat.le_of_ble_eq_true rfl) (Nat.le_of_ble_eq_true rfl) dX11_line_46
end
set_option maxHeartbeats 4000000 in
set_option maxRecDepth 100000 in
theorem cX11_line (l : Launch) (D : va_G) (cA : Nat → ClassId) (t0 : Nat) (v1 : Int32) (v2 : Int32) (v3 : Int32) (v4 : Int32) (v5 : Int32) (h : Hp) (r : Int32) (h9 : Hp) (hf : fX11_line t0 v1 v2 v3 v4 v5 h = some (r, h9)) : hp_M l yX11_line prog_13_method_9_code 7 (Option.some FieldType.int) rmX11_line D cA h [.ref t0, .int v1, .int v2, .int v3, .int v4, .int v5] (hp_Qi D cA h h9 r) := by
  refine Met.ofW (cc := prog_13_method_9_code) (maxL := 7) (ret := (Option.some FieldType.int)) (by decide) rfl ?_
  intro p e s m args below meth c s₁ B hml hv
  obtain ⟨rfl, hU⟩ := hv
  have hts := atoms_spec (ws := Cond.code yX11_line prog_13_method_9_code 7 (Option.some FieldType.int) :: tbG) B.pre
  have hl := lv_entry ([.ref t0, .int v1, .int v2, .int v3, .int v4, .int v5]) (n := 7) (Nat.le_of_ble_eq_true rfl)
  rw [lg_entry_eq]
  generalize (lg_sl ([.ref t0, .int v1, .int v2, .int v3, .int v4, .int v5]) ++ List.replicate (7 - (lg_sl ([.ref t0, .int v1, .int v2, .int v3, .int v4, .int v5])).length) Slot.unset).toArray = ls at hl ⊢
  exact tX11_line_0 ⟨B.exec, B.bytes, hml, findClass_of_methodNamed B.named, fun w hw => hts w (List.mem_cons_of_mem _ hw)⟩ B.returns B.notSynchronized t0 v1 v2 v3 v4 v5 h _ _ _ (hp_B.entry hU) hl hf
abbrev yX11_desk : MethodName := ⟨"SpokenMenusModel", "desk", "(II)I"⟩
theorem dX11_desk_0 : decode prog_13_method_10_code 0 = .ok (.iload_n 1, 1) := by decide +kernel
theorem dX11_desk_1 : decode prog_13_method_10_code 1 = .ok (.iconst 0, 1) := by decide +kernel
theorem dX11_desk_2 : decode prog_13_method_10_code 2 = .ok (.sipush 500, 3) := by decide +kernel
theorem dX11_desk_5 : decode prog_13_method_10_code 5 = .ok (.invokestatic 129, 3) := by decide +kernel
theorem dX11_desk_8 : decode prog_13_method_10_code 8 = .ok (.ifCond .eq 10, 3) := by decide +kernel
theorem dX11_desk_11 : decode prog_13_method_10_code 11 = .ok (.iload_n 2, 1) := by decide +kernel
theorem dX11_desk_12 : decode prog_13_method_10_code 12 = .ok (.invokestatic 148, 3) := by decide +kernel
theorem dX11_desk_15 : decode prog_13_method_10_code 15 = .ok (.ifCond .ne 5, 3) := by decide +kernel
theorem dX11_desk_18 : decode prog_13_method_10_code 18 = .ok (.iconst (-1), 1) := by decide +kernel
theorem dX11_desk_19 : decode prog_13_method_10_code 19 = .ok (.ireturn, 1) := by decide +kernel
theorem dX11_desk_20 : decode prog_13_method_10_code 20 = .ok (.aload_n 0, 1) := by decide +kernel
theorem dX11_desk_21 : decode prog_13_method_10_code 21 = .ok (.getfield 125, 3) := by decide +kernel
theorem dX11_desk_24 : decode prog_13_method_10_code 24 = .ok (.bipush 40, 2) := by decide +kernel
theorem dX11_desk_26 : decode prog_13_method_10_code 26 = .ok (.if_icmp .ne 6, 3) := by decide +kernel
theorem dX11_desk_29 : decode prog_13_method_10_code 29 = .ok (.bipush (-3), 2) := by decide +kernel
theorem dX11_desk_31 : decode prog_13_method_10_code 31 = .ok (.ireturn, 1) := by decide +kernel
theorem dX11_desk_32 : decode prog_13_method_10_code 32 = .ok (.aload_n 0, 1) := by decide +kernel
theorem dX11_desk_33 : decode prog_13_method_10_code 33 = .ok (.iconst 1, 1) := by decide +kernel
theorem dX11_desk_34 : decode prog_13_method_10_code 34 = .ok (.iload_n 1, 1) := by decide +kernel
theorem dX11_desk_35 : decode prog_13_method_10_code 35 = .ok (.iconst (-1), 1) := by decide +kernel
theorem dX11_desk_36 : decode prog_13_method_10_code 36 = .ok (.iconst (-1), 1) := by decide +kernel
theorem dX11_desk_37 : decode prog_13_method_10_code 37 = .ok (.invokevirtual 138, 3) := by decide +kernel
theorem dX11_desk_40 : decode prog_13_method_10_code 40 = .ok (.istore_n 3, 1) := by decide +kernel
theorem dX11_desk_41 : decode prog_13_method_10_code 41 = .ok (.aload_n 0, 1) := by decide +kernel
theorem dX11_desk_42 : decode prog_13_method_10_code 42 = .ok (.getfield 25, 3) := by decide +kernel
theorem dX11_desk_45 : decode prog_13_method_10_code 45 = .ok (.iload_n 3, 1) := by decide +kernel
theorem dX11_desk_46 : decode prog_13_method_10_code 46 = .ok (.iload_n 2, 1) := by decide +kernel
theorem dX11_desk_47 : decode prog_13_method_10_code 47 = .ok (.iastore, 1) := by decide +kernel
theorem dX11_desk_48 : decode prog_13_method_10_code 48 = .ok (.iload_n 3, 1) := by decide +kernel
theorem dX11_desk_49 : decode prog_13_method_10_code 49 = .ok (.ireturn, 1) := by decide +kernel
abbrev rmX11_desk : Room := { frames := 2, cells := 0, slots := 0, locals := 42 }
def fX11_desk  (t0 : Nat) (v1 : Int32) (v2 : Int32) (h : Hp) : Option (Int32 × Hp) :=
  b2 (fX11_in v1 0 500 h) fun r3 g1 =>
  if r3 = 0 then
  (some ((-1), g1))
  else
  (b2 (fX11_areWishes v2 g1) fun r8 g6 =>
  if r8 = 0 then
  (some ((-1), g6))
  else
  (gk (g6.1 t0) 12 <|
  if (g6.2.2.1 t0 0) = 40 then
  (some ((-3), g6))
  else
  (b2 (fX11_newPlace t0 1 v1 (-1) (-1) g6) fun r15 g13 =>
  gk (g13.1 t0) 12 <|
  bd (g13.2.2.2.1 t0 6) fun a18 =>
  gk (g13.1 a18) 13 <|
  gd (ix r15 (g13.2.1 a18)) <|
  nm (hp_si g13 a18 (Int32.toNatClampNeg r15) v2) fun g22 =>
  some (r15, g22))))
section
variable {p : Program} {l : Launch} {e : Env} {s : State} {m : MethodId} {args : Array Value} {below : List Frame} {meth : Method} {c : Code} {D : va_G} {cA : Nat → ClassId} {h0 h9 : Hp}
set_option maxHeartbeats 4000000 in
set_option maxRecDepth 100000 in
theorem tX11_desk_0  {r : Int32} (cx : CallFix p m c prog_13_method_10_code 4 s args tbG RX11) (hr : meth.sig.returnType = (Option.some FieldType.int)) (hlk : meth.locks = false)  (t0 : Nat) (v1 : Int32) (v2 : Int32) (h : Hp) (H : Heap) (locs : List Loc) (ls : Array Slot) (hB : hp_B D cA (hp_A h0) s h H locs) (hl : lv_has ls 4 [(0, .ref t0), (1, .int v1), (2, .int v2)]) (hf : fX11_desk  t0 v1 v2 h = some (r, h9)) : W p l e rmX11_desk s m args below meth c H locs 0 0 (MQ below (hp_Qi D cA h0 h9 r) args s 0 0 (hp_A h0)) (F0 m 0 ls []) := by
  obtain ⟨hx, hb, -⟩ := id cx
  unfold fX11_desk at hf
  refine lv_iload_n hx hb dX11_desk_0 rfl (lv_at hl 1 rfl) ?_
  refine lv_iconst (v := 0) hx hb dX11_desk_1 (by decide) ?_
  refine lv_sipush (v := 500) hx hb dX11_desk_2 (by decide) ?_
  obtain ⟨r3, g1, m2, hf⟩ := b2_ok hf
  refine hp_cI0 (cl_X11_129 cx hB (cX11_in l D cA v1 0 500 h _ g1 m2) ⟨Nat.le_of_ble_eq_true rfl, Nat.le_of_ble_eq_true rfl⟩ rfl hl.1 rfl (Nat.le_of_ble_eq_true rfl) ⟨Nat.le_of_ble_eq_true rfl, Nat.le_of_ble_eq_true rfl⟩ dX11_desk_5) rfl rfl hB (fun H locs hB => ?_)
  refine lv_if_eq (tgt := 18) hx hb dX11_desk_8 (by decide) (fun c5 => ?_) (fun c5 => ?_)
  · replace hf := it_t c5 hf
    refine lv_iconst (v := (-1)) hx hb dX11_desk_18 (by decide) ?_
    obtain ⟨rfl, rfl⟩ := rt_ok hf
    exact hp_iret cx hB hr hlk (Nat.le_of_ble_eq_true rfl) (Nat.le_of_ble_eq_true rfl) dX11_desk_19
  · replace hf := it_f c5 hf
    refine lv_iload_n hx hb dX11_desk_11 rfl (lv_at hl 2 rfl) ?_
    obtain ⟨r8, g6, m7, hf⟩ := b2_ok hf
    refine hp_cI0 (cl_X11_148 cx hB (cX11_areWishes l D cA v2 g1 _ g6 m7) ⟨Nat.le_of_ble_eq_true rfl, Nat.le_of_ble_eq_true rfl⟩ rfl hl.1 rfl (Nat.le_of_ble_eq_true rfl) ⟨Nat.le_of_ble_eq_true rfl, Nat.le_of_ble_eq_true rfl⟩ dX11_desk_12) rfl rfl hB (fun H locs hB => ?_)
    refine lv_if_ne (tgt := 20) hx hb dX11_desk_15 (by decide) (fun c10 => ?_) (fun c10 => ?_)
    · replace hf := it_f c10 hf
      refine lv_aload_n hx hb dX11_desk_20 rfl (lv_at hl 0 rfl) ?_
      obtain ⟨k11, hf⟩ := gk_ok hf
      refine gf_X11_125 cx hB k11 dX11_desk_21 ?_
      refine lv_bipush (v := 40) hx hb dX11_desk_24 (by decide) ?_
      refine lv_icmp_ne (tgt := 32) hx hb dX11_desk_26 (by decide) (fun c12 => ?_) (fun c12 => ?_)
      · replace hf := it_f c12 hf
        refine lv_aload_n hx hb dX11_desk_32 rfl (lv_at hl 0 rfl) ?_
        refine lv_iconst (v := 1) hx hb dX11_desk_33 (by decide) ?_
        refine lv_iload_n hx hb dX11_desk_34 rfl (lv_at hl 1 rfl) ?_
        refine lv_iconst (v := (-1)) hx hb dX11_desk_35 (by decide) ?_
        refine lv_iconst (v := (-1)) hx hb dX11_desk_36 (by decide) ?_
        obtain ⟨r15, g13, m14, hf⟩ := b2_ok hf
        refine hp_cI0 (cl_X11_138 cx hB (cX11_newPlace l D cA t0 1 v1 (-1) (-1) g6 _ g13 m14) k11 ⟨Nat.le_of_ble_eq_true rfl, Nat.le_of_ble_eq_true rfl⟩ rfl hl.1 rfl (Nat.le_of_ble_eq_true rfl) ⟨Nat.le_of_ble_eq_true rfl, Nat.le_of_ble_eq_true rfl⟩ dX11_desk_37) rfl rfl hB (fun H locs hB => ?_)
        refine lv_istore_n (lv' := [(3, .int r15), (0, .ref t0), (1, .int v1), (2, .int v2)]) hx hb dX11_desk_40 rfl hl (by decide) rfl (fun ls hl => ?_)
        refine lv_aload_n hx hb dX11_desk_41 rfl (lv_at hl 1 rfl) ?_
        obtain ⟨k17, hf⟩ := gk_ok hf
        obtain ⟨a18, q19, hf⟩ := bd_ok hf
        refine gf_X11_25 cx hB k17 q19 dX11_desk_42 ?_
        refine lv_iload_n hx hb dX11_desk_45 rfl (lv_at hl 0 rfl) ?_
        refine lv_iload_n hx hb dX11_desk_46 rfl (lv_at hl 3 rfl) ?_
        obtain ⟨k20, hf⟩ := gk_ok hf
        obtain ⟨j21, hf⟩ := gd_ok hf
        obtain ⟨g22, eg22, hf⟩ := nm_ok hf
        refine hp_iast cx hB k20 j21 dX11_desk_47 (fun H locs hB => ?_)
        rw [← eg22] at hB
        refine lv_iload_n hx hb dX11_desk_48 rfl (lv_at hl 0 rfl) ?_
        obtain ⟨rfl, rfl⟩ := rt_ok hf
        exact hp_iret cx hB hr hlk (Nat.le_of_ble_eq_true rfl) (Nat.le_of_ble_eq_true rfl) dX11_desk_49
      · replace hf := it_t c12 hf
        refine lv_bipush (v := (-3)) hx hb dX11_desk_29 (by decide) ?_
        obtain ⟨rfl, rfl⟩ := rt_ok hf
        exact hp_iret cx hB hr hlk (Nat.le_of_ble_eq_true rfl) (Nat.le_of_ble_eq_true rfl) dX11_desk_31
    · replace hf := it_t c10 hf
      refine lv_iconst (v := (-1)) hx hb dX11_desk_18 (by decide) ?_
      obtain ⟨rfl, rfl⟩ := rt_ok hf
      exact hp_iret cx hB hr hlk (Nat.le_of_ble_eq_true rfl) (Nat.le_of_ble_eq_true rfl) dX11_desk_19
end
set_option maxHeartbeats 4000000 in
set_option maxRecDepth 100000 in
theorem cX11_desk (l : Launch) (D : va_G) (cA : Nat → ClassId) (t0 : Nat) (v1 : Int32) (v2 : Int32) (h : Hp) (r : Int32) (h9 : Hp) (hf : fX11_desk t0 v1 v2 h = some (r, h9)) : hp_M l yX11_desk prog_13_method_10_code 4 (Option.some FieldType.int) rmX11_desk D cA h [.ref t0, .int v1, .int v2] (hp_Qi D cA h h9 r) := by
  refine Met.ofW (cc := prog_13_method_10_code) (maxL := 4) (ret := (Option.some FieldType.int)) (by decide) rfl ?_
  intro p e s m args below meth c s₁ B hml hv
  obtain ⟨rfl, hU⟩ := hv
  have hts := atoms_spec (ws := Cond.code yX11_desk prog_13_method_10_code 4 (Option.some FieldType.int) :: tbG) B.pre
  have hl := lv_entry ([.ref t0, .int v1, .int v2]) (n := 4) (Nat.le_of_ble_eq_true rfl)
  rw [lg_entry_eq]
  generalize (lg_sl ([.ref t0, .int v1, .int v2]) ++ List.replicate (4 - (lg_sl ([.ref t0, .int v1, .int v2])).length) Slot.unset).toArray = ls at hl ⊢
  exact tX11_desk_0 ⟨B.exec, B.bytes, hml, findClass_of_methodNamed B.named, fun w hw => hts w (List.mem_cons_of_mem _ hw)⟩ B.returns B.notSynchronized t0 v1 v2 h _ _ _ (hp_B.entry hU) hl hf
abbrev yX11_leaf : MethodName := ⟨"SpokenMenusModel", "leaf", "(III)I"⟩
theorem dX11_leaf_0 : decode prog_13_method_11_code 0 = .ok (.iload_n 1, 1) := by decide +kernel
theorem dX11_leaf_1 : decode prog_13_method_11_code 1 = .ok (.iconst 1, 1) := by decide +kernel
theorem dX11_leaf_2 : decode prog_13_method_11_code 2 = .ok (.sipush 200, 3) := by decide +kernel
theorem dX11_leaf_5 : decode prog_13_method_11_code 5 = .ok (.invokestatic 129, 3) := by decide +kernel
theorem dX11_leaf_8 : decode prog_13_method_11_code 8 = .ok (.ifCond .eq 17, 3) := by decide +kernel
theorem dX11_leaf_11 : decode prog_13_method_11_code 11 = .ok (.iload_n 2, 1) := by decide +kernel
theorem dX11_leaf_12 : decode prog_13_method_11_code 12 = .ok (.invokestatic 148, 3) := by decide +kernel
theorem dX11_leaf_15 : decode prog_13_method_11_code 15 = .ok (.ifCond .eq 10, 3) := by decide +kernel
theorem dX11_leaf_18 : decode prog_13_method_11_code 18 = .ok (.iload_n 3, 1) := by decide +kernel
theorem dX11_leaf_19 : decode prog_13_method_11_code 19 = .ok (.invokestatic 134, 3) := by decide +kernel
theorem dX11_leaf_22 : decode prog_13_method_11_code 22 = .ok (.ifCond .ne 5, 3) := by decide +kernel
theorem dX11_leaf_25 : decode prog_13_method_11_code 25 = .ok (.iconst (-1), 1) := by decide +kernel
theorem dX11_leaf_26 : decode prog_13_method_11_code 26 = .ok (.ireturn, 1) := by decide +kernel
theorem dX11_leaf_27 : decode prog_13_method_11_code 27 = .ok (.aload_n 0, 1) := by decide +kernel
theorem dX11_leaf_28 : decode prog_13_method_11_code 28 = .ok (.getfield 125, 3) := by decide +kernel
theorem dX11_leaf_31 : decode prog_13_method_11_code 31 = .ok (.bipush 40, 2) := by decide +kernel
theorem dX11_leaf_33 : decode prog_13_method_11_code 33 = .ok (.if_icmp .ne 6, 3) := by decide +kernel
theorem dX11_leaf_36 : decode prog_13_method_11_code 36 = .ok (.bipush (-3), 2) := by decide +kernel
theorem dX11_leaf_38 : decode prog_13_method_11_code 38 = .ok (.ireturn, 1) := by decide +kernel
theorem dX11_leaf_39 : decode prog_13_method_11_code 39 = .ok (.aload_n 0, 1) := by decide +kernel
theorem dX11_leaf_40 : decode prog_13_method_11_code 40 = .ok (.iconst 2, 1) := by decide +kernel
theorem dX11_leaf_41 : decode prog_13_method_11_code 41 = .ok (.iload_n 1, 1) := by decide +kernel
theorem dX11_leaf_42 : decode prog_13_method_11_code 42 = .ok (.iload_n 3, 1) := by decide +kernel
theorem dX11_leaf_43 : decode prog_13_method_11_code 43 = .ok (.iconst (-1), 1) := by decide +kernel
theorem dX11_leaf_44 : decode prog_13_method_11_code 44 = .ok (.invokevirtual 138, 3) := by decide +kernel
theorem dX11_leaf_47 : decode prog_13_method_11_code 47 = .ok (.istore 4, 2) := by decide +kernel
theorem dX11_leaf_49 : decode prog_13_method_11_code 49 = .ok (.aload_n 0, 1) := by decide +kernel
theorem dX11_leaf_50 : decode prog_13_method_11_code 50 = .ok (.getfield 25, 3) := by decide +kernel
theorem dX11_leaf_53 : decode prog_13_method_11_code 53 = .ok (.iload 4, 2) := by decide +kernel
theorem dX11_leaf_55 : decode prog_13_method_11_code 55 = .ok (.iload_n 2, 1) := by decide +kernel
theorem dX11_leaf_56 : decode prog_13_method_11_code 56 = .ok (.iastore, 1) := by decide +kernel
theorem dX11_leaf_57 : decode prog_13_method_11_code 57 = .ok (.iload 4, 2) := by decide +kernel
theorem dX11_leaf_59 : decode prog_13_method_11_code 59 = .ok (.ireturn, 1) := by decide +kernel
abbrev rmX11_leaf : Room := { frames := 2, cells := 0, slots := 0, locals := 42 }
def fX11_leaf  (t0 : Nat) (v1 : Int32) (v2 : Int32) (v3 : Int32) (h : Hp) : Option (Int32 × Hp) :=
  b2 (fX11_in v1 1 200 h) fun r3 g1 =>
  if r3 = 0 then
  (some ((-1), g1))
  else
  (b2 (fX11_areWishes v2 g1) fun r8 g6 =>
  if r8 = 0 then
  (some ((-1), g6))
  else
  (b2 (fX11_isNext v3 g6) fun r13 g11 =>
  if r13 = 0 then
  (some ((-1), g11))
  else
  (gk (g11.1 t0) 12 <|
  if (g11.2.2.1 t0 0) = 40 then
  (some ((-3), g11))
  else
  (b2 (fX11_newPlace t0 2 v1 v3 (-1) g11) fun r20 g18 =>
  gk (g18.1 t0) 12 <|
  bd (g18.2.2.2.1 t0 6) fun a23 =>
  gk (g18.1 a23) 13 <|
  gd (ix r20 (g18.2.1 a23)) <|
  nm (hp_si g18 a23 (Int32.toNatClampNeg r20) v2) fun g27 =>
  some (r20, g27)))))
section
variable {p : Program} {l : Launch} {e : Env} {s : State} {m : MethodId} {args : Array Value} {below : List Frame} {meth : Method} {c : Code} {D : va_G} {cA : Nat → ClassId} {h0 h9 : Hp}
set_option maxHeartbeats 4000000 in
set_option maxRecDepth 100000 in
theorem tX11_leaf_0  {r : Int32} (cx : CallFix p m c prog_13_method_11_code 5 s args tbG RX11) (hr : meth.sig.returnType = (Option.some FieldType.int)) (hlk : meth.locks = false)  (t0 : Nat) (v1 : Int32) (v2 : Int32) (v3 : Int32) (h : Hp) (H : Heap) (locs : List Loc) (ls : Array Slot) (hB : hp_B D cA (hp_A h0) s h H locs) (hl : lv_has ls 5 [(0, .ref t0), (1, .int v1), (2, .int v2), (3, .int v3)]) (hf : fX11_leaf  t0 v1 v2 v3 h = some (r, h9)) : W p l e rmX11_leaf s m args below meth c H locs 0 0 (MQ below (hp_Qi D cA h0 h9 r) args s 0 0 (hp_A h0)) (F0 m 0 ls []) := by
  obtain ⟨hx, hb, -⟩ := id cx
  unfold fX11_leaf at hf
  refine lv_iload_n hx hb dX11_leaf_0 rfl (lv_at hl 1 rfl) ?_
  refine lv_iconst (v := 1) hx hb dX11_leaf_1 (by decide) ?_
  refine lv_sipush (v := 200) hx hb dX11_leaf_2 (by decide) ?_
  obtain ⟨r3, g1, m2, hf⟩ := b2_ok hf
  refine hp_cI0 (cl_X11_129 cx hB (cX11_in l D cA v1 1 200 h _ g1 m2) ⟨Nat.le_of_ble_eq_true rfl, Nat.le_of_ble_eq_true rfl⟩ rfl hl.1 rfl (Nat.le_of_ble_eq_true rfl) ⟨Nat.le_of_ble_eq_true rfl, Nat.le_of_ble_eq_true rfl⟩ dX11_leaf_5) rfl rfl hB (fun H locs hB => ?_)
  refine lv_if_eq (tgt := 25) hx hb dX11_leaf_8 (by decide) (fun c5 => ?_) (fun c5 => ?_)
  · replace hf := it_t c5 hf
    refine lv_iconst (v := (-1)) hx hb dX11_leaf_25 (by decide) ?_
    obtain ⟨rfl, rfl⟩ := rt_ok hf
    exact hp_iret cx hB hr hlk (Nat.le_of_ble_eq_true rfl) (Nat.le_of_ble_eq_true rfl) dX11_leaf_26
  · replace hf := it_f c5 hf
    refine lv_iload_n hx hb dX11_leaf_11 rfl (lv_at hl 2 rfl) ?_
    obtain ⟨r8, g6, m7, hf⟩ := b2_ok hf
    refine hp_cI0 (cl_X11_148 cx hB (cX11_areWishes l D cA v2 g1 _ g6 m7) ⟨Nat.le_of_ble_eq_true rfl, Nat.le_of_ble_eq_true rfl⟩ rfl hl.1 rfl (Nat.le_of_ble_eq_true rfl) ⟨Nat.le_of_ble_eq_true rfl, Nat.le_of_ble_eq_true rfl⟩ dX11_leaf_12) rfl rfl hB (fun H locs hB => ?_)
    refine lv_if_eq (tgt := 25) hx hb dX11_leaf_15 (by decide) (fun c10 => ?_) (fun c10 => ?_)
    · replace hf := it_t c10 hf
      refine lv_iconst (v := (-1)) hx hb dX11_leaf_25 (by decide) ?_
      obtain ⟨rfl, rfl⟩ := rt_ok hf
      exact hp_iret cx hB hr hlk (Nat.le_of_ble_eq_true rfl) (Nat.le_of_ble_eq_true rfl) dX11_leaf_26
    · replace hf := it_f c10 hf
      refine lv_iload_n hx hb dX11_leaf_18 rfl (lv_at hl 3 rfl) ?_
      obtain ⟨r13, g11, m12, hf⟩ := b2_ok hf
      refine hp_cI0 (cl_X11_134 cx hB (cX11_isNext l D cA v3 g6 _ g11 m12) ⟨Nat.le_of_ble_eq_true rfl, Nat.le_of_ble_eq_true rfl⟩ rfl hl.1 rfl (Nat.le_of_ble_eq_true rfl) ⟨Nat.le_of_ble_eq_true rfl, Nat.le_of_ble_eq_true rfl⟩ dX11_leaf_19) rfl rfl hB (fun H locs hB => ?_)
      refine lv_if_ne (tgt := 27) hx hb dX11_leaf_22 (by decide) (fun c15 => ?_) (fun c15 => ?_)
      · replace hf := it_f c15 hf
        refine lv_aload_n hx hb dX11_leaf_27 rfl (lv_at hl 0 rfl) ?_
        obtain ⟨k16, hf⟩ := gk_ok hf
        refine gf_X11_125 cx hB k16 dX11_leaf_28 ?_
        refine lv_bipush (v := 40) hx hb dX11_leaf_31 (by decide) ?_
        refine lv_icmp_ne (tgt := 39) hx hb dX11_leaf_33 (by decide) (fun c17 => ?_) (fun c17 => ?_)
        · replace hf := it_f c17 hf
          refine lv_aload_n hx hb dX11_leaf_39 rfl (lv_at hl 0 rfl) ?_
          refine lv_iconst (v := 2) hx hb dX11_leaf_40 (by decide) ?_
          refine lv_iload_n hx hb dX11_leaf_41 rfl (lv_at hl 1 rfl) ?_
          refine lv_iload_n hx hb dX11_leaf_42 rfl (lv_at hl 3 rfl) ?_
          refine lv_iconst (v := (-1)) hx hb dX11_leaf_43 (by decide) ?_
          obtain ⟨r20, g18, m19, hf⟩ := b2_ok hf
          refine hp_cI0 (cl_X11_138 cx hB (cX11_newPlace l D cA t0 2 v1 v3 (-1) g11 _ g18 m19) k16 ⟨Nat.le_of_ble_eq_true rfl, Nat.le_of_ble_eq_true rfl⟩ rfl hl.1 rfl (Nat.le_of_ble_eq_true rfl) ⟨Nat.le_of_ble_eq_true rfl, Nat.le_of_ble_eq_true rfl⟩ dX11_leaf_44) rfl rfl hB (fun H locs hB => ?_)
          refine lv_istore (lv' := [(4, .int r20), (0, .ref t0), (1, .int v1), (2, .int v2), (3, .int v3)]) hx hb dX11_leaf_47 hl (by decide) rfl (fun ls hl => ?_)
          refine lv_aload_n hx hb dX11_leaf_49 rfl (lv_at hl 1 rfl) ?_
          obtain ⟨k22, hf⟩ := gk_ok hf
          obtain ⟨a23, q24, hf⟩ := bd_ok hf
          refine gf_X11_25 cx hB k22 q24 dX11_leaf_50 ?_
          refine lv_iload hx hb dX11_leaf_53 (lv_at hl 0 rfl) ?_
          refine lv_iload_n hx hb dX11_leaf_55 rfl (lv_at hl 3 rfl) ?_
          obtain ⟨k25, hf⟩ := gk_ok hf
          obtain ⟨j26, hf⟩ := gd_ok hf
          obtain ⟨g27, eg27, hf⟩ := nm_ok hf
          refine hp_iast cx hB k25 j26 dX11_leaf_56 (fun H locs hB => ?_)
          rw [← eg27] at hB
          refine lv_iload hx hb dX11_leaf_57 (lv_at hl 0 rfl) ?_
          obtain ⟨rfl, rfl⟩ := rt_ok hf
          exact hp_iret cx hB hr hlk (Nat.le_of_ble_eq_true rfl) (Nat.le_of_ble_eq_true rfl) dX11_leaf_59
        · replace hf := it_t c17 hf
          refine lv_bipush (v := (-3)) hx hb dX11_leaf_36 (by decide) ?_
          obtain ⟨rfl, rfl⟩ := rt_ok hf
          exact hp_iret cx hB hr hlk (Nat.le_of_ble_eq_true rfl) (Nat.le_of_ble_eq_true rfl) dX11_leaf_38
      · replace hf := it_t c15 hf
        refine lv_iconst (v := (-1)) hx hb dX11_leaf_25 (by decide) ?_
        obtain ⟨rfl, rfl⟩ := rt_ok hf
        exact hp_iret cx hB hr hlk (Nat.le_of_ble_eq_true rfl) (Nat.le_of_ble_eq_true rfl) dX11_leaf_26
end
set_option maxHeartbeats 4000000 in
set_option maxRecDepth 100000 in
theorem cX11_leaf (l : Launch) (D : va_G) (cA : Nat → ClassId) (t0 : Nat) (v1 : Int32) (v2 : Int32) (v3 : Int32) (h : Hp) (r : Int32) (h9 : Hp) (hf : fX11_leaf t0 v1 v2 v3 h = some (r, h9)) : hp_M l yX11_leaf prog_13_method_11_code 5 (Option.some FieldType.int) rmX11_leaf D cA h [.ref t0, .int v1, .int v2, .int v3] (hp_Qi D cA h h9 r) := by
  refine Met.ofW (cc := prog_13_method_11_code) (maxL := 5) (ret := (Option.some FieldType.int)) (by decide) rfl ?_
  intro p e s m args below meth c s₁ B hml hv
  obtain ⟨rfl, hU⟩ := hv
  have hts := atoms_spec (ws := Cond.code yX11_leaf prog_13_method_11_code 5 (Option.some FieldType.int) :: tbG) B.pre
  have hl := lv_entry ([.ref t0, .int v1, .int v2, .int v3]) (n := 5) (Nat.le_of_ble_eq_true rfl)
  rw [lg_entry_eq]
  generalize (lg_sl ([.ref t0, .int v1, .int v2, .int v3]) ++ List.replicate (5 - (lg_sl ([.ref t0, .int v1, .int v2, .int v3])).length) Slot.unset).toArray = ls at hl ⊢
  exact tX11_leaf_0 ⟨B.exec, B.bytes, hml, findClass_of_methodNamed B.named, fun w hw => hts w (List.mem_cons_of_mem _ hw)⟩ B.returns B.notSynchronized t0 v1 v2 v3 h _ _ _ (hp_B.entry hU) hl hf
section
variable {p : Program} {l : Launch} {e : Env} {R : Room} {s : State} {m : MethodId} {args : Array Value} {below : List Frame} {meth : Method} {c : Code} {H : Heap} {locs : List Loc} {cells slots : Nat} {Q : State → Prop}
variable {cc : ByteArray} {pc nL : Nat} {ls : Array Slot} {rest : List Value} {D : va_G} {cA : Nat → ClassId} {A : Nat → Prop} {a : Nat} {h : Hp}
theorem gf_X11_28 (cx : CallFix p m c cc nL s args tbG RX11) (hB : hp_B D cA A s h H locs) (hka : h.1 a = 12) {b : Nat} (ho : h.2.2.2.1 a 7 = some b) (hdg : decode cc pc = .ok (.getfield 28, 3)) (kk : W p l e R s m args below meth c H locs cells slots Q (F0 m (pc + 3) ls (.ref b :: rest))) : W p l e R s m args below meth c H locs cells slots Q (F0 m pc ls (.ref a :: rest)) :=
  hp_getR cx hB (ci := 11) 7 rfl inX11 (by decide) rfl (by decide) rfl qw_739 hka (o := some b) ho.symm hdg kk
theorem gf_X11_31 (cx : CallFix p m c cc nL s args tbG RX11) (hB : hp_B D cA A s h H locs) (hka : h.1 a = 12) {b : Nat} (ho : h.2.2.2.1 a 8 = some b) (hdg : decode cc pc = .ok (.getfield 31, 3)) (kk : W p l e R s m args below meth c H locs cells slots Q (F0 m (pc + 3) ls (.ref b :: rest))) : W p l e R s m args below meth c H locs cells slots Q (F0 m pc ls (.ref a :: rest)) :=
  hp_getR cx hB (ci := 11) 8 rfl inX11 (by decide) rfl (by decide) rfl qw_740 hka (o := some b) ho.symm hdg kk
end
abbrev yX11_clock : MethodName := ⟨"SpokenMenusModel", "clock", "(IIII)I"⟩
theorem dX11_clock_0 : decode prog_13_method_12_code 0 = .ok (.iload_n 1, 1) := by decide +kernel
theorem dX11_clock_1 : decode prog_13_method_12_code 1 = .ok (.iconst 0, 1) := by decide +kernel
theorem dX11_clock_2 : decode prog_13_method_12_code 2 = .ok (.bipush 23, 2) := by decide +kernel
theorem dX11_clock_4 : decode prog_13_method_12_code 4 = .ok (.invokestatic 129, 3) := by decide +kernel
theorem dX11_clock_7 : decode prog_13_method_12_code 7 = .ok (.ifCond .eq 28, 3) := by decide +kernel
theorem dX11_clock_10 : decode prog_13_method_12_code 10 = .ok (.iload_n 2, 1) := by decide +kernel
theorem dX11_clock_11 : decode prog_13_method_12_code 11 = .ok (.iconst 0, 1) := by decide +kernel
theorem dX11_clock_12 : decode prog_13_method_12_code 12 = .ok (.bipush 23, 2) := by decide +kernel
theorem dX11_clock_14 : decode prog_13_method_12_code 14 = .ok (.invokestatic 129, 3) := by decide +kernel
theorem dX11_clock_17 : decode prog_13_method_12_code 17 = .ok (.ifCond .eq 18, 3) := by decide +kernel
theorem dX11_clock_20 : decode prog_13_method_12_code 20 = .ok (.iload_n 3, 1) := by decide +kernel
theorem dX11_clock_21 : decode prog_13_method_12_code 21 = .ok (.invokestatic 134, 3) := by decide +kernel
theorem dX11_clock_24 : decode prog_13_method_12_code 24 = .ok (.ifCond .eq 11, 3) := by decide +kernel
theorem dX11_clock_27 : decode prog_13_method_12_code 27 = .ok (.iload 4, 2) := by decide +kernel
theorem dX11_clock_29 : decode prog_13_method_12_code 29 = .ok (.invokestatic 134, 3) := by decide +kernel
theorem dX11_clock_32 : decode prog_13_method_12_code 32 = .ok (.ifCond .ne 5, 3) := by decide +kernel
theorem dX11_clock_35 : decode prog_13_method_12_code 35 = .ok (.iconst (-1), 1) := by decide +kernel
theorem dX11_clock_36 : decode prog_13_method_12_code 36 = .ok (.ireturn, 1) := by decide +kernel
theorem dX11_clock_37 : decode prog_13_method_12_code 37 = .ok (.aload_n 0, 1) := by decide +kernel
theorem dX11_clock_38 : decode prog_13_method_12_code 38 = .ok (.getfield 125, 3) := by decide +kernel
theorem dX11_clock_41 : decode prog_13_method_12_code 41 = .ok (.bipush 40, 2) := by decide +kernel
theorem dX11_clock_43 : decode prog_13_method_12_code 43 = .ok (.if_icmp .ne 6, 3) := by decide +kernel
theorem dX11_clock_46 : decode prog_13_method_12_code 46 = .ok (.bipush (-3), 2) := by decide +kernel
theorem dX11_clock_48 : decode prog_13_method_12_code 48 = .ok (.ireturn, 1) := by decide +kernel
theorem dX11_clock_49 : decode prog_13_method_12_code 49 = .ok (.aload_n 0, 1) := by decide +kernel
theorem dX11_clock_50 : decode prog_13_method_12_code 50 = .ok (.getfield 28, 3) := by decide +kernel
theorem dX11_clock_53 : decode prog_13_method_12_code 53 = .ok (.aload_n 0, 1) := by decide +kernel
theorem dX11_clock_54 : decode prog_13_method_12_code 54 = .ok (.getfield 125, 3) := by decide +kernel
theorem dX11_clock_57 : decode prog_13_method_12_code 57 = .ok (.iload_n 1, 1) := by decide +kernel
theorem dX11_clock_58 : decode prog_13_method_12_code 58 = .ok (.iastore, 1) := by decide +kernel
theorem dX11_clock_59 : decode prog_13_method_12_code 59 = .ok (.aload_n 0, 1) := by decide +kernel
theorem dX11_clock_60 : decode prog_13_method_12_code 60 = .ok (.getfield 31, 3) := by decide +kernel
theorem dX11_clock_63 : decode prog_13_method_12_code 63 = .ok (.aload_n 0, 1) := by decide +kernel
theorem dX11_clock_64 : decode prog_13_method_12_code 64 = .ok (.getfield 125, 3) := by decide +kernel
theorem dX11_clock_67 : decode prog_13_method_12_code 67 = .ok (.iload_n 2, 1) := by decide +kernel
theorem dX11_clock_68 : decode prog_13_method_12_code 68 = .ok (.iastore, 1) := by decide +kernel
theorem dX11_clock_69 : decode prog_13_method_12_code 69 = .ok (.aload_n 0, 1) := by decide +kernel
theorem dX11_clock_70 : decode prog_13_method_12_code 70 = .ok (.iconst 3, 1) := by decide +kernel
theorem dX11_clock_71 : decode prog_13_method_12_code 71 = .ok (.iconst 0, 1) := by decide +kernel
theorem dX11_clock_72 : decode prog_13_method_12_code 72 = .ok (.iload_n 3, 1) := by decide +kernel
theorem dX11_clock_73 : decode prog_13_method_12_code 73 = .ok (.iload 4, 2) := by decide +kernel
theorem dX11_clock_75 : decode prog_13_method_12_code 75 = .ok (.invokevirtual 138, 3) := by decide +kernel
theorem dX11_clock_78 : decode prog_13_method_12_code 78 = .ok (.ireturn, 1) := by decide +kernel
abbrev rmX11_clock : Room := { frames := 2, cells := 0, slots := 0, locals := 42 }
def fX11_clock  (t0 : Nat) (v1 : Int32) (v2 : Int32) (v3 : Int32) (v4 : Int32) (h : Hp) : Option (Int32 × Hp) :=
  b2 (fX11_in v1 0 23 h) fun r3 g1 =>
  if r3 = 0 then
  (some ((-1), g1))
  else
  (b2 (fX11_in v2 0 23 g1) fun r8 g6 =>
  if r8 = 0 then
  (some ((-1), g6))
  else
  (b2 (fX11_isNext v3 g6) fun r13 g11 =>
  if r13 = 0 then
  (some ((-1), g11))
  else
  (b2 (fX11_isNext v4 g11) fun r18 g16 =>
  if r18 = 0 then
  (some ((-1), g16))
  else
  (gk (g16.1 t0) 12 <|
  if (g16.2.2.1 t0 0) = 40 then
  (some ((-3), g16))
  else
  (bd (g16.2.2.2.1 t0 7) fun a23 =>
  gk (g16.1 a23) 13 <|
  gd (ix (g16.2.2.1 t0 0) (g16.2.1 a23)) <|
  nm (hp_si g16 a23 (Int32.toNatClampNeg (g16.2.2.1 t0 0)) v1) fun g27 =>
  bd (g27.2.2.2.1 t0 8) fun a29 =>
  gk (g27.1 a29) 13 <|
  gd (ix (g27.2.2.1 t0 0) (g27.2.1 a29)) <|
  nm (hp_si g27 a29 (Int32.toNatClampNeg (g27.2.2.1 t0 0)) v2) fun g33 =>
  b2 (fX11_newPlace t0 3 0 v3 v4 g33) fun r37 g35 =>
  some (r37, g35))))))
section
variable {p : Program} {l : Launch} {e : Env} {s : State} {m : MethodId} {args : Array Value} {below : List Frame} {meth : Method} {c : Code} {D : va_G} {cA : Nat → ClassId} {h0 h9 : Hp}
set_option maxHeartbeats 4000000 in
set_option maxRecDepth 100000 in
theorem tX11_clock_0  {r : Int32} (cx : CallFix p m c prog_13_method_12_code 5 s args tbG RX11) (hr : meth.sig.returnType = (Option.some FieldType.int)) (hlk : meth.locks = false)  (t0 : Nat) (v1 : Int32) (v2 : Int32) (v3 : Int32) (v4 : Int32) (h : Hp) (H : Heap) (locs : List Loc) (ls : Array Slot) (hB : hp_B D cA (hp_A h0) s h H locs) (hl : lv_has ls 5 [(0, .ref t0), (1, .int v1), (2, .int v2), (3, .int v3), (4, .int v4)]) (hf : fX11_clock  t0 v1 v2 v3 v4 h = some (r, h9)) : W p l e rmX11_clock s m args below meth c H locs 0 0 (MQ below (hp_Qi D cA h0 h9 r) args s 0 0 (hp_A h0)) (F0 m 0 ls []) := by
  obtain ⟨hx, hb, -⟩ := id cx
  unfold fX11_clock at hf
  refine lv_iload_n hx hb dX11_clock_0 rfl (lv_at hl 1 rfl) ?_
  refine lv_iconst (v := 0) hx hb dX11_clock_1 (by decide) ?_
  refine lv_bipush (v := 23) hx hb dX11_clock_2 (by decide) ?_
  obtain ⟨r3, g1, m2, hf⟩ := b2_ok hf
  refine hp_cI0 (cl_X11_129 cx hB (cX11_in l D cA v1 0 23 h _ g1 m2) ⟨Nat.le_of_ble_eq_true rfl, Nat.le_of_ble_eq_true rfl⟩ rfl hl.1 rfl (Nat.le_of_ble_eq_true rfl) ⟨Nat.le_of_ble_eq_true rfl, Nat.le_of_ble_eq_true rfl⟩ dX11_clock_4) rfl rfl hB (fun H locs hB => ?_)
  refine lv_if_eq (tgt := 35) hx hb dX11_clock_7 (by decide) (fun c5 => ?_) (fun c5 => ?_)
  · replace hf := it_t c5 hf
    refine lv_iconst (v := (-1)) hx hb dX11_clock_35 (by decide) ?_
    obtain ⟨rfl, rfl⟩ := rt_ok hf
    exact hp_iret cx hB hr hlk (Nat.le_of_ble_eq_true rfl) (Nat.le_of_ble_eq_true rfl) dX11_clock_36
  · replace hf := it_f c5 hf
    refine lv_iload_n hx hb dX11_clock_10 rfl (lv_at hl 2 rfl) ?_
    refine lv_iconst (v := 0) hx hb dX11_clock_11 (by decide) ?_
    refine lv_bipush (v := 23) hx hb dX11_clock_12 (by decide) ?_
    obtain ⟨r8, g6, m7, hf⟩ := b2_ok hf
    refine hp_cI0 (cl_X11_129 cx hB (cX11_in l D cA v2 0 23 g1 _ g6 m7) ⟨Nat.le_of_ble_eq_true rfl, Nat.le_of_ble_eq_true rfl⟩ rfl hl.1 rfl (Nat.le_of_ble_eq_true rfl) ⟨Nat.le_of_ble_eq_true rfl, Nat.le_of_ble_eq_true rfl⟩ dX11_clock_14) rfl rfl hB (fun H locs hB => ?_)
    refine lv_if_eq (tgt := 35) hx hb dX11_clock_17 (by decide) (fun c10 => ?_) (fun c10 => ?_)
    · replace hf := it_t c10 hf
      refine lv_iconst (v := (-1)) hx hb dX11_clock_35 (by decide) ?_
      obtain ⟨rfl, rfl⟩ := rt_ok hf
      exact hp_iret cx hB hr hlk (Nat.le_of_ble_eq_true rfl) (Nat.le_of_ble_eq_true rfl) dX11_clock_36
    · replace hf := it_f c10 hf
      refine lv_iload_n hx hb dX11_clock_20 rfl (lv_at hl 3 rfl) ?_
      obtain ⟨r13, g11, m12, hf⟩ := b2_ok hf
      refine hp_cI0 (cl_X11_134 cx hB (cX11_isNext l D cA v3 g6 _ g11 m12) ⟨Nat.le_of_ble_eq_true rfl, Nat.le_of_ble_eq_true rfl⟩ rfl hl.1 rfl (Nat.le_of_ble_eq_true rfl) ⟨Nat.le_of_ble_eq_true rfl, Nat.le_of_ble_eq_true rfl⟩ dX11_clock_21) rfl rfl hB (fun H locs hB => ?_)
      refine lv_if_eq (tgt := 35) hx hb dX11_clock_24 (by decide) (fun c15 => ?_) (fun c15 => ?_)
      · replace hf := it_t c15 hf
        refine lv_iconst (v := (-1)) hx hb dX11_clock_35 (by decide) ?_
        obtain ⟨rfl, rfl⟩ := rt_ok hf
        exact hp_iret cx hB hr hlk (Nat.le_of_ble_eq_true rfl) (Nat.le_of_ble_eq_true rfl) dX11_clock_36
      · replace hf := it_f c15 hf
        refine lv_iload hx hb dX11_clock_27 (lv_at hl 4 rfl) ?_
        obtain ⟨r18, g16, m17, hf⟩ := b2_ok hf
        refine hp_cI0 (cl_X11_134 cx hB (cX11_isNext l D cA v4 g11 _ g16 m17) ⟨Nat.le_of_ble_eq_true rfl, Nat.le_of_ble_eq_true rfl⟩ rfl hl.1 rfl (Nat.le_of_ble_eq_true rfl) ⟨Nat.le_of_ble_eq_true rfl, Nat.le_of_ble_eq_true rfl⟩ dX11_clock_29) rfl rfl hB (fun H locs hB => ?_)
        refine lv_if_ne (tgt := 37) hx hb dX11_clock_32 (by decide) (fun c20 => ?_) (fun c20 => ?_)
        · replace hf := it_f c20 hf
          refine lv_aload_n hx hb dX11_clock_37 rfl (lv_at hl 0 rfl) ?_
          obtain ⟨k21, hf⟩ := gk_ok hf
          refine gf_X11_125 cx hB k21 dX11_clock_38 ?_
          refine lv_bipush (v := 40) hx hb dX11_clock_41 (by decide) ?_
          refine lv_icmp_ne (tgt := 49) hx hb dX11_clock_43 (by decide) (fun c22 => ?_) (fun c22 => ?_)
          · replace hf := it_f c22 hf
            refine lv_aload_n hx hb dX11_clock_49 rfl (lv_at hl 0 rfl) ?_
            obtain ⟨a23, q24, hf⟩ := bd_ok hf
            refine gf_X11_28 cx hB k21 q24 dX11_clock_50 ?_
            refine lv_aload_n hx hb dX11_clock_53 rfl (lv_at hl 0 rfl) ?_
            refine gf_X11_125 cx hB k21 dX11_clock_54 ?_
            refine lv_iload_n hx hb dX11_clock_57 rfl (lv_at hl 1 rfl) ?_
            obtain ⟨k25, hf⟩ := gk_ok hf
            obtain ⟨j26, hf⟩ := gd_ok hf
            obtain ⟨g27, eg27, hf⟩ := nm_ok hf
            refine hp_iast cx hB k25 j26 dX11_clock_58 (fun H locs hB => ?_)
            rw [← eg27] at hB
            refine lv_aload_n hx hb dX11_clock_59 rfl (lv_at hl 0 rfl) ?_
            have k28 : g27.1 t0 = 12 := by rw [eg27]; exact k21
            obtain ⟨a29, q30, hf⟩ := bd_ok hf
            refine gf_X11_31 cx hB k28 q30 dX11_clock_60 ?_
            refine lv_aload_n hx hb dX11_clock_63 rfl (lv_at hl 0 rfl) ?_
            refine gf_X11_125 cx hB k28 dX11_clock_64 ?_
            refine lv_iload_n hx hb dX11_clock_67 rfl (lv_at hl 2 rfl) ?_
            obtain ⟨k31, hf⟩ := gk_ok hf
            obtain ⟨j32, hf⟩ := gd_ok hf
            obtain ⟨g33, eg33, hf⟩ := nm_ok hf
            refine hp_iast cx hB k31 j32 dX11_clock_68 (fun H locs hB => ?_)
            rw [← eg33] at hB
            refine lv_aload_n hx hb dX11_clock_69 rfl (lv_at hl 0 rfl) ?_
            refine lv_iconst (v := 3) hx hb dX11_clock_70 (by decide) ?_
            refine lv_iconst (v := 0) hx hb dX11_clock_71 (by decide) ?_
            refine lv_iload_n hx hb dX11_clock_72 rfl (lv_at hl 3 rfl) ?_
            refine lv_iload hx hb dX11_clock_73 (lv_at hl 4 rfl) ?_
            have k34 : g33.1 t0 = 12 := by rw [eg33]; exact k28
            obtain ⟨r37, g35, m36, hf⟩ := b2_ok hf
            refine hp_cI0 (cl_X11_138 cx hB (cX11_newPlace l D cA t0 3 0 v3 v4 g33 _ g35 m36) k34 ⟨Nat.le_of_ble_eq_true rfl, Nat.le_of_ble_eq_true rfl⟩ rfl hl.1 rfl (Nat.le_of_ble_eq_true rfl) ⟨Nat.le_of_ble_eq_true rfl, Nat.le_of_ble_eq_true rfl⟩ dX11_clock_75) rfl rfl hB (fun H locs hB => ?_)
            obtain ⟨rfl, rfl⟩ := rt_ok hf
            exact hp_iret cx hB hr hlk (Nat.le_of_ble_eq_true rfl) (Nat.le_of_ble_eq_true rfl) dX11_clock_78
          · replace hf := it_t c22 hf
            refine lv_bipush (v := (-3)) hx hb dX11_clock_46 (by decide) ?_
            obtain ⟨rfl, rfl⟩ := rt_ok hf
            exact hp_iret cx hB hr hlk (Nat.le_of_ble_eq_true rfl) (Nat.le_of_ble_eq_true rfl) dX11_clock_48
        · replace hf := it_t c20 hf
          refine lv_iconst (v := (-1)) hx hb dX11_clock_35 (by decide) ?_
          obtain ⟨rfl, rfl⟩ := rt_ok hf
          exact hp_iret cx hB hr hlk (Nat.le_of_ble_eq_true rfl) (Nat.le_of_ble_eq_true rfl) dX11_clock_36
end
set_option maxHeartbeats 4000000 in
set_option maxRecDepth 100000 in
theorem cX11_clock (l : Launch) (D : va_G) (cA : Nat → ClassId) (t0 : Nat) (v1 : Int32) (v2 : Int32) (v3 : Int32) (v4 : Int32) (h : Hp) (r : Int32) (h9 : Hp) (hf : fX11_clock t0 v1 v2 v3 v4 h = some (r, h9)) : hp_M l yX11_clock prog_13_method_12_code 5 (Option.some FieldType.int) rmX11_clock D cA h [.ref t0, .int v1, .int v2, .int v3, .int v4] (hp_Qi D cA h h9 r) := by
  refine Met.ofW (cc := prog_13_method_12_code) (maxL := 5) (ret := (Option.some FieldType.int)) (by decide) rfl ?_
  intro p e s m args below meth c s₁ B hml hv
  obtain ⟨rfl, hU⟩ := hv
  have hts := atoms_spec (ws := Cond.code yX11_clock prog_13_method_12_code 5 (Option.some FieldType.int) :: tbG) B.pre
  have hl := lv_entry ([.ref t0, .int v1, .int v2, .int v3, .int v4]) (n := 5) (Nat.le_of_ble_eq_true rfl)
  rw [lg_entry_eq]
  generalize (lg_sl ([.ref t0, .int v1, .int v2, .int v3, .int v4]) ++ List.replicate (5 - (lg_sl ([.ref t0, .int v1, .int v2, .int v3, .int v4])).length) Slot.unset).toArray = ls at hl ⊢
  exact tX11_clock_0 ⟨B.exec, B.bytes, hml, findClass_of_methodNamed B.named, fun w hw => hts w (List.mem_cons_of_mem _ hw)⟩ B.returns B.notSynchronized t0 v1 v2 v3 v4 h _ _ _ (hp_B.entry hU) hl hf
section
variable {p : Program} {l : Launch} {e : Env} {R : Room} {s : State} {m : MethodId} {args : Array Value} {below : List Frame} {meth : Method} {c : Code} {H : Heap} {locs : List Loc} {cells slots : Nat} {Q : State → Prop}
variable {cc : ByteArray} {pc nL : Nat} {ls : Array Slot} {rest : List Value} {D : va_G} {cA : Nat → ClassId} {A : Nat → Prop} {a : Nat} {h : Hp}
theorem gf_X11_34 (cx : CallFix p m c cc nL s args tbG RX11) (hB : hp_B D cA A s h H locs) (hka : h.1 a = 12) {b : Nat} (ho : h.2.2.2.1 a 9 = some b) (hdg : decode cc pc = .ok (.getfield 34, 3)) (kk : W p l e R s m args below meth c H locs cells slots Q (F0 m (pc + 3) ls (.ref b :: rest))) : W p l e R s m args below meth c H locs cells slots Q (F0 m pc ls (.ref a :: rest)) :=
  hp_getR cx hB (ci := 11) 9 rfl inX11 (by decide) rfl (by decide) rfl qw_741 hka (o := some b) ho.symm hdg kk
end
abbrev yX11_asked : MethodName := ⟨"SpokenMenusModel", "asked", "(IIIII)I"⟩
theorem dX11_asked_0 : decode prog_13_method_13_code 0 = .ok (.iload_n 1, 1) := by decide +kernel
theorem dX11_asked_1 : decode prog_13_method_13_code 1 = .ok (.iconst 1, 1) := by decide +kernel
theorem dX11_asked_2 : decode prog_13_method_13_code 2 = .ok (.sipush 200, 3) := by decide +kernel
theorem dX11_asked_5 : decode prog_13_method_13_code 5 = .ok (.invokestatic 129, 3) := by decide +kernel
theorem dX11_asked_8 : decode prog_13_method_13_code 8 = .ok (.ifCond .eq 38, 3) := by decide +kernel
theorem dX11_asked_11 : decode prog_13_method_13_code 11 = .ok (.iload_n 2, 1) := by decide +kernel
theorem dX11_asked_12 : decode prog_13_method_13_code 12 = .ok (.iconst 1, 1) := by decide +kernel
theorem dX11_asked_13 : decode prog_13_method_13_code 13 = .ok (.bipush 8, 2) := by decide +kernel
theorem dX11_asked_15 : decode prog_13_method_13_code 15 = .ok (.invokestatic 129, 3) := by decide +kernel
theorem dX11_asked_18 : decode prog_13_method_13_code 18 = .ok (.ifCond .eq 28, 3) := by decide +kernel
theorem dX11_asked_21 : decode prog_13_method_13_code 21 = .ok (.iload_n 3, 1) := by decide +kernel
theorem dX11_asked_22 : decode prog_13_method_13_code 22 = .ok (.iconst 1, 1) := by decide +kernel
theorem dX11_asked_23 : decode prog_13_method_13_code 23 = .ok (.iconst 3, 1) := by decide +kernel
theorem dX11_asked_24 : decode prog_13_method_13_code 24 = .ok (.invokestatic 129, 3) := by decide +kernel
theorem dX11_asked_27 : decode prog_13_method_13_code 27 = .ok (.ifCond .eq 19, 3) := by decide +kernel
theorem dX11_asked_30 : decode prog_13_method_13_code 30 = .ok (.iload 4, 2) := by decide +kernel
theorem dX11_asked_32 : decode prog_13_method_13_code 32 = .ok (.invokestatic 134, 3) := by decide +kernel
theorem dX11_asked_35 : decode prog_13_method_13_code 35 = .ok (.ifCond .eq 11, 3) := by decide +kernel
theorem dX11_asked_38 : decode prog_13_method_13_code 38 = .ok (.iload 5, 2) := by decide +kernel
theorem dX11_asked_40 : decode prog_13_method_13_code 40 = .ok (.invokestatic 134, 3) := by decide +kernel
theorem dX11_asked_43 : decode prog_13_method_13_code 43 = .ok (.ifCond .ne 5, 3) := by decide +kernel
theorem dX11_asked_46 : decode prog_13_method_13_code 46 = .ok (.iconst (-1), 1) := by decide +kernel
theorem dX11_asked_47 : decode prog_13_method_13_code 47 = .ok (.ireturn, 1) := by decide +kernel
theorem dX11_asked_48 : decode prog_13_method_13_code 48 = .ok (.aload_n 0, 1) := by decide +kernel
theorem dX11_asked_49 : decode prog_13_method_13_code 49 = .ok (.getfield 125, 3) := by decide +kernel
theorem dX11_asked_52 : decode prog_13_method_13_code 52 = .ok (.bipush 40, 2) := by decide +kernel
theorem dX11_asked_54 : decode prog_13_method_13_code 54 = .ok (.if_icmp .ne 6, 3) := by decide +kernel
theorem dX11_asked_57 : decode prog_13_method_13_code 57 = .ok (.bipush (-3), 2) := by decide +kernel
theorem dX11_asked_59 : decode prog_13_method_13_code 59 = .ok (.ireturn, 1) := by decide +kernel
theorem dX11_asked_60 : decode prog_13_method_13_code 60 = .ok (.aload_n 0, 1) := by decide +kernel
theorem dX11_asked_61 : decode prog_13_method_13_code 61 = .ok (.getfield 34, 3) := by decide +kernel
theorem dX11_asked_64 : decode prog_13_method_13_code 64 = .ok (.aload_n 0, 1) := by decide +kernel
theorem dX11_asked_65 : decode prog_13_method_13_code 65 = .ok (.getfield 125, 3) := by decide +kernel
theorem dX11_asked_68 : decode prog_13_method_13_code 68 = .ok (.iload_n 2, 1) := by decide +kernel
theorem dX11_asked_69 : decode prog_13_method_13_code 69 = .ok (.iastore, 1) := by decide +kernel
theorem dX11_asked_70 : decode prog_13_method_13_code 70 = .ok (.aload_n 0, 1) := by decide +kernel
theorem dX11_asked_71 : decode prog_13_method_13_code 71 = .ok (.getfield 16, 3) := by decide +kernel
theorem dX11_asked_74 : decode prog_13_method_13_code 74 = .ok (.aload_n 0, 1) := by decide +kernel
theorem dX11_asked_75 : decode prog_13_method_13_code 75 = .ok (.getfield 125, 3) := by decide +kernel
theorem dX11_asked_78 : decode prog_13_method_13_code 78 = .ok (.iload_n 3, 1) := by decide +kernel
theorem dX11_asked_79 : decode prog_13_method_13_code 79 = .ok (.iastore, 1) := by decide +kernel
theorem dX11_asked_80 : decode prog_13_method_13_code 80 = .ok (.aload_n 0, 1) := by decide +kernel
theorem dX11_asked_81 : decode prog_13_method_13_code 81 = .ok (.iconst 4, 1) := by decide +kernel
theorem dX11_asked_82 : decode prog_13_method_13_code 82 = .ok (.iload_n 1, 1) := by decide +kernel
theorem dX11_asked_83 : decode prog_13_method_13_code 83 = .ok (.iload 4, 2) := by decide +kernel
theorem dX11_asked_85 : decode prog_13_method_13_code 85 = .ok (.iload 5, 2) := by decide +kernel
theorem dX11_asked_87 : decode prog_13_method_13_code 87 = .ok (.invokevirtual 138, 3) := by decide +kernel
theorem dX11_asked_90 : decode prog_13_method_13_code 90 = .ok (.ireturn, 1) := by decide +kernel
abbrev rmX11_asked : Room := { frames := 2, cells := 0, slots := 0, locals := 42 }
def fX11_asked  (t0 : Nat) (v1 : Int32) (v2 : Int32) (v3 : Int32) (v4 : Int32) (v5 : Int32) (h : Hp) : Option (Int32 × Hp) :=
  b2 (fX11_in v1 1 200 h) fun r3 g1 =>
  if r3 = 0 then
  (some ((-1), g1))
  else
  (b2 (fX11_in v2 1 8 g1) fun r8 g6 =>
  if r8 = 0 then
  (some ((-1), g6))
  else
  (b2 (fX11_in v3 1 3 g6) fun r13 g11 =>
  if r13 = 0 then
  (some ((-1), g11))
  else
  (b2 (fX11_isNext v4 g11) fun r18 g16 =>
  if r18 = 0 then
  (some ((-1), g16))
  else
  (b2 (fX11_isNext v5 g16) fun r23 g21 =>
  if r23 = 0 then
  (some ((-1), g21))
  else
  (gk (g21.1 t0) 12 <|
  if (g21.2.2.1 t0 0) = 40 then
  (some ((-3), g21))
  else
  (bd (g21.2.2.2.1 t0 9) fun a28 =>
  gk (g21.1 a28) 13 <|
  gd (ix (g21.2.2.1 t0 0) (g21.2.1 a28)) <|
  nm (hp_si g21 a28 (Int32.toNatClampNeg (g21.2.2.1 t0 0)) v2) fun g32 =>
  bd (g32.2.2.2.1 t0 3) fun a34 =>
  gk (g32.1 a34) 13 <|
  gd (ix (g32.2.2.1 t0 0) (g32.2.1 a34)) <|
  nm (hp_si g32 a34 (Int32.toNatClampNeg (g32.2.2.1 t0 0)) v3) fun g38 =>
  b2 (fX11_newPlace t0 4 v1 v4 v5 g38) fun r42 g40 =>
  some (r42, g40)))))))
section
variable {p : Program} {l : Launch} {e : Env} {s : State} {m : MethodId} {args : Array Value} {below : List Frame} {meth : Method} {c : Code} {D : va_G} {cA : Nat → ClassId} {h0 h9 : Hp}
set_option maxHeartbeats 4000000 in
set_option maxRecDepth 100000 in
theorem tX11_asked_0  {r : Int32} (cx : CallFix p m c prog_13_method_13_code 6 s args tbG RX11) (hr : meth.sig.returnType = (Option.some FieldType.int)) (hlk : meth.locks = false)  (t0 : Nat) (v1 : Int32) (v2 : Int32) (v3 : Int32) (v4 : Int32) (v5 : Int32) (h : Hp) (H : Heap) (locs : List Loc) (ls : Array Slot) (hB : hp_B D cA (hp_A h0) s h H locs) (hl : lv_has ls 6 [(0, .ref t0), (1, .int v1), (2, .int v2), (3, .int v3), (4, .int v4), (5, .int v5)]) (hf : fX11_asked  t0 v1 v2 v3 v4 v5 h = some (r, h9)) : W p l e rmX11_asked s m args below meth c H locs 0 0 (MQ below (hp_Qi D cA h0 h9 r) args s 0 0 (hp_A h0)) (F0 m 0 ls []) := by
  obtain ⟨hx, hb, -⟩ := id cx
  unfold fX11_asked at hf
  refine lv_iload_n hx hb dX11_asked_0 rfl (lv_at hl 1 rfl) ?_
  refine lv_iconst (v := 1) hx hb dX11_asked_1 (by decide) ?_
  refine lv_sipush (v := 200) hx hb dX11_asked_2 (by decide) ?_
  obtain ⟨r3, g1, m2, hf⟩ := b2_ok hf
  refine hp_cI0 (cl_X11_129 cx hB (cX11_in l D cA v1 1 200 h _ g1 m2) ⟨Nat.le_of_ble_eq_true rfl, Nat.le_of_ble_eq_true rfl⟩ rfl hl.1 rfl (Nat.le_of_ble_eq_true rfl) ⟨Nat.le_of_ble_eq_true rfl, Nat.le_of_ble_eq_true rfl⟩ dX11_asked_5) rfl rfl hB (fun H locs hB => ?_)
  refine lv_if_eq (tgt := 46) hx hb dX11_asked_8 (by decide) (fun c5 => ?_) (fun c5 => ?_)
  · replace hf := it_t c5 hf
    refine lv_iconst (v := (-1)) hx hb dX11_asked_46 (by decide) ?_
    obtain ⟨rfl, rfl⟩ := rt_ok hf
    exact hp_iret cx hB hr hlk (Nat.le_of_ble_eq_true rfl) (Nat.le_of_ble_eq_true rfl) dX11_asked_47
  · replace hf := it_f c5 hf
    refine lv_iload_n hx hb dX11_asked_11 rfl (lv_at hl 2 rfl) ?_
    refine lv_iconst (v := 1) hx hb dX11_asked_12 (by decide) ?_
    refine lv_bipush (v := 8) hx hb dX11_asked_13 (by decide) ?_
    obtain ⟨r8, g6, m7, hf⟩ := b2_ok hf
    refine hp_cI0 (cl_X11_129 cx hB (cX11_in l D cA v2 1 8 g1 _ g6 m7) ⟨Nat.le_of_ble_eq_true rfl, Nat.le_of_ble_eq_true rfl⟩ rfl hl.1 rfl (Nat.le_of_ble_eq_true rfl) ⟨Nat.le_of_ble_eq_true rfl, Nat.le_of_ble_eq_true rfl⟩ dX11_asked_15) rfl rfl hB (fun H locs hB => ?_)
    refine lv_if_eq (tgt := 46) hx hb dX11_asked_18 (by decide) (fun c10 => ?_) (fun c10 => ?_)
    · replace hf := it_t c10 hf
      refine lv_iconst (v := (-1)) hx hb dX11_asked_46 (by decide) ?_
      obtain ⟨rfl, rfl⟩ := rt_ok hf
      exact hp_iret cx hB hr hlk (Nat.le_of_ble_eq_true rfl) (Nat.le_of_ble_eq_true rfl) dX11_asked_47
    · replace hf := it_f c10 hf
      refine lv_iload_n hx hb dX11_asked_21 rfl (lv_at hl 3 rfl) ?_
      refine lv_iconst (v := 1) hx hb dX11_asked_22 (by decide) ?_
      refine lv_iconst (v := 3) hx hb dX11_asked_23 (by decide) ?_
      obtain ⟨r13, g11, m12, hf⟩ := b2_ok hf
      refine hp_cI0 (cl_X11_129 cx hB (cX11_in l D cA v3 1 3 g6 _ g11 m12) ⟨Nat.le_of_ble_eq_true rfl, Nat.le_of_ble_eq_true rfl⟩ rfl hl.1 rfl (Nat.le_of_ble_eq_true rfl) ⟨Nat.le_of_ble_eq_true rfl, Nat.le_of_ble_eq_true rfl⟩ dX11_asked_24) rfl rfl hB (fun H locs hB => ?_)
      refine lv_if_eq (tgt := 46) hx hb dX11_asked_27 (by decide) (fun c15 => ?_) (fun c15 => ?_)
      · replace hf := it_t c15 hf
        refine lv_iconst (v := (-1)) hx hb dX11_asked_46 (by decide) ?_
        obtain ⟨rfl, rfl⟩ := rt_ok hf
        exact hp_iret cx hB hr hlk (Nat.le_of_ble_eq_true rfl) (Nat.le_of_ble_eq_true rfl) dX11_asked_47
      · replace hf := it_f c15 hf
        refine lv_iload hx hb dX11_asked_30 (lv_at hl 4 rfl) ?_
        obtain ⟨r18, g16, m17, hf⟩ := b2_ok hf
        refine hp_cI0 (cl_X11_134 cx hB (cX11_isNext l D cA v4 g11 _ g16 m17) ⟨Nat.le_of_ble_eq_true rfl, Nat.le_of_ble_eq_true rfl⟩ rfl hl.1 rfl (Nat.le_of_ble_eq_true rfl) ⟨Nat.le_of_ble_eq_true rfl, Nat.le_of_ble_eq_true rfl⟩ dX11_asked_32) rfl rfl hB (fun H locs hB => ?_)
        refine lv_if_eq (tgt := 46) hx hb dX11_asked_35 (by decide) (fun c20 => ?_) (fun c20 => ?_)
        · replace hf := it_t c20 hf
          refine lv_iconst (v := (-1)) hx hb dX11_asked_46 (by decide) ?_
          obtain ⟨rfl, rfl⟩ := rt_ok hf
          exact hp_iret cx hB hr hlk (Nat.le_of_ble_eq_true rfl) (Nat.le_of_ble_eq_true rfl) dX11_asked_47
        · replace hf := it_f c20 hf
          refine lv_iload hx hb dX11_asked_38 (lv_at hl 5 rfl) ?_
          obtain ⟨r23, g21, m22, hf⟩ := b2_ok hf
          refine hp_cI0 (cl_X11_134 cx hB (cX11_isNext l D cA v5 g16 _ g21 m22) ⟨Nat.le_of_ble_eq_true rfl, Nat.le_of_ble_eq_true rfl⟩ rfl hl.1 rfl (Nat.le_of_ble_eq_true rfl) ⟨Nat.le_of_ble_eq_true rfl, Nat.le_of_ble_eq_true rfl⟩ dX11_asked_40) rfl rfl hB (fun H locs hB => ?_)
          refine lv_if_ne (tgt := 48) hx hb dX11_asked_43 (by decide) (fun c25 => ?_) (fun c25 => ?_)
          · replace hf := it_f c25 hf
            refine lv_aload_n hx hb dX11_asked_48 rfl (lv_at hl 0 rfl) ?_
            obtain ⟨k26, hf⟩ := gk_ok hf
            refine gf_X11_125 cx hB k26 dX11_asked_49 ?_
            refine lv_bipush (v := 40) hx hb dX11_asked_52 (by decide) ?_
            refine lv_icmp_ne (tgt := 60) hx hb dX11_asked_54 (by decide) (fun c27 => ?_) (fun c27 => ?_)
            · replace hf := it_f c27 hf
              refine lv_aload_n hx hb dX11_asked_60 rfl (lv_at hl 0 rfl) ?_
              obtain ⟨a28, q29, hf⟩ := bd_ok hf
              refine gf_X11_34 cx hB k26 q29 dX11_asked_61 ?_
              refine lv_aload_n hx hb dX11_asked_64 rfl (lv_at hl 0 rfl) ?_
              refine gf_X11_125 cx hB k26 dX11_asked_65 ?_
              refine lv_iload_n hx hb dX11_asked_68 rfl (lv_at hl 2 rfl) ?_
              obtain ⟨k30, hf⟩ := gk_ok hf
              obtain ⟨j31, hf⟩ := gd_ok hf
              obtain ⟨g32, eg32, hf⟩ := nm_ok hf
              refine hp_iast cx hB k30 j31 dX11_asked_69 (fun H locs hB => ?_)
              rw [← eg32] at hB
              refine lv_aload_n hx hb dX11_asked_70 rfl (lv_at hl 0 rfl) ?_
              have k33 : g32.1 t0 = 12 := by rw [eg32]; exact k26
              obtain ⟨a34, q35, hf⟩ := bd_ok hf
              refine gf_X11_16 cx hB k33 q35 dX11_asked_71 ?_
              refine lv_aload_n hx hb dX11_asked_74 rfl (lv_at hl 0 rfl) ?_
              refine gf_X11_125 cx hB k33 dX11_asked_75 ?_
              refine lv_iload_n hx hb dX11_asked_78 rfl (lv_at hl 3 rfl) ?_
              obtain ⟨k36, hf⟩ := gk_ok hf
              obtain ⟨j37, hf⟩ := gd_ok hf
              obtain ⟨g38, eg38, hf⟩ := nm_ok hf
              refine hp_iast cx hB k36 j37 dX11_asked_79 (fun H locs hB => ?_)
              rw [← eg38] at hB
              refine lv_aload_n hx hb dX11_asked_80 rfl (lv_at hl 0 rfl) ?_
              refine lv_iconst (v := 4) hx hb dX11_asked_81 (by decide) ?_
              refine lv_iload_n hx hb dX11_asked_82 rfl (lv_at hl 1 rfl) ?_
              refine lv_iload hx hb dX11_asked_83 (lv_at hl 4 rfl) ?_
              refine lv_iload hx hb dX11_asked_85 (lv_at hl 5 rfl) ?_
              have k39 : g38.1 t0 = 12 := by rw [eg38]; exact k33
              obtain ⟨r42, g40, m41, hf⟩ := b2_ok hf
              refine hp_cI0 (cl_X11_138 cx hB (cX11_newPlace l D cA t0 4 v1 v4 v5 g38 _ g40 m41) k39 ⟨Nat.le_of_ble_eq_true rfl, Nat.le_of_ble_eq_true rfl⟩ rfl hl.1 rfl (Nat.le_of_ble_eq_true rfl) ⟨Nat.le_of_ble_eq_true rfl, Nat.le_of_ble_eq_true rfl⟩ dX11_asked_87) rfl rfl hB (fun H locs hB => ?_)
              obtain ⟨rfl, rfl⟩ := rt_ok hf
              exact hp_iret cx hB hr hlk (Nat.le_of_ble_eq_true rfl) (Nat.le_of_ble_eq_true rfl) dX11_asked_90
            · replace hf := it_t c27 hf
              refine lv_bipush (v := (-3)) hx hb dX11_asked_57 (by decide) ?_
              obtain ⟨rfl, rfl⟩ := rt_ok hf
              exact hp_iret cx hB hr hlk (Nat.le_of_ble_eq_true rfl) (Nat.le_of_ble_eq_true rfl) dX11_asked_59
          · replace hf := it_t c25 hf
            refine lv_iconst (v := (-1)) hx hb dX11_asked_46 (by decide) ?_
            obtain ⟨rfl, rfl⟩ := rt_ok hf
            exact hp_iret cx hB hr hlk (Nat.le_of_ble_eq_true rfl) (Nat.le_of_ble_eq_true rfl) dX11_asked_47
end
set_option maxHeartbeats 4000000 in
set_option maxRecDepth 100000 in
theorem cX11_asked (l : Launch) (D : va_G) (cA : Nat → ClassId) (t0 : Nat) (v1 : Int32) (v2 : Int32) (v3 : Int32) (v4 : Int32) (v5 : Int32) (h : Hp) (r : Int32) (h9 : Hp) (hf : fX11_asked t0 v1 v2 v3 v4 v5 h = some (r, h9)) : hp_M l yX11_asked prog_13_method_13_code 6 (Option.some FieldType.int) rmX11_asked D cA h [.ref t0, .int v1, .int v2, .int v3, .int v4, .int v5] (hp_Qi D cA h h9 r) := by
  refine Met.ofW (cc := prog_13_method_13_code) (maxL := 6) (ret := (Option.some FieldType.int)) (by decide) rfl ?_
  intro p e s m args below meth c s₁ B hml hv
  obtain ⟨rfl, hU⟩ := hv
  have hts := atoms_spec (ws := Cond.code yX11_asked prog_13_method_13_code 6 (Option.some FieldType.int) :: tbG) B.pre
  have hl := lv_entry ([.ref t0, .int v1, .int v2, .int v3, .int v4, .int v5]) (n := 6) (Nat.le_of_ble_eq_true rfl)
  rw [lg_entry_eq]
  generalize (lg_sl ([.ref t0, .int v1, .int v2, .int v3, .int v4, .int v5]) ++ List.replicate (6 - (lg_sl ([.ref t0, .int v1, .int v2, .int v3, .int v4, .int v5])).length) Slot.unset).toArray = ls at hl ⊢
  exact tX11_asked_0 ⟨B.exec, B.bytes, hml, findClass_of_methodNamed B.named, fun w hw => hts w (List.mem_cons_of_mem _ hw)⟩ B.returns B.notSynchronized t0 v1 v2 v3 v4 v5 h _ _ _ (hp_B.entry hU) hl hf
abbrev yX11_isLine : MethodName := ⟨"SpokenMenusModel", "isLine", "(II)Z"⟩
theorem dX11_isLine_0 : decode prog_13_method_14_code 0 = .ok (.aload_n 0, 1) := by decide +kernel
theorem dX11_isLine_1 : decode prog_13_method_14_code 1 = .ok (.iload_n 1, 1) := by decide +kernel
theorem dX11_isLine_2 : decode prog_13_method_14_code 2 = .ok (.invokevirtual 145, 3) := by decide +kernel
theorem dX11_isLine_5 : decode prog_13_method_14_code 5 = .ok (.ifCond .eq 23, 3) := by decide +kernel
theorem dX11_isLine_8 : decode prog_13_method_14_code 8 = .ok (.iload_n 2, 1) := by decide +kernel
theorem dX11_isLine_9 : decode prog_13_method_14_code 9 = .ok (.iconst 0, 1) := by decide +kernel
theorem dX11_isLine_10 : decode prog_13_method_14_code 10 = .ok (.aload_n 0, 1) := by decide +kernel
theorem dX11_isLine_11 : decode prog_13_method_14_code 11 = .ok (.getfield 37, 3) := by decide +kernel
theorem dX11_isLine_14 : decode prog_13_method_14_code 14 = .ok (.iload_n 1, 1) := by decide +kernel
theorem dX11_isLine_15 : decode prog_13_method_14_code 15 = .ok (.iaload, 1) := by decide +kernel
theorem dX11_isLine_16 : decode prog_13_method_14_code 16 = .ok (.iconst 1, 1) := by decide +kernel
theorem dX11_isLine_17 : decode prog_13_method_14_code 17 = .ok (.isub, 1) := by decide +kernel
theorem dX11_isLine_18 : decode prog_13_method_14_code 18 = .ok (.invokestatic 129, 3) := by decide +kernel
theorem dX11_isLine_21 : decode prog_13_method_14_code 21 = .ok (.ifCond .eq 7, 3) := by decide +kernel
theorem dX11_isLine_24 : decode prog_13_method_14_code 24 = .ok (.iconst 1, 1) := by decide +kernel
theorem dX11_isLine_25 : decode prog_13_method_14_code 25 = .ok (.goto 4, 3) := by decide +kernel
theorem dX11_isLine_28 : decode prog_13_method_14_code 28 = .ok (.iconst 0, 1) := by decide +kernel
theorem dX11_isLine_29 : decode prog_13_method_14_code 29 = .ok (.ireturn, 1) := by decide +kernel
abbrev rmX11_isLine : Room := { frames := 3, cells := 0, slots := 0, locals := 64 }
def fX11_isLine  (t0 : Nat) (v1 : Int32) (v2 : Int32) (h : Hp) : Option (Int32 × Hp) :=
  gk (h.1 t0) 12 <|
  b2 (fX11_isMenu t0 v1 h) fun r4 g2 =>
  if r4 = 0 then
  (some (0, g2))
  else
  (gk (g2.1 t0) 12 <|
  bd (g2.2.2.2.1 t0 10) fun a8 =>
  gk (g2.1 a8) 13 <|
  gd (ix v1 (g2.2.1 a8)) <|
  b2 (fX11_in v2 0 ((g2.2.2.1 a8 (Int32.toNatClampNeg v1)) - 1) g2) fun r14 g12 =>
  if r14 = 0 then
  (some (0, g12))
  else
  (some (1, g12)))
section
variable {p : Program} {l : Launch} {e : Env} {s : State} {m : MethodId} {args : Array Value} {below : List Frame} {meth : Method} {c : Code} {D : va_G} {cA : Nat → ClassId} {h0 h9 : Hp}
set_option maxHeartbeats 4000000 in
set_option maxRecDepth 100000 in
theorem tX11_isLine_0  {r : Int32} (cx : CallFix p m c prog_13_method_14_code 3 s args tbG RX11) (hr : meth.sig.returnType = (Option.some FieldType.boolean)) (hlk : meth.locks = false)  (t0 : Nat) (v1 : Int32) (v2 : Int32) (h : Hp) (H : Heap) (locs : List Loc) (ls : Array Slot) (hB : hp_B D cA (hp_A h0) s h H locs) (hl : lv_has ls 3 [(0, .ref t0), (1, .int v1), (2, .int v2)]) (hf : fX11_isLine  t0 v1 v2 h = some (r, h9)) : W p l e rmX11_isLine s m args below meth c H locs 0 0 (MQ below (hp_Qi D cA h0 h9 r) args s 0 0 (hp_A h0)) (F0 m 0 ls []) := by
  obtain ⟨hx, hb, -⟩ := id cx
  unfold fX11_isLine at hf
  refine lv_aload_n hx hb dX11_isLine_0 rfl (lv_at hl 0 rfl) ?_
  refine lv_iload_n hx hb dX11_isLine_1 rfl (lv_at hl 1 rfl) ?_
  obtain ⟨k1, hf⟩ := gk_ok hf
  obtain ⟨r4, g2, m3, hf⟩ := b2_ok hf
  refine hp_cI0 (cl_X11_145 cx hB (cX11_isMenu l D cA t0 v1 h _ g2 m3) k1 ⟨Nat.le_of_ble_eq_true rfl, Nat.le_of_ble_eq_true rfl⟩ rfl hl.1 rfl (Nat.le_of_ble_eq_true rfl) ⟨Nat.le_of_ble_eq_true rfl, Nat.le_of_ble_eq_true rfl⟩ dX11_isLine_2) rfl rfl hB (fun H locs hB => ?_)
  refine lv_if_eq (tgt := 28) hx hb dX11_isLine_5 (by decide) (fun c6 => ?_) (fun c6 => ?_)
  · replace hf := it_t c6 hf
    refine lv_iconst (v := 0) hx hb dX11_isLine_28 (by decide) ?_
    obtain ⟨rfl, rfl⟩ := rt_ok hf
    exact hp_zret cx hB hr hlk (Nat.le_of_ble_eq_true rfl) (Nat.le_of_ble_eq_true rfl) rfl dX11_isLine_29
  · replace hf := it_f c6 hf
    refine lv_iload_n hx hb dX11_isLine_8 rfl (lv_at hl 2 rfl) ?_
    refine lv_iconst (v := 0) hx hb dX11_isLine_9 (by decide) ?_
    refine lv_aload_n hx hb dX11_isLine_10 rfl (lv_at hl 0 rfl) ?_
    obtain ⟨k7, hf⟩ := gk_ok hf
    obtain ⟨a8, q9, hf⟩ := bd_ok hf
    refine gf_X11_37 cx hB k7 q9 dX11_isLine_11 ?_
    refine lv_iload_n hx hb dX11_isLine_14 rfl (lv_at hl 1 rfl) ?_
    obtain ⟨k10, hf⟩ := gk_ok hf
    obtain ⟨j11, hf⟩ := gd_ok hf
    refine hp_iald cx hB k10 j11 dX11_isLine_15 ?_
    refine lv_iconst (v := 1) hx hb dX11_isLine_16 (by decide) ?_
    refine lv_isub hx hb dX11_isLine_17 ?_
    obtain ⟨r14, g12, m13, hf⟩ := b2_ok hf
    refine hp_cI0 (cl_X11_129 cx hB (cX11_in l D cA v2 0 ((g2.2.2.1 a8 (Int32.toNatClampNeg v1)) - 1) g2 _ g12 m13) ⟨Nat.le_of_ble_eq_true rfl, Nat.le_of_ble_eq_true rfl⟩ rfl hl.1 rfl (Nat.le_of_ble_eq_true rfl) ⟨Nat.le_of_ble_eq_true rfl, Nat.le_of_ble_eq_true rfl⟩ dX11_isLine_18) rfl rfl hB (fun H locs hB => ?_)
    refine lv_if_eq (tgt := 28) hx hb dX11_isLine_21 (by decide) (fun c16 => ?_) (fun c16 => ?_)
    · replace hf := it_t c16 hf
      refine lv_iconst (v := 0) hx hb dX11_isLine_28 (by decide) ?_
      obtain ⟨rfl, rfl⟩ := rt_ok hf
      exact hp_zret cx hB hr hlk (Nat.le_of_ble_eq_true rfl) (Nat.le_of_ble_eq_true rfl) rfl dX11_isLine_29
    · replace hf := it_f c16 hf
      refine lv_iconst (v := 1) hx hb dX11_isLine_24 (by decide) ?_
      refine lv_goto (tgt := 29) hx hb dX11_isLine_25 (by decide) ?_
      obtain ⟨rfl, rfl⟩ := rt_ok hf
      exact hp_zret cx hB hr hlk (Nat.le_of_ble_eq_true rfl) (Nat.le_of_ble_eq_true rfl) rfl dX11_isLine_29
end
set_option maxHeartbeats 4000000 in
set_option maxRecDepth 100000 in
theorem cX11_isLine (l : Launch) (D : va_G) (cA : Nat → ClassId) (t0 : Nat) (v1 : Int32) (v2 : Int32) (h : Hp) (r : Int32) (h9 : Hp) (hf : fX11_isLine t0 v1 v2 h = some (r, h9)) : hp_M l yX11_isLine prog_13_method_14_code 3 (Option.some FieldType.boolean) rmX11_isLine D cA h [.ref t0, .int v1, .int v2] (hp_Qi D cA h h9 r) := by
  refine Met.ofW (cc := prog_13_method_14_code) (maxL := 3) (ret := (Option.some FieldType.boolean)) (by decide) rfl ?_
  intro p e s m args below meth c s₁ B hml hv
  obtain ⟨rfl, hU⟩ := hv
  have hts := atoms_spec (ws := Cond.code yX11_isLine prog_13_method_14_code 3 (Option.some FieldType.boolean) :: tbG) B.pre
  have hl := lv_entry ([.ref t0, .int v1, .int v2]) (n := 3) (Nat.le_of_ble_eq_true rfl)
  rw [lg_entry_eq]
  generalize (lg_sl ([.ref t0, .int v1, .int v2]) ++ List.replicate (3 - (lg_sl ([.ref t0, .int v1, .int v2])).length) Slot.unset).toArray = ls at hl ⊢
  exact tX11_isLine_0 ⟨B.exec, B.bytes, hml, findClass_of_methodNamed B.named, fun w hw => hts w (List.mem_cons_of_mem _ hw)⟩ B.returns B.notSynchronized t0 v1 v2 h _ _ _ (hp_B.entry hU) hl hf
section
variable {p : Program} {l : Launch} {e : Env} {R : Room} {s : State} {m : MethodId} {args : Array Value} {below : List Frame} {meth : Method} {c : Code} {H : Heap} {locs : List Loc} {cells slots : Nat} {Q : State → Prop}
variable {cc : ByteArray} {pc nL : Nat} {ls : Array Slot} {rest : List Value} {D : va_G} {cA : Nat → ClassId} {A : Nat → Prop} {a : Nat} {h : Hp}
theorem cl_X11_151 {As st0 : List Value} {b : Nat} {Qc : Array Value → State → Outcome → State → Prop} (cx : CallFix p m c cc nL s args tbG RX11) (hB : hp_B D cA A s h H locs) (hM : hp_M l yX11_isLine prog_13_method_14_code 3 (Option.some FieldType.boolean) rmX11_isLine D cA h (.ref b :: As) Qc) (hkb : h.1 b = 12) (hR : rmX11_isLine.frames + 1 ≤ R.frames ∧ 8 + (3 + 11) + rmX11_isLine.locals ≤ R.locals) (hn : As.length = 2) (hls : ls.size = nL) (hst : st0 = As.reverse ++ .ref b :: rest) (hW : (rest.map fun v => v.category).sum ≤ 8) (hf : cells + rmX11_isLine.cells ≤ R.cells ∧ slots + rmX11_isLine.slots ≤ R.slots) (hdg : decode cc pc = .ok (.invokevirtual 151, 3)) :
    va_Run p l e R s m args below meth c H locs cells slots rmX11_isLine.cells rmX11_isLine.slots (F0 m pc ls st0) rest (Qc (Value.ref b :: As).toArray) (hp_A h) :=
  hp_runV cx hB hM (ci := 11) rfl (by decide) hkb qw_957 qw_954 qw_956 qp_19 qw_10 (by decide +kernel) hR hn hls hst hW hf hdg
end
abbrev yX11_change : MethodName := ⟨"SpokenMenusModel", "change", "(IIII)I"⟩
theorem dX11_change_0 : decode prog_13_method_15_code 0 = .ok (.aload_n 0, 1) := by decide +kernel
theorem dX11_change_1 : decode prog_13_method_15_code 1 = .ok (.iload_n 1, 1) := by decide +kernel
theorem dX11_change_2 : decode prog_13_method_15_code 2 = .ok (.iload_n 2, 1) := by decide +kernel
theorem dX11_change_3 : decode prog_13_method_15_code 3 = .ok (.invokevirtual 151, 3) := by decide +kernel
theorem dX11_change_6 : decode prog_13_method_15_code 6 = .ok (.ifCond .eq 55, 3) := by decide +kernel
theorem dX11_change_9 : decode prog_13_method_15_code 9 = .ok (.iload_n 3, 1) := by decide +kernel
theorem dX11_change_10 : decode prog_13_method_15_code 10 = .ok (.iconst 0, 1) := by decide +kernel
theorem dX11_change_11 : decode prog_13_method_15_code 11 = .ok (.iconst 2, 1) := by decide +kernel
theorem dX11_change_12 : decode prog_13_method_15_code 12 = .ok (.invokestatic 129, 3) := by decide +kernel
theorem dX11_change_15 : decode prog_13_method_15_code 15 = .ok (.ifCond .eq 46, 3) := by decide +kernel
theorem dX11_change_18 : decode prog_13_method_15_code 18 = .ok (.iload_n 3, 1) := by decide +kernel
theorem dX11_change_19 : decode prog_13_method_15_code 19 = .ok (.ifCond .ne 18, 3) := by decide +kernel
theorem dX11_change_22 : decode prog_13_method_15_code 22 = .ok (.iload 4, 2) := by decide +kernel
theorem dX11_change_24 : decode prog_13_method_15_code 24 = .ok (.iconst 1, 1) := by decide +kernel
theorem dX11_change_25 : decode prog_13_method_15_code 25 = .ok (.sipush 200, 3) := by decide +kernel
theorem dX11_change_28 : decode prog_13_method_15_code 28 = .ok (.invokestatic 129, 3) := by decide +kernel
theorem dX11_change_31 : decode prog_13_method_15_code 31 = .ok (.ifCond .eq 30, 3) := by decide +kernel
theorem dX11_change_34 : decode prog_13_method_15_code 34 = .ok (.goto 31, 3) := by decide +kernel
theorem dX11_change_37 : decode prog_13_method_15_code 37 = .ok (.iload_n 3, 1) := by decide +kernel
theorem dX11_change_38 : decode prog_13_method_15_code 38 = .ok (.iconst 1, 1) := by decide +kernel
theorem dX11_change_39 : decode prog_13_method_15_code 39 = .ok (.if_icmp .ne 14, 3) := by decide +kernel
theorem dX11_change_42 : decode prog_13_method_15_code 42 = .ok (.iload 4, 2) := by decide +kernel
theorem dX11_change_44 : decode prog_13_method_15_code 44 = .ok (.invokestatic 148, 3) := by decide +kernel
theorem dX11_change_47 : decode prog_13_method_15_code 47 = .ok (.ifCond .eq 14, 3) := by decide +kernel
theorem dX11_change_50 : decode prog_13_method_15_code 50 = .ok (.goto 15, 3) := by decide +kernel
theorem dX11_change_53 : decode prog_13_method_15_code 53 = .ok (.iload 4, 2) := by decide +kernel
theorem dX11_change_55 : decode prog_13_method_15_code 55 = .ok (.invokestatic 134, 3) := by decide +kernel
theorem dX11_change_58 : decode prog_13_method_15_code 58 = .ok (.ifCond .ne 7, 3) := by decide +kernel
theorem dX11_change_61 : decode prog_13_method_15_code 61 = .ok (.sipush (-1000), 3) := by decide +kernel
theorem dX11_change_64 : decode prog_13_method_15_code 64 = .ok (.ireturn, 1) := by decide +kernel
theorem dX11_change_65 : decode prog_13_method_15_code 65 = .ok (.bipush 6, 2) := by decide +kernel
theorem dX11_change_67 : decode prog_13_method_15_code 67 = .ok (.iload_n 1, 1) := by decide +kernel
theorem dX11_change_68 : decode prog_13_method_15_code 68 = .ok (.imul, 1) := by decide +kernel
theorem dX11_change_69 : decode prog_13_method_15_code 69 = .ok (.iload_n 2, 1) := by decide +kernel
theorem dX11_change_70 : decode prog_13_method_15_code 70 = .ok (.iadd, 1) := by decide +kernel
theorem dX11_change_71 : decode prog_13_method_15_code 71 = .ok (.istore 5, 2) := by decide +kernel
theorem dX11_change_73 : decode prog_13_method_15_code 73 = .ok (.iload_n 3, 1) := by decide +kernel
theorem dX11_change_74 : decode prog_13_method_15_code 74 = .ok (.ifCond .ne 13, 3) := by decide +kernel
theorem dX11_change_77 : decode prog_13_method_15_code 77 = .ok (.aload_n 0, 1) := by decide +kernel
theorem dX11_change_78 : decode prog_13_method_15_code 78 = .ok (.getfield 40, 3) := by decide +kernel
theorem dX11_change_81 : decode prog_13_method_15_code 81 = .ok (.iload 5, 2) := by decide +kernel
theorem dX11_change_83 : decode prog_13_method_15_code 83 = .ok (.iaload, 1) := by decide +kernel
theorem dX11_change_84 : decode prog_13_method_15_code 84 = .ok (.goto 25, 3) := by decide +kernel
theorem dX11_change_87 : decode prog_13_method_15_code 87 = .ok (.iload_n 3, 1) := by decide +kernel
theorem dX11_change_88 : decode prog_13_method_15_code 88 = .ok (.iconst 1, 1) := by decide +kernel
theorem dX11_change_89 : decode prog_13_method_15_code 89 = .ok (.if_icmp .ne 13, 3) := by decide +kernel
theorem dX11_change_92 : decode prog_13_method_15_code 92 = .ok (.aload_n 0, 1) := by decide +kernel
theorem dX11_change_93 : decode prog_13_method_15_code 93 = .ok (.getfield 46, 3) := by decide +kernel
theorem dX11_change_96 : decode prog_13_method_15_code 96 = .ok (.iload 5, 2) := by decide +kernel
theorem dX11_change_98 : decode prog_13_method_15_code 98 = .ok (.iaload, 1) := by decide +kernel
theorem dX11_change_99 : decode prog_13_method_15_code 99 = .ok (.goto 10, 3) := by decide +kernel
theorem dX11_change_102 : decode prog_13_method_15_code 102 = .ok (.aload_n 0, 1) := by decide +kernel
theorem dX11_change_103 : decode prog_13_method_15_code 103 = .ok (.getfield 49, 3) := by decide +kernel
theorem dX11_change_106 : decode prog_13_method_15_code 106 = .ok (.iload 5, 2) := by decide +kernel
theorem dX11_change_108 : decode prog_13_method_15_code 108 = .ok (.iaload, 1) := by decide +kernel
theorem dX11_change_109 : decode prog_13_method_15_code 109 = .ok (.istore 6, 2) := by decide +kernel
theorem dX11_change_111 : decode prog_13_method_15_code 111 = .ok (.aload_n 0, 1) := by decide +kernel
theorem dX11_change_112 : decode prog_13_method_15_code 112 = .ok (.getfield 40, 3) := by decide +kernel
theorem dX11_change_115 : decode prog_13_method_15_code 115 = .ok (.iload 5, 2) := by decide +kernel
theorem dX11_change_117 : decode prog_13_method_15_code 117 = .ok (.iload_n 3, 1) := by decide +kernel
theorem dX11_change_118 : decode prog_13_method_15_code 118 = .ok (.ifCond .ne 8, 3) := by decide +kernel
theorem dX11_change_121 : decode prog_13_method_15_code 121 = .ok (.iload 4, 2) := by decide +kernel
theorem dX11_change_123 : decode prog_13_method_15_code 123 = .ok (.goto 10, 3) := by decide +kernel
theorem dX11_change_126 : decode prog_13_method_15_code 126 = .ok (.aload_n 0, 1) := by decide +kernel
theorem dX11_change_127 : decode prog_13_method_15_code 127 = .ok (.getfield 40, 3) := by decide +kernel
theorem dX11_change_130 : decode prog_13_method_15_code 130 = .ok (.iload 5, 2) := by decide +kernel
theorem dX11_change_132 : decode prog_13_method_15_code 132 = .ok (.iaload, 1) := by decide +kernel
theorem dX11_change_133 : decode prog_13_method_15_code 133 = .ok (.iastore, 1) := by decide +kernel
theorem dX11_change_134 : decode prog_13_method_15_code 134 = .ok (.aload_n 0, 1) := by decide +kernel
theorem dX11_change_135 : decode prog_13_method_15_code 135 = .ok (.getfield 46, 3) := by decide +kernel
theorem dX11_change_138 : decode prog_13_method_15_code 138 = .ok (.iload 5, 2) := by decide +kernel
theorem dX11_change_140 : decode prog_13_method_15_code 140 = .ok (.iload_n 3, 1) := by decide +kernel
theorem dX11_change_141 : decode prog_13_method_15_code 141 = .ok (.iconst 1, 1) := by decide +kernel
theorem dX11_change_142 : decode prog_13_method_15_code 142 = .ok (.if_icmp .ne 8, 3) := by decide +kernel
theorem dX11_change_145 : decode prog_13_method_15_code 145 = .ok (.iload 4, 2) := by decide +kernel
theorem dX11_change_147 : decode prog_13_method_15_code 147 = .ok (.goto 10, 3) := by decide +kernel
theorem dX11_change_150 : decode prog_13_method_15_code 150 = .ok (.aload_n 0, 1) := by decide +kernel
theorem dX11_change_151 : decode prog_13_method_15_code 151 = .ok (.getfield 46, 3) := by decide +kernel
theorem dX11_change_154 : decode prog_13_method_15_code 154 = .ok (.iload 5, 2) := by decide +kernel
theorem dX11_change_156 : decode prog_13_method_15_code 156 = .ok (.iaload, 1) := by decide +kernel
theorem dX11_change_157 : decode prog_13_method_15_code 157 = .ok (.iastore, 1) := by decide +kernel
theorem dX11_change_158 : decode prog_13_method_15_code 158 = .ok (.aload_n 0, 1) := by decide +kernel
theorem dX11_change_159 : decode prog_13_method_15_code 159 = .ok (.getfield 49, 3) := by decide +kernel
theorem dX11_change_162 : decode prog_13_method_15_code 162 = .ok (.iload 5, 2) := by decide +kernel
theorem dX11_change_164 : decode prog_13_method_15_code 164 = .ok (.iload_n 3, 1) := by decide +kernel
theorem dX11_change_165 : decode prog_13_method_15_code 165 = .ok (.iconst 2, 1) := by decide +kernel
theorem dX11_change_166 : decode prog_13_method_15_code 166 = .ok (.if_icmp .ne 8, 3) := by decide +kernel
theorem dX11_change_169 : decode prog_13_method_15_code 169 = .ok (.iload 4, 2) := by decide +kernel
theorem dX11_change_171 : decode prog_13_method_15_code 171 = .ok (.goto 10, 3) := by decide +kernel
theorem dX11_change_174 : decode prog_13_method_15_code 174 = .ok (.aload_n 0, 1) := by decide +kernel
theorem dX11_change_175 : decode prog_13_method_15_code 175 = .ok (.getfield 49, 3) := by decide +kernel
theorem dX11_change_178 : decode prog_13_method_15_code 178 = .ok (.iload 5, 2) := by decide +kernel
theorem dX11_change_180 : decode prog_13_method_15_code 180 = .ok (.iaload, 1) := by decide +kernel
theorem dX11_change_181 : decode prog_13_method_15_code 181 = .ok (.iastore, 1) := by decide +kernel
theorem dX11_change_182 : decode prog_13_method_15_code 182 = .ok (.iload 6, 2) := by decide +kernel
theorem dX11_change_184 : decode prog_13_method_15_code 184 = .ok (.ireturn, 1) := by decide +kernel
abbrev rmX11_change : Room := { frames := 4, cells := 0, slots := 0, locals := 86 }
def fX11_change_157  (t0 : Nat) (v3 : Int32) (v4 : Int32) (v5 : Int32) (v6 : Int32) (s0 : Int32) (s1 : Int32) (u2 : Nat) (h : Hp) : Option (Int32 × Hp) :=
  gk (h.1 u2) 13 <|
  gd (ix s1 (h.2.1 u2)) <|
  nm (hp_si h u2 (Int32.toNatClampNeg s1) s0) fun g3 =>
  gk (g3.1 t0) 12 <|
  bd (g3.2.2.2.1 t0 14) fun a5 =>
  if v3 = 2 then
  (gk (g3.1 a5) 13 <|
  gd (ix v5 (g3.2.1 a5)) <|
  nm (hp_si g3 a5 (Int32.toNatClampNeg v5) v4) fun g14 =>
  some (v6, g14))
  else
  (gk (g3.1 a5) 13 <|
  gd (ix v5 (g3.2.1 a5)) <|
  gd (ix v5 (g3.2.1 a5)) <|
  nm (hp_si g3 a5 (Int32.toNatClampNeg v5) (g3.2.2.1 a5 (Int32.toNatClampNeg v5))) fun g11 =>
  some (v6, g11))
def fX11_change_133  (t0 : Nat) (v3 : Int32) (v4 : Int32) (v5 : Int32) (v6 : Int32) (s0 : Int32) (s1 : Int32) (u2 : Nat) (h : Hp) : Option (Int32 × Hp) :=
  gk (h.1 u2) 13 <|
  gd (ix s1 (h.2.1 u2)) <|
  nm (hp_si h u2 (Int32.toNatClampNeg s1) s0) fun g3 =>
  gk (g3.1 t0) 12 <|
  bd (g3.2.2.2.1 t0 13) fun a5 =>
  if v3 = 1 then
  (fX11_change_157  t0 v3 v4 v5 v6 v4 v5 a5 g3)
  else
  (gk (g3.1 a5) 13 <|
  gd (ix v5 (g3.2.1 a5)) <|
  fX11_change_157  t0 v3 v4 v5 v6 (g3.2.2.1 a5 (Int32.toNatClampNeg v5)) v5 a5 g3)
def fX11_change_65  (t0 : Nat) (v1 : Int32) (v2 : Int32) (v3 : Int32) (v4 : Int32) (h : Hp) : Option (Int32 × Hp) :=
  nm ((6 * v1) + v2) fun x1 =>
  if v3 = 0 then
  (gk (h.1 t0) 12 <|
  bd (h.2.2.2.1 t0 11) fun a27 =>
  gk (h.1 a27) 13 <|
  gd (ix x1 (h.2.1 a27)) <|
  nm (h.2.2.1 a27 (Int32.toNatClampNeg x1)) fun x31 =>
  if v3 = 0 then
  (fX11_change_133  t0 v3 v4 x1 x31 v4 x1 a27 h)
  else
  (gd (ix x1 (h.2.1 a27)) <|
  fX11_change_133  t0 v3 v4 x1 x31 (h.2.2.1 a27 (Int32.toNatClampNeg x1)) x1 a27 h))
  else
  (if v3 = 1 then
  (gk (h.1 t0) 12 <|
  bd (h.2.2.2.1 t0 13) fun a16 =>
  gk (h.1 a16) 13 <|
  gd (ix x1 (h.2.1 a16)) <|
  nm (h.2.2.1 a16 (Int32.toNatClampNeg x1)) fun x20 =>
  bd (h.2.2.2.1 t0 11) fun a21 =>
  if v3 = 0 then
  (fX11_change_133  t0 v3 v4 x1 x20 v4 x1 a21 h)
  else
  (gk (h.1 a21) 13 <|
  gd (ix x1 (h.2.1 a21)) <|
  fX11_change_133  t0 v3 v4 x1 x20 (h.2.2.1 a21 (Int32.toNatClampNeg x1)) x1 a21 h))
  else
  (gk (h.1 t0) 12 <|
  bd (h.2.2.2.1 t0 14) fun a5 =>
  gk (h.1 a5) 13 <|
  gd (ix x1 (h.2.1 a5)) <|
  nm (h.2.2.1 a5 (Int32.toNatClampNeg x1)) fun x9 =>
  bd (h.2.2.2.1 t0 11) fun a10 =>
  if v3 = 0 then
  (fX11_change_133  t0 v3 v4 x1 x9 v4 x1 a10 h)
  else
  (gk (h.1 a10) 13 <|
  gd (ix x1 (h.2.1 a10)) <|
  fX11_change_133  t0 v3 v4 x1 x9 (h.2.2.1 a10 (Int32.toNatClampNeg x1)) x1 a10 h)))
def fX11_change  (t0 : Nat) (v1 : Int32) (v2 : Int32) (v3 : Int32) (v4 : Int32) (h : Hp) : Option (Int32 × Hp) :=
  gk (h.1 t0) 12 <|
  b2 (fX11_isLine t0 v1 v2 h) fun r4 g2 =>
  if r4 = 0 then
  (some ((-1000), g2))
  else
  (b2 (fX11_in v3 0 2 g2) fun r9 g7 =>
  if r9 = 0 then
  (some ((-1000), g7))
  else
  (if v3 = 0 then
  (b2 (fX11_in v4 1 200 g7) fun r26 g24 =>
  if r26 = 0 then
  (some ((-1000), g24))
  else
  (fX11_change_65  t0 v1 v2 v3 v4 g24))
  else
  (if v3 = 1 then
  (b2 (fX11_areWishes v4 g7) fun r21 g19 =>
  if r21 = 0 then
  (some ((-1000), g19))
  else
  (fX11_change_65  t0 v1 v2 v3 v4 g19))
  else
  (b2 (fX11_isNext v4 g7) fun r16 g14 =>
  if r16 = 0 then
  (some ((-1000), g14))
  else
  (fX11_change_65  t0 v1 v2 v3 v4 g14)))))
section
variable {p : Program} {l : Launch} {e : Env} {s : State} {m : MethodId} {args : Array Value} {below : List Frame} {meth : Method} {c : Code} {D : va_G} {cA : Nat → ClassId} {h0 h9 : Hp}
set_option maxHeartbeats 4000000 in
set_option maxRecDepth 100000 in
theorem tX11_change_157  {r : Int32} (cx : CallFix p m c prog_13_method_15_code 7 s args tbG RX11) (hr : meth.sig.returnType = (Option.some FieldType.int)) (hlk : meth.locks = false)  (t0 : Nat) (v3 : Int32) (v4 : Int32) (v5 : Int32) (v6 : Int32) (s0 : Int32) (s1 : Int32) (u2 : Nat) (h : Hp) (H : Heap) (locs : List Loc) (ls : Array Slot) (hB : hp_B D cA (hp_A h0) s h H locs) (hl : lv_has ls 7 [(0, .ref t0), (3, .int v3), (4, .int v4), (5, .int v5), (6, .int v6)]) (hf : fX11_change_157  t0 v3 v4 v5 v6 s0 s1 u2 h = some (r, h9)) : W p l e rmX11_change s m args below meth c H locs 0 0 (MQ below (hp_Qi D cA h0 h9 r) args s 0 0 (hp_A h0)) (F0 m 157 ls [.int s0, .int s1, .ref u2]) := by
  obtain ⟨hx, hb, -⟩ := id cx
  unfold fX11_change_157 at hf
  obtain ⟨k1, hf⟩ := gk_ok hf
  obtain ⟨j2, hf⟩ := gd_ok hf
  obtain ⟨g3, eg3, hf⟩ := nm_ok hf
  refine hp_iast cx hB k1 j2 dX11_change_157 (fun H locs hB => ?_)
  rw [← eg3] at hB
  refine lv_aload_n hx hb dX11_change_158 rfl (lv_at hl 0 rfl) ?_
  obtain ⟨k4, hf⟩ := gk_ok hf
  obtain ⟨a5, q6, hf⟩ := bd_ok hf
  refine gf_X11_49 cx hB k4 q6 dX11_change_159 ?_
  refine lv_iload hx hb dX11_change_162 (lv_at hl 3 rfl) ?_
  refine lv_iload_n hx hb dX11_change_164 rfl (lv_at hl 1 rfl) ?_
  refine lv_iconst (v := 2) hx hb dX11_change_165 (by decide) ?_
  refine lv_icmp_ne (tgt := 174) hx hb dX11_change_166 (by decide) (fun c7 => ?_) (fun c7 => ?_)
  · replace hf := it_f c7 hf
    refine lv_aload_n hx hb dX11_change_174 rfl (lv_at hl 0 rfl) ?_
    refine gf_X11_49 cx hB k4 q6 dX11_change_175 ?_
    refine lv_iload hx hb dX11_change_178 (lv_at hl 3 rfl) ?_
    obtain ⟨k8, hf⟩ := gk_ok hf
    obtain ⟨j9, hf⟩ := gd_ok hf
    refine hp_iald cx hB k8 j9 dX11_change_180 ?_
    obtain ⟨j10, hf⟩ := gd_ok hf
    obtain ⟨g11, eg11, hf⟩ := nm_ok hf
    refine hp_iast cx hB k8 j10 dX11_change_181 (fun H locs hB => ?_)
    rw [← eg11] at hB
    refine lv_iload hx hb dX11_change_182 (lv_at hl 4 rfl) ?_
    obtain ⟨rfl, rfl⟩ := rt_ok hf
    exact hp_iret cx hB hr hlk (Nat.le_of_ble_eq_true rfl) (Nat.le_of_ble_eq_true rfl) dX11_change_184
  · replace hf := it_t c7 hf
    refine lv_iload hx hb dX11_change_169 (lv_at hl 2 rfl) ?_
    refine lv_goto (tgt := 181) hx hb dX11_change_171 (by decide) ?_
    obtain ⟨k12, hf⟩ := gk_ok hf
    obtain ⟨j13, hf⟩ := gd_ok hf
    obtain ⟨g14, eg14, hf⟩ := nm_ok hf
    refine hp_iast cx hB k12 j13 dX11_change_181 (fun H locs hB => ?_)
    rw [← eg14] at hB
    refine lv_iload hx hb dX11_change_182 (lv_at hl 4 rfl) ?_
    obtain ⟨rfl, rfl⟩ := rt_ok hf
    exact hp_iret cx hB hr hlk (Nat.le_of_ble_eq_true rfl) (Nat.le_of_ble_eq_true rfl) dX11_change_184
set_option maxHeartbeats 4000000 in
set_option maxRecDepth 100000 in
theorem tX11_change_133  {r : Int32} (cx : CallFix p m c prog_13_method_15_code 7 s args tbG RX11) (hr : meth.sig.returnType = (Option.some FieldType.int)) (hlk : meth.locks = false)  (t0 : Nat) (v3 : Int32) (v4 : Int32) (v5 : Int32) (v6 : Int32) (s0 : Int32) (s1 : Int32) (u2 : Nat) (h : Hp) (H : Heap) (locs : List Loc) (ls : Array Slot) (hB : hp_B D cA (hp_A h0) s h H locs) (hl : lv_has ls 7 [(0, .ref t0), (3, .int v3), (4, .int v4), (5, .int v5), (6, .int v6)]) (hf : fX11_change_133  t0 v3 v4 v5 v6 s0 s1 u2 h = some (r, h9)) : W p l e rmX11_change s m args below meth c H locs 0 0 (MQ below (hp_Qi D cA h0 h9 r) args s 0 0 (hp_A h0)) (F0 m 133 ls [.int s0, .int s1, .ref u2]) := by
  obtain ⟨hx, hb, -⟩ := id cx
  unfold fX11_change_133 at hf
  obtain ⟨k1, hf⟩ := gk_ok hf
  obtain ⟨j2, hf⟩ := gd_ok hf
  obtain ⟨g3, eg3, hf⟩ := nm_ok hf
  refine hp_iast cx hB k1 j2 dX11_change_133 (fun H locs hB => ?_)
  rw [← eg3] at hB
  refine lv_aload_n hx hb dX11_change_134 rfl (lv_at hl 0 rfl) ?_
  obtain ⟨k4, hf⟩ := gk_ok hf
  obtain ⟨a5, q6, hf⟩ := bd_ok hf
  refine gf_X11_46 cx hB k4 q6 dX11_change_135 ?_
  refine lv_iload hx hb dX11_change_138 (lv_at hl 3 rfl) ?_
  refine lv_iload_n hx hb dX11_change_140 rfl (lv_at hl 1 rfl) ?_
  refine lv_iconst (v := 1) hx hb dX11_change_141 (by decide) ?_
  refine lv_icmp_ne (tgt := 150) hx hb dX11_change_142 (by decide) (fun c7 => ?_) (fun c7 => ?_)
  · replace hf := it_f c7 hf
    refine lv_aload_n hx hb dX11_change_150 rfl (lv_at hl 0 rfl) ?_
    refine gf_X11_46 cx hB k4 q6 dX11_change_151 ?_
    refine lv_iload hx hb dX11_change_154 (lv_at hl 3 rfl) ?_
    obtain ⟨k8, hf⟩ := gk_ok hf
    obtain ⟨j9, hf⟩ := gd_ok hf
    refine hp_iald cx hB k8 j9 dX11_change_156 ?_
    exact tX11_change_157 cx hr hlk  t0 v3 v4 v5 v6 (g3.2.2.1 a5 (Int32.toNatClampNeg v5)) v5 a5 g3 _ _ _ hB (lv_sub hl [0, 1, 2, 3, 4] rfl) hf
  · replace hf := it_t c7 hf
    refine lv_iload hx hb dX11_change_145 (lv_at hl 2 rfl) ?_
    refine lv_goto (tgt := 157) hx hb dX11_change_147 (by decide) ?_
    exact tX11_change_157 cx hr hlk  t0 v3 v4 v5 v6 v4 v5 a5 g3 _ _ _ hB (lv_sub hl [0, 1, 2, 3, 4] rfl) hf
set_option maxHeartbeats 4000000 in
set_option maxRecDepth 100000 in
theorem tX11_change_65  {r : Int32} (cx : CallFix p m c prog_13_method_15_code 7 s args tbG RX11) (hr : meth.sig.returnType = (Option.some FieldType.int)) (hlk : meth.locks = false)  (t0 : Nat) (v1 : Int32) (v2 : Int32) (v3 : Int32) (v4 : Int32) (h : Hp) (H : Heap) (locs : List Loc) (ls : Array Slot) (hB : hp_B D cA (hp_A h0) s h H locs) (hl : lv_has ls 7 [(0, .ref t0), (1, .int v1), (2, .int v2), (3, .int v3), (4, .int v4)]) (hf : fX11_change_65  t0 v1 v2 v3 v4 h = some (r, h9)) : W p l e rmX11_change s m args below meth c H locs 0 0 (MQ below (hp_Qi D cA h0 h9 r) args s 0 0 (hp_A h0)) (F0 m 65 ls []) := by
  obtain ⟨hx, hb, -⟩ := id cx
  unfold fX11_change_65 at hf
  refine lv_bipush (v := 6) hx hb dX11_change_65 (by decide) ?_
  refine lv_iload_n hx hb dX11_change_67 rfl (lv_at hl 1 rfl) ?_
  refine lv_imul hx hb dX11_change_68 ?_
  refine lv_iload_n hx hb dX11_change_69 rfl (lv_at hl 2 rfl) ?_
  refine lv_iadd hx hb dX11_change_70 ?_
  obtain ⟨x1, ex1, hf⟩ := nm_ok hf
  refine lv_ren ex1 ?_
  refine lv_istore (lv' := [(5, .int x1), (0, .ref t0), (1, .int v1), (2, .int v2), (3, .int v3), (4, .int v4)]) hx hb dX11_change_71 hl (by decide) rfl (fun ls hl => ?_)
  refine lv_iload_n hx hb dX11_change_73 rfl (lv_at hl 4 rfl) ?_
  refine lv_if_ne (tgt := 87) hx hb dX11_change_74 (by decide) (fun c2 => ?_) (fun c2 => ?_)
  · replace hf := it_f c2 hf
    refine lv_iload_n hx hb dX11_change_87 rfl (lv_at hl 4 rfl) ?_
    refine lv_iconst (v := 1) hx hb dX11_change_88 (by decide) ?_
    refine lv_icmp_ne (tgt := 102) hx hb dX11_change_89 (by decide) (fun c3 => ?_) (fun c3 => ?_)
    · replace hf := it_f c3 hf
      refine lv_aload_n hx hb dX11_change_102 rfl (lv_at hl 1 rfl) ?_
      obtain ⟨k4, hf⟩ := gk_ok hf
      obtain ⟨a5, q6, hf⟩ := bd_ok hf
      refine gf_X11_49 cx hB k4 q6 dX11_change_103 ?_
      refine lv_iload hx hb dX11_change_106 (lv_at hl 0 rfl) ?_
      obtain ⟨k7, hf⟩ := gk_ok hf
      obtain ⟨j8, hf⟩ := gd_ok hf
      refine hp_iald cx hB k7 j8 dX11_change_108 ?_
      obtain ⟨x9, ex9, hf⟩ := nm_ok hf
      refine lv_ren ex9 ?_
      refine lv_istore (lv' := [(6, .int x9), (5, .int x1), (0, .ref t0), (1, .int v1), (2, .int v2), (3, .int v3), (4, .int v4)]) hx hb dX11_change_109 hl (by decide) rfl (fun ls hl => ?_)
      refine lv_aload_n hx hb dX11_change_111 rfl (lv_at hl 2 rfl) ?_
      obtain ⟨a10, q11, hf⟩ := bd_ok hf
      refine gf_X11_40 cx hB k4 q11 dX11_change_112 ?_
      refine lv_iload hx hb dX11_change_115 (lv_at hl 1 rfl) ?_
      refine lv_iload_n hx hb dX11_change_117 rfl (lv_at hl 5 rfl) ?_
      refine lv_if_ne (tgt := 126) hx hb dX11_change_118 (by decide) (fun c12 => ?_) (fun c12 => ?_)
      · replace hf := it_f c12 hf
        refine lv_aload_n hx hb dX11_change_126 rfl (lv_at hl 2 rfl) ?_
        refine gf_X11_40 cx hB k4 q11 dX11_change_127 ?_
        refine lv_iload hx hb dX11_change_130 (lv_at hl 1 rfl) ?_
        obtain ⟨k13, hf⟩ := gk_ok hf
        obtain ⟨j14, hf⟩ := gd_ok hf
        refine hp_iald cx hB k13 j14 dX11_change_132 ?_
        exact tX11_change_133 cx hr hlk  t0 v3 v4 x1 x9 (h.2.2.1 a10 (Int32.toNatClampNeg x1)) x1 a10 h _ _ _ hB (lv_sub hl [2, 5, 6, 1, 0] rfl) hf
      · replace hf := it_t c12 hf
        refine lv_iload hx hb dX11_change_121 (lv_at hl 6 rfl) ?_
        refine lv_goto (tgt := 133) hx hb dX11_change_123 (by decide) ?_
        exact tX11_change_133 cx hr hlk  t0 v3 v4 x1 x9 v4 x1 a10 h _ _ _ hB (lv_sub hl [2, 5, 6, 1, 0] rfl) hf
    · replace hf := it_t c3 hf
      refine lv_aload_n hx hb dX11_change_92 rfl (lv_at hl 1 rfl) ?_
      obtain ⟨k15, hf⟩ := gk_ok hf
      obtain ⟨a16, q17, hf⟩ := bd_ok hf
      refine gf_X11_46 cx hB k15 q17 dX11_change_93 ?_
      refine lv_iload hx hb dX11_change_96 (lv_at hl 0 rfl) ?_
      obtain ⟨k18, hf⟩ := gk_ok hf
      obtain ⟨j19, hf⟩ := gd_ok hf
      refine hp_iald cx hB k18 j19 dX11_change_98 ?_
      refine lv_goto (tgt := 109) hx hb dX11_change_99 (by decide) ?_
      obtain ⟨x20, ex20, hf⟩ := nm_ok hf
      refine lv_ren ex20 ?_
      refine lv_istore (lv' := [(6, .int x20), (5, .int x1), (0, .ref t0), (1, .int v1), (2, .int v2), (3, .int v3), (4, .int v4)]) hx hb dX11_change_109 hl (by decide) rfl (fun ls hl => ?_)
      refine lv_aload_n hx hb dX11_change_111 rfl (lv_at hl 2 rfl) ?_
      obtain ⟨a21, q22, hf⟩ := bd_ok hf
      refine gf_X11_40 cx hB k15 q22 dX11_change_112 ?_
      refine lv_iload hx hb dX11_change_115 (lv_at hl 1 rfl) ?_
      refine lv_iload_n hx hb dX11_change_117 rfl (lv_at hl 5 rfl) ?_
      refine lv_if_ne (tgt := 126) hx hb dX11_change_118 (by decide) (fun c23 => ?_) (fun c23 => ?_)
      · replace hf := it_f c23 hf
        refine lv_aload_n hx hb dX11_change_126 rfl (lv_at hl 2 rfl) ?_
        refine gf_X11_40 cx hB k15 q22 dX11_change_127 ?_
        refine lv_iload hx hb dX11_change_130 (lv_at hl 1 rfl) ?_
        obtain ⟨k24, hf⟩ := gk_ok hf
        obtain ⟨j25, hf⟩ := gd_ok hf
        refine hp_iald cx hB k24 j25 dX11_change_132 ?_
        exact tX11_change_133 cx hr hlk  t0 v3 v4 x1 x20 (h.2.2.1 a21 (Int32.toNatClampNeg x1)) x1 a21 h _ _ _ hB (lv_sub hl [2, 5, 6, 1, 0] rfl) hf
      · replace hf := it_t c23 hf
        refine lv_iload hx hb dX11_change_121 (lv_at hl 6 rfl) ?_
        refine lv_goto (tgt := 133) hx hb dX11_change_123 (by decide) ?_
        exact tX11_change_133 cx hr hlk  t0 v3 v4 x1 x20 v4 x1 a21 h _ _ _ hB (lv_sub hl [2, 5, 6, 1, 0] rfl) hf
  · replace hf := it_t c2 hf
    refine lv_aload_n hx hb dX11_change_77 rfl (lv_at hl 1 rfl) ?_
    obtain ⟨k26, hf⟩ := gk_ok hf
    obtain ⟨a27, q28, hf⟩ := bd_ok hf
    refine gf_X11_40 cx hB k26 q28 dX11_change_78 ?_
    refine lv_iload hx hb dX11_change_81 (lv_at hl 0 rfl) ?_
    obtain ⟨k29, hf⟩ := gk_ok hf
    obtain ⟨j30, hf⟩ := gd_ok hf
    refine hp_iald cx hB k29 j30 dX11_change_83 ?_
    refine lv_goto (tgt := 109) hx hb dX11_change_84 (by decide) ?_
    obtain ⟨x31, ex31, hf⟩ := nm_ok hf
    refine lv_ren ex31 ?_
    refine lv_istore (lv' := [(6, .int x31), (5, .int x1), (0, .ref t0), (1, .int v1), (2, .int v2), (3, .int v3), (4, .int v4)]) hx hb dX11_change_109 hl (by decide) rfl (fun ls hl => ?_)
    refine lv_aload_n hx hb dX11_change_111 rfl (lv_at hl 2 rfl) ?_
    refine gf_X11_40 cx hB k26 q28 dX11_change_112 ?_
    refine lv_iload hx hb dX11_change_115 (lv_at hl 1 rfl) ?_
    refine lv_iload_n hx hb dX11_change_117 rfl (lv_at hl 5 rfl) ?_
    refine lv_if_ne (tgt := 126) hx hb dX11_change_118 (by decide) (fun c32 => ?_) (fun c32 => ?_)
    · replace hf := it_f c32 hf
      refine lv_aload_n hx hb dX11_change_126 rfl (lv_at hl 2 rfl) ?_
      refine gf_X11_40 cx hB k26 q28 dX11_change_127 ?_
      refine lv_iload hx hb dX11_change_130 (lv_at hl 1 rfl) ?_
      obtain ⟨j33, hf⟩ := gd_ok hf
      refine hp_iald cx hB k29 j33 dX11_change_132 ?_
      exact tX11_change_133 cx hr hlk  t0 v3 v4 x1 x31 (h.2.2.1 a27 (Int32.toNatClampNeg x1)) x1 a27 h _ _ _ hB (lv_sub hl [2, 5, 6, 1, 0] rfl) hf
    · replace hf := it_t c32 hf
      refine lv_iload hx hb dX11_change_121 (lv_at hl 6 rfl) ?_
      refine lv_goto (tgt := 133) hx hb dX11_change_123 (by decide) ?_
      exact tX11_change_133 cx hr hlk  t0 v3 v4 x1 x31 v4 x1 a27 h _ _ _ hB (lv_sub hl [2, 5, 6, 1, 0] rfl) hf
set_option maxHeartbeats 4000000 in
set_option maxRecDepth 100000 in
theorem tX11_change_0  {r : Int32} (cx : CallFix p m c prog_13_method_15_code 7 s args tbG RX11) (hr : meth.sig.returnType = (Option.some FieldType.int)) (hlk : meth.locks = false)  (t0 : Nat) (v1 : Int32) (v2 : Int32) (v3 : Int32) (v4 : Int32) (h : Hp) (H : Heap) (locs : List Loc) (ls : Array Slot) (hB : hp_B D cA (hp_A h0) s h H locs) (hl : lv_has ls 7 [(0, .ref t0), (1, .int v1), (2, .int v2), (3, .int v3), (4, .int v4)]) (hf : fX11_change  t0 v1 v2 v3 v4 h = some (r, h9)) : W p l e rmX11_change s m args below meth c H locs 0 0 (MQ below (hp_Qi D cA h0 h9 r) args s 0 0 (hp_A h0)) (F0 m 0 ls []) := by
  obtain ⟨hx, hb, -⟩ := id cx
  unfold fX11_change at hf
  refine lv_aload_n hx hb dX11_change_0 rfl (lv_at hl 0 rfl) ?_
  refine lv_iload_n hx hb dX11_change_1 rfl (lv_at hl 1 rfl) ?_
  refine lv_iload_n hx hb dX11_change_2 rfl (lv_at hl 2 rfl) ?_
  obtain ⟨k1, hf⟩ := gk_ok hf
  obtain ⟨r4, g2, m3, hf⟩ := b2_ok hf
  refine hp_cI0 (cl_X11_151 cx hB (cX11_isLine l D cA t0 v1 v2 h _ g2 m3) k1 ⟨Nat.le_of_ble_eq_true rfl, Nat.le_of_ble_eq_true rfl⟩ rfl hl.1 rfl (Nat.le_of_ble_eq_true rfl) ⟨Nat.le_of_ble_eq_true rfl, Nat.le_of_ble_eq_true rfl⟩ dX11_change_3) rfl rfl hB (fun H locs hB => ?_)
  refine lv_if_eq (tgt := 61) hx hb dX11_change_6 (by decide) (fun c6 => ?_) (fun c6 => ?_)
  · replace hf := it_t c6 hf
    refine lv_sipush (v := (-1000)) hx hb dX11_change_61 (by decide) ?_
    obtain ⟨rfl, rfl⟩ := rt_ok hf
    exact hp_iret cx hB hr hlk (Nat.le_of_ble_eq_true rfl) (Nat.le_of_ble_eq_true rfl) dX11_change_64
  · replace hf := it_f c6 hf
    refine lv_iload_n hx hb dX11_change_9 rfl (lv_at hl 3 rfl) ?_
    refine lv_iconst (v := 0) hx hb dX11_change_10 (by decide) ?_
    refine lv_iconst (v := 2) hx hb dX11_change_11 (by decide) ?_
    obtain ⟨r9, g7, m8, hf⟩ := b2_ok hf
    refine hp_cI0 (cl_X11_129 cx hB (cX11_in l D cA v3 0 2 g2 _ g7 m8) ⟨Nat.le_of_ble_eq_true rfl, Nat.le_of_ble_eq_true rfl⟩ rfl hl.1 rfl (Nat.le_of_ble_eq_true rfl) ⟨Nat.le_of_ble_eq_true rfl, Nat.le_of_ble_eq_true rfl⟩ dX11_change_12) rfl rfl hB (fun H locs hB => ?_)
    refine lv_if_eq (tgt := 61) hx hb dX11_change_15 (by decide) (fun c11 => ?_) (fun c11 => ?_)
    · replace hf := it_t c11 hf
      refine lv_sipush (v := (-1000)) hx hb dX11_change_61 (by decide) ?_
      obtain ⟨rfl, rfl⟩ := rt_ok hf
      exact hp_iret cx hB hr hlk (Nat.le_of_ble_eq_true rfl) (Nat.le_of_ble_eq_true rfl) dX11_change_64
    · replace hf := it_f c11 hf
      refine lv_iload_n hx hb dX11_change_18 rfl (lv_at hl 3 rfl) ?_
      refine lv_if_ne (tgt := 37) hx hb dX11_change_19 (by decide) (fun c12 => ?_) (fun c12 => ?_)
      · replace hf := it_f c12 hf
        refine lv_iload_n hx hb dX11_change_37 rfl (lv_at hl 3 rfl) ?_
        refine lv_iconst (v := 1) hx hb dX11_change_38 (by decide) ?_
        refine lv_icmp_ne (tgt := 53) hx hb dX11_change_39 (by decide) (fun c13 => ?_) (fun c13 => ?_)
        · replace hf := it_f c13 hf
          refine lv_iload hx hb dX11_change_53 (lv_at hl 4 rfl) ?_
          obtain ⟨r16, g14, m15, hf⟩ := b2_ok hf
          refine hp_cI0 (cl_X11_134 cx hB (cX11_isNext l D cA v4 g7 _ g14 m15) ⟨Nat.le_of_ble_eq_true rfl, Nat.le_of_ble_eq_true rfl⟩ rfl hl.1 rfl (Nat.le_of_ble_eq_true rfl) ⟨Nat.le_of_ble_eq_true rfl, Nat.le_of_ble_eq_true rfl⟩ dX11_change_55) rfl rfl hB (fun H locs hB => ?_)
          refine lv_if_ne (tgt := 65) hx hb dX11_change_58 (by decide) (fun c18 => ?_) (fun c18 => ?_)
          · replace hf := it_f c18 hf
            exact tX11_change_65 cx hr hlk  t0 v1 v2 v3 v4 g14 _ _ _ hB (lv_sub hl [0, 1, 2, 3, 4] rfl) hf
          · replace hf := it_t c18 hf
            refine lv_sipush (v := (-1000)) hx hb dX11_change_61 (by decide) ?_
            obtain ⟨rfl, rfl⟩ := rt_ok hf
            exact hp_iret cx hB hr hlk (Nat.le_of_ble_eq_true rfl) (Nat.le_of_ble_eq_true rfl) dX11_change_64
        · replace hf := it_t c13 hf
          refine lv_iload hx hb dX11_change_42 (lv_at hl 4 rfl) ?_
          obtain ⟨r21, g19, m20, hf⟩ := b2_ok hf
          refine hp_cI0 (cl_X11_148 cx hB (cX11_areWishes l D cA v4 g7 _ g19 m20) ⟨Nat.le_of_ble_eq_true rfl, Nat.le_of_ble_eq_true rfl⟩ rfl hl.1 rfl (Nat.le_of_ble_eq_true rfl) ⟨Nat.le_of_ble_eq_true rfl, Nat.le_of_ble_eq_true rfl⟩ dX11_change_44) rfl rfl hB (fun H locs hB => ?_)
          refine lv_if_eq (tgt := 61) hx hb dX11_change_47 (by decide) (fun c23 => ?_) (fun c23 => ?_)
          · replace hf := it_t c23 hf
            refine lv_sipush (v := (-1000)) hx hb dX11_change_61 (by decide) ?_
            obtain ⟨rfl, rfl⟩ := rt_ok hf
            exact hp_iret cx hB hr hlk (Nat.le_of_ble_eq_true rfl) (Nat.le_of_ble_eq_true rfl) dX11_change_64
          · replace hf := it_f c23 hf
            refine lv_goto (tgt := 65) hx hb dX11_change_50 (by decide) ?_
            exact tX11_change_65 cx hr hlk  t0 v1 v2 v3 v4 g19 _ _ _ hB (lv_sub hl [0, 1, 2, 3, 4] rfl) hf
      · replace hf := it_t c12 hf
        refine lv_iload hx hb dX11_change_22 (lv_at hl 4 rfl) ?_
        refine lv_iconst (v := 1) hx hb dX11_change_24 (by decide) ?_
        refine lv_sipush (v := 200) hx hb dX11_change_25 (by decide) ?_
        obtain ⟨r26, g24, m25, hf⟩ := b2_ok hf
        refine hp_cI0 (cl_X11_129 cx hB (cX11_in l D cA v4 1 200 g7 _ g24 m25) ⟨Nat.le_of_ble_eq_true rfl, Nat.le_of_ble_eq_true rfl⟩ rfl hl.1 rfl (Nat.le_of_ble_eq_true rfl) ⟨Nat.le_of_ble_eq_true rfl, Nat.le_of_ble_eq_true rfl⟩ dX11_change_28) rfl rfl hB (fun H locs hB => ?_)
        refine lv_if_eq (tgt := 61) hx hb dX11_change_31 (by decide) (fun c28 => ?_) (fun c28 => ?_)
        · replace hf := it_t c28 hf
          refine lv_sipush (v := (-1000)) hx hb dX11_change_61 (by decide) ?_
          obtain ⟨rfl, rfl⟩ := rt_ok hf
          exact hp_iret cx hB hr hlk (Nat.le_of_ble_eq_true rfl) (Nat.le_of_ble_eq_true rfl) dX11_change_64
        · replace hf := it_f c28 hf
          refine lv_goto (tgt := 65) hx hb dX11_change_34 (by decide) ?_
          exact tX11_change_65 cx hr hlk  t0 v1 v2 v3 v4 g24 _ _ _ hB (lv_sub hl [0, 1, 2, 3, 4] rfl) hf
end
set_option maxHeartbeats 4000000 in
set_option maxRecDepth 100000 in
theorem cX11_change (l : Launch) (D : va_G) (cA : Nat → ClassId) (t0 : Nat) (v1 : Int32) (v2 : Int32) (v3 : Int32) (v4 : Int32) (h : Hp) (r : Int32) (h9 : Hp) (hf : fX11_change t0 v1 v2 v3 v4 h = some (r, h9)) : hp_M l yX11_change prog_13_method_15_code 7 (Option.some FieldType.int) rmX11_change D cA h [.ref t0, .int v1, .int v2, .int v3, .int v4] (hp_Qi D cA h h9 r) := by
  refine Met.ofW (cc := prog_13_method_15_code) (maxL := 7) (ret := (Option.some FieldType.int)) (by decide) rfl ?_
  intro p e s m args below meth c s₁ B hml hv
  obtain ⟨rfl, hU⟩ := hv
  have hts := atoms_spec (ws := Cond.code yX11_change prog_13_method_15_code 7 (Option.some FieldType.int) :: tbG) B.pre
  have hl := lv_entry ([.ref t0, .int v1, .int v2, .int v3, .int v4]) (n := 7) (Nat.le_of_ble_eq_true rfl)
  rw [lg_entry_eq]
  generalize (lg_sl ([.ref t0, .int v1, .int v2, .int v3, .int v4]) ++ List.replicate (7 - (lg_sl ([.ref t0, .int v1, .int v2, .int v3, .int v4])).length) Slot.unset).toArray = ls at hl ⊢
  exact tX11_change_0 ⟨B.exec, B.bytes, hml, findClass_of_methodNamed B.named, fun w hw => hts w (List.mem_cons_of_mem _ hw)⟩ B.returns B.notSynchronized t0 v1 v2 v3 v4 h _ _ _ (hp_B.entry hU) hl hf
abbrev yX11_turn : MethodName := ⟨"SpokenMenusModel", "turn", "([III)V"⟩
theorem dX11_turn_0 : decode prog_13_method_16_code 0 = .ok (.aload_n 0, 1) := by decide +kernel
theorem dX11_turn_1 : decode prog_13_method_16_code 1 = .ok (.iload_n 1, 1) := by decide +kernel
theorem dX11_turn_2 : decode prog_13_method_16_code 2 = .ok (.iaload, 1) := by decide +kernel
theorem dX11_turn_3 : decode prog_13_method_16_code 3 = .ok (.istore_n 3, 1) := by decide +kernel
theorem dX11_turn_4 : decode prog_13_method_16_code 4 = .ok (.aload_n 0, 1) := by decide +kernel
theorem dX11_turn_5 : decode prog_13_method_16_code 5 = .ok (.iload_n 1, 1) := by decide +kernel
theorem dX11_turn_6 : decode prog_13_method_16_code 6 = .ok (.aload_n 0, 1) := by decide +kernel
theorem dX11_turn_7 : decode prog_13_method_16_code 7 = .ok (.iload_n 2, 1) := by decide +kernel
theorem dX11_turn_8 : decode prog_13_method_16_code 8 = .ok (.iaload, 1) := by decide +kernel
theorem dX11_turn_9 : decode prog_13_method_16_code 9 = .ok (.iastore, 1) := by decide +kernel
theorem dX11_turn_10 : decode prog_13_method_16_code 10 = .ok (.aload_n 0, 1) := by decide +kernel
theorem dX11_turn_11 : decode prog_13_method_16_code 11 = .ok (.iload_n 2, 1) := by decide +kernel
theorem dX11_turn_12 : decode prog_13_method_16_code 12 = .ok (.iload_n 3, 1) := by decide +kernel
theorem dX11_turn_13 : decode prog_13_method_16_code 13 = .ok (.iastore, 1) := by decide +kernel
theorem dX11_turn_14 : decode prog_13_method_16_code 14 = .ok (.return_, 1) := by decide +kernel
abbrev rmX11_turn : Room := { frames := 0, cells := 0, slots := 0, locals := 0 }
def fX11_turn  (w0 : Option Nat) (v1 : Int32) (v2 : Int32) (h : Hp) : Option (Unit × Hp) :=
  bd w0 fun a1 =>
  gk (h.1 a1) 13 <|
  gd (ix v1 (h.2.1 a1)) <|
  nm (h.2.2.1 a1 (Int32.toNatClampNeg v1)) fun x4 =>
  gd (ix v2 (h.2.1 a1)) <|
  gd (ix v1 (h.2.1 a1)) <|
  nm (hp_si h a1 (Int32.toNatClampNeg v1) (h.2.2.1 a1 (Int32.toNatClampNeg v2))) fun g7 =>
  gd (ix v2 (g7.2.1 a1)) <|
  nm (hp_si g7 a1 (Int32.toNatClampNeg v2) x4) fun g10 =>
  some ((), g10)
section
variable {p : Program} {l : Launch} {e : Env} {s : State} {m : MethodId} {args : Array Value} {below : List Frame} {meth : Method} {c : Code} {D : va_G} {cA : Nat → ClassId} {h0 h9 : Hp}
set_option maxHeartbeats 4000000 in
set_option maxRecDepth 100000 in
theorem tX11_turn_0  (cx : CallFix p m c prog_13_method_16_code 4 s args tbG RX11) (hr : meth.sig.returnType = none) (hlk : meth.locks = false)  (w0 : Option Nat) (v1 : Int32) (v2 : Int32) (h : Hp) (H : Heap) (locs : List Loc) (ls : Array Slot) (hB : hp_B D cA (hp_A h0) s h H locs) (hl : lv_has ls 4 [(0, va_rf w0), (1, .int v1), (2, .int v2)]) (hf : fX11_turn  w0 v1 v2 h = some ((), h9)) : W p l e rmX11_turn s m args below meth c H locs 0 0 (MQ below (hp_Qv D cA h0 h9) args s 0 0 (hp_A h0)) (F0 m 0 ls []) := by
  obtain ⟨hx, hb, -⟩ := id cx
  unfold fX11_turn at hf
  refine lq_aload_n hx hb dX11_turn_0 rfl (lv_at hl 0 rfl) ?_
  refine lv_iload_n hx hb dX11_turn_1 rfl (lv_at hl 1 rfl) ?_
  obtain ⟨a1, eo, hf⟩ := bd_ok hf
  subst eo
  obtain ⟨k2, hf⟩ := gk_ok hf
  obtain ⟨j3, hf⟩ := gd_ok hf
  refine hp_iald cx hB k2 j3 dX11_turn_2 ?_
  obtain ⟨x4, ex4, hf⟩ := nm_ok hf
  refine lv_ren ex4 ?_
  refine lv_istore_n (lv' := [(3, .int x4), (0, .ref a1), (1, .int v1), (2, .int v2)]) hx hb dX11_turn_3 rfl hl (by decide) rfl (fun ls hl => ?_)
  refine lv_aload_n hx hb dX11_turn_4 rfl (lv_at hl 1 rfl) ?_
  refine lv_iload_n hx hb dX11_turn_5 rfl (lv_at hl 2 rfl) ?_
  refine lv_aload_n hx hb dX11_turn_6 rfl (lv_at hl 1 rfl) ?_
  refine lv_iload_n hx hb dX11_turn_7 rfl (lv_at hl 3 rfl) ?_
  obtain ⟨j5, hf⟩ := gd_ok hf
  refine hp_iald cx hB k2 j5 dX11_turn_8 ?_
  obtain ⟨j6, hf⟩ := gd_ok hf
  obtain ⟨g7, eg7, hf⟩ := nm_ok hf
  refine hp_iast cx hB k2 j6 dX11_turn_9 (fun H locs hB => ?_)
  rw [← eg7] at hB
  refine lv_aload_n hx hb dX11_turn_10 rfl (lv_at hl 1 rfl) ?_
  refine lv_iload_n hx hb dX11_turn_11 rfl (lv_at hl 3 rfl) ?_
  refine lv_iload_n hx hb dX11_turn_12 rfl (lv_at hl 0 rfl) ?_
  have k8 : g7.1 a1 = 13 := by rw [eg7]; exact k2
  obtain ⟨j9, hf⟩ := gd_ok hf
  obtain ⟨g10, eg10, hf⟩ := nm_ok hf
  refine hp_iast cx hB k8 j9 dX11_turn_13 (fun H locs hB => ?_)
  rw [← eg10] at hB
  obtain ⟨-, rfl⟩ := rt_ok hf
  exact hp_vret cx hB hr hlk (Nat.le_of_ble_eq_true rfl) (Nat.le_of_ble_eq_true rfl) dX11_turn_14
end
set_option maxHeartbeats 4000000 in
set_option maxRecDepth 100000 in
theorem cX11_turn (l : Launch) (D : va_G) (cA : Nat → ClassId) (w0 : Option Nat) (v1 : Int32) (v2 : Int32) (h : Hp) (_u : Unit) (h9 : Hp) (hf : fX11_turn w0 v1 v2 h = some (_u, h9)) : hp_M l yX11_turn prog_13_method_16_code 4 none rmX11_turn D cA h [va_rf w0, .int v1, .int v2] (hp_Qv D cA h h9) := by
  refine Met.ofW (cc := prog_13_method_16_code) (maxL := 4) (ret := none) (by decide) rfl ?_
  intro p e s m args below meth c s₁ B hml hv
  obtain ⟨rfl, hU⟩ := hv
  have hts := atoms_spec (ws := Cond.code yX11_turn prog_13_method_16_code 4 none :: tbG) B.pre
  have hl := lv_entry ([va_rf w0, .int v1, .int v2]) (n := 4) (by simp [lg_sl, va_rf_cat, cat_i, cat_r, cat_n])
  rw [show lv_args 0 ([va_rf w0, .int v1, .int v2]) = [(0, va_rf w0), (1, .int v1), (2, .int v2)] by simp [lv_args, va_rf_cat, cat_i, cat_r, cat_n]] at hl
  rw [lg_entry_eq]
  generalize (lg_sl ([va_rf w0, .int v1, .int v2]) ++ List.replicate (4 - (lg_sl ([va_rf w0, .int v1, .int v2])).length) Slot.unset).toArray = ls at hl ⊢
  exact tX11_turn_0 ⟨B.exec, B.bytes, hml, findClass_of_methodNamed B.named, fun w hw => hts w (List.mem_cons_of_mem _ hw)⟩ B.returns B.notSynchronized w0 v1 v2 h _ _ _ (hp_B.entry hU) hl hf
section
variable {p : Program} {l : Launch} {e : Env} {R : Room} {s : State} {m : MethodId} {args : Array Value} {below : List Frame} {meth : Method} {c : Code} {H : Heap} {locs : List Loc} {cells slots : Nat} {Q : State → Prop}
variable {cc : ByteArray} {pc nL : Nat} {ls : Array Slot} {rest : List Value} {D : va_G} {cA : Nat → ClassId} {A : Nat → Prop} {a : Nat} {h : Hp}
theorem cl_X11_155 {As st0 : List Value} {Qc : Array Value → State → Outcome → State → Prop} (cx : CallFix p m c cc nL s args tbG RX11) (hB : hp_B D cA A s h H locs) (hM : hp_M l yX11_turn prog_13_method_16_code 4 none rmX11_turn D cA h As Qc) (hR : rmX11_turn.frames + 1 ≤ R.frames ∧ 8 + (4 + 11) + rmX11_turn.locals ≤ R.locals) (hn : As.length = 3) (hls : ls.size = nL) (hst : st0 = As.reverse ++ rest) (hW : (rest.map fun v => v.category).sum ≤ 8) (hf : cells + rmX11_turn.cells ≤ R.cells ∧ slots + rmX11_turn.slots ≤ R.slots) (hdg : decode cc pc = .ok (.invokestatic 155, 3)) :
    va_Run p l e R s m args below meth c H locs cells slots rmX11_turn.cells rmX11_turn.slots (F0 m pc ls st0) rest (Qc As.toArray) (hp_A h) :=
  hp_runS cx hB hM qw_968 qw_966 qw_967 qw_10 (by decide +kernel) hR hn hls hst hW hf hdg
end
abbrev yX11_swapAt : MethodName := ⟨"SpokenMenusModel", "swapAt", "(II)V"⟩
theorem dX11_swapAt_0 : decode prog_13_method_17_code 0 = .ok (.aload_n 0, 1) := by decide +kernel
theorem dX11_swapAt_1 : decode prog_13_method_17_code 1 = .ok (.getfield 40, 3) := by decide +kernel
theorem dX11_swapAt_4 : decode prog_13_method_17_code 4 = .ok (.iload_n 1, 1) := by decide +kernel
theorem dX11_swapAt_5 : decode prog_13_method_17_code 5 = .ok (.iload_n 2, 1) := by decide +kernel
theorem dX11_swapAt_6 : decode prog_13_method_17_code 6 = .ok (.invokestatic 155, 3) := by decide +kernel
theorem dX11_swapAt_9 : decode prog_13_method_17_code 9 = .ok (.aload_n 0, 1) := by decide +kernel
theorem dX11_swapAt_10 : decode prog_13_method_17_code 10 = .ok (.getfield 43, 3) := by decide +kernel
theorem dX11_swapAt_13 : decode prog_13_method_17_code 13 = .ok (.iload_n 1, 1) := by decide +kernel
theorem dX11_swapAt_14 : decode prog_13_method_17_code 14 = .ok (.iload_n 2, 1) := by decide +kernel
theorem dX11_swapAt_15 : decode prog_13_method_17_code 15 = .ok (.invokestatic 155, 3) := by decide +kernel
theorem dX11_swapAt_18 : decode prog_13_method_17_code 18 = .ok (.aload_n 0, 1) := by decide +kernel
theorem dX11_swapAt_19 : decode prog_13_method_17_code 19 = .ok (.getfield 46, 3) := by decide +kernel
theorem dX11_swapAt_22 : decode prog_13_method_17_code 22 = .ok (.iload_n 1, 1) := by decide +kernel
theorem dX11_swapAt_23 : decode prog_13_method_17_code 23 = .ok (.iload_n 2, 1) := by decide +kernel
theorem dX11_swapAt_24 : decode prog_13_method_17_code 24 = .ok (.invokestatic 155, 3) := by decide +kernel
theorem dX11_swapAt_27 : decode prog_13_method_17_code 27 = .ok (.aload_n 0, 1) := by decide +kernel
theorem dX11_swapAt_28 : decode prog_13_method_17_code 28 = .ok (.getfield 49, 3) := by decide +kernel
theorem dX11_swapAt_31 : decode prog_13_method_17_code 31 = .ok (.iload_n 1, 1) := by decide +kernel
theorem dX11_swapAt_32 : decode prog_13_method_17_code 32 = .ok (.iload_n 2, 1) := by decide +kernel
theorem dX11_swapAt_33 : decode prog_13_method_17_code 33 = .ok (.invokestatic 155, 3) := by decide +kernel
theorem dX11_swapAt_36 : decode prog_13_method_17_code 36 = .ok (.return_, 1) := by decide +kernel
abbrev rmX11_swapAt : Room := { frames := 1, cells := 0, slots := 0, locals := 23 }
def fX11_swapAt  (t0 : Nat) (v1 : Int32) (v2 : Int32) (h : Hp) : Option (Unit × Hp) :=
  gk (h.1 t0) 12 <|
  bd (h.2.2.2.1 t0 11) fun a2 =>
  b2 (fX11_turn (some a2) v1 v2 h) fun _ g4 =>
  gk (g4.1 t0) 12 <|
  bd (g4.2.2.2.1 t0 12) fun a9 =>
  b2 (fX11_turn (some a9) v1 v2 g4) fun _ g11 =>
  gk (g11.1 t0) 12 <|
  bd (g11.2.2.2.1 t0 13) fun a16 =>
  b2 (fX11_turn (some a16) v1 v2 g11) fun _ g18 =>
  gk (g18.1 t0) 12 <|
  bd (g18.2.2.2.1 t0 14) fun a23 =>
  b2 (fX11_turn (some a23) v1 v2 g18) fun _ g25 =>
  some ((), g25)
section
variable {p : Program} {l : Launch} {e : Env} {s : State} {m : MethodId} {args : Array Value} {below : List Frame} {meth : Method} {c : Code} {D : va_G} {cA : Nat → ClassId} {h0 h9 : Hp}
set_option maxHeartbeats 4000000 in
set_option maxRecDepth 100000 in
theorem tX11_swapAt_0  (cx : CallFix p m c prog_13_method_17_code 3 s args tbG RX11) (hr : meth.sig.returnType = none) (hlk : meth.locks = false)  (t0 : Nat) (v1 : Int32) (v2 : Int32) (h : Hp) (H : Heap) (locs : List Loc) (ls : Array Slot) (hB : hp_B D cA (hp_A h0) s h H locs) (hl : lv_has ls 3 [(0, .ref t0), (1, .int v1), (2, .int v2)]) (hf : fX11_swapAt  t0 v1 v2 h = some ((), h9)) : W p l e rmX11_swapAt s m args below meth c H locs 0 0 (MQ below (hp_Qv D cA h0 h9) args s 0 0 (hp_A h0)) (F0 m 0 ls []) := by
  obtain ⟨hx, hb, -⟩ := id cx
  unfold fX11_swapAt at hf
  refine lv_aload_n hx hb dX11_swapAt_0 rfl (lv_at hl 0 rfl) ?_
  obtain ⟨k1, hf⟩ := gk_ok hf
  obtain ⟨a2, q3, hf⟩ := bd_ok hf
  refine gf_X11_40 cx hB k1 q3 dX11_swapAt_1 ?_
  refine lv_iload_n hx hb dX11_swapAt_4 rfl (lv_at hl 1 rfl) ?_
  refine lv_iload_n hx hb dX11_swapAt_5 rfl (lv_at hl 2 rfl) ?_
  obtain ⟨uu, g4, m5, hf⟩ := b2_ok hf
  refine hp_cV0 (cl_X11_155 cx hB (cX11_turn l D cA (some a2) v1 v2 h _ g4 m5) ⟨Nat.le_of_ble_eq_true rfl, Nat.le_of_ble_eq_true rfl⟩ rfl hl.1 rfl (Nat.le_of_ble_eq_true rfl) ⟨Nat.le_of_ble_eq_true rfl, Nat.le_of_ble_eq_true rfl⟩ dX11_swapAt_6) rfl rfl hB (fun H locs hB => ?_)
  refine lv_aload_n hx hb dX11_swapAt_9 rfl (lv_at hl 0 rfl) ?_
  obtain ⟨k8, hf⟩ := gk_ok hf
  obtain ⟨a9, q10, hf⟩ := bd_ok hf
  refine gf_X11_43 cx hB k8 q10 dX11_swapAt_10 ?_
  refine lv_iload_n hx hb dX11_swapAt_13 rfl (lv_at hl 1 rfl) ?_
  refine lv_iload_n hx hb dX11_swapAt_14 rfl (lv_at hl 2 rfl) ?_
  obtain ⟨uu, g11, m12, hf⟩ := b2_ok hf
  refine hp_cV0 (cl_X11_155 cx hB (cX11_turn l D cA (some a9) v1 v2 g4 _ g11 m12) ⟨Nat.le_of_ble_eq_true rfl, Nat.le_of_ble_eq_true rfl⟩ rfl hl.1 rfl (Nat.le_of_ble_eq_true rfl) ⟨Nat.le_of_ble_eq_true rfl, Nat.le_of_ble_eq_true rfl⟩ dX11_swapAt_15) rfl rfl hB (fun H locs hB => ?_)
  refine lv_aload_n hx hb dX11_swapAt_18 rfl (lv_at hl 0 rfl) ?_
  obtain ⟨k15, hf⟩ := gk_ok hf
  obtain ⟨a16, q17, hf⟩ := bd_ok hf
  refine gf_X11_46 cx hB k15 q17 dX11_swapAt_19 ?_
  refine lv_iload_n hx hb dX11_swapAt_22 rfl (lv_at hl 1 rfl) ?_
  refine lv_iload_n hx hb dX11_swapAt_23 rfl (lv_at hl 2 rfl) ?_
  obtain ⟨uu, g18, m19, hf⟩ := b2_ok hf
  refine hp_cV0 (cl_X11_155 cx hB (cX11_turn l D cA (some a16) v1 v2 g11 _ g18 m19) ⟨Nat.le_of_ble_eq_true rfl, Nat.le_of_ble_eq_true rfl⟩ rfl hl.1 rfl (Nat.le_of_ble_eq_true rfl) ⟨Nat.le_of_ble_eq_true rfl, Nat.le_of_ble_eq_true rfl⟩ dX11_swapAt_24) rfl rfl hB (fun H locs hB => ?_)
  refine lv_aload_n hx hb dX11_swapAt_27 rfl (lv_at hl 0 rfl) ?_
  obtain ⟨k22, hf⟩ := gk_ok hf
  obtain ⟨a23, q24, hf⟩ := bd_ok hf
  refine gf_X11_49 cx hB k22 q24 dX11_swapAt_28 ?_
  refine lv_iload_n hx hb dX11_swapAt_31 rfl (lv_at hl 1 rfl) ?_
  refine lv_iload_n hx hb dX11_swapAt_32 rfl (lv_at hl 2 rfl) ?_
  obtain ⟨uu, g25, m26, hf⟩ := b2_ok hf
  refine hp_cV0 (cl_X11_155 cx hB (cX11_turn l D cA (some a23) v1 v2 g18 _ g25 m26) ⟨Nat.le_of_ble_eq_true rfl, Nat.le_of_ble_eq_true rfl⟩ rfl hl.1 rfl (Nat.le_of_ble_eq_true rfl) ⟨Nat.le_of_ble_eq_true rfl, Nat.le_of_ble_eq_true rfl⟩ dX11_swapAt_33) rfl rfl hB (fun H locs hB => ?_)
  obtain ⟨-, rfl⟩ := rt_ok hf
  exact hp_vret cx hB hr hlk (Nat.le_of_ble_eq_true rfl) (Nat.le_of_ble_eq_true rfl) dX11_swapAt_36
end
set_option maxHeartbeats 4000000 in
set_option maxRecDepth 100000 in
theorem cX11_swapAt (l : Launch) (D : va_G) (cA : Nat → ClassId) (t0 : Nat) (v1 : Int32) (v2 : Int32) (h : Hp) (_u : Unit) (h9 : Hp) (hf : fX11_swapAt t0 v1 v2 h = some (_u, h9)) : hp_M l yX11_swapAt prog_13_method_17_code 3 none rmX11_swapAt D cA h [.ref t0, .int v1, .int v2] (hp_Qv D cA h h9) := by
  refine Met.ofW (cc := prog_13_method_17_code) (maxL := 3) (ret := none) (by decide) rfl ?_
  intro p e s m args below meth c s₁ B hml hv
  obtain ⟨rfl, hU⟩ := hv
  have hts := atoms_spec (ws := Cond.code yX11_swapAt prog_13_method_17_code 3 none :: tbG) B.pre
  have hl := lv_entry ([.ref t0, .int v1, .int v2]) (n := 3) (Nat.le_of_ble_eq_true rfl)
  rw [lg_entry_eq]
  generalize (lg_sl ([.ref t0, .int v1, .int v2]) ++ List.replicate (3 - (lg_sl ([.ref t0, .int v1, .int v2])).length) Slot.unset).toArray = ls at hl ⊢
  exact tX11_swapAt_0 ⟨B.exec, B.bytes, hml, findClass_of_methodNamed B.named, fun w hw => hts w (List.mem_cons_of_mem _ hw)⟩ B.returns B.notSynchronized t0 v1 v2 h _ _ _ (hp_B.entry hU) hl hf
section
variable {p : Program} {l : Launch} {e : Env} {R : Room} {s : State} {m : MethodId} {args : Array Value} {below : List Frame} {meth : Method} {c : Code} {H : Heap} {locs : List Loc} {cells slots : Nat} {Q : State → Prop}
variable {cc : ByteArray} {pc nL : Nat} {ls : Array Slot} {rest : List Value} {D : va_G} {cA : Nat → ClassId} {A : Nat → Prop} {a : Nat} {h : Hp}
theorem cl_X11_159 {As st0 : List Value} {b : Nat} {Qc : Array Value → State → Outcome → State → Prop} (cx : CallFix p m c cc nL s args tbG RX11) (hB : hp_B D cA A s h H locs) (hM : hp_M l yX11_swapAt prog_13_method_17_code 3 none rmX11_swapAt D cA h (.ref b :: As) Qc) (hkb : h.1 b = 12) (hR : rmX11_swapAt.frames + 1 ≤ R.frames ∧ 8 + (3 + 11) + rmX11_swapAt.locals ≤ R.locals) (hn : As.length = 2) (hls : ls.size = nL) (hst : st0 = As.reverse ++ .ref b :: rest) (hW : (rest.map fun v => v.category).sum ≤ 8) (hf : cells + rmX11_swapAt.cells ≤ R.cells ∧ slots + rmX11_swapAt.slots ≤ R.slots) (hdg : decode cc pc = .ok (.invokevirtual 159, 3)) :
    va_Run p l e R s m args below meth c H locs cells slots rmX11_swapAt.cells rmX11_swapAt.slots (F0 m pc ls st0) rest (Qc (Value.ref b :: As).toArray) (hp_A h) :=
  hp_runV cx hB hM (ci := 11) rfl (by decide) hkb qw_965 qw_962 qw_964 qp_20 qw_10 (by decide +kernel) hR hn hls hst hW hf hdg
end
abbrev yX11_swap : MethodName := ⟨"SpokenMenusModel", "swap", "(III)I"⟩
theorem dX11_swap_0 : decode prog_13_method_18_code 0 = .ok (.aload_n 0, 1) := by decide +kernel
theorem dX11_swap_1 : decode prog_13_method_18_code 1 = .ok (.iload_n 1, 1) := by decide +kernel
theorem dX11_swap_2 : decode prog_13_method_18_code 2 = .ok (.iload_n 2, 1) := by decide +kernel
theorem dX11_swap_3 : decode prog_13_method_18_code 3 = .ok (.invokevirtual 151, 3) := by decide +kernel
theorem dX11_swap_6 : decode prog_13_method_18_code 6 = .ok (.ifCond .eq 12, 3) := by decide +kernel
theorem dX11_swap_9 : decode prog_13_method_18_code 9 = .ok (.aload_n 0, 1) := by decide +kernel
theorem dX11_swap_10 : decode prog_13_method_18_code 10 = .ok (.iload_n 1, 1) := by decide +kernel
theorem dX11_swap_11 : decode prog_13_method_18_code 11 = .ok (.iload_n 3, 1) := by decide +kernel
theorem dX11_swap_12 : decode prog_13_method_18_code 12 = .ok (.invokevirtual 151, 3) := by decide +kernel
theorem dX11_swap_15 : decode prog_13_method_18_code 15 = .ok (.ifCond .ne 5, 3) := by decide +kernel
theorem dX11_swap_18 : decode prog_13_method_18_code 18 = .ok (.iconst (-1), 1) := by decide +kernel
theorem dX11_swap_19 : decode prog_13_method_18_code 19 = .ok (.ireturn, 1) := by decide +kernel
theorem dX11_swap_20 : decode prog_13_method_18_code 20 = .ok (.aload_n 0, 1) := by decide +kernel
theorem dX11_swap_21 : decode prog_13_method_18_code 21 = .ok (.bipush 6, 2) := by decide +kernel
theorem dX11_swap_23 : decode prog_13_method_18_code 23 = .ok (.iload_n 1, 1) := by decide +kernel
theorem dX11_swap_24 : decode prog_13_method_18_code 24 = .ok (.imul, 1) := by decide +kernel
theorem dX11_swap_25 : decode prog_13_method_18_code 25 = .ok (.iload_n 2, 1) := by decide +kernel
theorem dX11_swap_26 : decode prog_13_method_18_code 26 = .ok (.iadd, 1) := by decide +kernel
theorem dX11_swap_27 : decode prog_13_method_18_code 27 = .ok (.bipush 6, 2) := by decide +kernel
theorem dX11_swap_29 : decode prog_13_method_18_code 29 = .ok (.iload_n 1, 1) := by decide +kernel
theorem dX11_swap_30 : decode prog_13_method_18_code 30 = .ok (.imul, 1) := by decide +kernel
theorem dX11_swap_31 : decode prog_13_method_18_code 31 = .ok (.iload_n 3, 1) := by decide +kernel
theorem dX11_swap_32 : decode prog_13_method_18_code 32 = .ok (.iadd, 1) := by decide +kernel
theorem dX11_swap_33 : decode prog_13_method_18_code 33 = .ok (.invokevirtual 159, 3) := by decide +kernel
theorem dX11_swap_36 : decode prog_13_method_18_code 36 = .ok (.iconst 0, 1) := by decide +kernel
theorem dX11_swap_37 : decode prog_13_method_18_code 37 = .ok (.ireturn, 1) := by decide +kernel
abbrev rmX11_swap : Room := { frames := 4, cells := 0, slots := 0, locals := 86 }
def fX11_swap  (t0 : Nat) (v1 : Int32) (v2 : Int32) (v3 : Int32) (h : Hp) : Option (Int32 × Hp) :=
  gk (h.1 t0) 12 <|
  b2 (fX11_isLine t0 v1 v2 h) fun r4 g2 =>
  if r4 = 0 then
  (some ((-1), g2))
  else
  (gk (g2.1 t0) 12 <|
  b2 (fX11_isLine t0 v1 v3 g2) fun r10 g8 =>
  if r10 = 0 then
  (some ((-1), g8))
  else
  (gk (g8.1 t0) 12 <|
  b2 (fX11_swapAt t0 ((6 * v1) + v2) ((6 * v1) + v3) g8) fun _ g14 =>
  some (0, g14)))
section
variable {p : Program} {l : Launch} {e : Env} {s : State} {m : MethodId} {args : Array Value} {below : List Frame} {meth : Method} {c : Code} {D : va_G} {cA : Nat → ClassId} {h0 h9 : Hp}
set_option maxHeartbeats 4000000 in
set_option maxRecDepth 100000 in
theorem tX11_swap_0  {r : Int32} (cx : CallFix p m c prog_13_method_18_code 4 s args tbG RX11) (hr : meth.sig.returnType = (Option.some FieldType.int)) (hlk : meth.locks = false)  (t0 : Nat) (v1 : Int32) (v2 : Int32) (v3 : Int32) (h : Hp) (H : Heap) (locs : List Loc) (ls : Array Slot) (hB : hp_B D cA (hp_A h0) s h H locs) (hl : lv_has ls 4 [(0, .ref t0), (1, .int v1), (2, .int v2), (3, .int v3)]) (hf : fX11_swap  t0 v1 v2 v3 h = some (r, h9)) : W p l e rmX11_swap s m args below meth c H locs 0 0 (MQ below (hp_Qi D cA h0 h9 r) args s 0 0 (hp_A h0)) (F0 m 0 ls []) := by
  obtain ⟨hx, hb, -⟩ := id cx
  unfold fX11_swap at hf
  refine lv_aload_n hx hb dX11_swap_0 rfl (lv_at hl 0 rfl) ?_
  refine lv_iload_n hx hb dX11_swap_1 rfl (lv_at hl 1 rfl) ?_
  refine lv_iload_n hx hb dX11_swap_2 rfl (lv_at hl 2 rfl) ?_
  obtain ⟨k1, hf⟩ := gk_ok hf
  obtain ⟨r4, g2, m3, hf⟩ := b2_ok hf
  refine hp_cI0 (cl_X11_151 cx hB (cX11_isLine l D cA t0 v1 v2 h _ g2 m3) k1 ⟨Nat.le_of_ble_eq_true rfl, Nat.le_of_ble_eq_true rfl⟩ rfl hl.1 rfl (Nat.le_of_ble_eq_true rfl) ⟨Nat.le_of_ble_eq_true rfl, Nat.le_of_ble_eq_true rfl⟩ dX11_swap_3) rfl rfl hB (fun H locs hB => ?_)
  refine lv_if_eq (tgt := 18) hx hb dX11_swap_6 (by decide) (fun c6 => ?_) (fun c6 => ?_)
  · replace hf := it_t c6 hf
    refine lv_iconst (v := (-1)) hx hb dX11_swap_18 (by decide) ?_
    obtain ⟨rfl, rfl⟩ := rt_ok hf
    exact hp_iret cx hB hr hlk (Nat.le_of_ble_eq_true rfl) (Nat.le_of_ble_eq_true rfl) dX11_swap_19
  · replace hf := it_f c6 hf
    refine lv_aload_n hx hb dX11_swap_9 rfl (lv_at hl 0 rfl) ?_
    refine lv_iload_n hx hb dX11_swap_10 rfl (lv_at hl 1 rfl) ?_
    refine lv_iload_n hx hb dX11_swap_11 rfl (lv_at hl 3 rfl) ?_
    obtain ⟨k7, hf⟩ := gk_ok hf
    obtain ⟨r10, g8, m9, hf⟩ := b2_ok hf
    refine hp_cI0 (cl_X11_151 cx hB (cX11_isLine l D cA t0 v1 v3 g2 _ g8 m9) k7 ⟨Nat.le_of_ble_eq_true rfl, Nat.le_of_ble_eq_true rfl⟩ rfl hl.1 rfl (Nat.le_of_ble_eq_true rfl) ⟨Nat.le_of_ble_eq_true rfl, Nat.le_of_ble_eq_true rfl⟩ dX11_swap_12) rfl rfl hB (fun H locs hB => ?_)
    refine lv_if_ne (tgt := 20) hx hb dX11_swap_15 (by decide) (fun c12 => ?_) (fun c12 => ?_)
    · replace hf := it_f c12 hf
      refine lv_aload_n hx hb dX11_swap_20 rfl (lv_at hl 0 rfl) ?_
      refine lv_bipush (v := 6) hx hb dX11_swap_21 (by decide) ?_
      refine lv_iload_n hx hb dX11_swap_23 rfl (lv_at hl 1 rfl) ?_
      refine lv_imul hx hb dX11_swap_24 ?_
      refine lv_iload_n hx hb dX11_swap_25 rfl (lv_at hl 2 rfl) ?_
      refine lv_iadd hx hb dX11_swap_26 ?_
      refine lv_bipush (v := 6) hx hb dX11_swap_27 (by decide) ?_
      refine lv_iload_n hx hb dX11_swap_29 rfl (lv_at hl 1 rfl) ?_
      refine lv_imul hx hb dX11_swap_30 ?_
      refine lv_iload_n hx hb dX11_swap_31 rfl (lv_at hl 3 rfl) ?_
      refine lv_iadd hx hb dX11_swap_32 ?_
      obtain ⟨k13, hf⟩ := gk_ok hf
      obtain ⟨uu, g14, m15, hf⟩ := b2_ok hf
      refine hp_cV0 (cl_X11_159 cx hB (cX11_swapAt l D cA t0 ((6 * v1) + v2) ((6 * v1) + v3) g8 _ g14 m15) k13 ⟨Nat.le_of_ble_eq_true rfl, Nat.le_of_ble_eq_true rfl⟩ rfl hl.1 rfl (Nat.le_of_ble_eq_true rfl) ⟨Nat.le_of_ble_eq_true rfl, Nat.le_of_ble_eq_true rfl⟩ dX11_swap_33) rfl rfl hB (fun H locs hB => ?_)
      refine lv_iconst (v := 0) hx hb dX11_swap_36 (by decide) ?_
      obtain ⟨rfl, rfl⟩ := rt_ok hf
      exact hp_iret cx hB hr hlk (Nat.le_of_ble_eq_true rfl) (Nat.le_of_ble_eq_true rfl) dX11_swap_37
    · replace hf := it_t c12 hf
      refine lv_iconst (v := (-1)) hx hb dX11_swap_18 (by decide) ?_
      obtain ⟨rfl, rfl⟩ := rt_ok hf
      exact hp_iret cx hB hr hlk (Nat.le_of_ble_eq_true rfl) (Nat.le_of_ble_eq_true rfl) dX11_swap_19
end
set_option maxHeartbeats 4000000 in
set_option maxRecDepth 100000 in
theorem cX11_swap (l : Launch) (D : va_G) (cA : Nat → ClassId) (t0 : Nat) (v1 : Int32) (v2 : Int32) (v3 : Int32) (h : Hp) (r : Int32) (h9 : Hp) (hf : fX11_swap t0 v1 v2 v3 h = some (r, h9)) : hp_M l yX11_swap prog_13_method_18_code 4 (Option.some FieldType.int) rmX11_swap D cA h [.ref t0, .int v1, .int v2, .int v3] (hp_Qi D cA h h9 r) := by
  refine Met.ofW (cc := prog_13_method_18_code) (maxL := 4) (ret := (Option.some FieldType.int)) (by decide) rfl ?_
  intro p e s m args below meth c s₁ B hml hv
  obtain ⟨rfl, hU⟩ := hv
  have hts := atoms_spec (ws := Cond.code yX11_swap prog_13_method_18_code 4 (Option.some FieldType.int) :: tbG) B.pre
  have hl := lv_entry ([.ref t0, .int v1, .int v2, .int v3]) (n := 4) (Nat.le_of_ble_eq_true rfl)
  rw [lg_entry_eq]
  generalize (lg_sl ([.ref t0, .int v1, .int v2, .int v3]) ++ List.replicate (4 - (lg_sl ([.ref t0, .int v1, .int v2, .int v3])).length) Slot.unset).toArray = ls at hl ⊢
  exact tX11_swap_0 ⟨B.exec, B.bytes, hml, findClass_of_methodNamed B.named, fun w hw => hts w (List.mem_cons_of_mem _ hw)⟩ B.returns B.notSynchronized t0 v1 v2 v3 h _ _ _ (hp_B.entry hU) hl hf
