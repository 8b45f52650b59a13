abbrev yX11_isCaller : MethodName := ⟨"SpokenMenusModel", "isCaller", "(IIIII)Z"⟩
theorem dX11_isCaller_0 : decode prog_13_method_34_code 0 = .ok (.iload_n 0, 1) := by decide +kernel
theorem dX11_isCaller_1 : decode prog_13_method_34_code 1 = .ok (.iconst 0, 1) := by decide +kernel
theorem dX11_isCaller_2 : decode prog_13_method_34_code 2 = .ok (.bipush 15, 2) := by decide +kernel
theorem dX11_isCaller_4 : decode prog_13_method_34_code 4 = .ok (.invokestatic 129, 3) := by decide +kernel
theorem dX11_isCaller_7 : decode prog_13_method_34_code 7 = .ok (.ifCond .eq 48, 3) := by decide +kernel
theorem dX11_isCaller_10 : decode prog_13_method_34_code 10 = .ok (.iload_n 1, 1) := by decide +kernel
theorem dX11_isCaller_11 : decode prog_13_method_34_code 11 = .ok (.iconst 0, 1) := by decide +kernel
theorem dX11_isCaller_12 : decode prog_13_method_34_code 12 = .ok (.ldc 232, 2) := by decide +kernel
theorem dX11_isCaller_14 : decode prog_13_method_34_code 14 = .ok (.invokestatic 129, 3) := by decide +kernel
theorem dX11_isCaller_17 : decode prog_13_method_34_code 17 = .ok (.ifCond .eq 38, 3) := by decide +kernel
theorem dX11_isCaller_20 : decode prog_13_method_34_code 20 = .ok (.iload_n 2, 1) := by decide +kernel
theorem dX11_isCaller_21 : decode prog_13_method_34_code 21 = .ok (.iconst 1, 1) := by decide +kernel
theorem dX11_isCaller_22 : decode prog_13_method_34_code 22 = .ok (.sipush 5000, 3) := by decide +kernel
theorem dX11_isCaller_25 : decode prog_13_method_34_code 25 = .ok (.invokestatic 129, 3) := by decide +kernel
theorem dX11_isCaller_28 : decode prog_13_method_34_code 28 = .ok (.ifCond .eq 27, 3) := by decide +kernel
theorem dX11_isCaller_31 : decode prog_13_method_34_code 31 = .ok (.iload_n 3, 1) := by decide +kernel
theorem dX11_isCaller_32 : decode prog_13_method_34_code 32 = .ok (.iconst 0, 1) := by decide +kernel
theorem dX11_isCaller_33 : decode prog_13_method_34_code 33 = .ok (.bipush 23, 2) := by decide +kernel
theorem dX11_isCaller_35 : decode prog_13_method_34_code 35 = .ok (.invokestatic 129, 3) := by decide +kernel
theorem dX11_isCaller_38 : decode prog_13_method_34_code 38 = .ok (.ifCond .eq 17, 3) := by decide +kernel
theorem dX11_isCaller_41 : decode prog_13_method_34_code 41 = .ok (.iload 4, 2) := by decide +kernel
theorem dX11_isCaller_43 : decode prog_13_method_34_code 43 = .ok (.iconst 0, 1) := by decide +kernel
theorem dX11_isCaller_44 : decode prog_13_method_34_code 44 = .ok (.iconst 1, 1) := by decide +kernel
theorem dX11_isCaller_45 : decode prog_13_method_34_code 45 = .ok (.invokestatic 129, 3) := by decide +kernel
theorem dX11_isCaller_48 : decode prog_13_method_34_code 48 = .ok (.ifCond .eq 7, 3) := by decide +kernel
theorem dX11_isCaller_51 : decode prog_13_method_34_code 51 = .ok (.iconst 1, 1) := by decide +kernel
theorem dX11_isCaller_52 : decode prog_13_method_34_code 52 = .ok (.goto 4, 3) := by decide +kernel
theorem dX11_isCaller_55 : decode prog_13_method_34_code 55 = .ok (.iconst 0, 1) := by decide +kernel
theorem dX11_isCaller_56 : decode prog_13_method_34_code 56 = .ok (.ireturn, 1) := by decide +kernel
abbrev rmX11_isCaller : Room := { frames := 1, cells := 0, slots := 0, locals := 22 }
def fX11_isCaller  (v0 : Int32) (v1 : Int32) (v2 : Int32) (v3 : Int32) (v4 : Int32) (h : Hp) : Option (Int32 × Hp) :=
  b2 (fX11_in v0 0 15 h) fun r3 g1 =>
  if r3 = 0 then
  (some (0, g1))
  else
  (b2 (fX11_in v1 0 99999999 g1) fun r8 g6 =>
  if r8 = 0 then
  (some (0, g6))
  else
  (b2 (fX11_in v2 1 5000 g6) fun r13 g11 =>
  if r13 = 0 then
  (some (0, g11))
  else
  (b2 (fX11_in v3 0 23 g11) fun r18 g16 =>
  if r18 = 0 then
  (some (0, g16))
  else
  (b2 (fX11_in v4 0 1 g16) fun r23 g21 =>
  if r23 = 0 then
  (some (0, g21))
  else
  (some (1, g21))))))
section
variable {p : Program} {l : Launch} {e : Env} {s : State} {m : MethodId} {args : Array Value} {below : List Frame} {meth : Method} {c : Code} {D : va_G} {cA : Nat → ClassId} {h0 h9 : Hp}
set_option maxHeartbeats 4000000 in
set_option maxRecDepth 100000 in
theorem tX11_isCaller_0  {r : Int32} (cx : CallFix p m c prog_13_method_34_code 5 s args tbG RX11) (hr : meth.sig.returnType = (Option.some FieldType.boolean)) (hlk : meth.locks = false)  (v0 : Int32) (v1 : Int32) (v2 : Int32) (v3 : Int32) (v4 : Int32) (h : Hp) (H : Heap) (locs : List Loc) (ls : Array Slot) (hB : hp_B D cA (hp_A h0) s h H locs) (hl : lv_has ls 5 [(0, .int v0), (1, .int v1), (2, .int v2), (3, .int v3), (4, .int v4)]) (hf : fX11_isCaller  v0 v1 v2 v3 v4 h = some (r, h9)) : W p l e rmX11_isCaller s m args below meth c H locs 0 0 (MQ below (hp_Qi D cA h0 h9 r) args s 0 0 (hp_A h0)) (F0 m 0 ls []) := by
  obtain ⟨hx, hb, -⟩ := id cx
  unfold fX11_isCaller at hf
  refine lv_iload_n hx hb dX11_isCaller_0 rfl (lv_at hl 0 rfl) ?_
  refine lv_iconst (v := 0) hx hb dX11_isCaller_1 (by decide) ?_
  refine lv_bipush (v := 15) hx hb dX11_isCaller_2 (by decide) ?_
  obtain ⟨r3, g1, m2, hf⟩ := b2_ok hf
  refine hp_cI0 (cl_X11_129 cx hB (cX11_in l D cA v0 0 15 h _ g1 m2) ⟨Nat.le_of_ble_eq_true rfl, Nat.le_of_ble_eq_true rfl⟩ rfl hl.1 rfl (Nat.le_of_ble_eq_true rfl) ⟨Nat.le_of_ble_eq_true rfl, Nat.le_of_ble_eq_true rfl⟩ dX11_isCaller_4) rfl rfl hB (fun H locs hB => ?_)
  refine lv_if_eq (tgt := 55) hx hb dX11_isCaller_7 (by decide) (fun c5 => ?_) (fun c5 => ?_)
  · replace hf := it_t c5 hf
    refine lv_iconst (v := 0) hx hb dX11_isCaller_55 (by decide) ?_
    obtain ⟨rfl, rfl⟩ := rt_ok hf
    exact hp_zret cx hB hr hlk (Nat.le_of_ble_eq_true rfl) (Nat.le_of_ble_eq_true rfl) rfl dX11_isCaller_56
  · replace hf := it_f c5 hf
    refine lv_iload_n hx hb dX11_isCaller_10 rfl (lv_at hl 1 rfl) ?_
    refine lv_iconst (v := 0) hx hb dX11_isCaller_11 (by decide) ?_
    refine lv_ldc (v := 99999999) hx hb cx.2.2.2.1 (cx.2.2.2.2 _ (tb_in qw_984 rfl)) dX11_isCaller_12 ?_
    obtain ⟨r8, g6, m7, hf⟩ := b2_ok hf
    refine hp_cI0 (cl_X11_129 cx hB (cX11_in l D cA v1 0 99999999 g1 _ g6 m7) ⟨Nat.le_of_ble_eq_true rfl, Nat.le_of_ble_eq_true rfl⟩ rfl hl.1 rfl (Nat.le_of_ble_eq_true rfl) ⟨Nat.le_of_ble_eq_true rfl, Nat.le_of_ble_eq_true rfl⟩ dX11_isCaller_14) rfl rfl hB (fun H locs hB => ?_)
    refine lv_if_eq (tgt := 55) hx hb dX11_isCaller_17 (by decide) (fun c10 => ?_) (fun c10 => ?_)
    · replace hf := it_t c10 hf
      refine lv_iconst (v := 0) hx hb dX11_isCaller_55 (by decide) ?_
      obtain ⟨rfl, rfl⟩ := rt_ok hf
      exact hp_zret cx hB hr hlk (Nat.le_of_ble_eq_true rfl) (Nat.le_of_ble_eq_true rfl) rfl dX11_isCaller_56
    · replace hf := it_f c10 hf
      refine lv_iload_n hx hb dX11_isCaller_20 rfl (lv_at hl 2 rfl) ?_
      refine lv_iconst (v := 1) hx hb dX11_isCaller_21 (by decide) ?_
      refine lv_sipush (v := 5000) hx hb dX11_isCaller_22 (by decide) ?_
      obtain ⟨r13, g11, m12, hf⟩ := b2_ok hf
      refine hp_cI0 (cl_X11_129 cx hB (cX11_in l D cA v2 1 5000 g6 _ g11 m12) ⟨Nat.le_of_ble_eq_true rfl, Nat.le_of_ble_eq_true rfl⟩ rfl hl.1 rfl (Nat.le_of_ble_eq_true rfl) ⟨Nat.le_of_ble_eq_true rfl, Nat.le_of_ble_eq_true rfl⟩ dX11_isCaller_25) rfl rfl hB (fun H locs hB => ?_)
      refine lv_if_eq (tgt := 55) hx hb dX11_isCaller_28 (by decide) (fun c15 => ?_) (fun c15 => ?_)
      · replace hf := it_t c15 hf
        refine lv_iconst (v := 0) hx hb dX11_isCaller_55 (by decide) ?_
        obtain ⟨rfl, rfl⟩ := rt_ok hf
        exact hp_zret cx hB hr hlk (Nat.le_of_ble_eq_true rfl) (Nat.le_of_ble_eq_true rfl) rfl dX11_isCaller_56
      · replace hf := it_f c15 hf
        refine lv_iload_n hx hb dX11_isCaller_31 rfl (lv_at hl 3 rfl) ?_
        refine lv_iconst (v := 0) hx hb dX11_isCaller_32 (by decide) ?_
        refine lv_bipush (v := 23) hx hb dX11_isCaller_33 (by decide) ?_
        obtain ⟨r18, g16, m17, hf⟩ := b2_ok hf
        refine hp_cI0 (cl_X11_129 cx hB (cX11_in l D cA v3 0 23 g11 _ g16 m17) ⟨Nat.le_of_ble_eq_true rfl, Nat.le_of_ble_eq_true rfl⟩ rfl hl.1 rfl (Nat.le_of_ble_eq_true rfl) ⟨Nat.le_of_ble_eq_true rfl, Nat.le_of_ble_eq_true rfl⟩ dX11_isCaller_35) rfl rfl hB (fun H locs hB => ?_)
        refine lv_if_eq (tgt := 55) hx hb dX11_isCaller_38 (by decide) (fun c20 => ?_) (fun c20 => ?_)
        · replace hf := it_t c20 hf
          refine lv_iconst (v := 0) hx hb dX11_isCaller_55 (by decide) ?_
          obtain ⟨rfl, rfl⟩ := rt_ok hf
          exact hp_zret cx hB hr hlk (Nat.le_of_ble_eq_true rfl) (Nat.le_of_ble_eq_true rfl) rfl dX11_isCaller_56
        · replace hf := it_f c20 hf
          refine lv_iload hx hb dX11_isCaller_41 (lv_at hl 4 rfl) ?_
          refine lv_iconst (v := 0) hx hb dX11_isCaller_43 (by decide) ?_
          refine lv_iconst (v := 1) hx hb dX11_isCaller_44 (by decide) ?_
          obtain ⟨r23, g21, m22, hf⟩ := b2_ok hf
          refine hp_cI0 (cl_X11_129 cx hB (cX11_in l D cA v4 0 1 g16 _ g21 m22) ⟨Nat.le_of_ble_eq_true rfl, Nat.le_of_ble_eq_true rfl⟩ rfl hl.1 rfl (Nat.le_of_ble_eq_true rfl) ⟨Nat.le_of_ble_eq_true rfl, Nat.le_of_ble_eq_true rfl⟩ dX11_isCaller_45) rfl rfl hB (fun H locs hB => ?_)
          refine lv_if_eq (tgt := 55) hx hb dX11_isCaller_48 (by decide) (fun c25 => ?_) (fun c25 => ?_)
          · replace hf := it_t c25 hf
            refine lv_iconst (v := 0) hx hb dX11_isCaller_55 (by decide) ?_
            obtain ⟨rfl, rfl⟩ := rt_ok hf
            exact hp_zret cx hB hr hlk (Nat.le_of_ble_eq_true rfl) (Nat.le_of_ble_eq_true rfl) rfl dX11_isCaller_56
          · replace hf := it_f c25 hf
            refine lv_iconst (v := 1) hx hb dX11_isCaller_51 (by decide) ?_
            refine lv_goto (tgt := 56) hx hb dX11_isCaller_52 (by decide) ?_
            obtain ⟨rfl, rfl⟩ := rt_ok hf
            exact hp_zret cx hB hr hlk (Nat.le_of_ble_eq_true rfl) (Nat.le_of_ble_eq_true rfl) rfl dX11_isCaller_56
end
set_option maxHeartbeats 4000000 in
set_option maxRecDepth 100000 in
theorem cX11_isCaller (l : Launch) (D : va_G) (cA : Nat → ClassId) (v0 : Int32) (v1 : Int32) (v2 : Int32) (v3 : Int32) (v4 : Int32) (h : Hp) (r : Int32) (h9 : Hp) (hf : fX11_isCaller v0 v1 v2 v3 v4 h = some (r, h9)) : hp_M l yX11_isCaller prog_13_method_34_code 5 (Option.some FieldType.boolean) rmX11_isCaller D cA h [.int v0, .int v1, .int v2, .int v3, .int v4] (hp_Qi D cA h h9 r) := by
  refine Met.ofW (cc := prog_13_method_34_code) (maxL := 5) (ret := (Option.some FieldType.boolean)) (by decide) rfl ?_
  intro p e s m args below meth c s₁ B hml hv
  obtain ⟨rfl, hU⟩ := hv
  have hts := atoms_spec (ws := Cond.code yX11_isCaller prog_13_method_34_code 5 (Option.some FieldType.boolean) :: tbG) B.pre
  have hl := lv_entry ([.int v0, .int v1, .int v2, .int v3, .int v4]) (n := 5) (Nat.le_of_ble_eq_true rfl)
  rw [lg_entry_eq]
  generalize (lg_sl ([.int v0, .int v1, .int v2, .int v3, .int v4]) ++ List.replicate (5 - (lg_sl ([.int v0, .int v1, .int v2, .int v3, .int v4])).length) Slot.unset).toArray = ls at hl ⊢
  exact tX11_isCaller_0 ⟨B.exec, B.bytes, hml, findClass_of_methodNamed B.named, fun w hw => hts w (List.mem_cons_of_mem _ hw)⟩ B.returns B.notSynchronized v0 v1 v2 v3 v4 h _ _ _ (hp_B.entry hU) hl hf
section
variable {p : Program} {l : Launch} {e : Env} {R : Room} {s : State} {m : MethodId} {args : Array Value} {below : List Frame} {meth : Method} {c : Code} {H : Heap} {locs : List Loc} {cells slots : Nat} {Q : State → Prop}
variable {cc : ByteArray} {pc nL : Nat} {ls : Array Slot} {rest : List Value} {D : va_G} {cA : Nat → ClassId} {A : Nat → Prop} {a : Nat} {h : Hp}
theorem cl_X11_233 {As st0 : List Value} {Qc : Array Value → State → Outcome → State → Prop} (cx : CallFix p m c cc nL s args tbG RX11) (hB : hp_B D cA A s h H locs) (hM : hp_M l yX11_isCaller prog_13_method_34_code 5 (Option.some FieldType.boolean) rmX11_isCaller D cA h As Qc) (hR : rmX11_isCaller.frames + 1 ≤ R.frames ∧ 8 + (5 + 11) + rmX11_isCaller.locals ≤ R.locals) (hn : As.length = 5) (hls : ls.size = nL) (hst : st0 = As.reverse ++ rest) (hW : (rest.map fun v => v.category).sum ≤ 8) (hf : cells + rmX11_isCaller.cells ≤ R.cells ∧ slots + rmX11_isCaller.slots ≤ R.slots) (hdg : decode cc pc = .ok (.invokestatic 233, 3)) :
    va_Run p l e R s m args below meth c H locs cells slots rmX11_isCaller.cells rmX11_isCaller.slots (F0 m pc ls st0) rest (Qc As.toArray) (hp_A h) :=
  hp_runS cx hB hM qw_983 qw_981 qw_982 qw_10 (by decide +kernel) hR hn hls hst hW hf hdg
theorem cl_X11_237 {As st0 : List Value} {b : Nat} {Qc : Array Value → State → Outcome → State → Prop} (cx : CallFix p m c cc nL s args tbG RX11) (hB : hp_B D cA A s h H locs) (hM : hp_M l yX11_goThrough prog_13_method_33_code 8 (Option.some FieldType.int) rmX11_goThrough D cA h (.ref b :: As) Qc) (hkb : h.1 b = 12) (hR : rmX11_goThrough.frames + 1 ≤ R.frames ∧ 8 + (8 + 11) + rmX11_goThrough.locals ≤ R.locals) (hn : As.length = 5) (hls : ls.size = nL) (hst : st0 = As.reverse ++ .ref b :: rest) (hW : (rest.map fun v => v.category).sum ≤ 8) (hf : cells + rmX11_goThrough.cells ≤ R.cells ∧ slots + rmX11_goThrough.slots ≤ R.slots) (hdg : decode cc pc = .ok (.invokevirtual 237, 3)) :
    va_Run p l e R s m args below meth c H locs cells slots rmX11_goThrough.cells rmX11_goThrough.slots (F0 m pc ls st0) rest (Qc (Value.ref b :: As).toArray) (hp_A h) :=
  hp_runV cx hB hM (ci := 11) rfl (by decide) hkb qw_988 qw_985 qw_987 qp_21 qw_10 (by decide +kernel) hR hn hls hst hW hf hdg
theorem pf_X11_241 (cx : CallFix p m c cc nL s args tbG RX11) (hB : hp_B D cA A s h H locs) (hka : h.1 a = 12) {x : Int32} (hz : zb x = true) (hdg : decode cc pc = .ok (.putfield 241, 3)) (kk : ∀ (H1 : Heap) (locs1 : List Loc), hp_B D cA A s (hp_si h a 22 x) H1 locs1 → W p l e R s m args below meth c H1 locs1 cells slots Q (F0 m (pc + 3) ls rest)) : W p l e R s m args below meth c H locs cells slots Q (F0 m pc ls (.int x :: .ref a :: rest)) :=
  hp_putX cx hB (ci := 11) 22 tyX11 tyX11_ok nmX11 rfl inX11 (by decide) rfl (by decide) (Or.inl rfl) qw_754 hka (v := .int x) (hp_like_si h a 22 x) (hp_fs_si (by decide) rfl) (zb_nar hz) (zb_fit hz) hdg kk
theorem pf_X11_245 (cx : CallFix p m c cc nL s args tbG RX11) (hB : hp_B D cA A s h H locs) (hka : h.1 a = 12) {x : Int32} (hdg : decode cc pc = .ok (.putfield 245, 3)) (kk : ∀ (H1 : Heap) (locs1 : List Loc), hp_B D cA A s (hp_si h a 23 x) H1 locs1 → W p l e R s m args below meth c H1 locs1 cells slots Q (F0 m (pc + 3) ls rest)) : W p l e R s m args below meth c H locs cells slots Q (F0 m pc ls (.int x :: .ref a :: rest)) :=
  hp_putX cx hB (ci := 11) 23 tyX11 tyX11_ok nmX11 rfl inX11 (by decide) rfl (by decide) (Or.inl rfl) qw_755 hka (v := .int x) (hp_like_si h a 23 x) (hp_fs_si (by decide) rfl) rfl rfl hdg kk
theorem pf_X11_248 (cx : CallFix p m c cc nL s args tbG RX11) (hB : hp_B D cA A s h H locs) (hka : h.1 a = 12) {x : Int32} (hdg : decode cc pc = .ok (.putfield 248, 3)) (kk : ∀ (H1 : Heap) (locs1 : List Loc), hp_B D cA A s (hp_si h a 24 x) H1 locs1 → W p l e R s m args below meth c H1 locs1 cells slots Q (F0 m (pc + 3) ls rest)) : W p l e R s m args below meth c H locs cells slots Q (F0 m pc ls (.int x :: .ref a :: rest)) :=
  hp_putX cx hB (ci := 11) 24 tyX11 tyX11_ok nmX11 rfl inX11 (by decide) rfl (by decide) (Or.inl rfl) qw_756 hka (v := .int x) (hp_like_si h a 24 x) (hp_fs_si (by decide) rfl) rfl rfl hdg kk
theorem pf_X11_251 (cx : CallFix p m c cc nL s args tbG RX11) (hB : hp_B D cA A s h H locs) (hka : h.1 a = 12) {x : Int32} (hdg : decode cc pc = .ok (.putfield 251, 3)) (kk : ∀ (H1 : Heap) (locs1 : List Loc), hp_B D cA A s (hp_si h a 25 x) H1 locs1 → W p l e R s m args below meth c H1 locs1 cells slots Q (F0 m (pc + 3) ls rest)) : W p l e R s m args below meth c H locs cells slots Q (F0 m pc ls (.int x :: .ref a :: rest)) :=
  hp_putX cx hB (ci := 11) 25 tyX11 tyX11_ok nmX11 rfl inX11 (by decide) rfl (by decide) (Or.inl rfl) qw_757 hka (v := .int x) (hp_like_si h a 25 x) (hp_fs_si (by decide) rfl) rfl rfl hdg kk
theorem pf_X11_254 (cx : CallFix p m c cc nL s args tbG RX11) (hB : hp_B D cA A s h H locs) (hka : h.1 a = 12) {x : Int32} (hdg : decode cc pc = .ok (.putfield 254, 3)) (kk : ∀ (H1 : Heap) (locs1 : List Loc), hp_B D cA A s (hp_si h a 26 x) H1 locs1 → W p l e R s m args below meth c H1 locs1 cells slots Q (F0 m (pc + 3) ls rest)) : W p l e R s m args below meth c H locs cells slots Q (F0 m pc ls (.int x :: .ref a :: rest)) :=
  hp_putX cx hB (ci := 11) 26 tyX11 tyX11_ok nmX11 rfl inX11 (by decide) rfl (by decide) (Or.inl rfl) qw_758 hka (v := .int x) (hp_like_si h a 26 x) (hp_fs_si (by decide) rfl) rfl rfl hdg kk
theorem gf_X11_70 (cx : CallFix p m c cc nL s args tbG RX11) (hB : hp_B D cA A s h H locs) (hka : h.1 a = 12) {b : Nat} (ho : h.2.2.2.1 a 27 = some b) (hdg : decode cc pc = .ok (.getfield 70, 3)) (kk : W p l e R s m args below meth c H locs cells slots Q (F0 m (pc + 3) ls (.ref b :: rest))) : W p l e R s m args below meth c H locs cells slots Q (F0 m pc ls (.ref a :: rest)) :=
  hp_getR cx hB (ci := 11) 27 rfl inX11 (by decide) rfl (by decide) rfl qw_759 hka (o := some b) ho.symm hdg kk
theorem gf_X11_73 (cx : CallFix p m c cc nL s args tbG RX11) (hB : hp_B D cA A s h H locs) (hka : h.1 a = 12) {b : Nat} (ho : h.2.2.2.1 a 28 = some b) (hdg : decode cc pc = .ok (.getfield 73, 3)) (kk : W p l e R s m args below meth c H locs cells slots Q (F0 m (pc + 3) ls (.ref b :: rest))) : W p l e R s m args below meth c H locs cells slots Q (F0 m pc ls (.ref a :: rest)) :=
  hp_getR cx hB (ci := 11) 28 rfl inX11 (by decide) rfl (by decide) rfl qw_760 hka (o := some b) ho.symm hdg kk
end
abbrev yX11_ring : MethodName := ⟨"SpokenMenusModel", "ring", "(IIIII)I"⟩
theorem dX11_ring_0 : decode prog_13_method_35_code 0 = .ok (.iload_n 1, 1) := by decide +kernel
theorem dX11_ring_1 : decode prog_13_method_35_code 1 = .ok (.iload_n 2, 1) := by decide +kernel
theorem dX11_ring_2 : decode prog_13_method_35_code 2 = .ok (.iload_n 3, 1) := by decide +kernel
theorem dX11_ring_3 : decode prog_13_method_35_code 3 = .ok (.iload 4, 2) := by decide +kernel
theorem dX11_ring_5 : decode prog_13_method_35_code 5 = .ok (.iload 5, 2) := by decide +kernel
theorem dX11_ring_7 : decode prog_13_method_35_code 7 = .ok (.invokestatic 233, 3) := by decide +kernel
theorem dX11_ring_10 : decode prog_13_method_35_code 10 = .ok (.ifCond .ne 5, 3) := by decide +kernel
theorem dX11_ring_13 : decode prog_13_method_35_code 13 = .ok (.iconst (-1), 1) := by decide +kernel
theorem dX11_ring_14 : decode prog_13_method_35_code 14 = .ok (.ireturn, 1) := by decide +kernel
theorem dX11_ring_15 : decode prog_13_method_35_code 15 = .ok (.aload_n 0, 1) := by decide +kernel
theorem dX11_ring_16 : decode prog_13_method_35_code 16 = .ok (.getfield 125, 3) := by decide +kernel
theorem dX11_ring_19 : decode prog_13_method_35_code 19 = .ok (.ifCond .ne 6, 3) := by decide +kernel
theorem dX11_ring_22 : decode prog_13_method_35_code 22 = .ok (.bipush (-2), 2) := by decide +kernel
theorem dX11_ring_24 : decode prog_13_method_35_code 24 = .ok (.ireturn, 1) := by decide +kernel
theorem dX11_ring_25 : decode prog_13_method_35_code 25 = .ok (.aload_n 0, 1) := by decide +kernel
theorem dX11_ring_26 : decode prog_13_method_35_code 26 = .ok (.iload_n 1, 1) := by decide +kernel
theorem dX11_ring_27 : decode prog_13_method_35_code 27 = .ok (.iload_n 2, 1) := by decide +kernel
theorem dX11_ring_28 : decode prog_13_method_35_code 28 = .ok (.iload_n 3, 1) := by decide +kernel
theorem dX11_ring_29 : decode prog_13_method_35_code 29 = .ok (.iload 4, 2) := by decide +kernel
theorem dX11_ring_31 : decode prog_13_method_35_code 31 = .ok (.iload 5, 2) := by decide +kernel
theorem dX11_ring_33 : decode prog_13_method_35_code 33 = .ok (.iconst 1, 1) := by decide +kernel
theorem dX11_ring_34 : decode prog_13_method_35_code 34 = .ok (.if_icmp .ne 7, 3) := by decide +kernel
theorem dX11_ring_37 : decode prog_13_method_35_code 37 = .ok (.iconst 1, 1) := by decide +kernel
theorem dX11_ring_38 : decode prog_13_method_35_code 38 = .ok (.goto 4, 3) := by decide +kernel
theorem dX11_ring_41 : decode prog_13_method_35_code 41 = .ok (.iconst 0, 1) := by decide +kernel
theorem dX11_ring_42 : decode prog_13_method_35_code 42 = .ok (.invokevirtual 237, 3) := by decide +kernel
theorem dX11_ring_45 : decode prog_13_method_35_code 45 = .ok (.istore 6, 2) := by decide +kernel
theorem dX11_ring_47 : decode prog_13_method_35_code 47 = .ok (.aload_n 0, 1) := by decide +kernel
theorem dX11_ring_48 : decode prog_13_method_35_code 48 = .ok (.iconst 1, 1) := by decide +kernel
theorem dX11_ring_49 : decode prog_13_method_35_code 49 = .ok (.putfield 241, 3) := by decide +kernel
theorem dX11_ring_52 : decode prog_13_method_35_code 52 = .ok (.aload_n 0, 1) := by decide +kernel
theorem dX11_ring_53 : decode prog_13_method_35_code 53 = .ok (.aload_n 0, 1) := by decide +kernel
theorem dX11_ring_54 : decode prog_13_method_35_code 54 = .ok (.getfield 196, 3) := by decide +kernel
theorem dX11_ring_57 : decode prog_13_method_35_code 57 = .ok (.putfield 245, 3) := by decide +kernel
theorem dX11_ring_60 : decode prog_13_method_35_code 60 = .ok (.aload_n 0, 1) := by decide +kernel
theorem dX11_ring_61 : decode prog_13_method_35_code 61 = .ok (.aload_n 0, 1) := by decide +kernel
theorem dX11_ring_62 : decode prog_13_method_35_code 62 = .ok (.getfield 209, 3) := by decide +kernel
theorem dX11_ring_65 : decode prog_13_method_35_code 65 = .ok (.putfield 248, 3) := by decide +kernel
theorem dX11_ring_68 : decode prog_13_method_35_code 68 = .ok (.aload_n 0, 1) := by decide +kernel
theorem dX11_ring_69 : decode prog_13_method_35_code 69 = .ok (.aload_n 0, 1) := by decide +kernel
theorem dX11_ring_70 : decode prog_13_method_35_code 70 = .ok (.getfield 222, 3) := by decide +kernel
theorem dX11_ring_73 : decode prog_13_method_35_code 73 = .ok (.putfield 251, 3) := by decide +kernel
theorem dX11_ring_76 : decode prog_13_method_35_code 76 = .ok (.aload_n 0, 1) := by decide +kernel
theorem dX11_ring_77 : decode prog_13_method_35_code 77 = .ok (.aload_n 0, 1) := by decide +kernel
theorem dX11_ring_78 : decode prog_13_method_35_code 78 = .ok (.getfield 202, 3) := by decide +kernel
theorem dX11_ring_81 : decode prog_13_method_35_code 81 = .ok (.putfield 254, 3) := by decide +kernel
theorem dX11_ring_84 : decode prog_13_method_35_code 84 = .ok (.iconst 0, 1) := by decide +kernel
theorem dX11_ring_85 : decode prog_13_method_35_code 85 = .ok (.istore 7, 2) := by decide +kernel
theorem dX11_ring_87 : decode prog_13_method_35_code 87 = .ok (.iload 7, 2) := by decide +kernel
theorem dX11_ring_89 : decode prog_13_method_35_code 89 = .ok (.bipush 60, 2) := by decide +kernel
theorem dX11_ring_91 : decode prog_13_method_35_code 91 = .ok (.if_icmp .ge 37, 3) := by decide +kernel
theorem dX11_ring_94 : decode prog_13_method_35_code 94 = .ok (.aload_n 0, 1) := by decide +kernel
theorem dX11_ring_95 : decode prog_13_method_35_code 95 = .ok (.getfield 70, 3) := by decide +kernel
theorem dX11_ring_98 : decode prog_13_method_35_code 98 = .ok (.iload 7, 2) := by decide +kernel
theorem dX11_ring_100 : decode prog_13_method_35_code 100 = .ok (.aload_n 0, 1) := by decide +kernel
theorem dX11_ring_101 : decode prog_13_method_35_code 101 = .ok (.getfield 89, 3) := by decide +kernel
theorem dX11_ring_104 : decode prog_13_method_35_code 104 = .ok (.iload 7, 2) := by decide +kernel
theorem dX11_ring_106 : decode prog_13_method_35_code 106 = .ok (.iaload, 1) := by decide +kernel
theorem dX11_ring_107 : decode prog_13_method_35_code 107 = .ok (.iastore, 1) := by decide +kernel
theorem dX11_ring_108 : decode prog_13_method_35_code 108 = .ok (.aload_n 0, 1) := by decide +kernel
theorem dX11_ring_109 : decode prog_13_method_35_code 109 = .ok (.getfield 73, 3) := by decide +kernel
theorem dX11_ring_112 : decode prog_13_method_35_code 112 = .ok (.iload 7, 2) := by decide +kernel
theorem dX11_ring_114 : decode prog_13_method_35_code 114 = .ok (.aload_n 0, 1) := by decide +kernel
theorem dX11_ring_115 : decode prog_13_method_35_code 115 = .ok (.getfield 92, 3) := by decide +kernel
theorem dX11_ring_118 : decode prog_13_method_35_code 118 = .ok (.iload 7, 2) := by decide +kernel
theorem dX11_ring_120 : decode prog_13_method_35_code 120 = .ok (.iaload, 1) := by decide +kernel
theorem dX11_ring_121 : decode prog_13_method_35_code 121 = .ok (.iastore, 1) := by decide +kernel
theorem dX11_ring_122 : decode prog_13_method_35_code 122 = .ok (.iinc 7 1, 3) := by decide +kernel
theorem dX11_ring_125 : decode prog_13_method_35_code 125 = .ok (.goto (-38), 3) := by decide +kernel
theorem dX11_ring_128 : decode prog_13_method_35_code 128 = .ok (.iload 6, 2) := by decide +kernel
theorem dX11_ring_130 : decode prog_13_method_35_code 130 = .ok (.ireturn, 1) := by decide +kernel
abbrev rmX11_ring : Room := { frames := 7, cells := 0, slots := 0, locals := 163 }
def bX11_ring_87  (rc : Nat → Int32 → Int32 → Hp → Option (Int32 × Hp)) (t0 : Nat) (v6 : Int32) (v7 : Int32) (h : Hp) : Option (Int32 × Hp) :=
  if 60 ≤ v7 then
  (some (v6, h))
  else
  (gk (h.1 t0) 12 <|
  bd (h.2.2.2.1 t0 27) fun a3 =>
  bd (h.2.2.2.1 t0 43) fun a5 =>
  gk (h.1 a5) 13 <|
  gd (ix v7 (h.2.1 a5)) <|
  gk (h.1 a3) 13 <|
  gd (ix v7 (h.2.1 a3)) <|
  nm (hp_si h a3 (Int32.toNatClampNeg v7) (h.2.2.1 a5 (Int32.toNatClampNeg v7))) fun g11 =>
  bd (g11.2.2.2.1 t0 28) fun a13 =>
  bd (g11.2.2.2.1 t0 44) fun a15 =>
  gk (g11.1 a15) 13 <|
  gd (ix v7 (g11.2.1 a15)) <|
  gk (g11.1 a13) 13 <|
  gd (ix v7 (g11.2.1 a13)) <|
  nm (hp_si g11 a13 (Int32.toNatClampNeg v7) (g11.2.2.1 a15 (Int32.toNatClampNeg v7))) fun g21 =>
  nm (v7 + 1) fun x22 =>
  rc t0 v6 x22 g21)
def fX11_ring_87  : Nat → Int32 → Int32 → Hp → Option (Int32 × Hp) := fx (bX11_ring_87 ) (fun _ _ _ _ => none) NF
def fX11_ring_42  (t0 : Nat) (s0 : Int32) (s1 : Int32) (s2 : Int32) (s3 : Int32) (s4 : Int32) (u5 : Nat) (h : Hp) : Option (Int32 × Hp) :=
  gk (h.1 u5) 12 <|
  b2 (fX11_goThrough u5 s4 s3 s2 s1 s0 h) fun r4 g2 =>
  gk (g2.1 t0) 12 <|
  nm (hp_si g2 t0 22 1) fun g7 =>
  nm (hp_si g7 t0 23 (g7.2.2.1 t0 37)) fun g9 =>
  nm (hp_si g9 t0 24 (g9.2.2.1 t0 38)) fun g11 =>
  nm (hp_si g11 t0 25 (g11.2.2.1 t0 39)) fun g13 =>
  nm (hp_si g13 t0 26 (g13.2.2.1 t0 40)) fun g15 =>
  fX11_ring_87  t0 r4 0 g15
def fX11_ring  (t0 : Nat) (v1 : Int32) (v2 : Int32) (v3 : Int32) (v4 : Int32) (v5 : Int32) (h : Hp) : Option (Int32 × Hp) :=
  b2 (fX11_isCaller v1 v2 v3 v4 v5 h) fun r3 g1 =>
  if r3 = 0 then
  (some ((-1), g1))
  else
  (gk (g1.1 t0) 12 <|
  if (g1.2.2.1 t0 0) = 0 then
  (some ((-2), g1))
  else
  (if v5 = 1 then
  (fX11_ring_42  t0 1 v4 v3 v2 v1 t0 g1)
  else
  (fX11_ring_42  t0 0 v4 v3 v2 v1 t0 g1)))
section
variable {p : Program} {l : Launch} {e : Env} {s : State} {m : MethodId} {args : Array Value} {below : List Frame} {meth : Method} {c : Code} {D : va_G} {cA : Nat → ClassId} {h0 h9 : Hp}
set_option maxHeartbeats 4000000 in
set_option maxRecDepth 100000 in
theorem tX11_ring_87  {r : Int32} (cx : CallFix p m c prog_13_method_35_code 8 s args tbG RX11) (hr : meth.sig.returnType = (Option.some FieldType.int)) (hlk : meth.locks = false)  (n : Nat) : ∀ (t0 : Nat) (v6 : Int32) (v7 : Int32) (h : Hp) (H : Heap) (locs : List Loc) (ls : Array Slot), hp_B D cA (hp_A h0) s h H locs → lv_has ls 8 [(0, .ref t0), (6, .int v6), (7, .int v7)] → fx (bX11_ring_87 ) (fun _ _ _ _ => none) n t0 v6 v7 h = some (r, h9) → W p l e rmX11_ring s m args below meth c H locs 0 0 (MQ below (hp_Qi D cA h0 h9 r) args s 0 0 (hp_A h0)) (F0 m 87 ls []) := by
  obtain ⟨hx, hb, -⟩ := id cx
  induction n with
  | zero => intro t0 v6 v7 h H locs ls hB hl hf; cases hf
  | succ n ih =>
    intro t0 v6 v7 h H locs ls hB hl hf
    replace hf : bX11_ring_87  (fx (bX11_ring_87 ) (fun _ _ _ _ => none) n) t0 v6 v7 h = some (r, h9) := hf
    unfold bX11_ring_87 at hf
    refine lv_iload hx hb dX11_ring_87 (lv_at hl 2 rfl) ?_
    refine lv_bipush (v := 60) hx hb dX11_ring_89 (by decide) ?_
    refine lv_icmp_ge (tgt := 128) hx hb dX11_ring_91 (by decide) (fun c1 => ?_) (fun c1 => ?_)
    · replace hf := it_t c1 hf
      refine lv_iload hx hb dX11_ring_128 (lv_at hl 1 rfl) ?_
      obtain ⟨rfl, rfl⟩ := rt_ok hf
      exact hp_iret cx hB hr hlk (Nat.le_of_ble_eq_true rfl) (Nat.le_of_ble_eq_true rfl) dX11_ring_130
    · replace hf := it_f c1 hf
      refine lv_aload_n hx hb dX11_ring_94 rfl (lv_at hl 0 rfl) ?_
      obtain ⟨k2, hf⟩ := gk_ok hf
      obtain ⟨a3, q4, hf⟩ := bd_ok hf
      refine gf_X11_70 cx hB k2 q4 dX11_ring_95 ?_
      refine lv_iload hx hb dX11_ring_98 (lv_at hl 2 rfl) ?_
      refine lv_aload_n hx hb dX11_ring_100 rfl (lv_at hl 0 rfl) ?_
      obtain ⟨a5, q6, hf⟩ := bd_ok hf
      refine gf_X11_89 cx hB k2 q6 dX11_ring_101 ?_
      refine lv_iload hx hb dX11_ring_104 (lv_at hl 2 rfl) ?_
      obtain ⟨k7, hf⟩ := gk_ok hf
      obtain ⟨j8, hf⟩ := gd_ok hf
      refine hp_iald cx hB k7 j8 dX11_ring_106 ?_
      obtain ⟨k9, hf⟩ := gk_ok hf
      obtain ⟨j10, hf⟩ := gd_ok hf
      obtain ⟨g11, eg11, hf⟩ := nm_ok hf
      refine hp_iast cx hB k9 j10 dX11_ring_107 (fun H locs hB => ?_)
      rw [← eg11] at hB
      refine lv_aload_n hx hb dX11_ring_108 rfl (lv_at hl 0 rfl) ?_
      have k12 : g11.1 t0 = 12 := by rw [eg11]; exact k2
      obtain ⟨a13, q14, hf⟩ := bd_ok hf
      refine gf_X11_73 cx hB k12 q14 dX11_ring_109 ?_
      refine lv_iload hx hb dX11_ring_112 (lv_at hl 2 rfl) ?_
      refine lv_aload_n hx hb dX11_ring_114 rfl (lv_at hl 0 rfl) ?_
      obtain ⟨a15, q16, hf⟩ := bd_ok hf
      refine gf_X11_92 cx hB k12 q16 dX11_ring_115 ?_
      refine lv_iload hx hb dX11_ring_118 (lv_at hl 2 rfl) ?_
      obtain ⟨k17, hf⟩ := gk_ok hf
      obtain ⟨j18, hf⟩ := gd_ok hf
      refine hp_iald cx hB k17 j18 dX11_ring_120 ?_
      obtain ⟨k19, hf⟩ := gk_ok hf
      obtain ⟨j20, hf⟩ := gd_ok hf
      obtain ⟨g21, eg21, hf⟩ := nm_ok hf
      refine hp_iast cx hB k19 j20 dX11_ring_121 (fun H locs hB => ?_)
      rw [← eg21] at hB
      obtain ⟨x22, ex22, hf⟩ := nm_ok hf
      refine lv_iinc (v := x22) (lv' := [(7, .int x22), (0, .ref t0), (6, .int v6)]) hx hb dX11_ring_122 hl (k := 2) rfl (by rw [ex22]; rfl) (by decide) rfl (fun ls hl => ?_)
      refine lv_goto (tgt := 87) hx hb dX11_ring_125 (by decide) ?_
      exact ih t0 v6 x22 g21 _ _ _ hB (lv_sub hl [1, 2, 0] rfl) hf
set_option maxHeartbeats 4000000 in
set_option maxRecDepth 100000 in
theorem tX11_ring_42  {r : Int32} (cx : CallFix p m c prog_13_method_35_code 8 s args tbG RX11) (hr : meth.sig.returnType = (Option.some FieldType.int)) (hlk : meth.locks = false)  (t0 : Nat) (s0 : Int32) (s1 : Int32) (s2 : Int32) (s3 : Int32) (s4 : Int32) (u5 : Nat) (h : Hp) (H : Heap) (locs : List Loc) (ls : Array Slot) (hB : hp_B D cA (hp_A h0) s h H locs) (hl : lv_has ls 8 [(0, .ref t0)]) (hf : fX11_ring_42  t0 s0 s1 s2 s3 s4 u5 h = some (r, h9)) : W p l e rmX11_ring s m args below meth c H locs 0 0 (MQ below (hp_Qi D cA h0 h9 r) args s 0 0 (hp_A h0)) (F0 m 42 ls [.int s0, .int s1, .int s2, .int s3, .int s4, .ref u5]) := by
  obtain ⟨hx, hb, -⟩ := id cx
  unfold fX11_ring_42 at hf
  obtain ⟨k1, hf⟩ := gk_ok hf
  obtain ⟨r4, g2, m3, hf⟩ := b2_ok hf
  refine hp_cI0 (cl_X11_237 cx hB (cX11_goThrough l D cA u5 s4 s3 s2 s1 s0 h _ g2 m3) k1 ⟨Nat.le_of_ble_eq_true rfl, Nat.le_of_ble_eq_true rfl⟩ rfl hl.1 rfl (Nat.le_of_ble_eq_true rfl) ⟨Nat.le_of_ble_eq_true rfl, Nat.le_of_ble_eq_true rfl⟩ dX11_ring_42) rfl rfl hB (fun H locs hB => ?_)
  refine lv_istore (lv' := [(6, .int r4), (0, .ref t0)]) hx hb dX11_ring_45 hl (by decide) rfl (fun ls hl => ?_)
  refine lv_aload_n hx hb dX11_ring_47 rfl (lv_at hl 1 rfl) ?_
  refine lv_iconst (v := 1) hx hb dX11_ring_48 (by decide) ?_
  obtain ⟨k6, hf⟩ := gk_ok hf
  obtain ⟨g7, eg7, hf⟩ := nm_ok hf
  refine pf_X11_241 cx hB k6 rfl dX11_ring_49 (fun H locs hB => ?_)
  rw [← eg7] at hB
  refine lv_aload_n hx hb dX11_ring_52 rfl (lv_at hl 1 rfl) ?_
  refine lv_aload_n hx hb dX11_ring_53 rfl (lv_at hl 1 rfl) ?_
  have k8 : g7.1 t0 = 12 := by rw [eg7]; exact k6
  refine gf_X11_196 cx hB k8 dX11_ring_54 ?_
  obtain ⟨g9, eg9, hf⟩ := nm_ok hf
  refine pf_X11_245 cx hB k8 dX11_ring_57 (fun H locs hB => ?_)
  rw [← eg9] at hB
  refine lv_aload_n hx hb dX11_ring_60 rfl (lv_at hl 1 rfl) ?_
  refine lv_aload_n hx hb dX11_ring_61 rfl (lv_at hl 1 rfl) ?_
  have k10 : g9.1 t0 = 12 := by rw [eg9]; exact k8
  refine gf_X11_209 cx hB k10 dX11_ring_62 ?_
  obtain ⟨g11, eg11, hf⟩ := nm_ok hf
  refine pf_X11_248 cx hB k10 dX11_ring_65 (fun H locs hB => ?_)
  rw [← eg11] at hB
  refine lv_aload_n hx hb dX11_ring_68 rfl (lv_at hl 1 rfl) ?_
  refine lv_aload_n hx hb dX11_ring_69 rfl (lv_at hl 1 rfl) ?_
  have k12 : g11.1 t0 = 12 := by rw [eg11]; exact k10
  refine gf_X11_222 cx hB k12 dX11_ring_70 ?_
  obtain ⟨g13, eg13, hf⟩ := nm_ok hf
  refine pf_X11_251 cx hB k12 dX11_ring_73 (fun H locs hB => ?_)
  rw [← eg13] at hB
  refine lv_aload_n hx hb dX11_ring_76 rfl (lv_at hl 1 rfl) ?_
  refine lv_aload_n hx hb dX11_ring_77 rfl (lv_at hl 1 rfl) ?_
  have k14 : g13.1 t0 = 12 := by rw [eg13]; exact k12
  refine gf_X11_202 cx hB k14 dX11_ring_78 ?_
  obtain ⟨g15, eg15, hf⟩ := nm_ok hf
  refine pf_X11_254 cx hB k14 dX11_ring_81 (fun H locs hB => ?_)
  rw [← eg15] at hB
  refine lv_iconst (v := 0) hx hb dX11_ring_84 (by decide) ?_
  refine lv_istore (lv' := [(7, .int 0), (6, .int r4), (0, .ref t0)]) hx hb dX11_ring_85 hl (by decide) rfl (fun ls hl => ?_)
  exact tX11_ring_87 cx hr hlk  NF t0 r4 0 g15 _ _ _ hB (lv_sub hl [2, 1, 0] rfl) hf
set_option maxHeartbeats 4000000 in
set_option maxRecDepth 100000 in
theorem tX11_ring_0  {r : Int32} (cx : CallFix p m c prog_13_method_35_code 8 s args tbG RX11) (hr : meth.sig.returnType = (Option.some FieldType.int)) (hlk : meth.locks = false)  (t0 : Nat) (v1 : Int32) (v2 : Int32) (v3 : Int32) (v4 : Int32) (v5 : Int32) (h : Hp) (H : Heap) (locs : List Loc) (ls : Array Slot) (hB : hp_B D cA (hp_A h0) s h H locs) (hl : lv_has ls 8 [(0, .ref t0), (1, .int v1), (2, .int v2), (3, .int v3), (4, .int v4), (5, .int v5)]) (hf : fX11_ring  t0 v1 v2 v3 v4 v5 h = some (r, h9)) : W p l e rmX11_ring s m args below meth c H locs 0 0 (MQ below (hp_Qi D cA h0 h9 r) args s 0 0 (hp_A h0)) (F0 m 0 ls []) := by
  obtain ⟨hx, hb, -⟩ := id cx
  unfold fX11_ring at hf
  refine lv_iload_n hx hb dX11_ring_0 rfl (lv_at hl 1 rfl) ?_
  refine lv_iload_n hx hb dX11_ring_1 rfl (lv_at hl 2 rfl) ?_
  refine lv_iload_n hx hb dX11_ring_2 rfl (lv_at hl 3 rfl) ?_
  refine lv_iload hx hb dX11_ring_3 (lv_at hl 4 rfl) ?_
  refine lv_iload hx hb dX11_ring_5 (lv_at hl 5 rfl) ?_
  obtain ⟨r3, g1, m2, hf⟩ := b2_ok hf
  refine hp_cI0 (cl_X11_233 cx hB (cX11_isCaller l D cA v1 v2 v3 v4 v5 h _ g1 m2) ⟨Nat.le_of_ble_eq_true rfl, Nat.le_of_ble_eq_true rfl⟩ rfl hl.1 rfl (Nat.le_of_ble_eq_true rfl) ⟨Nat.le_of_ble_eq_true rfl, Nat.le_of_ble_eq_true rfl⟩ dX11_ring_7) rfl rfl hB (fun H locs hB => ?_)
  refine lv_if_ne (tgt := 15) hx hb dX11_ring_10 (by decide) (fun c5 => ?_) (fun c5 => ?_)
  · replace hf := it_f c5 hf
    refine lv_aload_n hx hb dX11_ring_15 rfl (lv_at hl 0 rfl) ?_
    obtain ⟨k6, hf⟩ := gk_ok hf
    refine gf_X11_125 cx hB k6 dX11_ring_16 ?_
    refine lv_if_ne (tgt := 25) hx hb dX11_ring_19 (by decide) (fun c7 => ?_) (fun c7 => ?_)
    · replace hf := it_f c7 hf
      refine lv_aload_n hx hb dX11_ring_25 rfl (lv_at hl 0 rfl) ?_
      refine lv_iload_n hx hb dX11_ring_26 rfl (lv_at hl 1 rfl) ?_
      refine lv_iload_n hx hb dX11_ring_27 rfl (lv_at hl 2 rfl) ?_
      refine lv_iload_n hx hb dX11_ring_28 rfl (lv_at hl 3 rfl) ?_
      refine lv_iload hx hb dX11_ring_29 (lv_at hl 4 rfl) ?_
      refine lv_iload hx hb dX11_ring_31 (lv_at hl 5 rfl) ?_
      refine lv_iconst (v := 1) hx hb dX11_ring_33 (by decide) ?_
      refine lv_icmp_ne (tgt := 41) hx hb dX11_ring_34 (by decide) (fun c8 => ?_) (fun c8 => ?_)
      · replace hf := it_f c8 hf
        refine lv_iconst (v := 0) hx hb dX11_ring_41 (by decide) ?_
        exact tX11_ring_42 cx hr hlk  t0 0 v4 v3 v2 v1 t0 g1 _ _ _ hB (lv_sub hl [0] rfl) hf
      · replace hf := it_t c8 hf
        refine lv_iconst (v := 1) hx hb dX11_ring_37 (by decide) ?_
        refine lv_goto (tgt := 42) hx hb dX11_ring_38 (by decide) ?_
        exact tX11_ring_42 cx hr hlk  t0 1 v4 v3 v2 v1 t0 g1 _ _ _ hB (lv_sub hl [0] rfl) hf
    · replace hf := it_t c7 hf
      refine lv_bipush (v := (-2)) hx hb dX11_ring_22 (by decide) ?_
      obtain ⟨rfl, rfl⟩ := rt_ok hf
      exact hp_iret cx hB hr hlk (Nat.le_of_ble_eq_true rfl) (Nat.le_of_ble_eq_true rfl) dX11_ring_24
  · replace hf := it_t c5 hf
    refine lv_iconst (v := (-1)) hx hb dX11_ring_13 (by decide) ?_
    obtain ⟨rfl, rfl⟩ := rt_ok hf
    exact hp_iret cx hB hr hlk (Nat.le_of_ble_eq_true rfl) (Nat.le_of_ble_eq_true rfl) dX11_ring_14
end
set_option maxHeartbeats 4000000 in
set_option maxRecDepth 100000 in
theorem cX11_ring (l : Launch) (D : va_G) (cA : Nat → ClassId) (t0 : Nat) (v1 : Int32) (v2 : Int32) (v3 : Int32) (v4 : Int32) (v5 : Int32) (h : Hp) (r : Int32) (h9 : Hp) (hf : fX11_ring t0 v1 v2 v3 v4 v5 h = some (r, h9)) : hp_M l yX11_ring prog_13_method_35_code 8 (Option.some FieldType.int) rmX11_ring D cA h [.ref t0, .int v1, .int v2, .int v3, .int v4, .int v5] (hp_Qi D cA h h9 r) := by
  refine Met.ofW (cc := prog_13_method_35_code) (maxL := 8) (ret := (Option.some FieldType.int)) (by decide) rfl ?_
  intro p e s m args below meth c s₁ B hml hv
  obtain ⟨rfl, hU⟩ := hv
  have hts := atoms_spec (ws := Cond.code yX11_ring prog_13_method_35_code 8 (Option.some FieldType.int) :: tbG) B.pre
  have hl := lv_entry ([.ref t0, .int v1, .int v2, .int v3, .int v4, .int v5]) (n := 8) (Nat.le_of_ble_eq_true rfl)
  rw [lg_entry_eq]
  generalize (lg_sl ([.ref t0, .int v1, .int v2, .int v3, .int v4, .int v5]) ++ List.replicate (8 - (lg_sl ([.ref t0, .int v1, .int v2, .int v3, .int v4, .int v5])).length) Slot.unset).toArray = ls at hl ⊢
  exact tX11_ring_0 ⟨B.exec, B.bytes, hml, findClass_of_methodNamed B.named, fun w hw => hts w (List.mem_cons_of_mem _ hw)⟩ B.returns B.notSynchronized t0 v1 v2 v3 v4 v5 h _ _ _ (hp_B.entry hU) hl hf
section
variable {p : Program} {l : Launch} {e : Env} {R : Room} {s : State} {m : MethodId} {args : Array Value} {below : List Frame} {meth : Method} {c : Code} {H : Heap} {locs : List Loc} {cells slots : Nat} {Q : State → Prop}
variable {cc : ByteArray} {pc nL : Nat} {ls : Array Slot} {rest : List Value} {D : va_G} {cA : Nat → ClassId} {A : Nat → Prop} {a : Nat} {h : Hp}
theorem gf_X11_241 (cx : CallFix p m c cc nL s args tbG RX11) (hB : hp_B D cA A s h H locs) (hka : h.1 a = 12) (hdg : decode cc pc = .ok (.getfield 241, 3)) (kk : W p l e R s m args below meth c H locs cells slots Q (F0 m (pc + 3) ls (.int (h.2.2.1 a 22) :: rest))) : W p l e R s m args below meth c H locs cells slots Q (F0 m pc ls (.ref a :: rest)) :=
  hp_getI cx hB (ci := 11) 22 rfl inX11 (by decide) rfl (by decide) rfl qw_754 hka hdg kk
theorem gf_X11_254 (cx : CallFix p m c cc nL s args tbG RX11) (hB : hp_B D cA A s h H locs) (hka : h.1 a = 12) (hdg : decode cc pc = .ok (.getfield 254, 3)) (kk : W p l e R s m args below meth c H locs cells slots Q (F0 m (pc + 3) ls (.int (h.2.2.1 a 26) :: rest))) : W p l e R s m args below meth c H locs cells slots Q (F0 m pc ls (.ref a :: rest)) :=
  hp_getI cx hB (ci := 11) 26 rfl inX11 (by decide) rfl (by decide) rfl qw_758 hka hdg kk
theorem gf_X11_251 (cx : CallFix p m c cc nL s args tbG RX11) (hB : hp_B D cA A s h H locs) (hka : h.1 a = 12) (hdg : decode cc pc = .ok (.getfield 251, 3)) (kk : W p l e R s m args below meth c H locs cells slots Q (F0 m (pc + 3) ls (.int (h.2.2.1 a 25) :: rest))) : W p l e R s m args below meth c H locs cells slots Q (F0 m pc ls (.ref a :: rest)) :=
  hp_getI cx hB (ci := 11) 25 rfl inX11 (by decide) rfl (by decide) rfl qw_757 hka hdg kk
theorem gf_X11_248 (cx : CallFix p m c cc nL s args tbG RX11) (hB : hp_B D cA A s h H locs) (hka : h.1 a = 12) (hdg : decode cc pc = .ok (.getfield 248, 3)) (kk : W p l e R s m args below meth c H locs cells slots Q (F0 m (pc + 3) ls (.int (h.2.2.1 a 24) :: rest))) : W p l e R s m args below meth c H locs cells slots Q (F0 m pc ls (.ref a :: rest)) :=
  hp_getI cx hB (ci := 11) 24 rfl inX11 (by decide) rfl (by decide) rfl qw_756 hka hdg kk
theorem gf_X11_245 (cx : CallFix p m c cc nL s args tbG RX11) (hB : hp_B D cA A s h H locs) (hka : h.1 a = 12) (hdg : decode cc pc = .ok (.getfield 245, 3)) (kk : W p l e R s m args below meth c H locs cells slots Q (F0 m (pc + 3) ls (.int (h.2.2.1 a 23) :: rest))) : W p l e R s m args below meth c H locs cells slots Q (F0 m pc ls (.ref a :: rest)) :=
  hp_getI cx hB (ci := 11) 23 rfl inX11 (by decide) rfl (by decide) rfl qw_755 hka hdg kk
end
abbrev yX11_call : MethodName := ⟨"SpokenMenusModel", "call", "(I)I"⟩
theorem dX11_call_0 : decode prog_13_method_36_code 0 = .ok (.iload_n 1, 1) := by decide +kernel
theorem dX11_call_1 : decode prog_13_method_36_code 1 = .ok (.iconst 0, 1) := by decide +kernel
theorem dX11_call_2 : decode prog_13_method_36_code 2 = .ok (.iconst 3, 1) := by decide +kernel
theorem dX11_call_3 : decode prog_13_method_36_code 3 = .ok (.invokestatic 129, 3) := by decide +kernel
theorem dX11_call_6 : decode prog_13_method_36_code 6 = .ok (.ifCond .ne 5, 3) := by decide +kernel
theorem dX11_call_9 : decode prog_13_method_36_code 9 = .ok (.iconst (-1), 1) := by decide +kernel
theorem dX11_call_10 : decode prog_13_method_36_code 10 = .ok (.ireturn, 1) := by decide +kernel
theorem dX11_call_11 : decode prog_13_method_36_code 11 = .ok (.aload_n 0, 1) := by decide +kernel
theorem dX11_call_12 : decode prog_13_method_36_code 12 = .ok (.getfield 241, 3) := by decide +kernel
theorem dX11_call_15 : decode prog_13_method_36_code 15 = .ok (.ifCond .ne 8, 3) := by decide +kernel
theorem dX11_call_18 : decode prog_13_method_36_code 18 = .ok (.bipush (-4), 2) := by decide +kernel
theorem dX11_call_20 : decode prog_13_method_36_code 20 = .ok (.goto 42, 3) := by decide +kernel
theorem dX11_call_23 : decode prog_13_method_36_code 23 = .ok (.iload_n 1, 1) := by decide +kernel
theorem dX11_call_24 : decode prog_13_method_36_code 24 = .ok (.ifCond .ne 10, 3) := by decide +kernel
theorem dX11_call_27 : decode prog_13_method_36_code 27 = .ok (.aload_n 0, 1) := by decide +kernel
theorem dX11_call_28 : decode prog_13_method_36_code 28 = .ok (.getfield 245, 3) := by decide +kernel
theorem dX11_call_31 : decode prog_13_method_36_code 31 = .ok (.goto 31, 3) := by decide +kernel
theorem dX11_call_34 : decode prog_13_method_36_code 34 = .ok (.iload_n 1, 1) := by decide +kernel
theorem dX11_call_35 : decode prog_13_method_36_code 35 = .ok (.iconst 1, 1) := by decide +kernel
theorem dX11_call_36 : decode prog_13_method_36_code 36 = .ok (.if_icmp .ne 10, 3) := by decide +kernel
theorem dX11_call_39 : decode prog_13_method_36_code 39 = .ok (.aload_n 0, 1) := by decide +kernel
theorem dX11_call_40 : decode prog_13_method_36_code 40 = .ok (.getfield 248, 3) := by decide +kernel
theorem dX11_call_43 : decode prog_13_method_36_code 43 = .ok (.goto 19, 3) := by decide +kernel
theorem dX11_call_46 : decode prog_13_method_36_code 46 = .ok (.iload_n 1, 1) := by decide +kernel
theorem dX11_call_47 : decode prog_13_method_36_code 47 = .ok (.iconst 2, 1) := by decide +kernel
theorem dX11_call_48 : decode prog_13_method_36_code 48 = .ok (.if_icmp .ne 10, 3) := by decide +kernel
theorem dX11_call_51 : decode prog_13_method_36_code 51 = .ok (.aload_n 0, 1) := by decide +kernel
theorem dX11_call_52 : decode prog_13_method_36_code 52 = .ok (.getfield 251, 3) := by decide +kernel
theorem dX11_call_55 : decode prog_13_method_36_code 55 = .ok (.goto 7, 3) := by decide +kernel
theorem dX11_call_58 : decode prog_13_method_36_code 58 = .ok (.aload_n 0, 1) := by decide +kernel
theorem dX11_call_59 : decode prog_13_method_36_code 59 = .ok (.getfield 254, 3) := by decide +kernel
theorem dX11_call_62 : decode prog_13_method_36_code 62 = .ok (.ireturn, 1) := by decide +kernel
abbrev rmX11_call : Room := { frames := 1, cells := 0, slots := 0, locals := 22 }
def fX11_call  (t0 : Nat) (v1 : Int32) (h : Hp) : Option (Int32 × Hp) :=
  b2 (fX11_in v1 0 3 h) fun r3 g1 =>
  if r3 = 0 then
  (some ((-1), g1))
  else
  (gk (g1.1 t0) 12 <|
  if (g1.2.2.1 t0 22) = 0 then
  (some ((-4), g1))
  else
  (if v1 = 0 then
  (some (g1.2.2.1 t0 23, g1))
  else
  (if v1 = 1 then
  (some (g1.2.2.1 t0 24, g1))
  else
  (if v1 = 2 then
  (some (g1.2.2.1 t0 25, g1))
  else
  (some (g1.2.2.1 t0 26, g1))))))
section
variable {p : Program} {l : Launch} {e : Env} {s : State} {m : MethodId} {args : Array Value} {below : List Frame} {meth : Method} {c : Code} {D : va_G} {cA : Nat → ClassId} {h0 h9 : Hp}
set_option maxHeartbeats 4000000 in
set_option maxRecDepth 100000 in
theorem tX11_call_0  {r : Int32} (cx : CallFix p m c prog_13_method_36_code 2 s args tbG RX11) (hr : meth.sig.returnType = (Option.some FieldType.int)) (hlk : meth.locks = false)  (t0 : Nat) (v1 : Int32) (h : Hp) (H : Heap) (locs : List Loc) (ls : Array Slot) (hB : hp_B D cA (hp_A h0) s h H locs) (hl : lv_has ls 2 [(0, .ref t0), (1, .int v1)]) (hf : fX11_call  t0 v1 h = some (r, h9)) : W p l e rmX11_call s m args below meth c H locs 0 0 (MQ below (hp_Qi D cA h0 h9 r) args s 0 0 (hp_A h0)) (F0 m 0 ls []) := by
  obtain ⟨hx, hb, -⟩ := id cx
  unfold fX11_call at hf
  refine lv_iload_n hx hb dX11_call_0 rfl (lv_at hl 1 rfl) ?_
  refine lv_iconst (v := 0) hx hb dX11_call_1 (by decide) ?_
  refine lv_iconst (v := 3) hx hb dX11_call_2 (by decide) ?_
  obtain ⟨r3, g1, m2, hf⟩ := b2_ok hf
  refine hp_cI0 (cl_X11_129 cx hB (cX11_in l D cA v1 0 3 h _ g1 m2) ⟨Nat.le_of_ble_eq_true rfl, Nat.le_of_ble_eq_true rfl⟩ rfl hl.1 rfl (Nat.le_of_ble_eq_true rfl) ⟨Nat.le_of_ble_eq_true rfl, Nat.le_of_ble_eq_true rfl⟩ dX11_call_3) rfl rfl hB (fun H locs hB => ?_)
  refine lv_if_ne (tgt := 11) hx hb dX11_call_6 (by decide) (fun c5 => ?_) (fun c5 => ?_)
  · replace hf := it_f c5 hf
    refine lv_aload_n hx hb dX11_call_11 rfl (lv_at hl 0 rfl) ?_
    obtain ⟨k6, hf⟩ := gk_ok hf
    refine gf_X11_241 cx hB k6 dX11_call_12 ?_
    refine lv_if_ne (tgt := 23) hx hb dX11_call_15 (by decide) (fun c7 => ?_) (fun c7 => ?_)
    · replace hf := it_f c7 hf
      refine lv_iload_n hx hb dX11_call_23 rfl (lv_at hl 1 rfl) ?_
      refine lv_if_ne (tgt := 34) hx hb dX11_call_24 (by decide) (fun c8 => ?_) (fun c8 => ?_)
      · replace hf := it_f c8 hf
        refine lv_iload_n hx hb dX11_call_34 rfl (lv_at hl 1 rfl) ?_
        refine lv_iconst (v := 1) hx hb dX11_call_35 (by decide) ?_
        refine lv_icmp_ne (tgt := 46) hx hb dX11_call_36 (by decide) (fun c9 => ?_) (fun c9 => ?_)
        · replace hf := it_f c9 hf
          refine lv_iload_n hx hb dX11_call_46 rfl (lv_at hl 1 rfl) ?_
          refine lv_iconst (v := 2) hx hb dX11_call_47 (by decide) ?_
          refine lv_icmp_ne (tgt := 58) hx hb dX11_call_48 (by decide) (fun c10 => ?_) (fun c10 => ?_)
          · replace hf := it_f c10 hf
            refine lv_aload_n hx hb dX11_call_58 rfl (lv_at hl 0 rfl) ?_
            refine gf_X11_254 cx hB k6 dX11_call_59 ?_
            obtain ⟨rfl, rfl⟩ := rt_ok hf
            exact hp_iret cx hB hr hlk (Nat.le_of_ble_eq_true rfl) (Nat.le_of_ble_eq_true rfl) dX11_call_62
          · replace hf := it_t c10 hf
            refine lv_aload_n hx hb dX11_call_51 rfl (lv_at hl 0 rfl) ?_
            refine gf_X11_251 cx hB k6 dX11_call_52 ?_
            refine lv_goto (tgt := 62) hx hb dX11_call_55 (by decide) ?_
            obtain ⟨rfl, rfl⟩ := rt_ok hf
            exact hp_iret cx hB hr hlk (Nat.le_of_ble_eq_true rfl) (Nat.le_of_ble_eq_true rfl) dX11_call_62
        · replace hf := it_t c9 hf
          refine lv_aload_n hx hb dX11_call_39 rfl (lv_at hl 0 rfl) ?_
          refine gf_X11_248 cx hB k6 dX11_call_40 ?_
          refine lv_goto (tgt := 62) hx hb dX11_call_43 (by decide) ?_
          obtain ⟨rfl, rfl⟩ := rt_ok hf
          exact hp_iret cx hB hr hlk (Nat.le_of_ble_eq_true rfl) (Nat.le_of_ble_eq_true rfl) dX11_call_62
      · replace hf := it_t c8 hf
        refine lv_aload_n hx hb dX11_call_27 rfl (lv_at hl 0 rfl) ?_
        refine gf_X11_245 cx hB k6 dX11_call_28 ?_
        refine lv_goto (tgt := 62) hx hb dX11_call_31 (by decide) ?_
        obtain ⟨rfl, rfl⟩ := rt_ok hf
        exact hp_iret cx hB hr hlk (Nat.le_of_ble_eq_true rfl) (Nat.le_of_ble_eq_true rfl) dX11_call_62
    · replace hf := it_t c7 hf
      refine lv_bipush (v := (-4)) hx hb dX11_call_18 (by decide) ?_
      refine lv_goto (tgt := 62) hx hb dX11_call_20 (by decide) ?_
      obtain ⟨rfl, rfl⟩ := rt_ok hf
      exact hp_iret cx hB hr hlk (Nat.le_of_ble_eq_true rfl) (Nat.le_of_ble_eq_true rfl) dX11_call_62
  · replace hf := it_t c5 hf
    refine lv_iconst (v := (-1)) hx hb dX11_call_9 (by decide) ?_
    obtain ⟨rfl, rfl⟩ := rt_ok hf
    exact hp_iret cx hB hr hlk (Nat.le_of_ble_eq_true rfl) (Nat.le_of_ble_eq_true rfl) dX11_call_10
end
set_option maxHeartbeats 4000000 in
set_option maxRecDepth 100000 in
theorem cX11_call (l : Launch) (D : va_G) (cA : Nat → ClassId) (t0 : Nat) (v1 : Int32) (h : Hp) (r : Int32) (h9 : Hp) (hf : fX11_call t0 v1 h = some (r, h9)) : hp_M l yX11_call prog_13_method_36_code 2 (Option.some FieldType.int) rmX11_call D cA h [.ref t0, .int v1] (hp_Qi D cA h h9 r) := by
  refine Met.ofW (cc := prog_13_method_36_code) (maxL := 2) (ret := (Option.some FieldType.int)) (by decide) rfl ?_
  intro p e s m args below meth c s₁ B hml hv
  obtain ⟨rfl, hU⟩ := hv
  have hts := atoms_spec (ws := Cond.code yX11_call prog_13_method_36_code 2 (Option.some FieldType.int) :: tbG) B.pre
  have hl := lv_entry ([.ref t0, .int v1]) (n := 2) (Nat.le_of_ble_eq_true rfl)
  rw [lg_entry_eq]
  generalize (lg_sl ([.ref t0, .int v1]) ++ List.replicate (2 - (lg_sl ([.ref t0, .int v1])).length) Slot.unset).toArray = ls at hl ⊢
  exact tX11_call_0 ⟨B.exec, B.bytes, hml, findClass_of_methodNamed B.named, fun w hw => hts w (List.mem_cons_of_mem _ hw)⟩ B.returns B.notSynchronized t0 v1 h _ _ _ (hp_B.entry hU) hl hf
abbrev yX11_came : MethodName := ⟨"SpokenMenusModel", "came", "(I)I"⟩
theorem dX11_came_0 : decode prog_13_method_37_code 0 = .ok (.iload_n 1, 1) := by decide +kernel
theorem dX11_came_1 : decode prog_13_method_37_code 1 = .ok (.ifCond .ge 7, 3) := by decide +kernel
theorem dX11_came_4 : decode prog_13_method_37_code 4 = .ok (.iconst (-1), 1) := by decide +kernel
theorem dX11_came_5 : decode prog_13_method_37_code 5 = .ok (.goto 35, 3) := by decide +kernel
theorem dX11_came_8 : decode prog_13_method_37_code 8 = .ok (.aload_n 0, 1) := by decide +kernel
theorem dX11_came_9 : decode prog_13_method_37_code 9 = .ok (.getfield 241, 3) := by decide +kernel
theorem dX11_came_12 : decode prog_13_method_37_code 12 = .ok (.ifCond .eq 26, 3) := by decide +kernel
theorem dX11_came_15 : decode prog_13_method_37_code 15 = .ok (.iload_n 1, 1) := by decide +kernel
theorem dX11_came_16 : decode prog_13_method_37_code 16 = .ok (.aload_n 0, 1) := by decide +kernel
theorem dX11_came_17 : decode prog_13_method_37_code 17 = .ok (.getfield 251, 3) := by decide +kernel
theorem dX11_came_20 : decode prog_13_method_37_code 20 = .ok (.if_icmp .ge 18, 3) := by decide +kernel
theorem dX11_came_23 : decode prog_13_method_37_code 23 = .ok (.iload_n 1, 1) := by decide +kernel
theorem dX11_came_24 : decode prog_13_method_37_code 24 = .ok (.bipush 60, 2) := by decide +kernel
theorem dX11_came_26 : decode prog_13_method_37_code 26 = .ok (.if_icmp .ge 12, 3) := by decide +kernel
theorem dX11_came_29 : decode prog_13_method_37_code 29 = .ok (.aload_n 0, 1) := by decide +kernel
theorem dX11_came_30 : decode prog_13_method_37_code 30 = .ok (.getfield 70, 3) := by decide +kernel
theorem dX11_came_33 : decode prog_13_method_37_code 33 = .ok (.iload_n 1, 1) := by decide +kernel
theorem dX11_came_34 : decode prog_13_method_37_code 34 = .ok (.iaload, 1) := by decide +kernel
theorem dX11_came_35 : decode prog_13_method_37_code 35 = .ok (.goto 5, 3) := by decide +kernel
theorem dX11_came_38 : decode prog_13_method_37_code 38 = .ok (.bipush (-4), 2) := by decide +kernel
theorem dX11_came_40 : decode prog_13_method_37_code 40 = .ok (.ireturn, 1) := by decide +kernel
abbrev rmX11_came : Room := { frames := 0, cells := 0, slots := 0, locals := 0 }
def fX11_came  (t0 : Nat) (v1 : Int32) (h : Hp) : Option (Int32 × Hp) :=
  if 0 ≤ v1 then
  (gk (h.1 t0) 12 <|
  if (h.2.2.1 t0 22) = 0 then
  (some ((-4), h))
  else
  (if (h.2.2.1 t0 25) ≤ v1 then
  (some ((-4), h))
  else
  (if 60 ≤ v1 then
  (some ((-4), h))
  else
  (bd (h.2.2.2.1 t0 27) fun a6 =>
  gk (h.1 a6) 13 <|
  gd (ix v1 (h.2.1 a6)) <|
  some (h.2.2.1 a6 (Int32.toNatClampNeg v1), h)))))
  else
  (some ((-1), h))
section
variable {p : Program} {l : Launch} {e : Env} {s : State} {m : MethodId} {args : Array Value} {below : List Frame} {meth : Method} {c : Code} {D : va_G} {cA : Nat → ClassId} {h0 h9 : Hp}
set_option maxHeartbeats 4000000 in
set_option maxRecDepth 100000 in
theorem tX11_came_0  {r : Int32} (cx : CallFix p m c prog_13_method_37_code 2 s args tbG RX11) (hr : meth.sig.returnType = (Option.some FieldType.int)) (hlk : meth.locks = false)  (t0 : Nat) (v1 : Int32) (h : Hp) (H : Heap) (locs : List Loc) (ls : Array Slot) (hB : hp_B D cA (hp_A h0) s h H locs) (hl : lv_has ls 2 [(0, .ref t0), (1, .int v1)]) (hf : fX11_came  t0 v1 h = some (r, h9)) : W p l e rmX11_came s m args below meth c H locs 0 0 (MQ below (hp_Qi D cA h0 h9 r) args s 0 0 (hp_A h0)) (F0 m 0 ls []) := by
  obtain ⟨hx, hb, -⟩ := id cx
  unfold fX11_came at hf
  refine lv_iload_n hx hb dX11_came_0 rfl (lv_at hl 1 rfl) ?_
  refine lv_if_ge (tgt := 8) hx hb dX11_came_1 (by decide) (fun c1 => ?_) (fun c1 => ?_)
  · replace hf := it_t c1 hf
    refine lv_aload_n hx hb dX11_came_8 rfl (lv_at hl 0 rfl) ?_
    obtain ⟨k2, hf⟩ := gk_ok hf
    refine gf_X11_241 cx hB k2 dX11_came_9 ?_
    refine lv_if_eq (tgt := 38) hx hb dX11_came_12 (by decide) (fun c3 => ?_) (fun c3 => ?_)
    · replace hf := it_t c3 hf
      refine lv_bipush (v := (-4)) hx hb dX11_came_38 (by decide) ?_
      obtain ⟨rfl, rfl⟩ := rt_ok hf
      exact hp_iret cx hB hr hlk (Nat.le_of_ble_eq_true rfl) (Nat.le_of_ble_eq_true rfl) dX11_came_40
    · replace hf := it_f c3 hf
      refine lv_iload_n hx hb dX11_came_15 rfl (lv_at hl 1 rfl) ?_
      refine lv_aload_n hx hb dX11_came_16 rfl (lv_at hl 0 rfl) ?_
      refine gf_X11_251 cx hB k2 dX11_came_17 ?_
      refine lv_icmp_ge (tgt := 38) hx hb dX11_came_20 (by decide) (fun c4 => ?_) (fun c4 => ?_)
      · replace hf := it_t c4 hf
        refine lv_bipush (v := (-4)) hx hb dX11_came_38 (by decide) ?_
        obtain ⟨rfl, rfl⟩ := rt_ok hf
        exact hp_iret cx hB hr hlk (Nat.le_of_ble_eq_true rfl) (Nat.le_of_ble_eq_true rfl) dX11_came_40
      · replace hf := it_f c4 hf
        refine lv_iload_n hx hb dX11_came_23 rfl (lv_at hl 1 rfl) ?_
        refine lv_bipush (v := 60) hx hb dX11_came_24 (by decide) ?_
        refine lv_icmp_ge (tgt := 38) hx hb dX11_came_26 (by decide) (fun c5 => ?_) (fun c5 => ?_)
        · replace hf := it_t c5 hf
          refine lv_bipush (v := (-4)) hx hb dX11_came_38 (by decide) ?_
          obtain ⟨rfl, rfl⟩ := rt_ok hf
          exact hp_iret cx hB hr hlk (Nat.le_of_ble_eq_true rfl) (Nat.le_of_ble_eq_true rfl) dX11_came_40
        · replace hf := it_f c5 hf
          refine lv_aload_n hx hb dX11_came_29 rfl (lv_at hl 0 rfl) ?_
          obtain ⟨a6, q7, hf⟩ := bd_ok hf
          refine gf_X11_70 cx hB k2 q7 dX11_came_30 ?_
          refine lv_iload_n hx hb dX11_came_33 rfl (lv_at hl 1 rfl) ?_
          obtain ⟨k8, hf⟩ := gk_ok hf
          obtain ⟨j9, hf⟩ := gd_ok hf
          refine hp_iald cx hB k8 j9 dX11_came_34 ?_
          refine lv_goto (tgt := 40) hx hb dX11_came_35 (by decide) ?_
          obtain ⟨rfl, rfl⟩ := rt_ok hf
          exact hp_iret cx hB hr hlk (Nat.le_of_ble_eq_true rfl) (Nat.le_of_ble_eq_true rfl) dX11_came_40
  · replace hf := it_f c1 hf
    refine lv_iconst (v := (-1)) hx hb dX11_came_4 (by decide) ?_
    refine lv_goto (tgt := 40) hx hb dX11_came_5 (by decide) ?_
    obtain ⟨rfl, rfl⟩ := rt_ok hf
    exact hp_iret cx hB hr hlk (Nat.le_of_ble_eq_true rfl) (Nat.le_of_ble_eq_true rfl) dX11_came_40
end
set_option maxHeartbeats 4000000 in
set_option maxRecDepth 100000 in
theorem cX11_came (l : Launch) (D : va_G) (cA : Nat → ClassId) (t0 : Nat) (v1 : Int32) (h : Hp) (r : Int32) (h9 : Hp) (hf : fX11_came t0 v1 h = some (r, h9)) : hp_M l yX11_came prog_13_method_37_code 2 (Option.some FieldType.int) rmX11_came D cA h [.ref t0, .int v1] (hp_Qi D cA h h9 r) := by
  refine Met.ofW (cc := prog_13_method_37_code) (maxL := 2) (ret := (Option.some FieldType.int)) (by decide) rfl ?_
  intro p e s m args below meth c s₁ B hml hv
  obtain ⟨rfl, hU⟩ := hv
  have hts := atoms_spec (ws := Cond.code yX11_came prog_13_method_37_code 2 (Option.some FieldType.int) :: tbG) B.pre
  have hl := lv_entry ([.ref t0, .int v1]) (n := 2) (Nat.le_of_ble_eq_true rfl)
  rw [lg_entry_eq]
  generalize (lg_sl ([.ref t0, .int v1]) ++ List.replicate (2 - (lg_sl ([.ref t0, .int v1])).length) Slot.unset).toArray = ls at hl ⊢
  exact tX11_came_0 ⟨B.exec, B.bytes, hml, findClass_of_methodNamed B.named, fun w hw => hts w (List.mem_cons_of_mem _ hw)⟩ B.returns B.notSynchronized t0 v1 h _ _ _ (hp_B.entry hU) hl hf
abbrev yX11_pressed : MethodName := ⟨"SpokenMenusModel", "pressed", "(I)I"⟩
theorem dX11_pressed_0 : decode prog_13_method_38_code 0 = .ok (.iload_n 1, 1) := by decide +kernel
theorem dX11_pressed_1 : decode prog_13_method_38_code 1 = .ok (.ifCond .ge 7, 3) := by decide +kernel
theorem dX11_pressed_4 : decode prog_13_method_38_code 4 = .ok (.iconst (-1), 1) := by decide +kernel
theorem dX11_pressed_5 : decode prog_13_method_38_code 5 = .ok (.goto 35, 3) := by decide +kernel
theorem dX11_pressed_8 : decode prog_13_method_38_code 8 = .ok (.aload_n 0, 1) := by decide +kernel
theorem dX11_pressed_9 : decode prog_13_method_38_code 9 = .ok (.getfield 241, 3) := by decide +kernel
theorem dX11_pressed_12 : decode prog_13_method_38_code 12 = .ok (.ifCond .eq 26, 3) := by decide +kernel
theorem dX11_pressed_15 : decode prog_13_method_38_code 15 = .ok (.iload_n 1, 1) := by decide +kernel
theorem dX11_pressed_16 : decode prog_13_method_38_code 16 = .ok (.aload_n 0, 1) := by decide +kernel
theorem dX11_pressed_17 : decode prog_13_method_38_code 17 = .ok (.getfield 254, 3) := by decide +kernel
theorem dX11_pressed_20 : decode prog_13_method_38_code 20 = .ok (.if_icmp .ge 18, 3) := by decide +kernel
theorem dX11_pressed_23 : decode prog_13_method_38_code 23 = .ok (.iload_n 1, 1) := by decide +kernel
theorem dX11_pressed_24 : decode prog_13_method_38_code 24 = .ok (.bipush 60, 2) := by decide +kernel
theorem dX11_pressed_26 : decode prog_13_method_38_code 26 = .ok (.if_icmp .ge 12, 3) := by decide +kernel
theorem dX11_pressed_29 : decode prog_13_method_38_code 29 = .ok (.aload_n 0, 1) := by decide +kernel
theorem dX11_pressed_30 : decode prog_13_method_38_code 30 = .ok (.getfield 73, 3) := by decide +kernel
theorem dX11_pressed_33 : decode prog_13_method_38_code 33 = .ok (.iload_n 1, 1) := by decide +kernel
theorem dX11_pressed_34 : decode prog_13_method_38_code 34 = .ok (.iaload, 1) := by decide +kernel
theorem dX11_pressed_35 : decode prog_13_method_38_code 35 = .ok (.goto 5, 3) := by decide +kernel
theorem dX11_pressed_38 : decode prog_13_method_38_code 38 = .ok (.bipush (-4), 2) := by decide +kernel
theorem dX11_pressed_40 : decode prog_13_method_38_code 40 = .ok (.ireturn, 1) := by decide +kernel
abbrev rmX11_pressed : Room := { frames := 0, cells := 0, slots := 0, locals := 0 }
def fX11_pressed  (t0 : Nat) (v1 : Int32) (h : Hp) : Option (Int32 × Hp) :=
  if 0 ≤ v1 then
  (gk (h.1 t0) 12 <|
  if (h.2.2.1 t0 22) = 0 then
  (some ((-4), h))
  else
  (if (h.2.2.1 t0 26) ≤ v1 then
  (some ((-4), h))
  else
  (if 60 ≤ v1 then
  (some ((-4), h))
  else
  (bd (h.2.2.2.1 t0 28) fun a6 =>
  gk (h.1 a6) 13 <|
  gd (ix v1 (h.2.1 a6)) <|
  some (h.2.2.1 a6 (Int32.toNatClampNeg v1), h)))))
  else
  (some ((-1), h))
section
variable {p : Program} {l : Launch} {e : Env} {s : State} {m : MethodId} {args : Array Value} {below : List Frame} {meth : Method} {c : Code} {D : va_G} {cA : Nat → ClassId} {h0 h9 : Hp}
set_option maxHeartbeats 4000000 in
set_option maxRecDepth 100000 in
theorem tX11_pressed_0  {r : Int32} (cx : CallFix p m c prog_13_method_38_code 2 s args tbG RX11) (hr : meth.sig.returnType = (Option.some FieldType.int)) (hlk : meth.locks = false)  (t0 : Nat) (v1 : Int32) (h : Hp) (H : Heap) (locs : List Loc) (ls : Array Slot) (hB : hp_B D cA (hp_A h0) s h H locs) (hl : lv_has ls 2 [(0, .ref t0), (1, .int v1)]) (hf : fX11_pressed  t0 v1 h = some (r, h9)) : W p l e rmX11_pressed s m args below meth c H locs 0 0 (MQ below (hp_Qi D cA h0 h9 r) args s 0 0 (hp_A h0)) (F0 m 0 ls []) := by
  obtain ⟨hx, hb, -⟩ := id cx
  unfold fX11_pressed at hf
  refine lv_iload_n hx hb dX11_pressed_0 rfl (lv_at hl 1 rfl) ?_
  refine lv_if_ge (tgt := 8) hx hb dX11_pressed_1 (by decide) (fun c1 => ?_) (fun c1 => ?_)
  · replace hf := it_t c1 hf
    refine lv_aload_n hx hb dX11_pressed_8 rfl (lv_at hl 0 rfl) ?_
    obtain ⟨k2, hf⟩ := gk_ok hf
    refine gf_X11_241 cx hB k2 dX11_pressed_9 ?_
    refine lv_if_eq (tgt := 38) hx hb dX11_pressed_12 (by decide) (fun c3 => ?_) (fun c3 => ?_)
    · replace hf := it_t c3 hf
      refine lv_bipush (v := (-4)) hx hb dX11_pressed_38 (by decide) ?_
      obtain ⟨rfl, rfl⟩ := rt_ok hf
      exact hp_iret cx hB hr hlk (Nat.le_of_ble_eq_true rfl) (Nat.le_of_ble_eq_true rfl) dX11_pressed_40
    · replace hf := it_f c3 hf
      refine lv_iload_n hx hb dX11_pressed_15 rfl (lv_at hl 1 rfl) ?_
      refine lv_aload_n hx hb dX11_pressed_16 rfl (lv_at hl 0 rfl) ?_
      refine gf_X11_254 cx hB k2 dX11_pressed_17 ?_
      refine lv_icmp_ge (tgt := 38) hx hb dX11_pressed_20 (by decide) (fun c4 => ?_) (fun c4 => ?_)
      · replace hf := it_t c4 hf
        refine lv_bipush (v := (-4)) hx hb dX11_pressed_38 (by decide) ?_
        obtain ⟨rfl, rfl⟩ := rt_ok hf
        exact hp_iret cx hB hr hlk (Nat.le_of_ble_eq_true rfl) (Nat.le_of_ble_eq_true rfl) dX11_pressed_40
      · replace hf := it_f c4 hf
        refine lv_iload_n hx hb dX11_pressed_23 rfl (lv_at hl 1 rfl) ?_
        refine lv_bipush (v := 60) hx hb dX11_pressed_24 (by decide) ?_
        refine lv_icmp_ge (tgt := 38) hx hb dX11_pressed_26 (by decide) (fun c5 => ?_) (fun c5 => ?_)
        · replace hf := it_t c5 hf
          refine lv_bipush (v := (-4)) hx hb dX11_pressed_38 (by decide) ?_
          obtain ⟨rfl, rfl⟩ := rt_ok hf
          exact hp_iret cx hB hr hlk (Nat.le_of_ble_eq_true rfl) (Nat.le_of_ble_eq_true rfl) dX11_pressed_40
        · replace hf := it_f c5 hf
          refine lv_aload_n hx hb dX11_pressed_29 rfl (lv_at hl 0 rfl) ?_
          obtain ⟨a6, q7, hf⟩ := bd_ok hf
          refine gf_X11_73 cx hB k2 q7 dX11_pressed_30 ?_
          refine lv_iload_n hx hb dX11_pressed_33 rfl (lv_at hl 1 rfl) ?_
          obtain ⟨k8, hf⟩ := gk_ok hf
          obtain ⟨j9, hf⟩ := gd_ok hf
          refine hp_iald cx hB k8 j9 dX11_pressed_34 ?_
          refine lv_goto (tgt := 40) hx hb dX11_pressed_35 (by decide) ?_
          obtain ⟨rfl, rfl⟩ := rt_ok hf
          exact hp_iret cx hB hr hlk (Nat.le_of_ble_eq_true rfl) (Nat.le_of_ble_eq_true rfl) dX11_pressed_40
  · replace hf := it_f c1 hf
    refine lv_iconst (v := (-1)) hx hb dX11_pressed_4 (by decide) ?_
    refine lv_goto (tgt := 40) hx hb dX11_pressed_5 (by decide) ?_
    obtain ⟨rfl, rfl⟩ := rt_ok hf
    exact hp_iret cx hB hr hlk (Nat.le_of_ble_eq_true rfl) (Nat.le_of_ble_eq_true rfl) dX11_pressed_40
end
set_option maxHeartbeats 4000000 in
set_option maxRecDepth 100000 in
theorem cX11_pressed (l : Launch) (D : va_G) (cA : Nat → ClassId) (t0 : Nat) (v1 : Int32) (h : Hp) (r : Int32) (h9 : Hp) (hf : fX11_pressed t0 v1 h = some (r, h9)) : hp_M l yX11_pressed prog_13_method_38_code 2 (Option.some FieldType.int) rmX11_pressed D cA h [.ref t0, .int v1] (hp_Qi D cA h h9 r) := by
  refine Met.ofW (cc := prog_13_method_38_code) (maxL := 2) (ret := (Option.some FieldType.int)) (by decide) rfl ?_
  intro p e s m args below meth c s₁ B hml hv
  obtain ⟨rfl, hU⟩ := hv
  have hts := atoms_spec (ws := Cond.code yX11_pressed prog_13_method_38_code 2 (Option.some FieldType.int) :: tbG) B.pre
  have hl := lv_entry ([.ref t0, .int v1]) (n := 2) (Nat.le_of_ble_eq_true rfl)
  rw [lg_entry_eq]
  generalize (lg_sl ([.ref t0, .int v1]) ++ List.replicate (2 - (lg_sl ([.ref t0, .int v1])).length) Slot.unset).toArray = ls at hl ⊢
  exact tX11_pressed_0 ⟨B.exec, B.bytes, hml, findClass_of_methodNamed B.named, fun w hw => hts w (List.mem_cons_of_mem _ hw)⟩ B.returns B.notSynchronized t0 v1 h _ _ _ (hp_B.entry hU) hl hf
abbrev yX11_fewest : MethodName := ⟨"SpokenMenusModel", "fewest", "(IIII)I"⟩
theorem dX11_fewest_0 : decode prog_13_method_39_code 0 = .ok (.aload_n 0, 1) := by decide +kernel
theorem dX11_fewest_1 : decode prog_13_method_39_code 1 = .ok (.iload_n 1, 1) := by decide +kernel
theorem dX11_fewest_2 : decode prog_13_method_39_code 2 = .ok (.invokevirtual 142, 3) := by decide +kernel
theorem dX11_fewest_5 : decode prog_13_method_39_code 5 = .ok (.ifCond .eq 15, 3) := by decide +kernel
theorem dX11_fewest_8 : decode prog_13_method_39_code 8 = .ok (.iload_n 2, 1) := by decide +kernel
theorem dX11_fewest_9 : decode prog_13_method_39_code 9 = .ok (.iload_n 3, 1) := by decide +kernel
theorem dX11_fewest_10 : decode prog_13_method_39_code 10 = .ok (.iconst 1, 1) := by decide +kernel
theorem dX11_fewest_11 : decode prog_13_method_39_code 11 = .ok (.iload 4, 2) := by decide +kernel
theorem dX11_fewest_13 : decode prog_13_method_39_code 13 = .ok (.iconst 0, 1) := by decide +kernel
theorem dX11_fewest_14 : decode prog_13_method_39_code 14 = .ok (.invokestatic 233, 3) := by decide +kernel
theorem dX11_fewest_17 : decode prog_13_method_39_code 17 = .ok (.ifCond .ne 5, 3) := by decide +kernel
theorem dX11_fewest_20 : decode prog_13_method_39_code 20 = .ok (.iconst (-1), 1) := by decide +kernel
theorem dX11_fewest_21 : decode prog_13_method_39_code 21 = .ok (.ireturn, 1) := by decide +kernel
theorem dX11_fewest_22 : decode prog_13_method_39_code 22 = .ok (.aload_n 0, 1) := by decide +kernel
theorem dX11_fewest_23 : decode prog_13_method_39_code 23 = .ok (.iload_n 2, 1) := by decide +kernel
theorem dX11_fewest_24 : decode prog_13_method_39_code 24 = .ok (.putfield 169, 3) := by decide +kernel
theorem dX11_fewest_27 : decode prog_13_method_39_code 27 = .ok (.aload_n 0, 1) := by decide +kernel
theorem dX11_fewest_28 : decode prog_13_method_39_code 28 = .ok (.iload_n 3, 1) := by decide +kernel
theorem dX11_fewest_29 : decode prog_13_method_39_code 29 = .ok (.putfield 166, 3) := by decide +kernel
theorem dX11_fewest_32 : decode prog_13_method_39_code 32 = .ok (.aload_n 0, 1) := by decide +kernel
theorem dX11_fewest_33 : decode prog_13_method_39_code 33 = .ok (.iload 4, 2) := by decide +kernel
theorem dX11_fewest_35 : decode prog_13_method_39_code 35 = .ok (.putfield 163, 3) := by decide +kernel
theorem dX11_fewest_38 : decode prog_13_method_39_code 38 = .ok (.aload_n 0, 1) := by decide +kernel
theorem dX11_fewest_39 : decode prog_13_method_39_code 39 = .ok (.invokevirtual 225, 3) := by decide +kernel
theorem dX11_fewest_42 : decode prog_13_method_39_code 42 = .ok (.aload_n 0, 1) := by decide +kernel
theorem dX11_fewest_43 : decode prog_13_method_39_code 43 = .ok (.getfield 82, 3) := by decide +kernel
theorem dX11_fewest_46 : decode prog_13_method_39_code 46 = .ok (.iload_n 1, 1) := by decide +kernel
theorem dX11_fewest_47 : decode prog_13_method_39_code 47 = .ok (.iaload, 1) := by decide +kernel
theorem dX11_fewest_48 : decode prog_13_method_39_code 48 = .ok (.ldc 172, 2) := by decide +kernel
theorem dX11_fewest_50 : decode prog_13_method_39_code 50 = .ok (.if_icmp .ne 8, 3) := by decide +kernel
theorem dX11_fewest_53 : decode prog_13_method_39_code 53 = .ok (.bipush (-4), 2) := by decide +kernel
theorem dX11_fewest_55 : decode prog_13_method_39_code 55 = .ok (.goto 9, 3) := by decide +kernel
theorem dX11_fewest_58 : decode prog_13_method_39_code 58 = .ok (.aload_n 0, 1) := by decide +kernel
theorem dX11_fewest_59 : decode prog_13_method_39_code 59 = .ok (.getfield 82, 3) := by decide +kernel
theorem dX11_fewest_62 : decode prog_13_method_39_code 62 = .ok (.iload_n 1, 1) := by decide +kernel
theorem dX11_fewest_63 : decode prog_13_method_39_code 63 = .ok (.iaload, 1) := by decide +kernel
theorem dX11_fewest_64 : decode prog_13_method_39_code 64 = .ok (.ireturn, 1) := by decide +kernel
abbrev rmX11_fewest : Room := { frames := 6, cells := 0, slots := 0, locals := 134 }
def fX11_fewest  (t0 : Nat) (v1 : Int32) (v2 : Int32) (v3 : Int32) (v4 : Int32) (h : Hp) : Option (Int32 × Hp) :=
  gk (h.1 t0) 12 <|
  b2 (fX11_isPlace t0 v1 h) fun r4 g2 =>
  if r4 = 0 then
  (some ((-1), g2))
  else
  (b2 (fX11_isCaller v2 v3 1 v4 0 g2) fun r9 g7 =>
  if r9 = 0 then
  (some ((-1), g7))
  else
  (gk (g7.1 t0) 12 <|
  nm (hp_si g7 t0 32 v2) fun g13 =>
  nm (hp_si g13 t0 33 v3) fun g15 =>
  nm (hp_si g15 t0 35 v4) fun g17 =>
  b2 (fX11_layLeast t0 g17) fun _ g19 =>
  gk (g19.1 t0) 12 <|
  bd (g19.2.2.2.1 t0 36) fun a24 =>
  gk (g19.1 a24) 13 <|
  gd (ix v1 (g19.2.1 a24)) <|
  if (g19.2.2.1 a24 (Int32.toNatClampNeg v1)) = 100000000 then
  (some ((-4), g19))
  else
  (gd (ix v1 (g19.2.1 a24)) <|
  some (g19.2.2.1 a24 (Int32.toNatClampNeg v1), g19))))
section
variable {p : Program} {l : Launch} {e : Env} {s : State} {m : MethodId} {args : Array Value} {below : List Frame} {meth : Method} {c : Code} {D : va_G} {cA : Nat → ClassId} {h0 h9 : Hp}
set_option maxHeartbeats 4000000 in
set_option maxRecDepth 100000 in
theorem tX11_fewest_0  {r : Int32} (cx : CallFix p m c prog_13_method_39_code 5 s args tbG RX11) (hr : meth.sig.returnType = (Option.some FieldType.int)) (hlk : meth.locks = false)  (t0 : Nat) (v1 : Int32) (v2 : Int32) (v3 : Int32) (v4 : Int32) (h : Hp) (H : Heap) (locs : List Loc) (ls : Array Slot) (hB : hp_B D cA (hp_A h0) s h H locs) (hl : lv_has ls 5 [(0, .ref t0), (1, .int v1), (2, .int v2), (3, .int v3), (4, .int v4)]) (hf : fX11_fewest  t0 v1 v2 v3 v4 h = some (r, h9)) : W p l e rmX11_fewest s m args below meth c H locs 0 0 (MQ below (hp_Qi D cA h0 h9 r) args s 0 0 (hp_A h0)) (F0 m 0 ls []) := by
  obtain ⟨hx, hb, -⟩ := id cx
  unfold fX11_fewest at hf
  refine lv_aload_n hx hb dX11_fewest_0 rfl (lv_at hl 0 rfl) ?_
  refine lv_iload_n hx hb dX11_fewest_1 rfl (lv_at hl 1 rfl) ?_
  obtain ⟨k1, hf⟩ := gk_ok hf
  obtain ⟨r4, g2, m3, hf⟩ := b2_ok hf
  refine hp_cI0 (cl_X11_142 cx hB (cX11_isPlace l D cA t0 v1 h _ g2 m3) k1 ⟨Nat.le_of_ble_eq_true rfl, Nat.le_of_ble_eq_true rfl⟩ rfl hl.1 rfl (Nat.le_of_ble_eq_true rfl) ⟨Nat.le_of_ble_eq_true rfl, Nat.le_of_ble_eq_true rfl⟩ dX11_fewest_2) rfl rfl hB (fun H locs hB => ?_)
  refine lv_if_eq (tgt := 20) hx hb dX11_fewest_5 (by decide) (fun c6 => ?_) (fun c6 => ?_)
  · replace hf := it_t c6 hf
    refine lv_iconst (v := (-1)) hx hb dX11_fewest_20 (by decide) ?_
    obtain ⟨rfl, rfl⟩ := rt_ok hf
    exact hp_iret cx hB hr hlk (Nat.le_of_ble_eq_true rfl) (Nat.le_of_ble_eq_true rfl) dX11_fewest_21
  · replace hf := it_f c6 hf
    refine lv_iload_n hx hb dX11_fewest_8 rfl (lv_at hl 2 rfl) ?_
    refine lv_iload_n hx hb dX11_fewest_9 rfl (lv_at hl 3 rfl) ?_
    refine lv_iconst (v := 1) hx hb dX11_fewest_10 (by decide) ?_
    refine lv_iload hx hb dX11_fewest_11 (lv_at hl 4 rfl) ?_
    refine lv_iconst (v := 0) hx hb dX11_fewest_13 (by decide) ?_
    obtain ⟨r9, g7, m8, hf⟩ := b2_ok hf
    refine hp_cI0 (cl_X11_233 cx hB (cX11_isCaller l D cA v2 v3 1 v4 0 g2 _ g7 m8) ⟨Nat.le_of_ble_eq_true rfl, Nat.le_of_ble_eq_true rfl⟩ rfl hl.1 rfl (Nat.le_of_ble_eq_true rfl) ⟨Nat.le_of_ble_eq_true rfl, Nat.le_of_ble_eq_true rfl⟩ dX11_fewest_14) rfl rfl hB (fun H locs hB => ?_)
    refine lv_if_ne (tgt := 22) hx hb dX11_fewest_17 (by decide) (fun c11 => ?_) (fun c11 => ?_)
    · replace hf := it_f c11 hf
      refine lv_aload_n hx hb dX11_fewest_22 rfl (lv_at hl 0 rfl) ?_
      refine lv_iload_n hx hb dX11_fewest_23 rfl (lv_at hl 2 rfl) ?_
      obtain ⟨k12, hf⟩ := gk_ok hf
      obtain ⟨g13, eg13, hf⟩ := nm_ok hf
      refine pf_X11_169 cx hB k12 dX11_fewest_24 (fun H locs hB => ?_)
      rw [← eg13] at hB
      refine lv_aload_n hx hb dX11_fewest_27 rfl (lv_at hl 0 rfl) ?_
      refine lv_iload_n hx hb dX11_fewest_28 rfl (lv_at hl 3 rfl) ?_
      have k14 : g13.1 t0 = 12 := by rw [eg13]; exact k12
      obtain ⟨g15, eg15, hf⟩ := nm_ok hf
      refine pf_X11_166 cx hB k14 dX11_fewest_29 (fun H locs hB => ?_)
      rw [← eg15] at hB
      refine lv_aload_n hx hb dX11_fewest_32 rfl (lv_at hl 0 rfl) ?_
      refine lv_iload hx hb dX11_fewest_33 (lv_at hl 4 rfl) ?_
      have k16 : g15.1 t0 = 12 := by rw [eg15]; exact k14
      obtain ⟨g17, eg17, hf⟩ := nm_ok hf
      refine pf_X11_163 cx hB k16 dX11_fewest_35 (fun H locs hB => ?_)
      rw [← eg17] at hB
      refine lv_aload_n hx hb dX11_fewest_38 rfl (lv_at hl 0 rfl) ?_
      have k18 : g17.1 t0 = 12 := by rw [eg17]; exact k16
      obtain ⟨uu, g19, m20, hf⟩ := b2_ok hf
      refine hp_cV0 (cl_X11_225 cx hB (cX11_layLeast l D cA t0 g17 _ g19 m20) k18 ⟨Nat.le_of_ble_eq_true rfl, Nat.le_of_ble_eq_true rfl⟩ rfl hl.1 rfl (Nat.le_of_ble_eq_true rfl) ⟨Nat.le_of_ble_eq_true rfl, Nat.le_of_ble_eq_true rfl⟩ dX11_fewest_39) rfl rfl hB (fun H locs hB => ?_)
      refine lv_aload_n hx hb dX11_fewest_42 rfl (lv_at hl 0 rfl) ?_
      obtain ⟨k23, hf⟩ := gk_ok hf
      obtain ⟨a24, q25, hf⟩ := bd_ok hf
      refine gf_X11_82 cx hB k23 q25 dX11_fewest_43 ?_
      refine lv_iload_n hx hb dX11_fewest_46 rfl (lv_at hl 1 rfl) ?_
      obtain ⟨k26, hf⟩ := gk_ok hf
      obtain ⟨j27, hf⟩ := gd_ok hf
      refine hp_iald cx hB k26 j27 dX11_fewest_47 ?_
      refine lv_ldc (v := 100000000) hx hb cx.2.2.2.1 (cx.2.2.2.2 _ (tb_in qw_993 rfl)) dX11_fewest_48 ?_
      refine lv_icmp_ne (tgt := 58) hx hb dX11_fewest_50 (by decide) (fun c28 => ?_) (fun c28 => ?_)
      · replace hf := it_f c28 hf
        refine lv_aload_n hx hb dX11_fewest_58 rfl (lv_at hl 0 rfl) ?_
        refine gf_X11_82 cx hB k23 q25 dX11_fewest_59 ?_
        refine lv_iload_n hx hb dX11_fewest_62 rfl (lv_at hl 1 rfl) ?_
        obtain ⟨j29, hf⟩ := gd_ok hf
        refine hp_iald cx hB k26 j29 dX11_fewest_63 ?_
        obtain ⟨rfl, rfl⟩ := rt_ok hf
        exact hp_iret cx hB hr hlk (Nat.le_of_ble_eq_true rfl) (Nat.le_of_ble_eq_true rfl) dX11_fewest_64
      · replace hf := it_t c28 hf
        refine lv_bipush (v := (-4)) hx hb dX11_fewest_53 (by decide) ?_
        refine lv_goto (tgt := 64) hx hb dX11_fewest_55 (by decide) ?_
        obtain ⟨rfl, rfl⟩ := rt_ok hf
        exact hp_iret cx hB hr hlk (Nat.le_of_ble_eq_true rfl) (Nat.le_of_ble_eq_true rfl) dX11_fewest_64
    · replace hf := it_t c11 hf
      refine lv_iconst (v := (-1)) hx hb dX11_fewest_20 (by decide) ?_
      obtain ⟨rfl, rfl⟩ := rt_ok hf
      exact hp_iret cx hB hr hlk (Nat.le_of_ble_eq_true rfl) (Nat.le_of_ble_eq_true rfl) dX11_fewest_21
end
set_option maxHeartbeats 4000000 in
set_option maxRecDepth 100000 in
theorem cX11_fewest (l : Launch) (D : va_G) (cA : Nat → ClassId) (t0 : Nat) (v1 : Int32) (v2 : Int32) (v3 : Int32) (v4 : Int32) (h : Hp) (r : Int32) (h9 : Hp) (hf : fX11_fewest t0 v1 v2 v3 v4 h = some (r, h9)) : hp_M l yX11_fewest prog_13_method_39_code 5 (Option.some FieldType.int) rmX11_fewest D cA h [.ref t0, .int v1, .int v2, .int v3, .int v4] (hp_Qi D cA h h9 r) := by
  refine Met.ofW (cc := prog_13_method_39_code) (maxL := 5) (ret := (Option.some FieldType.int)) (by decide) rfl ?_
  intro p e s m args below meth c s₁ B hml hv
  obtain ⟨rfl, hU⟩ := hv
  have hts := atoms_spec (ws := Cond.code yX11_fewest prog_13_method_39_code 5 (Option.some FieldType.int) :: tbG) B.pre
  have hl := lv_entry ([.ref t0, .int v1, .int v2, .int v3, .int v4]) (n := 5) (Nat.le_of_ble_eq_true rfl)
  rw [lg_entry_eq]
  generalize (lg_sl ([.ref t0, .int v1, .int v2, .int v3, .int v4]) ++ List.replicate (5 - (lg_sl ([.ref t0, .int v1, .int v2, .int v3, .int v4])).length) Slot.unset).toArray = ls at hl ⊢
  exact tX11_fewest_0 ⟨B.exec, B.bytes, hml, findClass_of_methodNamed B.named, fun w hw => hts w (List.mem_cons_of_mem _ hw)⟩ B.returns B.notSynchronized t0 v1 v2 v3 v4 h _ _ _ (hp_B.entry hU) hl hf
abbrev yX11_leads : MethodName := ⟨"SpokenMenusModel", "leads", "(I[Z)Z"⟩
theorem dX11_leads_0 : decode prog_13_method_40_code 0 = .ok (.iconst 0, 1) := by decide +kernel
theorem dX11_leads_1 : decode prog_13_method_40_code 1 = .ok (.istore_n 3, 1) := by decide +kernel
theorem dX11_leads_2 : decode prog_13_method_40_code 2 = .ok (.aload_n 0, 1) := by decide +kernel
theorem dX11_leads_3 : decode prog_13_method_40_code 3 = .ok (.getfield 7, 3) := by decide +kernel
theorem dX11_leads_6 : decode prog_13_method_40_code 6 = .ok (.iload_n 1, 1) := by decide +kernel
theorem dX11_leads_7 : decode prog_13_method_40_code 7 = .ok (.iaload, 1) := by decide +kernel
theorem dX11_leads_8 : decode prog_13_method_40_code 8 = .ok (.iconst 3, 1) := by decide +kernel
theorem dX11_leads_9 : decode prog_13_method_40_code 9 = .ok (.if_icmp .ne 50, 3) := by decide +kernel
theorem dX11_leads_12 : decode prog_13_method_40_code 12 = .ok (.aload_n 0, 1) := by decide +kernel
theorem dX11_leads_13 : decode prog_13_method_40_code 13 = .ok (.iload_n 1, 1) := by decide +kernel
theorem dX11_leads_14 : decode prog_13_method_40_code 14 = .ok (.invokevirtual 184, 3) := by decide +kernel
theorem dX11_leads_17 : decode prog_13_method_40_code 17 = .ok (.ifCond .eq 12, 3) := by decide +kernel
theorem dX11_leads_20 : decode prog_13_method_40_code 20 = .ok (.aload_n 0, 1) := by decide +kernel
theorem dX11_leads_21 : decode prog_13_method_40_code 21 = .ok (.getfield 19, 3) := by decide +kernel
theorem dX11_leads_24 : decode prog_13_method_40_code 24 = .ok (.iload_n 1, 1) := by decide +kernel
theorem dX11_leads_25 : decode prog_13_method_40_code 25 = .ok (.iaload, 1) := by decide +kernel
theorem dX11_leads_26 : decode prog_13_method_40_code 26 = .ok (.goto 9, 3) := by decide +kernel
theorem dX11_leads_29 : decode prog_13_method_40_code 29 = .ok (.aload_n 0, 1) := by decide +kernel
theorem dX11_leads_30 : decode prog_13_method_40_code 30 = .ok (.getfield 22, 3) := by decide +kernel
theorem dX11_leads_33 : decode prog_13_method_40_code 33 = .ok (.iload_n 1, 1) := by decide +kernel
theorem dX11_leads_34 : decode prog_13_method_40_code 34 = .ok (.iaload, 1) := by decide +kernel
theorem dX11_leads_35 : decode prog_13_method_40_code 35 = .ok (.istore 4, 2) := by decide +kernel
theorem dX11_leads_37 : decode prog_13_method_40_code 37 = .ok (.aload_n 0, 1) := by decide +kernel
theorem dX11_leads_38 : decode prog_13_method_40_code 38 = .ok (.iload 4, 2) := by decide +kernel
theorem dX11_leads_40 : decode prog_13_method_40_code 40 = .ok (.invokevirtual 142, 3) := by decide +kernel
theorem dX11_leads_43 : decode prog_13_method_40_code 43 = .ok (.ifCond .eq 14, 3) := by decide +kernel
theorem dX11_leads_46 : decode prog_13_method_40_code 46 = .ok (.aload_n 2, 1) := by decide +kernel
theorem dX11_leads_47 : decode prog_13_method_40_code 47 = .ok (.iload 4, 2) := by decide +kernel
theorem dX11_leads_49 : decode prog_13_method_40_code 49 = .ok (.baload, 1) := by decide +kernel
theorem dX11_leads_50 : decode prog_13_method_40_code 50 = .ok (.ifCond .eq 7, 3) := by decide +kernel
theorem dX11_leads_53 : decode prog_13_method_40_code 53 = .ok (.iconst 1, 1) := by decide +kernel
theorem dX11_leads_54 : decode prog_13_method_40_code 54 = .ok (.goto 4, 3) := by decide +kernel
theorem dX11_leads_57 : decode prog_13_method_40_code 57 = .ok (.iconst 0, 1) := by decide +kernel
theorem dX11_leads_58 : decode prog_13_method_40_code 58 = .ok (.ireturn, 1) := by decide +kernel
theorem dX11_leads_59 : decode prog_13_method_40_code 59 = .ok (.aload_n 0, 1) := by decide +kernel
theorem dX11_leads_60 : decode prog_13_method_40_code 60 = .ok (.aload_n 0, 1) := by decide +kernel
theorem dX11_leads_61 : decode prog_13_method_40_code 61 = .ok (.getfield 19, 3) := by decide +kernel
theorem dX11_leads_64 : decode prog_13_method_40_code 64 = .ok (.iload_n 1, 1) := by decide +kernel
theorem dX11_leads_65 : decode prog_13_method_40_code 65 = .ok (.iaload, 1) := by decide +kernel
theorem dX11_leads_66 : decode prog_13_method_40_code 66 = .ok (.invokevirtual 142, 3) := by decide +kernel
theorem dX11_leads_69 : decode prog_13_method_40_code 69 = .ok (.ifCond .eq 14, 3) := by decide +kernel
theorem dX11_leads_72 : decode prog_13_method_40_code 72 = .ok (.aload_n 2, 1) := by decide +kernel
theorem dX11_leads_73 : decode prog_13_method_40_code 73 = .ok (.aload_n 0, 1) := by decide +kernel
theorem dX11_leads_74 : decode prog_13_method_40_code 74 = .ok (.getfield 19, 3) := by decide +kernel
theorem dX11_leads_77 : decode prog_13_method_40_code 77 = .ok (.iload_n 1, 1) := by decide +kernel
theorem dX11_leads_78 : decode prog_13_method_40_code 78 = .ok (.iaload, 1) := by decide +kernel
theorem dX11_leads_79 : decode prog_13_method_40_code 79 = .ok (.baload, 1) := by decide +kernel
theorem dX11_leads_80 : decode prog_13_method_40_code 80 = .ok (.ifCond .ne 37, 3) := by decide +kernel
theorem dX11_leads_83 : decode prog_13_method_40_code 83 = .ok (.aload_n 0, 1) := by decide +kernel
theorem dX11_leads_84 : decode prog_13_method_40_code 84 = .ok (.getfield 7, 3) := by decide +kernel
theorem dX11_leads_87 : decode prog_13_method_40_code 87 = .ok (.iload_n 1, 1) := by decide +kernel
theorem dX11_leads_88 : decode prog_13_method_40_code 88 = .ok (.iaload, 1) := by decide +kernel
theorem dX11_leads_89 : decode prog_13_method_40_code 89 = .ok (.iconst 4, 1) := by decide +kernel
theorem dX11_leads_90 : decode prog_13_method_40_code 90 = .ok (.if_icmp .ne 31, 3) := by decide +kernel
theorem dX11_leads_93 : decode prog_13_method_40_code 93 = .ok (.aload_n 0, 1) := by decide +kernel
theorem dX11_leads_94 : decode prog_13_method_40_code 94 = .ok (.aload_n 0, 1) := by decide +kernel
theorem dX11_leads_95 : decode prog_13_method_40_code 95 = .ok (.getfield 22, 3) := by decide +kernel
theorem dX11_leads_98 : decode prog_13_method_40_code 98 = .ok (.iload_n 1, 1) := by decide +kernel
theorem dX11_leads_99 : decode prog_13_method_40_code 99 = .ok (.iaload, 1) := by decide +kernel
theorem dX11_leads_100 : decode prog_13_method_40_code 100 = .ok (.invokevirtual 142, 3) := by decide +kernel
theorem dX11_leads_103 : decode prog_13_method_40_code 103 = .ok (.ifCond .eq 18, 3) := by decide +kernel
theorem dX11_leads_106 : decode prog_13_method_40_code 106 = .ok (.aload_n 2, 1) := by decide +kernel
theorem dX11_leads_107 : decode prog_13_method_40_code 107 = .ok (.aload_n 0, 1) := by decide +kernel
theorem dX11_leads_108 : decode prog_13_method_40_code 108 = .ok (.getfield 22, 3) := by decide +kernel
theorem dX11_leads_111 : decode prog_13_method_40_code 111 = .ok (.iload_n 1, 1) := by decide +kernel
theorem dX11_leads_112 : decode prog_13_method_40_code 112 = .ok (.iaload, 1) := by decide +kernel
theorem dX11_leads_113 : decode prog_13_method_40_code 113 = .ok (.baload, 1) := by decide +kernel
theorem dX11_leads_114 : decode prog_13_method_40_code 114 = .ok (.ifCond .eq 7, 3) := by decide +kernel
theorem dX11_leads_117 : decode prog_13_method_40_code 117 = .ok (.iconst 1, 1) := by decide +kernel
theorem dX11_leads_118 : decode prog_13_method_40_code 118 = .ok (.goto 4, 3) := by decide +kernel
theorem dX11_leads_121 : decode prog_13_method_40_code 121 = .ok (.iconst 0, 1) := by decide +kernel
theorem dX11_leads_122 : decode prog_13_method_40_code 122 = .ok (.istore_n 3, 1) := by decide +kernel
theorem dX11_leads_123 : decode prog_13_method_40_code 123 = .ok (.iconst 0, 1) := by decide +kernel
theorem dX11_leads_124 : decode prog_13_method_40_code 124 = .ok (.istore 4, 2) := by decide +kernel
theorem dX11_leads_126 : decode prog_13_method_40_code 126 = .ok (.iload 4, 2) := by decide +kernel
theorem dX11_leads_128 : decode prog_13_method_40_code 128 = .ok (.aload_n 0, 1) := by decide +kernel
theorem dX11_leads_129 : decode prog_13_method_40_code 129 = .ok (.getfield 37, 3) := by decide +kernel
theorem dX11_leads_132 : decode prog_13_method_40_code 132 = .ok (.iload_n 1, 1) := by decide +kernel
theorem dX11_leads_133 : decode prog_13_method_40_code 133 = .ok (.iaload, 1) := by decide +kernel
theorem dX11_leads_134 : decode prog_13_method_40_code 134 = .ok (.if_icmp .ge 49, 3) := by decide +kernel
theorem dX11_leads_137 : decode prog_13_method_40_code 137 = .ok (.aload_n 0, 1) := by decide +kernel
theorem dX11_leads_138 : decode prog_13_method_40_code 138 = .ok (.getfield 49, 3) := by decide +kernel
theorem dX11_leads_141 : decode prog_13_method_40_code 141 = .ok (.bipush 6, 2) := by decide +kernel
theorem dX11_leads_143 : decode prog_13_method_40_code 143 = .ok (.iload_n 1, 1) := by decide +kernel
theorem dX11_leads_144 : decode prog_13_method_40_code 144 = .ok (.imul, 1) := by decide +kernel
theorem dX11_leads_145 : decode prog_13_method_40_code 145 = .ok (.iload 4, 2) := by decide +kernel
theorem dX11_leads_147 : decode prog_13_method_40_code 147 = .ok (.iadd, 1) := by decide +kernel
theorem dX11_leads_148 : decode prog_13_method_40_code 148 = .ok (.iaload, 1) := by decide +kernel
theorem dX11_leads_149 : decode prog_13_method_40_code 149 = .ok (.istore 5, 2) := by decide +kernel
theorem dX11_leads_151 : decode prog_13_method_40_code 151 = .ok (.iload_n 3, 1) := by decide +kernel
theorem dX11_leads_152 : decode prog_13_method_40_code 152 = .ok (.ifCond .ne 19, 3) := by decide +kernel
theorem dX11_leads_155 : decode prog_13_method_40_code 155 = .ok (.aload_n 0, 1) := by decide +kernel
theorem dX11_leads_156 : decode prog_13_method_40_code 156 = .ok (.iload 5, 2) := by decide +kernel
theorem dX11_leads_158 : decode prog_13_method_40_code 158 = .ok (.invokevirtual 142, 3) := by decide +kernel
theorem dX11_leads_161 : decode prog_13_method_40_code 161 = .ok (.ifCond .eq 14, 3) := by decide +kernel
theorem dX11_leads_164 : decode prog_13_method_40_code 164 = .ok (.aload_n 2, 1) := by decide +kernel
theorem dX11_leads_165 : decode prog_13_method_40_code 165 = .ok (.iload 5, 2) := by decide +kernel
theorem dX11_leads_167 : decode prog_13_method_40_code 167 = .ok (.baload, 1) := by decide +kernel
theorem dX11_leads_168 : decode prog_13_method_40_code 168 = .ok (.ifCond .eq 7, 3) := by decide +kernel
theorem dX11_leads_171 : decode prog_13_method_40_code 171 = .ok (.iconst 1, 1) := by decide +kernel
theorem dX11_leads_172 : decode prog_13_method_40_code 172 = .ok (.goto 4, 3) := by decide +kernel
theorem dX11_leads_175 : decode prog_13_method_40_code 175 = .ok (.iconst 0, 1) := by decide +kernel
theorem dX11_leads_176 : decode prog_13_method_40_code 176 = .ok (.istore_n 3, 1) := by decide +kernel
theorem dX11_leads_177 : decode prog_13_method_40_code 177 = .ok (.iinc 4 1, 3) := by decide +kernel
theorem dX11_leads_180 : decode prog_13_method_40_code 180 = .ok (.goto (-54), 3) := by decide +kernel
theorem dX11_leads_183 : decode prog_13_method_40_code 183 = .ok (.iload_n 3, 1) := by decide +kernel
theorem dX11_leads_184 : decode prog_13_method_40_code 184 = .ok (.ireturn, 1) := by decide +kernel
abbrev rmX11_leads : Room := { frames := 2, cells := 0, slots := 0, locals := 43 }
def fX11_leads_35  (t0 : Nat) (w2 : Option Nat) (s0 : Int32) (h : Hp) : Option (Int32 × Hp) :=
  gk (h.1 t0) 12 <|
  b2 (fX11_isPlace t0 s0 h) fun r4 g2 =>
  if r4 = 0 then
  (some (0, g2))
  else
  (bd w2 fun a7 =>
  gk (g2.1 a7) 14 <|
  gd (ix s0 (g2.2.1 a7)) <|
  if (g2.2.2.1 a7 (Int32.toNatClampNeg s0)) = 0 then
  (some (0, g2))
  else
  (some (1, g2)))
def bX11_leads_126  (rc : Nat → Int32 → Option Nat → Int32 → Int32 → Hp → Option (Int32 × Hp)) (t0 : Nat) (v1 : Int32) (w2 : Option Nat) (v3 : Int32) (v4 : Int32) (h : Hp) : Option (Int32 × Hp) :=
  gk (h.1 t0) 12 <|
  bd (h.2.2.2.1 t0 10) fun a2 =>
  gk (h.1 a2) 13 <|
  gd (ix v1 (h.2.1 a2)) <|
  if (h.2.2.1 a2 (Int32.toNatClampNeg v1)) ≤ v4 then
  (gd (zb v3) <|
  some (v3, h))
  else
  (bd (h.2.2.2.1 t0 14) fun a8 =>
  gk (h.1 a8) 13 <|
  gd (ix ((6 * v1) + v4) (h.2.1 a8)) <|
  nm (h.2.2.1 a8 (Int32.toNatClampNeg ((6 * v1) + v4))) fun x12 =>
  if v3 = 0 then
  (b2 (fX11_isPlace t0 x12 h) fun r17 g15 =>
  if r17 = 0 then
  (nm (v4 + 1) fun x20 =>
  rc t0 v1 w2 0 x20 g15)
  else
  (bd w2 fun a21 =>
  gk (g15.1 a21) 14 <|
  gd (ix x12 (g15.2.1 a21)) <|
  if (g15.2.2.1 a21 (Int32.toNatClampNeg x12)) = 0 then
  (nm (v4 + 1) fun x25 =>
  rc t0 v1 (some a21) 0 x25 g15)
  else
  (nm (v4 + 1) fun x26 =>
  rc t0 v1 (some a21) 1 x26 g15)))
  else
  (nm (v4 + 1) fun x14 =>
  rc t0 v1 w2 1 x14 h))
def fX11_leads_126  : Nat → Int32 → Option Nat → Int32 → Int32 → Hp → Option (Int32 × Hp) := fx (bX11_leads_126 ) (fun _ _ _ _ _ _ => none) NF
def fX11_leads_83  (t0 : Nat) (v1 : Int32) (w2 : Option Nat) (h : Hp) : Option (Int32 × Hp) :=
  gk (h.1 t0) 12 <|
  bd (h.2.2.2.1 t0 1) fun a2 =>
  gk (h.1 a2) 13 <|
  gd (ix v1 (h.2.1 a2)) <|
  if (h.2.2.1 a2 (Int32.toNatClampNeg v1)) = 4 then
  (bd (h.2.2.2.1 t0 5) fun a7 =>
  gk (h.1 a7) 13 <|
  gd (ix v1 (h.2.1 a7)) <|
  b2 (fX11_isPlace t0 (h.2.2.1 a7 (Int32.toNatClampNeg v1)) h) fun r13 g11 =>
  if r13 = 0 then
  (fX11_leads_126  t0 v1 w2 0 0 g11)
  else
  (gk (g11.1 t0) 12 <|
  bd (g11.2.2.2.1 t0 5) fun a17 =>
  gk (g11.1 a17) 13 <|
  gd (ix v1 (g11.2.1 a17)) <|
  bd w2 fun a21 =>
  gk (g11.1 a21) 14 <|
  gd (ix (g11.2.2.1 a17 (Int32.toNatClampNeg v1)) (g11.2.1 a21)) <|
  if (g11.2.2.1 a21 (Int32.toNatClampNeg (g11.2.2.1 a17 (Int32.toNatClampNeg v1)))) = 0 then
  (fX11_leads_126  t0 v1 (some a21) 0 0 g11)
  else
  (fX11_leads_126  t0 v1 (some a21) 1 0 g11)))
  else
  (fX11_leads_126  t0 v1 w2 0 0 h)
def fX11_leads  (t0 : Nat) (v1 : Int32) (w2 : Option Nat) (h : Hp) : Option (Int32 × Hp) :=
  gk (h.1 t0) 12 <|
  bd (h.2.2.2.1 t0 1) fun a2 =>
  gk (h.1 a2) 13 <|
  gd (ix v1 (h.2.1 a2)) <|
  if (h.2.2.1 a2 (Int32.toNatClampNeg v1)) = 3 then
  (b2 (fX11_isOpen t0 v1 h) fun r27 g25 =>
  if r27 = 0 then
  (gk (g25.1 t0) 12 <|
  bd (g25.2.2.2.1 t0 5) fun a31 =>
  gk (g25.1 a31) 13 <|
  gd (ix v1 (g25.2.1 a31)) <|
  fX11_leads_35  t0 w2 (g25.2.2.1 a31 (Int32.toNatClampNeg v1)) g25)
  else
  (gk (g25.1 t0) 12 <|
  bd (g25.2.2.2.1 t0 4) fun a36 =>
  gk (g25.1 a36) 13 <|
  gd (ix v1 (g25.2.1 a36)) <|
  fX11_leads_35  t0 w2 (g25.2.2.1 a36 (Int32.toNatClampNeg v1)) g25))
  else
  (bd (h.2.2.2.1 t0 4) fun a7 =>
  gk (h.1 a7) 13 <|
  gd (ix v1 (h.2.1 a7)) <|
  b2 (fX11_isPlace t0 (h.2.2.1 a7 (Int32.toNatClampNeg v1)) h) fun r13 g11 =>
  if r13 = 0 then
  (fX11_leads_83  t0 v1 w2 g11)
  else
  (gk (g11.1 t0) 12 <|
  bd (g11.2.2.2.1 t0 4) fun a17 =>
  gk (g11.1 a17) 13 <|
  gd (ix v1 (g11.2.1 a17)) <|
  bd w2 fun a21 =>
  gk (g11.1 a21) 14 <|
  gd (ix (g11.2.2.1 a17 (Int32.toNatClampNeg v1)) (g11.2.1 a21)) <|
  if (g11.2.2.1 a21 (Int32.toNatClampNeg (g11.2.2.1 a17 (Int32.toNatClampNeg v1)))) = 0 then
  (fX11_leads_83  t0 v1 (some a21) g11)
  else
  (fX11_leads_126  t0 v1 (some a21) 1 0 g11)))
section
variable {p : Program} {l : Launch} {e : Env} {s : State} {m : MethodId} {args : Array Value} {below : List Frame} {meth : Method} {c : Code} {D : va_G} {cA : Nat → ClassId} {h0 h9 : Hp}
set_option maxHeartbeats 4000000 in
set_option maxRecDepth 100000 in
theorem tX11_leads_35  {r : Int32} (cx : CallFix p m c prog_13_method_40_code 6 s args tbG RX11) (hr : meth.sig.returnType = (Option.some FieldType.boolean)) (hlk : meth.locks = false)  (t0 : Nat) (w2 : Option Nat) (s0 : Int32) (h : Hp) (H : Heap) (locs : List Loc) (ls : Array Slot) (hB : hp_B D cA (hp_A h0) s h H locs) (hl : lv_has ls 6 [(0, .ref t0), (2, va_rf w2)]) (hf : fX11_leads_35  t0 w2 s0 h = some (r, h9)) : W p l e rmX11_leads s m args below meth c H locs 0 0 (MQ below (hp_Qi D cA h0 h9 r) args s 0 0 (hp_A h0)) (F0 m 35 ls [.int s0]) := by
  obtain ⟨hx, hb, -⟩ := id cx
  unfold fX11_leads_35 at hf
  refine lv_istore (lv' := [(4, .int s0), (0, .ref t0), (2, va_rf w2)]) hx hb dX11_leads_35 hl (by decide) rfl (fun ls hl => ?_)
  refine lv_aload_n hx hb dX11_leads_37 rfl (lv_at hl 1 rfl) ?_
  refine lv_iload hx hb dX11_leads_38 (lv_at hl 0 rfl) ?_
  obtain ⟨k1, hf⟩ := gk_ok hf
  obtain ⟨r4, g2, m3, hf⟩ := b2_ok hf
  refine hp_cI0 (cl_X11_142 cx hB (cX11_isPlace l D cA t0 s0 h _ g2 m3) k1 ⟨Nat.le_of_ble_eq_true rfl, Nat.le_of_ble_eq_true rfl⟩ rfl hl.1 rfl (Nat.le_of_ble_eq_true rfl) ⟨Nat.le_of_ble_eq_true rfl, Nat.le_of_ble_eq_true rfl⟩ dX11_leads_40) rfl rfl hB (fun H locs hB => ?_)
  refine lv_if_eq (tgt := 57) hx hb dX11_leads_43 (by decide) (fun c6 => ?_) (fun c6 => ?_)
  · replace hf := it_t c6 hf
    refine lv_iconst (v := 0) hx hb dX11_leads_57 (by decide) ?_
    obtain ⟨rfl, rfl⟩ := rt_ok hf
    exact hp_zret cx hB hr hlk (Nat.le_of_ble_eq_true rfl) (Nat.le_of_ble_eq_true rfl) rfl dX11_leads_58
  · replace hf := it_f c6 hf
    refine lq_aload_n hx hb dX11_leads_46 rfl (lv_at hl 2 rfl) ?_
    refine lv_iload hx hb dX11_leads_47 (lv_at hl 0 rfl) ?_
    obtain ⟨a7, eo, hf⟩ := bd_ok hf
    subst eo
    obtain ⟨k8, hf⟩ := gk_ok hf
    obtain ⟨j9, hf⟩ := gd_ok hf
    refine hp_zald cx hB k8 j9 dX11_leads_49 ?_
    refine lv_if_eq (tgt := 57) hx hb dX11_leads_50 (by decide) (fun c10 => ?_) (fun c10 => ?_)
    · replace hf := it_t c10 hf
      refine lv_iconst (v := 0) hx hb dX11_leads_57 (by decide) ?_
      obtain ⟨rfl, rfl⟩ := rt_ok hf
      exact hp_zret cx hB hr hlk (Nat.le_of_ble_eq_true rfl) (Nat.le_of_ble_eq_true rfl) rfl dX11_leads_58
    · replace hf := it_f c10 hf
      refine lv_iconst (v := 1) hx hb dX11_leads_53 (by decide) ?_
      refine lv_goto (tgt := 58) hx hb dX11_leads_54 (by decide) ?_
      obtain ⟨rfl, rfl⟩ := rt_ok hf
      exact hp_zret cx hB hr hlk (Nat.le_of_ble_eq_true rfl) (Nat.le_of_ble_eq_true rfl) rfl dX11_leads_58
set_option maxHeartbeats 4000000 in
set_option maxRecDepth 100000 in
theorem tX11_leads_126  {r : Int32} (cx : CallFix p m c prog_13_method_40_code 6 s args tbG RX11) (hr : meth.sig.returnType = (Option.some FieldType.boolean)) (hlk : meth.locks = false)  (n : Nat) : ∀ (t0 : Nat) (v1 : Int32) (w2 : Option Nat) (v3 : Int32) (v4 : Int32) (h : Hp) (H : Heap) (locs : List Loc) (ls : Array Slot), hp_B D cA (hp_A h0) s h H locs → lv_has ls 6 [(0, .ref t0), (1, .int v1), (2, va_rf w2), (3, .int v3), (4, .int v4)] → fx (bX11_leads_126 ) (fun _ _ _ _ _ _ => none) n t0 v1 w2 v3 v4 h = some (r, h9) → W p l e rmX11_leads s m args below meth c H locs 0 0 (MQ below (hp_Qi D cA h0 h9 r) args s 0 0 (hp_A h0)) (F0 m 126 ls []) := by
  obtain ⟨hx, hb, -⟩ := id cx
  induction n with
  | zero => intro t0 v1 w2 v3 v4 h H locs ls hB hl hf; cases hf
  | succ n ih =>
    intro t0 v1 w2 v3 v4 h H locs ls hB hl hf
    replace hf : bX11_leads_126  (fx (bX11_leads_126 ) (fun _ _ _ _ _ _ => none) n) t0 v1 w2 v3 v4 h = some (r, h9) := hf
    unfold bX11_leads_126 at hf
    refine lv_iload hx hb dX11_leads_126 (lv_at hl 4 rfl) ?_
    refine lv_aload_n hx hb dX11_leads_128 rfl (lv_at hl 0 rfl) ?_
    obtain ⟨k1, hf⟩ := gk_ok hf
    obtain ⟨a2, q3, hf⟩ := bd_ok hf
    refine gf_X11_37 cx hB k1 q3 dX11_leads_129 ?_
    refine lv_iload_n hx hb dX11_leads_132 rfl (lv_at hl 1 rfl) ?_
    obtain ⟨k4, hf⟩ := gk_ok hf
    obtain ⟨j5, hf⟩ := gd_ok hf
    refine hp_iald cx hB k4 j5 dX11_leads_133 ?_
    refine lv_icmp_ge (tgt := 183) hx hb dX11_leads_134 (by decide) (fun c6 => ?_) (fun c6 => ?_)
    · replace hf := it_t c6 hf
      refine lv_iload_n hx hb dX11_leads_183 rfl (lv_at hl 3 rfl) ?_
      obtain ⟨c7, hf⟩ := gd_ok hf
      obtain ⟨rfl, rfl⟩ := rt_ok hf
      exact hp_zret cx hB hr hlk (Nat.le_of_ble_eq_true rfl) (Nat.le_of_ble_eq_true rfl) c7 dX11_leads_184
    · replace hf := it_f c6 hf
      refine lv_aload_n hx hb dX11_leads_137 rfl (lv_at hl 0 rfl) ?_
      obtain ⟨a8, q9, hf⟩ := bd_ok hf
      refine gf_X11_49 cx hB k1 q9 dX11_leads_138 ?_
      refine lv_bipush (v := 6) hx hb dX11_leads_141 (by decide) ?_
      refine lv_iload_n hx hb dX11_leads_143 rfl (lv_at hl 1 rfl) ?_
      refine lv_imul hx hb dX11_leads_144 ?_
      refine lv_iload hx hb dX11_leads_145 (lv_at hl 4 rfl) ?_
      refine lv_iadd hx hb dX11_leads_147 ?_
      obtain ⟨k10, hf⟩ := gk_ok hf
      obtain ⟨j11, hf⟩ := gd_ok hf
      refine hp_iald cx hB k10 j11 dX11_leads_148 ?_
      obtain ⟨x12, ex12, hf⟩ := nm_ok hf
      refine lv_ren ex12 ?_
      refine lv_istore (lv' := [(5, .int x12), (0, .ref t0), (1, .int v1), (2, va_rf w2), (3, .int v3), (4, .int v4)]) hx hb dX11_leads_149 hl (by decide) rfl (fun ls hl => ?_)
      refine lv_iload_n hx hb dX11_leads_151 rfl (lv_at hl 4 rfl) ?_
      refine lv_if_ne (tgt := 171) hx hb dX11_leads_152 (by decide) (fun c13 => ?_) (fun c13 => ?_)
      · replace hf := it_f c13 hf
        refine lv_iconst (v := 1) hx hb dX11_leads_171 (by decide) ?_
        refine lv_goto (tgt := 176) hx hb dX11_leads_172 (by decide) ?_
        refine lv_istore_n (lv' := [(3, .int 1), (5, .int x12), (0, .ref t0), (1, .int v1), (2, va_rf w2), (4, .int v4)]) hx hb dX11_leads_176 rfl hl (by decide) (by cases w2 <;> rfl) (fun ls hl => ?_)
        obtain ⟨x14, ex14, hf⟩ := nm_ok hf
        refine lv_iinc (v := x14) (lv' := [(4, .int x14), (3, .int 1), (5, .int x12), (0, .ref t0), (1, .int v1), (2, va_rf w2)]) hx hb dX11_leads_177 hl (k := 5) rfl (by rw [ex14]; rfl) (by decide) rfl (fun ls hl => ?_)
        refine lv_goto (tgt := 126) hx hb dX11_leads_180 (by decide) ?_
        exact ih t0 v1 w2 1 x14 h _ _ _ hB (lv_sub hl [3, 4, 5, 1, 0] rfl) hf
      · replace hf := it_t c13 hf
        refine lv_aload_n hx hb dX11_leads_155 rfl (lv_at hl 1 rfl) ?_
        refine lv_iload hx hb dX11_leads_156 (lv_at hl 0 rfl) ?_
        obtain ⟨r17, g15, m16, hf⟩ := b2_ok hf
        refine hp_cI0 (cl_X11_142 cx hB (cX11_isPlace l D cA t0 x12 h _ g15 m16) k1 ⟨Nat.le_of_ble_eq_true rfl, Nat.le_of_ble_eq_true rfl⟩ rfl hl.1 rfl (Nat.le_of_ble_eq_true rfl) ⟨Nat.le_of_ble_eq_true rfl, Nat.le_of_ble_eq_true rfl⟩ dX11_leads_158) rfl rfl hB (fun H locs hB => ?_)
        refine lv_if_eq (tgt := 175) hx hb dX11_leads_161 (by decide) (fun c19 => ?_) (fun c19 => ?_)
        · replace hf := it_t c19 hf
          refine lv_iconst (v := 0) hx hb dX11_leads_175 (by decide) ?_
          refine lv_istore_n (lv' := [(3, .int 0), (5, .int x12), (0, .ref t0), (1, .int v1), (2, va_rf w2), (4, .int v4)]) hx hb dX11_leads_176 rfl hl (by decide) (by cases w2 <;> rfl) (fun ls hl => ?_)
          obtain ⟨x20, ex20, hf⟩ := nm_ok hf
          refine lv_iinc (v := x20) (lv' := [(4, .int x20), (3, .int 0), (5, .int x12), (0, .ref t0), (1, .int v1), (2, va_rf w2)]) hx hb dX11_leads_177 hl (k := 5) rfl (by rw [ex20]; rfl) (by decide) rfl (fun ls hl => ?_)
          refine lv_goto (tgt := 126) hx hb dX11_leads_180 (by decide) ?_
          exact ih t0 v1 w2 0 x20 g15 _ _ _ hB (lv_sub hl [3, 4, 5, 1, 0] rfl) hf
        · replace hf := it_f c19 hf
          refine lq_aload_n hx hb dX11_leads_164 rfl (lv_at hl 3 rfl) ?_
          refine lv_iload hx hb dX11_leads_165 (lv_at hl 0 rfl) ?_
          obtain ⟨a21, eo, hf⟩ := bd_ok hf
          subst eo
          obtain ⟨k22, hf⟩ := gk_ok hf
          obtain ⟨j23, hf⟩ := gd_ok hf
          refine hp_zald cx hB k22 j23 dX11_leads_167 ?_
          refine lv_if_eq (tgt := 175) hx hb dX11_leads_168 (by decide) (fun c24 => ?_) (fun c24 => ?_)
          · replace hf := it_t c24 hf
            refine lv_iconst (v := 0) hx hb dX11_leads_175 (by decide) ?_
            refine lv_istore_n (lv' := [(3, .int 0), (5, .int x12), (0, .ref t0), (1, .int v1), (2, .ref a21), (4, .int v4)]) hx hb dX11_leads_176 rfl hl (by decide) rfl (fun ls hl => ?_)
            obtain ⟨x25, ex25, hf⟩ := nm_ok hf
            refine lv_iinc (v := x25) (lv' := [(4, .int x25), (3, .int 0), (5, .int x12), (0, .ref t0), (1, .int v1), (2, .ref a21)]) hx hb dX11_leads_177 hl (k := 5) rfl (by rw [ex25]; rfl) (by decide) rfl (fun ls hl => ?_)
            refine lv_goto (tgt := 126) hx hb dX11_leads_180 (by decide) ?_
            exact ih t0 v1 (some a21) 0 x25 g15 _ _ _ hB (lv_sub hl [3, 4, 5, 1, 0] rfl) hf
          · replace hf := it_f c24 hf
            refine lv_iconst (v := 1) hx hb dX11_leads_171 (by decide) ?_
            refine lv_goto (tgt := 176) hx hb dX11_leads_172 (by decide) ?_
            refine lv_istore_n (lv' := [(3, .int 1), (5, .int x12), (0, .ref t0), (1, .int v1), (2, .ref a21), (4, .int v4)]) hx hb dX11_leads_176 rfl hl (by decide) rfl (fun ls hl => ?_)
            obtain ⟨x26, ex26, hf⟩ := nm_ok hf
            refine lv_iinc (v := x26) (lv' := [(4, .int x26), (3, .int 1), (5, .int x12), (0, .ref t0), (1, .int v1), (2, .ref a21)]) hx hb dX11_leads_177 hl (k := 5) rfl (by rw [ex26]; rfl) (by decide) rfl (fun ls hl => ?_)
            refine lv_goto (tgt := 126) hx hb dX11_leads_180 (by decide) ?_
            exact ih t0 v1 (some a21) 1 x26 g15 _ _ _ hB (lv_sub hl [3, 4, 5, 1, 0] rfl) hf
set_option maxHeartbeats 4000000 in
set_option maxRecDepth 100000 in
theorem tX11_leads_83  {r : Int32} (cx : CallFix p m c prog_13_method_40_code 6 s args tbG RX11) (hr : meth.sig.returnType = (Option.some FieldType.boolean)) (hlk : meth.locks = false)  (t0 : Nat) (v1 : Int32) (w2 : Option Nat) (h : Hp) (H : Heap) (locs : List Loc) (ls : Array Slot) (hB : hp_B D cA (hp_A h0) s h H locs) (hl : lv_has ls 6 [(0, .ref t0), (1, .int v1), (2, va_rf w2)]) (hf : fX11_leads_83  t0 v1 w2 h = some (r, h9)) : W p l e rmX11_leads s m args below meth c H locs 0 0 (MQ below (hp_Qi D cA h0 h9 r) args s 0 0 (hp_A h0)) (F0 m 83 ls []) := by
  obtain ⟨hx, hb, -⟩ := id cx
  unfold fX11_leads_83 at hf
  refine lv_aload_n hx hb dX11_leads_83 rfl (lv_at hl 0 rfl) ?_
  obtain ⟨k1, hf⟩ := gk_ok hf
  obtain ⟨a2, q3, hf⟩ := bd_ok hf
  refine gf_X11_7 cx hB k1 q3 dX11_leads_84 ?_
  refine lv_iload_n hx hb dX11_leads_87 rfl (lv_at hl 1 rfl) ?_
  obtain ⟨k4, hf⟩ := gk_ok hf
  obtain ⟨j5, hf⟩ := gd_ok hf
  refine hp_iald cx hB k4 j5 dX11_leads_88 ?_
  refine lv_iconst (v := 4) hx hb dX11_leads_89 (by decide) ?_
  refine lv_icmp_ne (tgt := 121) hx hb dX11_leads_90 (by decide) (fun c6 => ?_) (fun c6 => ?_)
  · replace hf := it_f c6 hf
    refine lv_iconst (v := 0) hx hb dX11_leads_121 (by decide) ?_
    refine lv_istore_n (lv' := [(3, .int 0), (0, .ref t0), (1, .int v1), (2, va_rf w2)]) hx hb dX11_leads_122 rfl hl (by decide) (by cases w2 <;> rfl) (fun ls hl => ?_)
    refine lv_iconst (v := 0) hx hb dX11_leads_123 (by decide) ?_
    refine lv_istore (lv' := [(4, .int 0), (3, .int 0), (0, .ref t0), (1, .int v1), (2, va_rf w2)]) hx hb dX11_leads_124 hl (by decide) rfl (fun ls hl => ?_)
    exact tX11_leads_126 cx hr hlk  NF t0 v1 w2 0 0 h _ _ _ hB (lv_sub hl [2, 3, 4, 1, 0] rfl) hf
  · replace hf := it_t c6 hf
    refine lv_aload_n hx hb dX11_leads_93 rfl (lv_at hl 0 rfl) ?_
    refine lv_aload_n hx hb dX11_leads_94 rfl (lv_at hl 0 rfl) ?_
    obtain ⟨a7, q8, hf⟩ := bd_ok hf
    refine gf_X11_22 cx hB k1 q8 dX11_leads_95 ?_
    refine lv_iload_n hx hb dX11_leads_98 rfl (lv_at hl 1 rfl) ?_
    obtain ⟨k9, hf⟩ := gk_ok hf
    obtain ⟨j10, hf⟩ := gd_ok hf
    refine hp_iald cx hB k9 j10 dX11_leads_99 ?_
    obtain ⟨r13, g11, m12, hf⟩ := b2_ok hf
    refine hp_cI0 (cl_X11_142 cx hB (cX11_isPlace l D cA t0 (h.2.2.1 a7 (Int32.toNatClampNeg v1)) h _ g11 m12) k1 ⟨Nat.le_of_ble_eq_true rfl, Nat.le_of_ble_eq_true rfl⟩ rfl hl.1 rfl (Nat.le_of_ble_eq_true rfl) ⟨Nat.le_of_ble_eq_true rfl, Nat.le_of_ble_eq_true rfl⟩ dX11_leads_100) rfl rfl hB (fun H locs hB => ?_)
    refine lv_if_eq (tgt := 121) hx hb dX11_leads_103 (by decide) (fun c15 => ?_) (fun c15 => ?_)
    · replace hf := it_t c15 hf
      refine lv_iconst (v := 0) hx hb dX11_leads_121 (by decide) ?_
      refine lv_istore_n (lv' := [(3, .int 0), (0, .ref t0), (1, .int v1), (2, va_rf w2)]) hx hb dX11_leads_122 rfl hl (by decide) (by cases w2 <;> rfl) (fun ls hl => ?_)
      refine lv_iconst (v := 0) hx hb dX11_leads_123 (by decide) ?_
      refine lv_istore (lv' := [(4, .int 0), (3, .int 0), (0, .ref t0), (1, .int v1), (2, va_rf w2)]) hx hb dX11_leads_124 hl (by decide) rfl (fun ls hl => ?_)
      exact tX11_leads_126 cx hr hlk  NF t0 v1 w2 0 0 g11 _ _ _ hB (lv_sub hl [2, 3, 4, 1, 0] rfl) hf
    · replace hf := it_f c15 hf
      refine lq_aload_n hx hb dX11_leads_106 rfl (lv_at hl 2 rfl) ?_
      refine lv_aload_n hx hb dX11_leads_107 rfl (lv_at hl 0 rfl) ?_
      obtain ⟨k16, hf⟩ := gk_ok hf
      obtain ⟨a17, q18, hf⟩ := bd_ok hf
      refine gf_X11_22 cx hB k16 q18 dX11_leads_108 ?_
      refine lv_iload_n hx hb dX11_leads_111 rfl (lv_at hl 1 rfl) ?_
      obtain ⟨k19, hf⟩ := gk_ok hf
      obtain ⟨j20, hf⟩ := gd_ok hf
      refine hp_iald cx hB k19 j20 dX11_leads_112 ?_
      obtain ⟨a21, eo, hf⟩ := bd_ok hf
      subst eo
      obtain ⟨k22, hf⟩ := gk_ok hf
      obtain ⟨j23, hf⟩ := gd_ok hf
      refine hp_zald cx hB k22 j23 dX11_leads_113 ?_
      refine lv_if_eq (tgt := 121) hx hb dX11_leads_114 (by decide) (fun c24 => ?_) (fun c24 => ?_)
      · replace hf := it_t c24 hf
        refine lv_iconst (v := 0) hx hb dX11_leads_121 (by decide) ?_
        refine lv_istore_n (lv' := [(3, .int 0), (0, .ref t0), (1, .int v1), (2, .ref a21)]) hx hb dX11_leads_122 rfl hl (by decide) rfl (fun ls hl => ?_)
        refine lv_iconst (v := 0) hx hb dX11_leads_123 (by decide) ?_
        refine lv_istore (lv' := [(4, .int 0), (3, .int 0), (0, .ref t0), (1, .int v1), (2, .ref a21)]) hx hb dX11_leads_124 hl (by decide) rfl (fun ls hl => ?_)
        exact tX11_leads_126 cx hr hlk  NF t0 v1 (some a21) 0 0 g11 _ _ _ hB (lv_sub hl [2, 3, 4, 1, 0] rfl) hf
      · replace hf := it_f c24 hf
        refine lv_iconst (v := 1) hx hb dX11_leads_117 (by decide) ?_
        refine lv_goto (tgt := 122) hx hb dX11_leads_118 (by decide) ?_
        refine lv_istore_n (lv' := [(3, .int 1), (0, .ref t0), (1, .int v1), (2, .ref a21)]) hx hb dX11_leads_122 rfl hl (by decide) rfl (fun ls hl => ?_)
        refine lv_iconst (v := 0) hx hb dX11_leads_123 (by decide) ?_
        refine lv_istore (lv' := [(4, .int 0), (3, .int 1), (0, .ref t0), (1, .int v1), (2, .ref a21)]) hx hb dX11_leads_124 hl (by decide) rfl (fun ls hl => ?_)
        exact tX11_leads_126 cx hr hlk  NF t0 v1 (some a21) 1 0 g11 _ _ _ hB (lv_sub hl [2, 3, 4, 1, 0] rfl) hf
set_option maxHeartbeats 4000000 in
set_option maxRecDepth 100000 in
theorem tX11_leads_0  {r : Int32} (cx : CallFix p m c prog_13_method_40_code 6 s args tbG RX11) (hr : meth.sig.returnType = (Option.some FieldType.boolean)) (hlk : meth.locks = false)  (t0 : Nat) (v1 : Int32) (w2 : Option Nat) (h : Hp) (H : Heap) (locs : List Loc) (ls : Array Slot) (hB : hp_B D cA (hp_A h0) s h H locs) (hl : lv_has ls 6 [(0, .ref t0), (1, .int v1), (2, va_rf w2)]) (hf : fX11_leads  t0 v1 w2 h = some (r, h9)) : W p l e rmX11_leads s m args below meth c H locs 0 0 (MQ below (hp_Qi D cA h0 h9 r) args s 0 0 (hp_A h0)) (F0 m 0 ls []) := by
  obtain ⟨hx, hb, -⟩ := id cx
  unfold fX11_leads at hf
  refine lv_iconst (v := 0) hx hb dX11_leads_0 (by decide) ?_
  refine lv_istore_n (lv' := [(3, .int 0), (0, .ref t0), (1, .int v1), (2, va_rf w2)]) hx hb dX11_leads_1 rfl hl (by decide) (by cases w2 <;> rfl) (fun ls hl => ?_)
  refine lv_aload_n hx hb dX11_leads_2 rfl (lv_at hl 1 rfl) ?_
  obtain ⟨k1, hf⟩ := gk_ok hf
  obtain ⟨a2, q3, hf⟩ := bd_ok hf
  refine gf_X11_7 cx hB k1 q3 dX11_leads_3 ?_
  refine lv_iload_n hx hb dX11_leads_6 rfl (lv_at hl 2 rfl) ?_
  obtain ⟨k4, hf⟩ := gk_ok hf
  obtain ⟨j5, hf⟩ := gd_ok hf
  refine hp_iald cx hB k4 j5 dX11_leads_7 ?_
  refine lv_iconst (v := 3) hx hb dX11_leads_8 (by decide) ?_
  refine lv_icmp_ne (tgt := 59) hx hb dX11_leads_9 (by decide) (fun c6 => ?_) (fun c6 => ?_)
  · replace hf := it_f c6 hf
    refine lv_aload_n hx hb dX11_leads_59 rfl (lv_at hl 1 rfl) ?_
    refine lv_aload_n hx hb dX11_leads_60 rfl (lv_at hl 1 rfl) ?_
    obtain ⟨a7, q8, hf⟩ := bd_ok hf
    refine gf_X11_19 cx hB k1 q8 dX11_leads_61 ?_
    refine lv_iload_n hx hb dX11_leads_64 rfl (lv_at hl 2 rfl) ?_
    obtain ⟨k9, hf⟩ := gk_ok hf
    obtain ⟨j10, hf⟩ := gd_ok hf
    refine hp_iald cx hB k9 j10 dX11_leads_65 ?_
    obtain ⟨r13, g11, m12, hf⟩ := b2_ok hf
    refine hp_cI0 (cl_X11_142 cx hB (cX11_isPlace l D cA t0 (h.2.2.1 a7 (Int32.toNatClampNeg v1)) h _ g11 m12) k1 ⟨Nat.le_of_ble_eq_true rfl, Nat.le_of_ble_eq_true rfl⟩ rfl hl.1 rfl (Nat.le_of_ble_eq_true rfl) ⟨Nat.le_of_ble_eq_true rfl, Nat.le_of_ble_eq_true rfl⟩ dX11_leads_66) rfl rfl hB (fun H locs hB => ?_)
    refine lv_if_eq (tgt := 83) hx hb dX11_leads_69 (by decide) (fun c15 => ?_) (fun c15 => ?_)
    · replace hf := it_t c15 hf
      exact tX11_leads_83 cx hr hlk  t0 v1 w2 g11 _ _ _ hB (lv_sub hl [1, 2, 3] rfl) hf
    · replace hf := it_f c15 hf
      refine lq_aload_n hx hb dX11_leads_72 rfl (lv_at hl 3 rfl) ?_
      refine lv_aload_n hx hb dX11_leads_73 rfl (lv_at hl 1 rfl) ?_
      obtain ⟨k16, hf⟩ := gk_ok hf
      obtain ⟨a17, q18, hf⟩ := bd_ok hf
      refine gf_X11_19 cx hB k16 q18 dX11_leads_74 ?_
      refine lv_iload_n hx hb dX11_leads_77 rfl (lv_at hl 2 rfl) ?_
      obtain ⟨k19, hf⟩ := gk_ok hf
      obtain ⟨j20, hf⟩ := gd_ok hf
      refine hp_iald cx hB k19 j20 dX11_leads_78 ?_
      obtain ⟨a21, eo, hf⟩ := bd_ok hf
      subst eo
      obtain ⟨k22, hf⟩ := gk_ok hf
      obtain ⟨j23, hf⟩ := gd_ok hf
      refine hp_zald cx hB k22 j23 dX11_leads_79 ?_
      refine lv_if_ne (tgt := 117) hx hb dX11_leads_80 (by decide) (fun c24 => ?_) (fun c24 => ?_)
      · replace hf := it_f c24 hf
        refine lv_iconst (v := 1) hx hb dX11_leads_117 (by decide) ?_
        refine lv_goto (tgt := 122) hx hb dX11_leads_118 (by decide) ?_
        refine lv_istore_n (lv' := [(3, .int 1), (0, .ref t0), (1, .int v1), (2, .ref a21)]) hx hb dX11_leads_122 rfl hl (by decide) rfl (fun ls hl => ?_)
        refine lv_iconst (v := 0) hx hb dX11_leads_123 (by decide) ?_
        refine lv_istore (lv' := [(4, .int 0), (3, .int 1), (0, .ref t0), (1, .int v1), (2, .ref a21)]) hx hb dX11_leads_124 hl (by decide) rfl (fun ls hl => ?_)
        exact tX11_leads_126 cx hr hlk  NF t0 v1 (some a21) 1 0 g11 _ _ _ hB (lv_sub hl [2, 3, 4, 1, 0] rfl) hf
      · replace hf := it_t c24 hf
        exact tX11_leads_83 cx hr hlk  t0 v1 (some a21) g11 _ _ _ hB (lv_sub hl [1, 2, 3] rfl) hf
  · replace hf := it_t c6 hf
    refine lv_aload_n hx hb dX11_leads_12 rfl (lv_at hl 1 rfl) ?_
    refine lv_iload_n hx hb dX11_leads_13 rfl (lv_at hl 2 rfl) ?_
    obtain ⟨r27, g25, m26, hf⟩ := b2_ok hf
    refine hp_cI0 (cl_X11_184 cx hB (cX11_isOpen l D cA t0 v1 h _ g25 m26) k1 ⟨Nat.le_of_ble_eq_true rfl, Nat.le_of_ble_eq_true rfl⟩ rfl hl.1 rfl (Nat.le_of_ble_eq_true rfl) ⟨Nat.le_of_ble_eq_true rfl, Nat.le_of_ble_eq_true rfl⟩ dX11_leads_14) rfl rfl hB (fun H locs hB => ?_)
    refine lv_if_eq (tgt := 29) hx hb dX11_leads_17 (by decide) (fun c29 => ?_) (fun c29 => ?_)
    · replace hf := it_t c29 hf
      refine lv_aload_n hx hb dX11_leads_29 rfl (lv_at hl 1 rfl) ?_
      obtain ⟨k30, hf⟩ := gk_ok hf
      obtain ⟨a31, q32, hf⟩ := bd_ok hf
      refine gf_X11_22 cx hB k30 q32 dX11_leads_30 ?_
      refine lv_iload_n hx hb dX11_leads_33 rfl (lv_at hl 2 rfl) ?_
      obtain ⟨k33, hf⟩ := gk_ok hf
      obtain ⟨j34, hf⟩ := gd_ok hf
      refine hp_iald cx hB k33 j34 dX11_leads_34 ?_
      exact tX11_leads_35 cx hr hlk  t0 w2 (g25.2.2.1 a31 (Int32.toNatClampNeg v1)) g25 _ _ _ hB (lv_sub hl [1, 3] rfl) hf
    · replace hf := it_f c29 hf
      refine lv_aload_n hx hb dX11_leads_20 rfl (lv_at hl 1 rfl) ?_
      obtain ⟨k35, hf⟩ := gk_ok hf
      obtain ⟨a36, q37, hf⟩ := bd_ok hf
      refine gf_X11_19 cx hB k35 q37 dX11_leads_21 ?_
      refine lv_iload_n hx hb dX11_leads_24 rfl (lv_at hl 2 rfl) ?_
      obtain ⟨k38, hf⟩ := gk_ok hf
      obtain ⟨j39, hf⟩ := gd_ok hf
      refine hp_iald cx hB k38 j39 dX11_leads_25 ?_
      refine lv_goto (tgt := 35) hx hb dX11_leads_26 (by decide) ?_
      exact tX11_leads_35 cx hr hlk  t0 w2 (g25.2.2.1 a36 (Int32.toNatClampNeg v1)) g25 _ _ _ hB (lv_sub hl [1, 3] rfl) hf
end
set_option maxHeartbeats 4000000 in
set_option maxRecDepth 100000 in
theorem cX11_leads (l : Launch) (D : va_G) (cA : Nat → ClassId) (t0 : Nat) (v1 : Int32) (w2 : Option Nat) (h : Hp) (r : Int32) (h9 : Hp) (hf : fX11_leads t0 v1 w2 h = some (r, h9)) : hp_M l yX11_leads prog_13_method_40_code 6 (Option.some FieldType.boolean) rmX11_leads D cA h [.ref t0, .int v1, va_rf w2] (hp_Qi D cA h h9 r) := by
  refine Met.ofW (cc := prog_13_method_40_code) (maxL := 6) (ret := (Option.some FieldType.boolean)) (by decide) rfl ?_
  intro p e s m args below meth c s₁ B hml hv
  obtain ⟨rfl, hU⟩ := hv
  have hts := atoms_spec (ws := Cond.code yX11_leads prog_13_method_40_code 6 (Option.some FieldType.boolean) :: tbG) B.pre
  have hl := lv_entry ([.ref t0, .int v1, va_rf w2]) (n := 6) (by simp [lg_sl, va_rf_cat, cat_i, cat_r, cat_n])
  rw [show lv_args 0 ([.ref t0, .int v1, va_rf w2]) = [(0, .ref t0), (1, .int v1), (2, va_rf w2)] by simp [lv_args, va_rf_cat, cat_i, cat_r, cat_n]] at hl
  rw [lg_entry_eq]
  generalize (lg_sl ([.ref t0, .int v1, va_rf w2]) ++ List.replicate (6 - (lg_sl ([.ref t0, .int v1, va_rf w2])).length) Slot.unset).toArray = ls at hl ⊢
  exact tX11_leads_0 ⟨B.exec, B.bytes, hml, findClass_of_methodNamed B.named, fun w hw => hts w (List.mem_cons_of_mem _ hw)⟩ B.returns B.notSynchronized t0 v1 w2 h _ _ _ (hp_B.entry hU) hl hf
section
variable {p : Program} {l : Launch} {e : Env} {R : Room} {s : State} {m : MethodId} {args : Array Value} {below : List Frame} {meth : Method} {c : Code} {H : Heap} {locs : List Loc} {cells slots : Nat} {Q : State → Prop}
variable {cc : ByteArray} {pc nL : Nat} {ls : Array Slot} {rest : List Value} {D : va_G} {cA : Nat → ClassId} {A : Nat → Prop} {a : Nat} {h : Hp}
theorem gf_X11_95 (cx : CallFix p m c cc nL s args tbG RX11) (hB : hp_B D cA A s h H locs) (hka : h.1 a = 12) {b : Nat} (ho : h.2.2.2.1 a 45 = some b) (hdg : decode cc pc = .ok (.getfield 95, 3)) (kk : W p l e R s m args below meth c H locs cells slots Q (F0 m (pc + 3) ls (.ref b :: rest))) : W p l e R s m args below meth c H locs cells slots Q (F0 m pc ls (.ref a :: rest)) :=
  hp_getR cx hB (ci := 11) 45 rfl inX11 (by decide) rfl (by decide) rfl qw_777 hka (o := some b) ho.symm hdg kk
theorem gf_X11_98 (cx : CallFix p m c cc nL s args tbG RX11) (hB : hp_B D cA A s h H locs) (hka : h.1 a = 12) {b : Nat} (ho : h.2.2.2.1 a 46 = some b) (hdg : decode cc pc = .ok (.getfield 98, 3)) (kk : W p l e R s m args below meth c H locs cells slots Q (F0 m (pc + 3) ls (.ref b :: rest))) : W p l e R s m args below meth c H locs cells slots Q (F0 m pc ls (.ref a :: rest)) :=
  hp_getR cx hB (ci := 11) 46 rfl inX11 (by decide) rfl (by decide) rfl qw_778 hka (o := some b) ho.symm hdg kk
theorem cl_X11_257 {As st0 : List Value} {b : Nat} {Qc : Array Value → State → Outcome → State → Prop} (cx : CallFix p m c cc nL s args tbG RX11) (hB : hp_B D cA A s h H locs) (hM : hp_M l yX11_leads prog_13_method_40_code 6 (Option.some FieldType.boolean) rmX11_leads D cA h (.ref b :: As) Qc) (hkb : h.1 b = 12) (hR : rmX11_leads.frames + 1 ≤ R.frames ∧ 8 + (6 + 11) + rmX11_leads.locals ≤ R.locals) (hn : As.length = 2) (hls : ls.size = nL) (hst : st0 = As.reverse ++ .ref b :: rest) (hW : (rest.map fun v => v.category).sum ≤ 8) (hf : cells + rmX11_leads.cells ≤ R.cells ∧ slots + rmX11_leads.slots ≤ R.slots) (hdg : decode cc pc = .ok (.invokevirtual 257, 3)) :
    va_Run p l e R s m args below meth c H locs cells slots rmX11_leads.cells rmX11_leads.slots (F0 m pc ls st0) rest (Qc (Value.ref b :: As).toArray) (hp_A h) :=
  hp_runV cx hB hM (ci := 11) rfl (by decide) hkb qw_1065 qw_1062 qw_1064 qp_35 qw_10 (by decide +kernel) hR hn hls hst hW hf hdg
theorem gf_X11_101 (cx : CallFix p m c cc nL s args tbG RX11) (hB : hp_B D cA A s h H locs) (hka : h.1 a = 12) {b : Nat} (ho : h.2.2.2.1 a 47 = some b) (hdg : decode cc pc = .ok (.getfield 101, 3)) (kk : W p l e R s m args below meth c H locs cells slots Q (F0 m (pc + 3) ls (.ref b :: rest))) : W p l e R s m args below meth c H locs cells slots Q (F0 m pc ls (.ref a :: rest)) :=
  hp_getR cx hB (ci := 11) 47 rfl inX11 (by decide) rfl (by decide) rfl qw_779 hka (o := some b) ho.symm hdg kk
end
abbrev yX11_layTraps : MethodName := ⟨"SpokenMenusModel", "layTraps", "()V"⟩
theorem dX11_layTraps_0 : decode prog_13_method_41_code 0 = .ok (.iconst 0, 1) := by decide +kernel
theorem dX11_layTraps_1 : decode prog_13_method_41_code 1 = .ok (.istore_n 1, 1) := by decide +kernel
theorem dX11_layTraps_2 : decode prog_13_method_41_code 2 = .ok (.iload_n 1, 1) := by decide +kernel
theorem dX11_layTraps_3 : decode prog_13_method_41_code 3 = .ok (.bipush 40, 2) := by decide +kernel
theorem dX11_layTraps_5 : decode prog_13_method_41_code 5 = .ok (.if_icmp .ge 53, 3) := by decide +kernel
theorem dX11_layTraps_8 : decode prog_13_method_41_code 8 = .ok (.aload_n 0, 1) := by decide +kernel
theorem dX11_layTraps_9 : decode prog_13_method_41_code 9 = .ok (.getfield 95, 3) := by decide +kernel
theorem dX11_layTraps_12 : decode prog_13_method_41_code 12 = .ok (.iload_n 1, 1) := by decide +kernel
theorem dX11_layTraps_13 : decode prog_13_method_41_code 13 = .ok (.iload_n 1, 1) := by decide +kernel
theorem dX11_layTraps_14 : decode prog_13_method_41_code 14 = .ok (.ifCond .ne 7, 3) := by decide +kernel
theorem dX11_layTraps_17 : decode prog_13_method_41_code 17 = .ok (.iconst 1, 1) := by decide +kernel
theorem dX11_layTraps_18 : decode prog_13_method_41_code 18 = .ok (.goto 4, 3) := by decide +kernel
theorem dX11_layTraps_21 : decode prog_13_method_41_code 21 = .ok (.iconst 0, 1) := by decide +kernel
theorem dX11_layTraps_22 : decode prog_13_method_41_code 22 = .ok (.bastore, 1) := by decide +kernel
theorem dX11_layTraps_23 : decode prog_13_method_41_code 23 = .ok (.aload_n 0, 1) := by decide +kernel
theorem dX11_layTraps_24 : decode prog_13_method_41_code 24 = .ok (.getfield 98, 3) := by decide +kernel
theorem dX11_layTraps_27 : decode prog_13_method_41_code 27 = .ok (.iload_n 1, 1) := by decide +kernel
theorem dX11_layTraps_28 : decode prog_13_method_41_code 28 = .ok (.iload_n 1, 1) := by decide +kernel
theorem dX11_layTraps_29 : decode prog_13_method_41_code 29 = .ok (.aload_n 0, 1) := by decide +kernel
theorem dX11_layTraps_30 : decode prog_13_method_41_code 30 = .ok (.getfield 125, 3) := by decide +kernel
theorem dX11_layTraps_33 : decode prog_13_method_41_code 33 = .ok (.if_icmp .ge 17, 3) := by decide +kernel
theorem dX11_layTraps_36 : decode prog_13_method_41_code 36 = .ok (.aload_n 0, 1) := by decide +kernel
theorem dX11_layTraps_37 : decode prog_13_method_41_code 37 = .ok (.getfield 7, 3) := by decide +kernel
theorem dX11_layTraps_40 : decode prog_13_method_41_code 40 = .ok (.iload_n 1, 1) := by decide +kernel
theorem dX11_layTraps_41 : decode prog_13_method_41_code 41 = .ok (.iaload, 1) := by decide +kernel
theorem dX11_layTraps_42 : decode prog_13_method_41_code 42 = .ok (.iconst 1, 1) := by decide +kernel
theorem dX11_layTraps_43 : decode prog_13_method_41_code 43 = .ok (.if_icmp .ne 7, 3) := by decide +kernel
theorem dX11_layTraps_46 : decode prog_13_method_41_code 46 = .ok (.iconst 1, 1) := by decide +kernel
theorem dX11_layTraps_47 : decode prog_13_method_41_code 47 = .ok (.goto 4, 3) := by decide +kernel
theorem dX11_layTraps_50 : decode prog_13_method_41_code 50 = .ok (.iconst 0, 1) := by decide +kernel
theorem dX11_layTraps_51 : decode prog_13_method_41_code 51 = .ok (.bastore, 1) := by decide +kernel
theorem dX11_layTraps_52 : decode prog_13_method_41_code 52 = .ok (.iinc 1 1, 3) := by decide +kernel
theorem dX11_layTraps_55 : decode prog_13_method_41_code 55 = .ok (.goto (-53), 3) := by decide +kernel
theorem dX11_layTraps_58 : decode prog_13_method_41_code 58 = .ok (.iconst 1, 1) := by decide +kernel
theorem dX11_layTraps_59 : decode prog_13_method_41_code 59 = .ok (.istore_n 1, 1) := by decide +kernel
theorem dX11_layTraps_60 : decode prog_13_method_41_code 60 = .ok (.iload_n 1, 1) := by decide +kernel
theorem dX11_layTraps_61 : decode prog_13_method_41_code 61 = .ok (.ifCond .eq 123, 3) := by decide +kernel
theorem dX11_layTraps_64 : decode prog_13_method_41_code 64 = .ok (.iconst 0, 1) := by decide +kernel
theorem dX11_layTraps_65 : decode prog_13_method_41_code 65 = .ok (.istore_n 1, 1) := by decide +kernel
theorem dX11_layTraps_66 : decode prog_13_method_41_code 66 = .ok (.iconst 0, 1) := by decide +kernel
theorem dX11_layTraps_67 : decode prog_13_method_41_code 67 = .ok (.istore_n 2, 1) := by decide +kernel
theorem dX11_layTraps_68 : decode prog_13_method_41_code 68 = .ok (.iload_n 2, 1) := by decide +kernel
theorem dX11_layTraps_69 : decode prog_13_method_41_code 69 = .ok (.aload_n 0, 1) := by decide +kernel
theorem dX11_layTraps_70 : decode prog_13_method_41_code 70 = .ok (.getfield 125, 3) := by decide +kernel
theorem dX11_layTraps_73 : decode prog_13_method_41_code 73 = .ok (.if_icmp .ge 108, 3) := by decide +kernel
theorem dX11_layTraps_76 : decode prog_13_method_41_code 76 = .ok (.aload_n 0, 1) := by decide +kernel
theorem dX11_layTraps_77 : decode prog_13_method_41_code 77 = .ok (.getfield 98, 3) := by decide +kernel
theorem dX11_layTraps_80 : decode prog_13_method_41_code 80 = .ok (.iload_n 2, 1) := by decide +kernel
theorem dX11_layTraps_81 : decode prog_13_method_41_code 81 = .ok (.baload, 1) := by decide +kernel
theorem dX11_layTraps_82 : decode prog_13_method_41_code 82 = .ok (.ifCond .ne 24, 3) := by decide +kernel
theorem dX11_layTraps_85 : decode prog_13_method_41_code 85 = .ok (.aload_n 0, 1) := by decide +kernel
theorem dX11_layTraps_86 : decode prog_13_method_41_code 86 = .ok (.iload_n 2, 1) := by decide +kernel
theorem dX11_layTraps_87 : decode prog_13_method_41_code 87 = .ok (.aload_n 0, 1) := by decide +kernel
theorem dX11_layTraps_88 : decode prog_13_method_41_code 88 = .ok (.getfield 98, 3) := by decide +kernel
theorem dX11_layTraps_91 : decode prog_13_method_41_code 91 = .ok (.invokevirtual 257, 3) := by decide +kernel
theorem dX11_layTraps_94 : decode prog_13_method_41_code 94 = .ok (.ifCond .eq 12, 3) := by decide +kernel
theorem dX11_layTraps_97 : decode prog_13_method_41_code 97 = .ok (.aload_n 0, 1) := by decide +kernel
theorem dX11_layTraps_98 : decode prog_13_method_41_code 98 = .ok (.getfield 98, 3) := by decide +kernel
theorem dX11_layTraps_101 : decode prog_13_method_41_code 101 = .ok (.iload_n 2, 1) := by decide +kernel
theorem dX11_layTraps_102 : decode prog_13_method_41_code 102 = .ok (.iconst 1, 1) := by decide +kernel
theorem dX11_layTraps_103 : decode prog_13_method_41_code 103 = .ok (.bastore, 1) := by decide +kernel
theorem dX11_layTraps_104 : decode prog_13_method_41_code 104 = .ok (.iconst 1, 1) := by decide +kernel
theorem dX11_layTraps_105 : decode prog_13_method_41_code 105 = .ok (.istore_n 1, 1) := by decide +kernel
theorem dX11_layTraps_106 : decode prog_13_method_41_code 106 = .ok (.iconst 0, 1) := by decide +kernel
theorem dX11_layTraps_107 : decode prog_13_method_41_code 107 = .ok (.istore_n 3, 1) := by decide +kernel
theorem dX11_layTraps_108 : decode prog_13_method_41_code 108 = .ok (.iload_n 3, 1) := by decide +kernel
theorem dX11_layTraps_109 : decode prog_13_method_41_code 109 = .ok (.aload_n 0, 1) := by decide +kernel
theorem dX11_layTraps_110 : decode prog_13_method_41_code 110 = .ok (.getfield 125, 3) := by decide +kernel
theorem dX11_layTraps_113 : decode prog_13_method_41_code 113 = .ok (.if_icmp .ge 62, 3) := by decide +kernel
theorem dX11_layTraps_116 : decode prog_13_method_41_code 116 = .ok (.aload_n 0, 1) := by decide +kernel
theorem dX11_layTraps_117 : decode prog_13_method_41_code 117 = .ok (.getfield 95, 3) := by decide +kernel
theorem dX11_layTraps_120 : decode prog_13_method_41_code 120 = .ok (.iload_n 2, 1) := by decide +kernel
theorem dX11_layTraps_121 : decode prog_13_method_41_code 121 = .ok (.baload, 1) := by decide +kernel
theorem dX11_layTraps_122 : decode prog_13_method_41_code 122 = .ok (.ifCond .eq 53, 3) := by decide +kernel
theorem dX11_layTraps_125 : decode prog_13_method_41_code 125 = .ok (.aload_n 0, 1) := by decide +kernel
theorem dX11_layTraps_126 : decode prog_13_method_41_code 126 = .ok (.getfield 101, 3) := by decide +kernel
theorem dX11_layTraps_129 : decode prog_13_method_41_code 129 = .ok (.iload_n 3, 1) := by decide +kernel
theorem dX11_layTraps_130 : decode prog_13_method_41_code 130 = .ok (.iconst 1, 1) := by decide +kernel
theorem dX11_layTraps_131 : decode prog_13_method_41_code 131 = .ok (.bastore, 1) := by decide +kernel
theorem dX11_layTraps_132 : decode prog_13_method_41_code 132 = .ok (.aload_n 0, 1) := by decide +kernel
theorem dX11_layTraps_133 : decode prog_13_method_41_code 133 = .ok (.getfield 95, 3) := by decide +kernel
theorem dX11_layTraps_136 : decode prog_13_method_41_code 136 = .ok (.iload_n 3, 1) := by decide +kernel
theorem dX11_layTraps_137 : decode prog_13_method_41_code 137 = .ok (.baload, 1) := by decide +kernel
theorem dX11_layTraps_138 : decode prog_13_method_41_code 138 = .ok (.ifCond .ne 24, 3) := by decide +kernel
theorem dX11_layTraps_141 : decode prog_13_method_41_code 141 = .ok (.aload_n 0, 1) := by decide +kernel
theorem dX11_layTraps_142 : decode prog_13_method_41_code 142 = .ok (.iload_n 2, 1) := by decide +kernel
theorem dX11_layTraps_143 : decode prog_13_method_41_code 143 = .ok (.aload_n 0, 1) := by decide +kernel
theorem dX11_layTraps_144 : decode prog_13_method_41_code 144 = .ok (.getfield 101, 3) := by decide +kernel
theorem dX11_layTraps_147 : decode prog_13_method_41_code 147 = .ok (.invokevirtual 257, 3) := by decide +kernel
theorem dX11_layTraps_150 : decode prog_13_method_41_code 150 = .ok (.ifCond .eq 12, 3) := by decide +kernel
theorem dX11_layTraps_153 : decode prog_13_method_41_code 153 = .ok (.aload_n 0, 1) := by decide +kernel
theorem dX11_layTraps_154 : decode prog_13_method_41_code 154 = .ok (.getfield 95, 3) := by decide +kernel
theorem dX11_layTraps_157 : decode prog_13_method_41_code 157 = .ok (.iload_n 3, 1) := by decide +kernel
theorem dX11_layTraps_158 : decode prog_13_method_41_code 158 = .ok (.iconst 1, 1) := by decide +kernel
theorem dX11_layTraps_159 : decode prog_13_method_41_code 159 = .ok (.bastore, 1) := by decide +kernel
theorem dX11_layTraps_160 : decode prog_13_method_41_code 160 = .ok (.iconst 1, 1) := by decide +kernel
theorem dX11_layTraps_161 : decode prog_13_method_41_code 161 = .ok (.istore_n 1, 1) := by decide +kernel
theorem dX11_layTraps_162 : decode prog_13_method_41_code 162 = .ok (.aload_n 0, 1) := by decide +kernel
theorem dX11_layTraps_163 : decode prog_13_method_41_code 163 = .ok (.getfield 101, 3) := by decide +kernel
theorem dX11_layTraps_166 : decode prog_13_method_41_code 166 = .ok (.iload_n 3, 1) := by decide +kernel
theorem dX11_layTraps_167 : decode prog_13_method_41_code 167 = .ok (.iconst 0, 1) := by decide +kernel
theorem dX11_layTraps_168 : decode prog_13_method_41_code 168 = .ok (.bastore, 1) := by decide +kernel
theorem dX11_layTraps_169 : decode prog_13_method_41_code 169 = .ok (.iinc 3 1, 3) := by decide +kernel
theorem dX11_layTraps_172 : decode prog_13_method_41_code 172 = .ok (.goto (-64), 3) := by decide +kernel
theorem dX11_layTraps_175 : decode prog_13_method_41_code 175 = .ok (.iinc 2 1, 3) := by decide +kernel
theorem dX11_layTraps_178 : decode prog_13_method_41_code 178 = .ok (.goto (-110), 3) := by decide +kernel
theorem dX11_layTraps_181 : decode prog_13_method_41_code 181 = .ok (.goto (-121), 3) := by decide +kernel
theorem dX11_layTraps_184 : decode prog_13_method_41_code 184 = .ok (.return_, 1) := by decide +kernel
abbrev rmX11_layTraps : Room := { frames := 3, cells := 0, slots := 0, locals := 68 }
def fX11_layTraps_22 (rc2 : Nat → Int32 → Hp → Option (Unit × Hp)) (t0 : Nat) (v1 : Int32) (s0 : Int32) (s1 : Int32) (u2 : Nat) (h : Hp) : Option (Unit × Hp) :=
  gk (h.1 u2) 14 <|
  gd (ix s1 (h.2.1 u2)) <|
  gd (zb s0) <|
  nm (hp_si h u2 (Int32.toNatClampNeg s1) s0) fun g4 =>
  gk (g4.1 t0) 12 <|
  bd (g4.2.2.2.1 t0 46) fun a6 =>
  if (g4.2.2.1 t0 0) ≤ v1 then
  (gk (g4.1 a6) 14 <|
  gd (ix v1 (g4.2.1 a6)) <|
  nm (hp_si g4 a6 (Int32.toNatClampNeg v1) 0) fun g11 =>
  nm (v1 + 1) fun x12 =>
  rc2 t0 x12 g11)
  else
  (bd (g4.2.2.2.1 t0 1) fun a13 =>
  gk (g4.1 a13) 13 <|
  gd (ix v1 (g4.2.1 a13)) <|
  if (g4.2.2.1 a13 (Int32.toNatClampNeg v1)) = 1 then
  (gk (g4.1 a6) 14 <|
  gd (ix v1 (g4.2.1 a6)) <|
  nm (hp_si g4 a6 (Int32.toNatClampNeg v1) 1) fun g24 =>
  nm (v1 + 1) fun x25 =>
  rc2 t0 x25 g24)
  else
  (gk (g4.1 a6) 14 <|
  gd (ix v1 (g4.2.1 a6)) <|
  nm (hp_si g4 a6 (Int32.toNatClampNeg v1) 0) fun g20 =>
  nm (v1 + 1) fun x21 =>
  rc2 t0 x21 g20))
def bX11_layTraps_108 (rc60 : Nat → Int32 → Hp → Option (Unit × Hp)) (rc68 : Nat → Int32 → Int32 → Hp → Option (Unit × Hp)) (rc : Nat → Int32 → Int32 → Int32 → Hp → Option (Unit × Hp)) (t0 : Nat) (v1 : Int32) (v2 : Int32) (v3 : Int32) (h : Hp) : Option (Unit × Hp) :=
  gk (h.1 t0) 12 <|
  if (h.2.2.1 t0 0) ≤ v3 then
  (nm (v2 + 1) fun x3 =>
  rc68 t0 v1 x3 h)
  else
  (bd (h.2.2.2.1 t0 45) fun a4 =>
  gk (h.1 a4) 14 <|
  gd (ix v2 (h.2.1 a4)) <|
  if (h.2.2.1 a4 (Int32.toNatClampNeg v2)) = 0 then
  (nm (v2 + 1) fun x9 =>
  rc68 t0 v1 x9 h)
  else
  (bd (h.2.2.2.1 t0 47) fun a10 =>
  gk (h.1 a10) 14 <|
  gd (ix v3 (h.2.1 a10)) <|
  nm (hp_si h a10 (Int32.toNatClampNeg v3) 1) fun g14 =>
  gd (ix v3 (g14.2.1 a4)) <|
  if (g14.2.2.1 a4 (Int32.toNatClampNeg v3)) = 0 then
  (b2 (fX11_leads t0 v2 (some a10) g14) fun r28 g26 =>
  if r28 = 0 then
  (gk (g26.1 t0) 12 <|
  bd (g26.2.2.2.1 t0 47) fun a32 =>
  gk (g26.1 a32) 14 <|
  gd (ix v3 (g26.2.1 a32)) <|
  nm (hp_si g26 a32 (Int32.toNatClampNeg v3) 0) fun g36 =>
  nm (v3 + 1) fun x37 =>
  rc t0 v1 v2 x37 g36)
  else
  (gk (g26.1 t0) 12 <|
  bd (g26.2.2.2.1 t0 45) fun a39 =>
  gk (g26.1 a39) 14 <|
  gd (ix v3 (g26.2.1 a39)) <|
  nm (hp_si g26 a39 (Int32.toNatClampNeg v3) 1) fun g43 =>
  bd (g43.2.2.2.1 t0 47) fun a45 =>
  gk (g43.1 a45) 14 <|
  gd (ix v3 (g43.2.1 a45)) <|
  nm (hp_si g43 a45 (Int32.toNatClampNeg v3) 0) fun g49 =>
  nm (v3 + 1) fun x50 =>
  rc t0 1 v2 x50 g49))
  else
  (gd (ix v3 (g14.2.1 a10)) <|
  nm (hp_si g14 a10 (Int32.toNatClampNeg v3) 0) fun g23 =>
  nm (v3 + 1) fun x24 =>
  rc t0 v1 v2 x24 g23)))
def fX11_layTraps_108 (rc60 : Nat → Int32 → Hp → Option (Unit × Hp)) (rc68 : Nat → Int32 → Int32 → Hp → Option (Unit × Hp)) : Nat → Int32 → Int32 → Int32 → Hp → Option (Unit × Hp) := fx (bX11_layTraps_108 rc60 rc68) (fun _ _ _ _ _ => none) NF
def bX11_layTraps_68 (rc60 : Nat → Int32 → Hp → Option (Unit × Hp)) (rc : Nat → Int32 → Int32 → Hp → Option (Unit × Hp)) (t0 : Nat) (v1 : Int32) (v2 : Int32) (h : Hp) : Option (Unit × Hp) :=
  gk (h.1 t0) 12 <|
  if (h.2.2.1 t0 0) ≤ v2 then
  (rc60 t0 v1 h)
  else
  (bd (h.2.2.2.1 t0 46) fun a3 =>
  gk (h.1 a3) 14 <|
  gd (ix v2 (h.2.1 a3)) <|
  if (h.2.2.1 a3 (Int32.toNatClampNeg v2)) = 0 then
  (b2 (fX11_leads t0 v2 (some a3) h) fun r10 g8 =>
  if r10 = 0 then
  (fX11_layTraps_108 rc60 rc t0 v1 v2 0 g8)
  else
  (gk (g8.1 t0) 12 <|
  bd (g8.2.2.2.1 t0 46) fun a14 =>
  gk (g8.1 a14) 14 <|
  gd (ix v2 (g8.2.1 a14)) <|
  nm (hp_si g8 a14 (Int32.toNatClampNeg v2) 1) fun g18 =>
  fX11_layTraps_108 rc60 rc t0 1 v2 0 g18))
  else
  (fX11_layTraps_108 rc60 rc t0 v1 v2 0 h))
def fX11_layTraps_68 (rc60 : Nat → Int32 → Hp → Option (Unit × Hp)) : Nat → Int32 → Int32 → Hp → Option (Unit × Hp) := fx (bX11_layTraps_68 rc60) (fun _ _ _ _ => none) NF
def bX11_layTraps_60  (rc : Nat → Int32 → Hp → Option (Unit × Hp)) (t0 : Nat) (v1 : Int32) (h : Hp) : Option (Unit × Hp) :=
  if v1 = 0 then
  (some ((), h))
  else
  (fX11_layTraps_68 rc t0 0 0 h)
def fX11_layTraps_60  : Nat → Int32 → Hp → Option (Unit × Hp) := fx (bX11_layTraps_60 ) (fun _ _ _ => none) NF
def bX11_layTraps_2  (rc : Nat → Int32 → Hp → Option (Unit × Hp)) (t0 : Nat) (v1 : Int32) (h : Hp) : Option (Unit × Hp) :=
  if 40 ≤ v1 then
  (fX11_layTraps_60  t0 1 h)
  else
  (gk (h.1 t0) 12 <|
  bd (h.2.2.2.1 t0 45) fun a3 =>
  if v1 = 0 then
  (fX11_layTraps_22 rc t0 v1 1 v1 a3 h)
  else
  (fX11_layTraps_22 rc t0 v1 0 v1 a3 h))
def fX11_layTraps_2  : Nat → Int32 → Hp → Option (Unit × Hp) := fx (bX11_layTraps_2 ) (fun _ _ _ => none) NF
def fX11_layTraps  (t0 : Nat) (h : Hp) : Option (Unit × Hp) :=
  fX11_layTraps_2  t0 0 h
section
variable {p : Program} {l : Launch} {e : Env} {s : State} {m : MethodId} {args : Array Value} {below : List Frame} {meth : Method} {c : Code} {D : va_G} {cA : Nat → ClassId} {h0 h9 : Hp}
set_option maxHeartbeats 4000000 in
set_option maxRecDepth 100000 in
theorem tX11_layTraps_22 {rc2 : Nat → Int32 → Hp → Option (Unit × Hp)} (cx : CallFix p m c prog_13_method_41_code 4 s args tbG RX11) (hr : meth.sig.returnType = none) (hlk : meth.locks = false) (hr2 : ∀ (t0 : Nat) (v1 : Int32) (h : Hp) (H : Heap) (locs : List Loc) (ls : Array Slot), hp_B D cA (hp_A h0) s h H locs → lv_has ls 4 [(0, .ref t0), (1, .int v1)] → rc2 t0 v1 h = some ((), h9) → W p l e rmX11_layTraps s m args below meth c H locs 0 0 (MQ below (hp_Qv D cA h0 h9) args s 0 0 (hp_A h0)) (F0 m 2 ls [])) (t0 : Nat) (v1 : Int32) (s0 : Int32) (s1 : Int32) (u2 : Nat) (h : Hp) (H : Heap) (locs : List Loc) (ls : Array Slot) (hB : hp_B D cA (hp_A h0) s h H locs) (hl : lv_has ls 4 [(0, .ref t0), (1, .int v1)]) (hf : fX11_layTraps_22 rc2 t0 v1 s0 s1 u2 h = some ((), h9)) : W p l e rmX11_layTraps s m args below meth c H locs 0 0 (MQ below (hp_Qv D cA h0 h9) args s 0 0 (hp_A h0)) (F0 m 22 ls [.int s0, .int s1, .ref u2]) := by
  obtain ⟨hx, hb, -⟩ := id cx
  unfold fX11_layTraps_22 at hf
  obtain ⟨k1, hf⟩ := gk_ok hf
  obtain ⟨j2, hf⟩ := gd_ok hf
  obtain ⟨c3, hf⟩ := gd_ok hf
  obtain ⟨g4, eg4, hf⟩ := nm_ok hf
  refine hp_zast cx hB k1 j2 c3 dX11_layTraps_22 (fun H locs hB => ?_)
  rw [← eg4] at hB
  refine lv_aload_n hx hb dX11_layTraps_23 rfl (lv_at hl 0 rfl) ?_
  obtain ⟨k5, hf⟩ := gk_ok hf
  obtain ⟨a6, q7, hf⟩ := bd_ok hf
  refine gf_X11_98 cx hB k5 q7 dX11_layTraps_24 ?_
  refine lv_iload_n hx hb dX11_layTraps_27 rfl (lv_at hl 1 rfl) ?_
  refine lv_iload_n hx hb dX11_layTraps_28 rfl (lv_at hl 1 rfl) ?_
  refine lv_aload_n hx hb dX11_layTraps_29 rfl (lv_at hl 0 rfl) ?_
  refine gf_X11_125 cx hB k5 dX11_layTraps_30 ?_
  refine lv_icmp_ge (tgt := 50) hx hb dX11_layTraps_33 (by decide) (fun c8 => ?_) (fun c8 => ?_)
  · replace hf := it_t c8 hf
    refine lv_iconst (v := 0) hx hb dX11_layTraps_50 (by decide) ?_
    obtain ⟨k9, hf⟩ := gk_ok hf
    obtain ⟨j10, hf⟩ := gd_ok hf
    obtain ⟨g11, eg11, hf⟩ := nm_ok hf
    refine hp_zast cx hB k9 j10 rfl dX11_layTraps_51 (fun H locs hB => ?_)
    rw [← eg11] at hB
    obtain ⟨x12, ex12, hf⟩ := nm_ok hf
    refine lv_iinc (v := x12) (lv' := [(1, .int x12), (0, .ref t0)]) hx hb dX11_layTraps_52 hl (k := 1) rfl (by rw [ex12]; rfl) (by decide) rfl (fun ls hl => ?_)
    refine lv_goto (tgt := 2) hx hb dX11_layTraps_55 (by decide) ?_
    exact hr2 t0 x12 g11 _ _ _ hB (lv_sub hl [1, 0] rfl) hf
  · replace hf := it_f c8 hf
    refine lv_aload_n hx hb dX11_layTraps_36 rfl (lv_at hl 0 rfl) ?_
    obtain ⟨a13, q14, hf⟩ := bd_ok hf
    refine gf_X11_7 cx hB k5 q14 dX11_layTraps_37 ?_
    refine lv_iload_n hx hb dX11_layTraps_40 rfl (lv_at hl 1 rfl) ?_
    obtain ⟨k15, hf⟩ := gk_ok hf
    obtain ⟨j16, hf⟩ := gd_ok hf
    refine hp_iald cx hB k15 j16 dX11_layTraps_41 ?_
    refine lv_iconst (v := 1) hx hb dX11_layTraps_42 (by decide) ?_
    refine lv_icmp_ne (tgt := 50) hx hb dX11_layTraps_43 (by decide) (fun c17 => ?_) (fun c17 => ?_)
    · replace hf := it_f c17 hf
      refine lv_iconst (v := 0) hx hb dX11_layTraps_50 (by decide) ?_
      obtain ⟨k18, hf⟩ := gk_ok hf
      obtain ⟨j19, hf⟩ := gd_ok hf
      obtain ⟨g20, eg20, hf⟩ := nm_ok hf
      refine hp_zast cx hB k18 j19 rfl dX11_layTraps_51 (fun H locs hB => ?_)
      rw [← eg20] at hB
      obtain ⟨x21, ex21, hf⟩ := nm_ok hf
      refine lv_iinc (v := x21) (lv' := [(1, .int x21), (0, .ref t0)]) hx hb dX11_layTraps_52 hl (k := 1) rfl (by rw [ex21]; rfl) (by decide) rfl (fun ls hl => ?_)
      refine lv_goto (tgt := 2) hx hb dX11_layTraps_55 (by decide) ?_
      exact hr2 t0 x21 g20 _ _ _ hB (lv_sub hl [1, 0] rfl) hf
    · replace hf := it_t c17 hf
      refine lv_iconst (v := 1) hx hb dX11_layTraps_46 (by decide) ?_
      refine lv_goto (tgt := 51) hx hb dX11_layTraps_47 (by decide) ?_
      obtain ⟨k22, hf⟩ := gk_ok hf
      obtain ⟨j23, hf⟩ := gd_ok hf
      obtain ⟨g24, eg24, hf⟩ := nm_ok hf
      refine hp_zast cx hB k22 j23 rfl dX11_layTraps_51 (fun H locs hB => ?_)
      rw [← eg24] at hB
      obtain ⟨x25, ex25, hf⟩ := nm_ok hf
      refine lv_iinc (v := x25) (lv' := [(1, .int x25), (0, .ref t0)]) hx hb dX11_layTraps_52 hl (k := 1) rfl (by rw [ex25]; rfl) (by decide) rfl (fun ls hl => ?_)
      refine lv_goto (tgt := 2) hx hb dX11_layTraps_55 (by decide) ?_
      exact hr2 t0 x25 g24 _ _ _ hB (lv_sub hl [1, 0] rfl) hf
set_option maxHeartbeats 4000000 in
set_option maxRecDepth 100000 in
theorem tX11_layTraps_108 {rc60 : Nat → Int32 → Hp → Option (Unit × Hp)} {rc68 : Nat → Int32 → Int32 → Hp → Option (Unit × Hp)} (cx : CallFix p m c prog_13_method_41_code 4 s args tbG RX11) (hr : meth.sig.returnType = none) (hlk : meth.locks = false) (hr60 : ∀ (t0 : Nat) (v1 : Int32) (h : Hp) (H : Heap) (locs : List Loc) (ls : Array Slot), hp_B D cA (hp_A h0) s h H locs → lv_has ls 4 [(0, .ref t0), (1, .int v1)] → rc60 t0 v1 h = some ((), h9) → W p l e rmX11_layTraps s m args below meth c H locs 0 0 (MQ below (hp_Qv D cA h0 h9) args s 0 0 (hp_A h0)) (F0 m 60 ls [])) (hr68 : ∀ (t0 : Nat) (v1 : Int32) (v2 : Int32) (h : Hp) (H : Heap) (locs : List Loc) (ls : Array Slot), hp_B D cA (hp_A h0) s h H locs → lv_has ls 4 [(0, .ref t0), (1, .int v1), (2, .int v2)] → rc68 t0 v1 v2 h = some ((), h9) → W p l e rmX11_layTraps s m args below meth c H locs 0 0 (MQ below (hp_Qv D cA h0 h9) args s 0 0 (hp_A h0)) (F0 m 68 ls [])) (n : Nat) : ∀ (t0 : Nat) (v1 : Int32) (v2 : Int32) (v3 : Int32) (h : Hp) (H : Heap) (locs : List Loc) (ls : Array Slot), hp_B D cA (hp_A h0) s h H locs → lv_has ls 4 [(0, .ref t0), (1, .int v1), (2, .int v2), (3, .int v3)] → fx (bX11_layTraps_108 rc60 rc68) (fun _ _ _ _ _ => none) n t0 v1 v2 v3 h = some ((), h9) → W p l e rmX11_layTraps s m args below meth c H locs 0 0 (MQ below (hp_Qv D cA h0 h9) args s 0 0 (hp_A h0)) (F0 m 108 ls []) := by
  obtain ⟨hx, hb, -⟩ := id cx
  induction n with
  | zero => intro t0 v1 v2 v3 h H locs ls hB hl hf; cases hf
  | succ n ih =>
    intro t0 v1 v2 v3 h H locs ls hB hl hf
    replace hf : bX11_layTraps_108 rc60 rc68 (fx (bX11_layTraps_108 rc60 rc68) (fun _ _ _ _ _ => none) n) t0 v1 v2 v3 h = some ((), h9) := hf
    unfold bX11_layTraps_108 at hf
    refine lv_iload_n hx hb dX11_layTraps_108 rfl (lv_at hl 3 rfl) ?_
    refine lv_aload_n hx hb dX11_layTraps_109 rfl (lv_at hl 0 rfl) ?_
    obtain ⟨k1, hf⟩ := gk_ok hf
    refine gf_X11_125 cx hB k1 dX11_layTraps_110 ?_
    refine lv_icmp_ge (tgt := 175) hx hb dX11_layTraps_113 (by decide) (fun c2 => ?_) (fun c2 => ?_)
    · replace hf := it_t c2 hf
      obtain ⟨x3, ex3, hf⟩ := nm_ok hf
      refine lv_iinc (v := x3) (lv' := [(2, .int x3), (0, .ref t0), (1, .int v1), (3, .int v3)]) hx hb dX11_layTraps_175 hl (k := 2) rfl (by rw [ex3]; rfl) (by decide) rfl (fun ls hl => ?_)
      refine lv_goto (tgt := 68) hx hb dX11_layTraps_178 (by decide) ?_
      exact hr68 t0 v1 x3 h _ _ _ hB (lv_sub hl [1, 2, 0] rfl) hf
    · replace hf := it_f c2 hf
      refine lv_aload_n hx hb dX11_layTraps_116 rfl (lv_at hl 0 rfl) ?_
      obtain ⟨a4, q5, hf⟩ := bd_ok hf
      refine gf_X11_95 cx hB k1 q5 dX11_layTraps_117 ?_
      refine lv_iload_n hx hb dX11_layTraps_120 rfl (lv_at hl 2 rfl) ?_
      obtain ⟨k6, hf⟩ := gk_ok hf
      obtain ⟨j7, hf⟩ := gd_ok hf
      refine hp_zald cx hB k6 j7 dX11_layTraps_121 ?_
      refine lv_if_eq (tgt := 175) hx hb dX11_layTraps_122 (by decide) (fun c8 => ?_) (fun c8 => ?_)
      · replace hf := it_t c8 hf
        obtain ⟨x9, ex9, hf⟩ := nm_ok hf
        refine lv_iinc (v := x9) (lv' := [(2, .int x9), (0, .ref t0), (1, .int v1), (3, .int v3)]) hx hb dX11_layTraps_175 hl (k := 2) rfl (by rw [ex9]; rfl) (by decide) rfl (fun ls hl => ?_)
        refine lv_goto (tgt := 68) hx hb dX11_layTraps_178 (by decide) ?_
        exact hr68 t0 v1 x9 h _ _ _ hB (lv_sub hl [1, 2, 0] rfl) hf
      · replace hf := it_f c8 hf
        refine lv_aload_n hx hb dX11_layTraps_125 rfl (lv_at hl 0 rfl) ?_
        obtain ⟨a10, q11, hf⟩ := bd_ok hf
        refine gf_X11_101 cx hB k1 q11 dX11_layTraps_126 ?_
        refine lv_iload_n hx hb dX11_layTraps_129 rfl (lv_at hl 3 rfl) ?_
        refine lv_iconst (v := 1) hx hb dX11_layTraps_130 (by decide) ?_
        obtain ⟨k12, hf⟩ := gk_ok hf
        obtain ⟨j13, hf⟩ := gd_ok hf
        obtain ⟨g14, eg14, hf⟩ := nm_ok hf
        refine hp_zast cx hB k12 j13 rfl dX11_layTraps_131 (fun H locs hB => ?_)
        rw [← eg14] at hB
        refine lv_aload_n hx hb dX11_layTraps_132 rfl (lv_at hl 0 rfl) ?_
        have k15 : g14.1 t0 = 12 := by rw [eg14]; exact k1
        have q16 : g14.2.2.2.1 t0 45 = some a4 := by rw [eg14]; exact q5
        refine gf_X11_95 cx hB k15 q16 dX11_layTraps_133 ?_
        refine lv_iload_n hx hb dX11_layTraps_136 rfl (lv_at hl 3 rfl) ?_
        have k17 : g14.1 a4 = 14 := by rw [eg14]; exact k6
        obtain ⟨j18, hf⟩ := gd_ok hf
        refine hp_zald cx hB k17 j18 dX11_layTraps_137 ?_
        refine lv_if_ne (tgt := 162) hx hb dX11_layTraps_138 (by decide) (fun c19 => ?_) (fun c19 => ?_)
        · replace hf := it_f c19 hf
          refine lv_aload_n hx hb dX11_layTraps_162 rfl (lv_at hl 0 rfl) ?_
          have q20 : g14.2.2.2.1 t0 47 = some a10 := by rw [eg14]; exact q11
          refine gf_X11_101 cx hB k15 q20 dX11_layTraps_163 ?_
          refine lv_iload_n hx hb dX11_layTraps_166 rfl (lv_at hl 3 rfl) ?_
          refine lv_iconst (v := 0) hx hb dX11_layTraps_167 (by decide) ?_
          have k21 : g14.1 a10 = 14 := by rw [eg14]; exact k12
          obtain ⟨j22, hf⟩ := gd_ok hf
          obtain ⟨g23, eg23, hf⟩ := nm_ok hf
          refine hp_zast cx hB k21 j22 rfl dX11_layTraps_168 (fun H locs hB => ?_)
          rw [← eg23] at hB
          obtain ⟨x24, ex24, hf⟩ := nm_ok hf
          refine lv_iinc (v := x24) (lv' := [(3, .int x24), (0, .ref t0), (1, .int v1), (2, .int v2)]) hx hb dX11_layTraps_169 hl (k := 3) rfl (by rw [ex24]; rfl) (by decide) rfl (fun ls hl => ?_)
          refine lv_goto (tgt := 108) hx hb dX11_layTraps_172 (by decide) ?_
          exact ih t0 v1 v2 x24 g23 _ _ _ hB (lv_sub hl [1, 2, 3, 0] rfl) hf
        · replace hf := it_t c19 hf
          refine lv_aload_n hx hb dX11_layTraps_141 rfl (lv_at hl 0 rfl) ?_
          refine lv_iload_n hx hb dX11_layTraps_142 rfl (lv_at hl 2 rfl) ?_
          refine lv_aload_n hx hb dX11_layTraps_143 rfl (lv_at hl 0 rfl) ?_
          have q25 : g14.2.2.2.1 t0 47 = some a10 := by rw [eg14]; exact q11
          refine gf_X11_101 cx hB k15 q25 dX11_layTraps_144 ?_
          obtain ⟨r28, g26, m27, hf⟩ := b2_ok hf
          refine hp_cI0 (cl_X11_257 cx hB (cX11_leads l D cA t0 v2 (some a10) g14 _ g26 m27) k15 ⟨Nat.le_of_ble_eq_true rfl, Nat.le_of_ble_eq_true rfl⟩ rfl hl.1 rfl (Nat.le_of_ble_eq_true rfl) ⟨Nat.le_of_ble_eq_true rfl, Nat.le_of_ble_eq_true rfl⟩ dX11_layTraps_147) rfl rfl hB (fun H locs hB => ?_)
          refine lv_if_eq (tgt := 162) hx hb dX11_layTraps_150 (by decide) (fun c30 => ?_) (fun c30 => ?_)
          · replace hf := it_t c30 hf
            refine lv_aload_n hx hb dX11_layTraps_162 rfl (lv_at hl 0 rfl) ?_
            obtain ⟨k31, hf⟩ := gk_ok hf
            obtain ⟨a32, q33, hf⟩ := bd_ok hf
            refine gf_X11_101 cx hB k31 q33 dX11_layTraps_163 ?_
            refine lv_iload_n hx hb dX11_layTraps_166 rfl (lv_at hl 3 rfl) ?_
            refine lv_iconst (v := 0) hx hb dX11_layTraps_167 (by decide) ?_
            obtain ⟨k34, hf⟩ := gk_ok hf
            obtain ⟨j35, hf⟩ := gd_ok hf
            obtain ⟨g36, eg36, hf⟩ := nm_ok hf
            refine hp_zast cx hB k34 j35 rfl dX11_layTraps_168 (fun H locs hB => ?_)
            rw [← eg36] at hB
            obtain ⟨x37, ex37, hf⟩ := nm_ok hf
            refine lv_iinc (v := x37) (lv' := [(3, .int x37), (0, .ref t0), (1, .int v1), (2, .int v2)]) hx hb dX11_layTraps_169 hl (k := 3) rfl (by rw [ex37]; rfl) (by decide) rfl (fun ls hl => ?_)
            refine lv_goto (tgt := 108) hx hb dX11_layTraps_172 (by decide) ?_
            exact ih t0 v1 v2 x37 g36 _ _ _ hB (lv_sub hl [1, 2, 3, 0] rfl) hf
          · replace hf := it_f c30 hf
            refine lv_aload_n hx hb dX11_layTraps_153 rfl (lv_at hl 0 rfl) ?_
            obtain ⟨k38, hf⟩ := gk_ok hf
            obtain ⟨a39, q40, hf⟩ := bd_ok hf
            refine gf_X11_95 cx hB k38 q40 dX11_layTraps_154 ?_
            refine lv_iload_n hx hb dX11_layTraps_157 rfl (lv_at hl 3 rfl) ?_
            refine lv_iconst (v := 1) hx hb dX11_layTraps_158 (by decide) ?_
            obtain ⟨k41, hf⟩ := gk_ok hf
            obtain ⟨j42, hf⟩ := gd_ok hf
            obtain ⟨g43, eg43, hf⟩ := nm_ok hf
            refine hp_zast cx hB k41 j42 rfl dX11_layTraps_159 (fun H locs hB => ?_)
            rw [← eg43] at hB
            refine lv_iconst (v := 1) hx hb dX11_layTraps_160 (by decide) ?_
            refine lv_istore_n (lv' := [(1, .int 1), (0, .ref t0), (2, .int v2), (3, .int v3)]) hx hb dX11_layTraps_161 rfl hl (by decide) rfl (fun ls hl => ?_)
            refine lv_aload_n hx hb dX11_layTraps_162 rfl (lv_at hl 1 rfl) ?_
            have k44 : g43.1 t0 = 12 := by rw [eg43]; exact k38
            obtain ⟨a45, q46, hf⟩ := bd_ok hf
            refine gf_X11_101 cx hB k44 q46 dX11_layTraps_163 ?_
            refine lv_iload_n hx hb dX11_layTraps_166 rfl (lv_at hl 3 rfl) ?_
            refine lv_iconst (v := 0) hx hb dX11_layTraps_167 (by decide) ?_
            obtain ⟨k47, hf⟩ := gk_ok hf
            obtain ⟨j48, hf⟩ := gd_ok hf
            obtain ⟨g49, eg49, hf⟩ := nm_ok hf
            refine hp_zast cx hB k47 j48 rfl dX11_layTraps_168 (fun H locs hB => ?_)
            rw [← eg49] at hB
            obtain ⟨x50, ex50, hf⟩ := nm_ok hf
            refine lv_iinc (v := x50) (lv' := [(3, .int x50), (1, .int 1), (0, .ref t0), (2, .int v2)]) hx hb dX11_layTraps_169 hl (k := 3) rfl (by rw [ex50]; rfl) (by decide) rfl (fun ls hl => ?_)
            refine lv_goto (tgt := 108) hx hb dX11_layTraps_172 (by decide) ?_
            exact ih t0 1 v2 x50 g49 _ _ _ hB (lv_sub hl [2, 1, 3, 0] rfl) hf
set_option maxHeartbeats 4000000 in
set_option maxRecDepth 100000 in
theorem tX11_layTraps_68 {rc60 : Nat → Int32 → Hp → Option (Unit × Hp)} (cx : CallFix p m c prog_13_method_41_code 4 s args tbG RX11) (hr : meth.sig.returnType = none) (hlk : meth.locks = false) (hr60 : ∀ (t0 : Nat) (v1 : Int32) (h : Hp) (H : Heap) (locs : List Loc) (ls : Array Slot), hp_B D cA (hp_A h0) s h H locs → lv_has ls 4 [(0, .ref t0), (1, .int v1)] → rc60 t0 v1 h = some ((), h9) → W p l e rmX11_layTraps s m args below meth c H locs 0 0 (MQ below (hp_Qv D cA h0 h9) args s 0 0 (hp_A h0)) (F0 m 60 ls [])) (n : Nat) : ∀ (t0 : Nat) (v1 : Int32) (v2 : Int32) (h : Hp) (H : Heap) (locs : List Loc) (ls : Array Slot), hp_B D cA (hp_A h0) s h H locs → lv_has ls 4 [(0, .ref t0), (1, .int v1), (2, .int v2)] → fx (bX11_layTraps_68 rc60) (fun _ _ _ _ => none) n t0 v1 v2 h = some ((), h9) → W p l e rmX11_layTraps s m args below meth c H locs 0 0 (MQ below (hp_Qv D cA h0 h9) args s 0 0 (hp_A h0)) (F0 m 68 ls []) := by
  obtain ⟨hx, hb, -⟩ := id cx
  induction n with
  | zero => intro t0 v1 v2 h H locs ls hB hl hf; cases hf
  | succ n ih =>
    intro t0 v1 v2 h H locs ls hB hl hf
    replace hf : bX11_layTraps_68 rc60 (fx (bX11_layTraps_68 rc60) (fun _ _ _ _ => none) n) t0 v1 v2 h = some ((), h9) := hf
    unfold bX11_layTraps_68 at hf
    refine lv_iload_n hx hb dX11_layTraps_68 rfl (lv_at hl 2 rfl) ?_
    refine lv_aload_n hx hb dX11_layTraps_69 rfl (lv_at hl 0 rfl) ?_
    obtain ⟨k1, hf⟩ := gk_ok hf
    refine gf_X11_125 cx hB k1 dX11_layTraps_70 ?_
    refine lv_icmp_ge (tgt := 181) hx hb dX11_layTraps_73 (by decide) (fun c2 => ?_) (fun c2 => ?_)
    · replace hf := it_t c2 hf
      refine lv_goto (tgt := 60) hx hb dX11_layTraps_181 (by decide) ?_
      exact hr60 t0 v1 h _ _ _ hB (lv_sub hl [0, 1] rfl) hf
    · replace hf := it_f c2 hf
      refine lv_aload_n hx hb dX11_layTraps_76 rfl (lv_at hl 0 rfl) ?_
      obtain ⟨a3, q4, hf⟩ := bd_ok hf
      refine gf_X11_98 cx hB k1 q4 dX11_layTraps_77 ?_
      refine lv_iload_n hx hb dX11_layTraps_80 rfl (lv_at hl 2 rfl) ?_
      obtain ⟨k5, hf⟩ := gk_ok hf
      obtain ⟨j6, hf⟩ := gd_ok hf
      refine hp_zald cx hB k5 j6 dX11_layTraps_81 ?_
      refine lv_if_ne (tgt := 106) hx hb dX11_layTraps_82 (by decide) (fun c7 => ?_) (fun c7 => ?_)
      · replace hf := it_f c7 hf
        refine lv_iconst (v := 0) hx hb dX11_layTraps_106 (by decide) ?_
        refine lv_istore_n (lv' := [(3, .int 0), (0, .ref t0), (1, .int v1), (2, .int v2)]) hx hb dX11_layTraps_107 rfl hl (by decide) rfl (fun ls hl => ?_)
        exact tX11_layTraps_108 cx hr hlk hr60 ih NF t0 v1 v2 0 h _ _ _ hB (lv_sub hl [1, 2, 3, 0] rfl) hf
      · replace hf := it_t c7 hf
        refine lv_aload_n hx hb dX11_layTraps_85 rfl (lv_at hl 0 rfl) ?_
        refine lv_iload_n hx hb dX11_layTraps_86 rfl (lv_at hl 2 rfl) ?_
        refine lv_aload_n hx hb dX11_layTraps_87 rfl (lv_at hl 0 rfl) ?_
        refine gf_X11_98 cx hB k1 q4 dX11_layTraps_88 ?_
        obtain ⟨r10, g8, m9, hf⟩ := b2_ok hf
        refine hp_cI0 (cl_X11_257 cx hB (cX11_leads l D cA t0 v2 (some a3) h _ g8 m9) k1 ⟨Nat.le_of_ble_eq_true rfl, Nat.le_of_ble_eq_true rfl⟩ rfl hl.1 rfl (Nat.le_of_ble_eq_true rfl) ⟨Nat.le_of_ble_eq_true rfl, Nat.le_of_ble_eq_true rfl⟩ dX11_layTraps_91) rfl rfl hB (fun H locs hB => ?_)
        refine lv_if_eq (tgt := 106) hx hb dX11_layTraps_94 (by decide) (fun c12 => ?_) (fun c12 => ?_)
        · replace hf := it_t c12 hf
          refine lv_iconst (v := 0) hx hb dX11_layTraps_106 (by decide) ?_
          refine lv_istore_n (lv' := [(3, .int 0), (0, .ref t0), (1, .int v1), (2, .int v2)]) hx hb dX11_layTraps_107 rfl hl (by decide) rfl (fun ls hl => ?_)
          exact tX11_layTraps_108 cx hr hlk hr60 ih NF t0 v1 v2 0 g8 _ _ _ hB (lv_sub hl [1, 2, 3, 0] rfl) hf
        · replace hf := it_f c12 hf
          refine lv_aload_n hx hb dX11_layTraps_97 rfl (lv_at hl 0 rfl) ?_
          obtain ⟨k13, hf⟩ := gk_ok hf
          obtain ⟨a14, q15, hf⟩ := bd_ok hf
          refine gf_X11_98 cx hB k13 q15 dX11_layTraps_98 ?_
          refine lv_iload_n hx hb dX11_layTraps_101 rfl (lv_at hl 2 rfl) ?_
          refine lv_iconst (v := 1) hx hb dX11_layTraps_102 (by decide) ?_
          obtain ⟨k16, hf⟩ := gk_ok hf
          obtain ⟨j17, hf⟩ := gd_ok hf
          obtain ⟨g18, eg18, hf⟩ := nm_ok hf
          refine hp_zast cx hB k16 j17 rfl dX11_layTraps_103 (fun H locs hB => ?_)
          rw [← eg18] at hB
          refine lv_iconst (v := 1) hx hb dX11_layTraps_104 (by decide) ?_
          refine lv_istore_n (lv' := [(1, .int 1), (0, .ref t0), (2, .int v2)]) hx hb dX11_layTraps_105 rfl hl (by decide) rfl (fun ls hl => ?_)
          refine lv_iconst (v := 0) hx hb dX11_layTraps_106 (by decide) ?_
          refine lv_istore_n (lv' := [(3, .int 0), (1, .int 1), (0, .ref t0), (2, .int v2)]) hx hb dX11_layTraps_107 rfl hl (by decide) rfl (fun ls hl => ?_)
          exact tX11_layTraps_108 cx hr hlk hr60 ih NF t0 1 v2 0 g18 _ _ _ hB (lv_sub hl [2, 1, 3, 0] rfl) hf
set_option maxHeartbeats 4000000 in
set_option maxRecDepth 100000 in
theorem tX11_layTraps_60  (cx : CallFix p m c prog_13_method_41_code 4 s args tbG RX11) (hr : meth.sig.returnType = none) (hlk : meth.locks = false)  (n : Nat) : ∀ (t0 : Nat) (v1 : Int32) (h : Hp) (H : Heap) (locs : List Loc) (ls : Array Slot), hp_B D cA (hp_A h0) s h H locs → lv_has ls 4 [(0, .ref t0), (1, .int v1)] → fx (bX11_layTraps_60 ) (fun _ _ _ => none) n t0 v1 h = some ((), h9) → W p l e rmX11_layTraps s m args below meth c H locs 0 0 (MQ below (hp_Qv D cA h0 h9) args s 0 0 (hp_A h0)) (F0 m 60 ls []) := by
  obtain ⟨hx, hb, -⟩ := id cx
  induction n with
  | zero => intro t0 v1 h H locs ls hB hl hf; cases hf
  | succ n ih =>
    intro t0 v1 h H locs ls hB hl hf
    replace hf : bX11_layTraps_60  (fx (bX11_layTraps_60 ) (fun _ _ _ => none) n) t0 v1 h = some ((), h9) := hf
    unfold bX11_layTraps_60 at hf
    refine lv_iload_n hx hb dX11_layTraps_60 rfl (lv_at hl 1 rfl) ?_
    refine lv_if_eq (tgt := 184) hx hb dX11_layTraps_61 (by decide) (fun c1 => ?_) (fun c1 => ?_)
    · replace hf := it_t c1 hf
      obtain ⟨-, rfl⟩ := rt_ok hf
      exact hp_vret cx hB hr hlk (Nat.le_of_ble_eq_true rfl) (Nat.le_of_ble_eq_true rfl) dX11_layTraps_184
    · replace hf := it_f c1 hf
      refine lv_iconst (v := 0) hx hb dX11_layTraps_64 (by decide) ?_
      refine lv_istore_n (lv' := [(1, .int 0), (0, .ref t0)]) hx hb dX11_layTraps_65 rfl hl (by decide) rfl (fun ls hl => ?_)
      refine lv_iconst (v := 0) hx hb dX11_layTraps_66 (by decide) ?_
      refine lv_istore_n (lv' := [(2, .int 0), (1, .int 0), (0, .ref t0)]) hx hb dX11_layTraps_67 rfl hl (by decide) rfl (fun ls hl => ?_)
      exact tX11_layTraps_68 cx hr hlk ih NF t0 0 0 h _ _ _ hB (lv_sub hl [2, 1, 0] rfl) hf
set_option maxHeartbeats 4000000 in
set_option maxRecDepth 100000 in
theorem tX11_layTraps_2  (cx : CallFix p m c prog_13_method_41_code 4 s args tbG RX11) (hr : meth.sig.returnType = none) (hlk : meth.locks = false)  (n : Nat) : ∀ (t0 : Nat) (v1 : Int32) (h : Hp) (H : Heap) (locs : List Loc) (ls : Array Slot), hp_B D cA (hp_A h0) s h H locs → lv_has ls 4 [(0, .ref t0), (1, .int v1)] → fx (bX11_layTraps_2 ) (fun _ _ _ => none) n t0 v1 h = some ((), h9) → W p l e rmX11_layTraps s m args below meth c H locs 0 0 (MQ below (hp_Qv D cA h0 h9) args s 0 0 (hp_A h0)) (F0 m 2 ls []) := by
  obtain ⟨hx, hb, -⟩ := id cx
  induction n with
  | zero => intro t0 v1 h H locs ls hB hl hf; cases hf
  | succ n ih =>
    intro t0 v1 h H locs ls hB hl hf
    replace hf : bX11_layTraps_2  (fx (bX11_layTraps_2 ) (fun _ _ _ => none) n) t0 v1 h = some ((), h9) := hf
    unfold bX11_layTraps_2 at hf
    refine lv_iload_n hx hb dX11_layTraps_2 rfl (lv_at hl 1 rfl) ?_
    refine lv_bipush (v := 40) hx hb dX11_layTraps_3 (by decide) ?_
    refine lv_icmp_ge (tgt := 58) hx hb dX11_layTraps_5 (by decide) (fun c1 => ?_) (fun c1 => ?_)
    · replace hf := it_t c1 hf
      refine lv_iconst (v := 1) hx hb dX11_layTraps_58 (by decide) ?_
      refine lv_istore_n (lv' := [(1, .int 1), (0, .ref t0)]) hx hb dX11_layTraps_59 rfl hl (by decide) rfl (fun ls hl => ?_)
      exact tX11_layTraps_60 cx hr hlk  NF t0 1 h _ _ _ hB (lv_sub hl [1, 0] rfl) hf
    · replace hf := it_f c1 hf
      refine lv_aload_n hx hb dX11_layTraps_8 rfl (lv_at hl 0 rfl) ?_
      obtain ⟨k2, hf⟩ := gk_ok hf
      obtain ⟨a3, q4, hf⟩ := bd_ok hf
      refine gf_X11_95 cx hB k2 q4 dX11_layTraps_9 ?_
      refine lv_iload_n hx hb dX11_layTraps_12 rfl (lv_at hl 1 rfl) ?_
      refine lv_iload_n hx hb dX11_layTraps_13 rfl (lv_at hl 1 rfl) ?_
      refine lv_if_ne (tgt := 21) hx hb dX11_layTraps_14 (by decide) (fun c5 => ?_) (fun c5 => ?_)
      · replace hf := it_f c5 hf
        refine lv_iconst (v := 0) hx hb dX11_layTraps_21 (by decide) ?_
        exact tX11_layTraps_22 cx hr hlk ih t0 v1 0 v1 a3 h _ _ _ hB (lv_sub hl [0, 1] rfl) hf
      · replace hf := it_t c5 hf
        refine lv_iconst (v := 1) hx hb dX11_layTraps_17 (by decide) ?_
        refine lv_goto (tgt := 22) hx hb dX11_layTraps_18 (by decide) ?_
        exact tX11_layTraps_22 cx hr hlk ih t0 v1 1 v1 a3 h _ _ _ hB (lv_sub hl [0, 1] rfl) hf
set_option maxHeartbeats 4000000 in
set_option maxRecDepth 100000 in
theorem tX11_layTraps_0  (cx : CallFix p m c prog_13_method_41_code 4 s args tbG RX11) (hr : meth.sig.returnType = none) (hlk : meth.locks = false)  (t0 : Nat) (h : Hp) (H : Heap) (locs : List Loc) (ls : Array Slot) (hB : hp_B D cA (hp_A h0) s h H locs) (hl : lv_has ls 4 [(0, .ref t0)]) (hf : fX11_layTraps  t0 h = some ((), h9)) : W p l e rmX11_layTraps s m args below meth c H locs 0 0 (MQ below (hp_Qv D cA h0 h9) args s 0 0 (hp_A h0)) (F0 m 0 ls []) := by
  obtain ⟨hx, hb, -⟩ := id cx
  unfold fX11_layTraps at hf
  refine lv_iconst (v := 0) hx hb dX11_layTraps_0 (by decide) ?_
  refine lv_istore_n (lv' := [(1, .int 0), (0, .ref t0)]) hx hb dX11_layTraps_1 rfl hl (by decide) rfl (fun ls hl => ?_)
  exact tX11_layTraps_2 cx hr hlk  NF t0 0 h _ _ _ hB (lv_sub hl [1, 0] rfl) hf
end
set_option maxHeartbeats 4000000 in
set_option maxRecDepth 100000 in
theorem cX11_layTraps (l : Launch) (D : va_G) (cA : Nat → ClassId) (t0 : Nat) (h : Hp) (_u : Unit) (h9 : Hp) (hf : fX11_layTraps t0 h = some (_u, h9)) : hp_M l yX11_layTraps prog_13_method_41_code 4 none rmX11_layTraps D cA h [.ref t0] (hp_Qv D cA h h9) := by
  refine Met.ofW (cc := prog_13_method_41_code) (maxL := 4) (ret := none) (by decide) rfl ?_
  intro p e s m args below meth c s₁ B hml hv
  obtain ⟨rfl, hU⟩ := hv
  have hts := atoms_spec (ws := Cond.code yX11_layTraps prog_13_method_41_code 4 none :: tbG) B.pre
  have hl := lv_entry ([.ref t0]) (n := 4) (Nat.le_of_ble_eq_true rfl)
  rw [lg_entry_eq]
  generalize (lg_sl ([.ref t0]) ++ List.replicate (4 - (lg_sl ([.ref t0])).length) Slot.unset).toArray = ls at hl ⊢
  exact tX11_layTraps_0 ⟨B.exec, B.bytes, hml, findClass_of_methodNamed B.named, fun w hw => hts w (List.mem_cons_of_mem _ hw)⟩ B.returns B.notSynchronized t0 h _ _ _ (hp_B.entry hU) hl hf
