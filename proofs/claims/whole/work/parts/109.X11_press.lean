section
variable {p : Program} {l : Launch} {e : Env} {R : Room} {s : State} {m : MethodId} {args : Array Value} {below : List Frame} {meth : Method} {c : Code} {H : Heap} {locs : List Loc} {cells slots : Nat} {Q : State → Prop}
variable {cc : ByteArray} {pc nL : Nat} {ls : Array Slot} {rest : List Value} {D : va_G} {cA : Nat → ClassId} {A : Nat → Prop} {a : Nat} {h : Hp}
theorem gf_X11_196 (cx : CallFix p m c cc nL s args tbG RX11) (hB : hp_B D cA A s h H locs) (hka : h.1 a = 12) (hdg : decode cc pc = .ok (.getfield 196, 3)) (kk : W p l e R s m args below meth c H locs cells slots Q (F0 m (pc + 3) ls (.int (h.2.2.1 a 37) :: rest))) : W p l e R s m args below meth c H locs cells slots Q (F0 m pc ls (.ref a :: rest)) :=
  hp_getI cx hB (ci := 11) 37 rfl inX11 (by decide) rfl (by decide) rfl qw_769 hka hdg kk
theorem gf_X11_199 (cx : CallFix p m c cc nL s args tbG RX11) (hB : hp_B D cA A s h H locs) (hka : h.1 a = 12) (hdg : decode cc pc = .ok (.getfield 199, 3)) (kk : W p l e R s m args below meth c H locs cells slots Q (F0 m (pc + 3) ls (.int (h.2.2.1 a 34) :: rest))) : W p l e R s m args below meth c H locs cells slots Q (F0 m pc ls (.ref a :: rest)) :=
  hp_getI cx hB (ci := 11) 34 rfl inX11 (by decide) rfl (by decide) rfl qw_766 hka hdg kk
theorem gf_X11_202 (cx : CallFix p m c cc nL s args tbG RX11) (hB : hp_B D cA A s h H locs) (hka : h.1 a = 12) (hdg : decode cc pc = .ok (.getfield 202, 3)) (kk : W p l e R s m args below meth c H locs cells slots Q (F0 m (pc + 3) ls (.int (h.2.2.1 a 40) :: rest))) : W p l e R s m args below meth c H locs cells slots Q (F0 m pc ls (.ref a :: rest)) :=
  hp_getI cx hB (ci := 11) 40 rfl inX11 (by decide) rfl (by decide) rfl qw_772 hka hdg kk
theorem pf_X11_202 (cx : CallFix p m c cc nL s args tbG RX11) (hB : hp_B D cA A s h H locs) (hka : h.1 a = 12) {x : Int32} (hdg : decode cc pc = .ok (.putfield 202, 3)) (kk : ∀ (H1 : Heap) (locs1 : List Loc), hp_B D cA A s (hp_si h a 40 x) H1 locs1 → W p l e R s m args below meth c H1 locs1 cells slots Q (F0 m (pc + 3) ls rest)) : W p l e R s m args below meth c H locs cells slots Q (F0 m pc ls (.int x :: .ref a :: rest)) :=
  hp_putX cx hB (ci := 11) 40 tyX11 tyX11_ok nmX11 rfl inX11 (by decide) rfl (by decide) (Or.inl rfl) qw_772 hka (v := .int x) (hp_like_si h a 40 x) (hp_fs_si (by decide) rfl) rfl rfl hdg kk
theorem pf_X11_196 (cx : CallFix p m c cc nL s args tbG RX11) (hB : hp_B D cA A s h H locs) (hka : h.1 a = 12) {x : Int32} (hdg : decode cc pc = .ok (.putfield 196, 3)) (kk : ∀ (H1 : Heap) (locs1 : List Loc), hp_B D cA A s (hp_si h a 37 x) H1 locs1 → W p l e R s m args below meth c H1 locs1 cells slots Q (F0 m (pc + 3) ls rest)) : W p l e R s m args below meth c H locs cells slots Q (F0 m pc ls (.int x :: .ref a :: rest)) :=
  hp_putX cx hB (ci := 11) 37 tyX11 tyX11_ok nmX11 rfl inX11 (by decide) rfl (by decide) (Or.inl rfl) qw_769 hka (v := .int x) (hp_like_si h a 37 x) (hp_fs_si (by decide) rfl) rfl rfl hdg kk
theorem gf_X11_92 (cx : CallFix p m c cc nL s args tbG RX11) (hB : hp_B D cA A s h H locs) (hka : h.1 a = 12) {b : Nat} (ho : h.2.2.2.1 a 44 = some b) (hdg : decode cc pc = .ok (.getfield 92, 3)) (kk : W p l e R s m args below meth c H locs cells slots Q (F0 m (pc + 3) ls (.ref b :: rest))) : W p l e R s m args below meth c H locs cells slots Q (F0 m pc ls (.ref a :: rest)) :=
  hp_getR cx hB (ci := 11) 44 rfl inX11 (by decide) rfl (by decide) rfl qw_776 hka (o := some b) ho.symm hdg kk
end
abbrev yX11_press : MethodName := ⟨"SpokenMenusModel", "press", "(I)V"⟩
theorem dX11_press_0 : decode prog_13_method_29_code 0 = .ok (.aload_n 0, 1) := by decide +kernel
theorem dX11_press_1 : decode prog_13_method_29_code 1 = .ok (.getfield 196, 3) := by decide +kernel
theorem dX11_press_4 : decode prog_13_method_29_code 4 = .ok (.aload_n 0, 1) := by decide +kernel
theorem dX11_press_5 : decode prog_13_method_29_code 5 = .ok (.getfield 199, 3) := by decide +kernel
theorem dX11_press_8 : decode prog_13_method_29_code 8 = .ok (.if_icmp .le 4, 3) := by decide +kernel
theorem dX11_press_11 : decode prog_13_method_29_code 11 = .ok (.return_, 1) := by decide +kernel
theorem dX11_press_12 : decode prog_13_method_29_code 12 = .ok (.aload_n 0, 1) := by decide +kernel
theorem dX11_press_13 : decode prog_13_method_29_code 13 = .ok (.getfield 202, 3) := by decide +kernel
theorem dX11_press_16 : decode prog_13_method_29_code 16 = .ok (.bipush 60, 2) := by decide +kernel
theorem dX11_press_18 : decode prog_13_method_29_code 18 = .ok (.if_icmp .ge 13, 3) := by decide +kernel
theorem dX11_press_21 : decode prog_13_method_29_code 21 = .ok (.aload_n 0, 1) := by decide +kernel
theorem dX11_press_22 : decode prog_13_method_29_code 22 = .ok (.getfield 92, 3) := by decide +kernel
theorem dX11_press_25 : decode prog_13_method_29_code 25 = .ok (.aload_n 0, 1) := by decide +kernel
theorem dX11_press_26 : decode prog_13_method_29_code 26 = .ok (.getfield 202, 3) := by decide +kernel
theorem dX11_press_29 : decode prog_13_method_29_code 29 = .ok (.iload_n 1, 1) := by decide +kernel
theorem dX11_press_30 : decode prog_13_method_29_code 30 = .ok (.iastore, 1) := by decide +kernel
theorem dX11_press_31 : decode prog_13_method_29_code 31 = .ok (.aload_n 0, 1) := by decide +kernel
theorem dX11_press_32 : decode prog_13_method_29_code 32 = .ok (.dup, 1) := by decide +kernel
theorem dX11_press_33 : decode prog_13_method_29_code 33 = .ok (.getfield 202, 3) := by decide +kernel
theorem dX11_press_36 : decode prog_13_method_29_code 36 = .ok (.iconst 1, 1) := by decide +kernel
theorem dX11_press_37 : decode prog_13_method_29_code 37 = .ok (.iadd, 1) := by decide +kernel
theorem dX11_press_38 : decode prog_13_method_29_code 38 = .ok (.putfield 202, 3) := by decide +kernel
theorem dX11_press_41 : decode prog_13_method_29_code 41 = .ok (.aload_n 0, 1) := by decide +kernel
theorem dX11_press_42 : decode prog_13_method_29_code 42 = .ok (.dup, 1) := by decide +kernel
theorem dX11_press_43 : decode prog_13_method_29_code 43 = .ok (.getfield 196, 3) := by decide +kernel
theorem dX11_press_46 : decode prog_13_method_29_code 46 = .ok (.iconst 1, 1) := by decide +kernel
theorem dX11_press_47 : decode prog_13_method_29_code 47 = .ok (.iadd, 1) := by decide +kernel
theorem dX11_press_48 : decode prog_13_method_29_code 48 = .ok (.putfield 196, 3) := by decide +kernel
theorem dX11_press_51 : decode prog_13_method_29_code 51 = .ok (.return_, 1) := by decide +kernel
abbrev rmX11_press : Room := { frames := 0, cells := 0, slots := 0, locals := 0 }
def fX11_press  (t0 : Nat) (v1 : Int32) (h : Hp) : Option (Unit × Hp) :=
  gk (h.1 t0) 12 <|
  if (h.2.2.1 t0 37) ≤ (h.2.2.1 t0 34) then
  (if 60 ≤ (h.2.2.1 t0 40) then
  (nm (hp_si h t0 40 ((h.2.2.1 t0 40) + 1)) fun g4 =>
  nm (hp_si g4 t0 37 ((g4.2.2.1 t0 37) + 1)) fun g6 =>
  some ((), g6))
  else
  (bd (h.2.2.2.1 t0 44) fun a7 =>
  gk (h.1 a7) 13 <|
  gd (ix (h.2.2.1 t0 40) (h.2.1 a7)) <|
  nm (hp_si h a7 (Int32.toNatClampNeg (h.2.2.1 t0 40)) v1) fun g11 =>
  nm (hp_si g11 t0 40 ((g11.2.2.1 t0 40) + 1)) fun g13 =>
  nm (hp_si g13 t0 37 ((g13.2.2.1 t0 37) + 1)) fun g15 =>
  some ((), g15)))
  else
  (some ((), h))
section
variable {p : Program} {l : Launch} {e : Env} {s : State} {m : MethodId} {args : Array Value} {below : List Frame} {meth : Method} {c : Code} {D : va_G} {cA : Nat → ClassId} {h0 h9 : Hp}
set_option maxHeartbeats 4000000 in
set_option maxRecDepth 100000 in
theorem tX11_press_0  (cx : CallFix p m c prog_13_method_29_code 2 s args tbG RX11) (hr : meth.sig.returnType = none) (hlk : meth.locks = false)  (t0 : Nat) (v1 : Int32) (h : Hp) (H : Heap) (locs : List Loc) (ls : Array Slot) (hB : hp_B D cA (hp_A h0) s h H locs) (hl : lv_has ls 2 [(0, .ref t0), (1, .int v1)]) (hf : fX11_press  t0 v1 h = some ((), h9)) : W p l e rmX11_press s m args below meth c H locs 0 0 (MQ below (hp_Qv D cA h0 h9) args s 0 0 (hp_A h0)) (F0 m 0 ls []) := by
  obtain ⟨hx, hb, -⟩ := id cx
  unfold fX11_press at hf
  refine lv_aload_n hx hb dX11_press_0 rfl (lv_at hl 0 rfl) ?_
  obtain ⟨k1, hf⟩ := gk_ok hf
  refine gf_X11_196 cx hB k1 dX11_press_1 ?_
  refine lv_aload_n hx hb dX11_press_4 rfl (lv_at hl 0 rfl) ?_
  refine gf_X11_199 cx hB k1 dX11_press_5 ?_
  refine lv_icmp_le (tgt := 12) hx hb dX11_press_8 (by decide) (fun c2 => ?_) (fun c2 => ?_)
  · replace hf := it_t c2 hf
    refine lv_aload_n hx hb dX11_press_12 rfl (lv_at hl 0 rfl) ?_
    refine gf_X11_202 cx hB k1 dX11_press_13 ?_
    refine lv_bipush (v := 60) hx hb dX11_press_16 (by decide) ?_
    refine lv_icmp_ge (tgt := 31) hx hb dX11_press_18 (by decide) (fun c3 => ?_) (fun c3 => ?_)
    · replace hf := it_t c3 hf
      refine lv_aload_n hx hb dX11_press_31 rfl (lv_at hl 0 rfl) ?_
      refine lv_dup hx hb dX11_press_32 rfl ?_
      refine gf_X11_202 cx hB k1 dX11_press_33 ?_
      refine lv_iconst (v := 1) hx hb dX11_press_36 (by decide) ?_
      refine lv_iadd hx hb dX11_press_37 ?_
      obtain ⟨g4, eg4, hf⟩ := nm_ok hf
      refine pf_X11_202 cx hB k1 dX11_press_38 (fun H locs hB => ?_)
      rw [← eg4] at hB
      refine lv_aload_n hx hb dX11_press_41 rfl (lv_at hl 0 rfl) ?_
      refine lv_dup hx hb dX11_press_42 rfl ?_
      have k5 : g4.1 t0 = 12 := by rw [eg4]; exact k1
      refine gf_X11_196 cx hB k5 dX11_press_43 ?_
      refine lv_iconst (v := 1) hx hb dX11_press_46 (by decide) ?_
      refine lv_iadd hx hb dX11_press_47 ?_
      obtain ⟨g6, eg6, hf⟩ := nm_ok hf
      refine pf_X11_196 cx hB k5 dX11_press_48 (fun H locs hB => ?_)
      rw [← eg6] at hB
      obtain ⟨-, rfl⟩ := rt_ok hf
      exact hp_vret cx hB hr hlk (Nat.le_of_ble_eq_true rfl) (Nat.le_of_ble_eq_true rfl) dX11_press_51
    · replace hf := it_f c3 hf
      refine lv_aload_n hx hb dX11_press_21 rfl (lv_at hl 0 rfl) ?_
      obtain ⟨a7, q8, hf⟩ := bd_ok hf
      refine gf_X11_92 cx hB k1 q8 dX11_press_22 ?_
      refine lv_aload_n hx hb dX11_press_25 rfl (lv_at hl 0 rfl) ?_
      refine gf_X11_202 cx hB k1 dX11_press_26 ?_
      refine lv_iload_n hx hb dX11_press_29 rfl (lv_at hl 1 rfl) ?_
      obtain ⟨k9, hf⟩ := gk_ok hf
      obtain ⟨j10, hf⟩ := gd_ok hf
      obtain ⟨g11, eg11, hf⟩ := nm_ok hf
      refine hp_iast cx hB k9 j10 dX11_press_30 (fun H locs hB => ?_)
      rw [← eg11] at hB
      refine lv_aload_n hx hb dX11_press_31 rfl (lv_at hl 0 rfl) ?_
      refine lv_dup hx hb dX11_press_32 rfl ?_
      have k12 : g11.1 t0 = 12 := by rw [eg11]; exact k1
      refine gf_X11_202 cx hB k12 dX11_press_33 ?_
      refine lv_iconst (v := 1) hx hb dX11_press_36 (by decide) ?_
      refine lv_iadd hx hb dX11_press_37 ?_
      obtain ⟨g13, eg13, hf⟩ := nm_ok hf
      refine pf_X11_202 cx hB k12 dX11_press_38 (fun H locs hB => ?_)
      rw [← eg13] at hB
      refine lv_aload_n hx hb dX11_press_41 rfl (lv_at hl 0 rfl) ?_
      refine lv_dup hx hb dX11_press_42 rfl ?_
      have k14 : g13.1 t0 = 12 := by rw [eg13]; exact k12
      refine gf_X11_196 cx hB k14 dX11_press_43 ?_
      refine lv_iconst (v := 1) hx hb dX11_press_46 (by decide) ?_
      refine lv_iadd hx hb dX11_press_47 ?_
      obtain ⟨g15, eg15, hf⟩ := nm_ok hf
      refine pf_X11_196 cx hB k14 dX11_press_48 (fun H locs hB => ?_)
      rw [← eg15] at hB
      obtain ⟨-, rfl⟩ := rt_ok hf
      exact hp_vret cx hB hr hlk (Nat.le_of_ble_eq_true rfl) (Nat.le_of_ble_eq_true rfl) dX11_press_51
  · replace hf := it_f c2 hf
    obtain ⟨-, rfl⟩ := rt_ok hf
    exact hp_vret cx hB hr hlk (Nat.le_of_ble_eq_true rfl) (Nat.le_of_ble_eq_true rfl) dX11_press_11
end
set_option maxHeartbeats 4000000 in
set_option maxRecDepth 100000 in
theorem cX11_press (l : Launch) (D : va_G) (cA : Nat → ClassId) (t0 : Nat) (v1 : Int32) (h : Hp) (_u : Unit) (h9 : Hp) (hf : fX11_press t0 v1 h = some (_u, h9)) : hp_M l yX11_press prog_13_method_29_code 2 none rmX11_press D cA h [.ref t0, .int v1] (hp_Qv D cA h h9) := by
  refine Met.ofW (cc := prog_13_method_29_code) (maxL := 2) (ret := none) (by decide) rfl ?_
  intro p e s m args below meth c s₁ B hml hv
  obtain ⟨rfl, hU⟩ := hv
  have hts := atoms_spec (ws := Cond.code yX11_press prog_13_method_29_code 2 none :: tbG) B.pre
  have hl := lv_entry ([.ref t0, .int v1]) (n := 2) (Nat.le_of_ble_eq_true rfl)
  rw [lg_entry_eq]
  generalize (lg_sl ([.ref t0, .int v1]) ++ List.replicate (2 - (lg_sl ([.ref t0, .int v1])).length) Slot.unset).toArray = ls at hl ⊢
  exact tX11_press_0 ⟨B.exec, B.bytes, hml, findClass_of_methodNamed B.named, fun w hw => hts w (List.mem_cons_of_mem _ hw)⟩ B.returns B.notSynchronized t0 v1 h _ _ _ (hp_B.entry hU) hl hf
section
variable {p : Program} {l : Launch} {e : Env} {R : Room} {s : State} {m : MethodId} {args : Array Value} {below : List Frame} {meth : Method} {c : Code} {H : Heap} {locs : List Loc} {cells slots : Nat} {Q : State → Prop}
variable {cc : ByteArray} {pc nL : Nat} {ls : Array Slot} {rest : List Value} {D : va_G} {cA : Nat → ClassId} {A : Nat → Prop} {a : Nat} {h : Hp}
theorem cl_X11_205 {As st0 : List Value} {b : Nat} {Qc : Array Value → State → Outcome → State → Prop} (cx : CallFix p m c cc nL s args tbG RX11) (hB : hp_B D cA A s h H locs) (hM : hp_M l yX11_press prog_13_method_29_code 2 none rmX11_press D cA h (.ref b :: As) Qc) (hkb : h.1 b = 12) (hR : rmX11_press.frames + 1 ≤ R.frames ∧ 8 + (2 + 11) + rmX11_press.locals ≤ R.locals) (hn : As.length = 1) (hls : ls.size = nL) (hst : st0 = As.reverse ++ .ref b :: rest) (hW : (rest.map fun v => v.category).sum ≤ 8) (hf : cells + rmX11_press.cells ≤ R.cells ∧ slots + rmX11_press.slots ≤ R.slots) (hdg : decode cc pc = .ok (.invokevirtual 205, 3)) :
    va_Run p l e R s m args below meth c H locs cells slots rmX11_press.cells rmX11_press.slots (F0 m pc ls st0) rest (Qc (Value.ref b :: As).toArray) (hp_A h) :=
  hp_runV cx hB hM (ci := 11) rfl (by decide) hkb qw_1037 qw_1034 qw_1036 qp_33 qw_10 (by decide +kernel) hR hn hls hst hW hf hdg
end
abbrev yX11_goOn : MethodName := ⟨"SpokenMenusModel", "goOn", "(IZ)I"⟩
theorem dX11_goOn_0 : decode prog_13_method_30_code 0 = .ok (.iload_n 2, 1) := by decide +kernel
theorem dX11_goOn_1 : decode prog_13_method_30_code 1 = .ok (.ifCond .eq 101, 3) := by decide +kernel
theorem dX11_goOn_4 : decode prog_13_method_30_code 4 = .ok (.aload_n 0, 1) := by decide +kernel
theorem dX11_goOn_5 : decode prog_13_method_30_code 5 = .ok (.iload_n 1, 1) := by decide +kernel
theorem dX11_goOn_6 : decode prog_13_method_30_code 6 = .ok (.invokevirtual 190, 3) := by decide +kernel
theorem dX11_goOn_9 : decode prog_13_method_30_code 9 = .ok (.istore_n 3, 1) := by decide +kernel
theorem dX11_goOn_10 : decode prog_13_method_30_code 10 = .ok (.iconst 0, 1) := by decide +kernel
theorem dX11_goOn_11 : decode prog_13_method_30_code 11 = .ok (.istore 4, 2) := by decide +kernel
theorem dX11_goOn_13 : decode prog_13_method_30_code 13 = .ok (.iload 4, 2) := by decide +kernel
theorem dX11_goOn_15 : decode prog_13_method_30_code 15 = .ok (.aload_n 0, 1) := by decide +kernel
theorem dX11_goOn_16 : decode prog_13_method_30_code 16 = .ok (.getfield 37, 3) := by decide +kernel
theorem dX11_goOn_19 : decode prog_13_method_30_code 19 = .ok (.iload_n 1, 1) := by decide +kernel
theorem dX11_goOn_20 : decode prog_13_method_30_code 20 = .ok (.iaload, 1) := by decide +kernel
theorem dX11_goOn_21 : decode prog_13_method_30_code 21 = .ok (.if_icmp .ge 64, 3) := by decide +kernel
theorem dX11_goOn_24 : decode prog_13_method_30_code 24 = .ok (.aload_n 0, 1) := by decide +kernel
theorem dX11_goOn_25 : decode prog_13_method_30_code 25 = .ok (.iconst 1, 1) := by decide +kernel
theorem dX11_goOn_26 : decode prog_13_method_30_code 26 = .ok (.aload_n 0, 1) := by decide +kernel
theorem dX11_goOn_27 : decode prog_13_method_30_code 27 = .ok (.getfield 49, 3) := by decide +kernel
theorem dX11_goOn_30 : decode prog_13_method_30_code 30 = .ok (.bipush 6, 2) := by decide +kernel
theorem dX11_goOn_32 : decode prog_13_method_30_code 32 = .ok (.iload_n 1, 1) := by decide +kernel
theorem dX11_goOn_33 : decode prog_13_method_30_code 33 = .ok (.imul, 1) := by decide +kernel
theorem dX11_goOn_34 : decode prog_13_method_30_code 34 = .ok (.iload 4, 2) := by decide +kernel
theorem dX11_goOn_36 : decode prog_13_method_30_code 36 = .ok (.iadd, 1) := by decide +kernel
theorem dX11_goOn_37 : decode prog_13_method_30_code 37 = .ok (.iaload, 1) := by decide +kernel
theorem dX11_goOn_38 : decode prog_13_method_30_code 38 = .ok (.invokevirtual 180, 3) := by decide +kernel
theorem dX11_goOn_41 : decode prog_13_method_30_code 41 = .ok (.aload_n 0, 1) := by decide +kernel
theorem dX11_goOn_42 : decode prog_13_method_30_code 42 = .ok (.getfield 82, 3) := by decide +kernel
theorem dX11_goOn_45 : decode prog_13_method_30_code 45 = .ok (.iload_n 1, 1) := by decide +kernel
theorem dX11_goOn_46 : decode prog_13_method_30_code 46 = .ok (.iaload, 1) := by decide +kernel
theorem dX11_goOn_47 : decode prog_13_method_30_code 47 = .ok (.if_icmp .ne 32, 3) := by decide +kernel
theorem dX11_goOn_50 : decode prog_13_method_30_code 50 = .ok (.aload_n 0, 1) := by decide +kernel
theorem dX11_goOn_51 : decode prog_13_method_30_code 51 = .ok (.aload_n 0, 1) := by decide +kernel
theorem dX11_goOn_52 : decode prog_13_method_30_code 52 = .ok (.getfield 43, 3) := by decide +kernel
theorem dX11_goOn_55 : decode prog_13_method_30_code 55 = .ok (.bipush 6, 2) := by decide +kernel
theorem dX11_goOn_57 : decode prog_13_method_30_code 57 = .ok (.iload_n 1, 1) := by decide +kernel
theorem dX11_goOn_58 : decode prog_13_method_30_code 58 = .ok (.imul, 1) := by decide +kernel
theorem dX11_goOn_59 : decode prog_13_method_30_code 59 = .ok (.iload 4, 2) := by decide +kernel
theorem dX11_goOn_61 : decode prog_13_method_30_code 61 = .ok (.iadd, 1) := by decide +kernel
theorem dX11_goOn_62 : decode prog_13_method_30_code 62 = .ok (.iaload, 1) := by decide +kernel
theorem dX11_goOn_63 : decode prog_13_method_30_code 63 = .ok (.invokevirtual 205, 3) := by decide +kernel
theorem dX11_goOn_66 : decode prog_13_method_30_code 66 = .ok (.aload_n 0, 1) := by decide +kernel
theorem dX11_goOn_67 : decode prog_13_method_30_code 67 = .ok (.getfield 49, 3) := by decide +kernel
theorem dX11_goOn_70 : decode prog_13_method_30_code 70 = .ok (.bipush 6, 2) := by decide +kernel
theorem dX11_goOn_72 : decode prog_13_method_30_code 72 = .ok (.iload_n 1, 1) := by decide +kernel
theorem dX11_goOn_73 : decode prog_13_method_30_code 73 = .ok (.imul, 1) := by decide +kernel
theorem dX11_goOn_74 : decode prog_13_method_30_code 74 = .ok (.iload 4, 2) := by decide +kernel
theorem dX11_goOn_76 : decode prog_13_method_30_code 76 = .ok (.iadd, 1) := by decide +kernel
theorem dX11_goOn_77 : decode prog_13_method_30_code 77 = .ok (.iaload, 1) := by decide +kernel
theorem dX11_goOn_78 : decode prog_13_method_30_code 78 = .ok (.ireturn, 1) := by decide +kernel
theorem dX11_goOn_79 : decode prog_13_method_30_code 79 = .ok (.iinc 4 1, 3) := by decide +kernel
theorem dX11_goOn_82 : decode prog_13_method_30_code 82 = .ok (.goto (-69), 3) := by decide +kernel
theorem dX11_goOn_85 : decode prog_13_method_30_code 85 = .ok (.aload_n 0, 1) := by decide +kernel
theorem dX11_goOn_86 : decode prog_13_method_30_code 86 = .ok (.dup, 1) := by decide +kernel
theorem dX11_goOn_87 : decode prog_13_method_30_code 87 = .ok (.getfield 196, 3) := by decide +kernel
theorem dX11_goOn_90 : decode prog_13_method_30_code 90 = .ok (.iload_n 3, 1) := by decide +kernel
theorem dX11_goOn_91 : decode prog_13_method_30_code 91 = .ok (.iadd, 1) := by decide +kernel
theorem dX11_goOn_92 : decode prog_13_method_30_code 92 = .ok (.putfield 196, 3) := by decide +kernel
theorem dX11_goOn_95 : decode prog_13_method_30_code 95 = .ok (.aload_n 0, 1) := by decide +kernel
theorem dX11_goOn_96 : decode prog_13_method_30_code 96 = .ok (.getfield 19, 3) := by decide +kernel
theorem dX11_goOn_99 : decode prog_13_method_30_code 99 = .ok (.iload_n 1, 1) := by decide +kernel
theorem dX11_goOn_100 : decode prog_13_method_30_code 100 = .ok (.iaload, 1) := by decide +kernel
theorem dX11_goOn_101 : decode prog_13_method_30_code 101 = .ok (.ireturn, 1) := by decide +kernel
theorem dX11_goOn_102 : decode prog_13_method_30_code 102 = .ok (.iconst 0, 1) := by decide +kernel
theorem dX11_goOn_103 : decode prog_13_method_30_code 103 = .ok (.istore_n 3, 1) := by decide +kernel
theorem dX11_goOn_104 : decode prog_13_method_30_code 104 = .ok (.iload_n 3, 1) := by decide +kernel
theorem dX11_goOn_105 : decode prog_13_method_30_code 105 = .ok (.aload_n 0, 1) := by decide +kernel
theorem dX11_goOn_106 : decode prog_13_method_30_code 106 = .ok (.getfield 37, 3) := by decide +kernel
theorem dX11_goOn_109 : decode prog_13_method_30_code 109 = .ok (.iload_n 1, 1) := by decide +kernel
theorem dX11_goOn_110 : decode prog_13_method_30_code 110 = .ok (.iaload, 1) := by decide +kernel
theorem dX11_goOn_111 : decode prog_13_method_30_code 111 = .ok (.if_icmp .ge 78, 3) := by decide +kernel
theorem dX11_goOn_114 : decode prog_13_method_30_code 114 = .ok (.aload_n 0, 1) := by decide +kernel
theorem dX11_goOn_115 : decode prog_13_method_30_code 115 = .ok (.dup, 1) := by decide +kernel
theorem dX11_goOn_116 : decode prog_13_method_30_code 116 = .ok (.getfield 196, 3) := by decide +kernel
theorem dX11_goOn_119 : decode prog_13_method_30_code 119 = .ok (.aload_n 0, 1) := by decide +kernel
theorem dX11_goOn_120 : decode prog_13_method_30_code 120 = .ok (.getfield 40, 3) := by decide +kernel
theorem dX11_goOn_123 : decode prog_13_method_30_code 123 = .ok (.bipush 6, 2) := by decide +kernel
theorem dX11_goOn_125 : decode prog_13_method_30_code 125 = .ok (.iload_n 1, 1) := by decide +kernel
theorem dX11_goOn_126 : decode prog_13_method_30_code 126 = .ok (.imul, 1) := by decide +kernel
theorem dX11_goOn_127 : decode prog_13_method_30_code 127 = .ok (.iload_n 3, 1) := by decide +kernel
theorem dX11_goOn_128 : decode prog_13_method_30_code 128 = .ok (.iadd, 1) := by decide +kernel
theorem dX11_goOn_129 : decode prog_13_method_30_code 129 = .ok (.iaload, 1) := by decide +kernel
theorem dX11_goOn_130 : decode prog_13_method_30_code 130 = .ok (.iadd, 1) := by decide +kernel
theorem dX11_goOn_131 : decode prog_13_method_30_code 131 = .ok (.putfield 196, 3) := by decide +kernel
theorem dX11_goOn_134 : decode prog_13_method_30_code 134 = .ok (.aload_n 0, 1) := by decide +kernel
theorem dX11_goOn_135 : decode prog_13_method_30_code 135 = .ok (.getfield 46, 3) := by decide +kernel
theorem dX11_goOn_138 : decode prog_13_method_30_code 138 = .ok (.bipush 6, 2) := by decide +kernel
theorem dX11_goOn_140 : decode prog_13_method_30_code 140 = .ok (.iload_n 1, 1) := by decide +kernel
theorem dX11_goOn_141 : decode prog_13_method_30_code 141 = .ok (.imul, 1) := by decide +kernel
theorem dX11_goOn_142 : decode prog_13_method_30_code 142 = .ok (.iload_n 3, 1) := by decide +kernel
theorem dX11_goOn_143 : decode prog_13_method_30_code 143 = .ok (.iadd, 1) := by decide +kernel
theorem dX11_goOn_144 : decode prog_13_method_30_code 144 = .ok (.iaload, 1) := by decide +kernel
theorem dX11_goOn_145 : decode prog_13_method_30_code 145 = .ok (.aload_n 0, 1) := by decide +kernel
theorem dX11_goOn_146 : decode prog_13_method_30_code 146 = .ok (.getfield 169, 3) := by decide +kernel
theorem dX11_goOn_149 : decode prog_13_method_30_code 149 = .ok (.ishr, 1) := by decide +kernel
theorem dX11_goOn_150 : decode prog_13_method_30_code 150 = .ok (.iconst 1, 1) := by decide +kernel
theorem dX11_goOn_151 : decode prog_13_method_30_code 151 = .ok (.iand, 1) := by decide +kernel
theorem dX11_goOn_152 : decode prog_13_method_30_code 152 = .ok (.iconst 1, 1) := by decide +kernel
theorem dX11_goOn_153 : decode prog_13_method_30_code 153 = .ok (.if_icmp .ne 30, 3) := by decide +kernel
theorem dX11_goOn_156 : decode prog_13_method_30_code 156 = .ok (.aload_n 0, 1) := by decide +kernel
theorem dX11_goOn_157 : decode prog_13_method_30_code 157 = .ok (.aload_n 0, 1) := by decide +kernel
theorem dX11_goOn_158 : decode prog_13_method_30_code 158 = .ok (.getfield 43, 3) := by decide +kernel
theorem dX11_goOn_161 : decode prog_13_method_30_code 161 = .ok (.bipush 6, 2) := by decide +kernel
theorem dX11_goOn_163 : decode prog_13_method_30_code 163 = .ok (.iload_n 1, 1) := by decide +kernel
theorem dX11_goOn_164 : decode prog_13_method_30_code 164 = .ok (.imul, 1) := by decide +kernel
theorem dX11_goOn_165 : decode prog_13_method_30_code 165 = .ok (.iload_n 3, 1) := by decide +kernel
theorem dX11_goOn_166 : decode prog_13_method_30_code 166 = .ok (.iadd, 1) := by decide +kernel
theorem dX11_goOn_167 : decode prog_13_method_30_code 167 = .ok (.iaload, 1) := by decide +kernel
theorem dX11_goOn_168 : decode prog_13_method_30_code 168 = .ok (.invokevirtual 205, 3) := by decide +kernel
theorem dX11_goOn_171 : decode prog_13_method_30_code 171 = .ok (.aload_n 0, 1) := by decide +kernel
theorem dX11_goOn_172 : decode prog_13_method_30_code 172 = .ok (.getfield 49, 3) := by decide +kernel
theorem dX11_goOn_175 : decode prog_13_method_30_code 175 = .ok (.bipush 6, 2) := by decide +kernel
theorem dX11_goOn_177 : decode prog_13_method_30_code 177 = .ok (.iload_n 1, 1) := by decide +kernel
theorem dX11_goOn_178 : decode prog_13_method_30_code 178 = .ok (.imul, 1) := by decide +kernel
theorem dX11_goOn_179 : decode prog_13_method_30_code 179 = .ok (.iload_n 3, 1) := by decide +kernel
theorem dX11_goOn_180 : decode prog_13_method_30_code 180 = .ok (.iadd, 1) := by decide +kernel
theorem dX11_goOn_181 : decode prog_13_method_30_code 181 = .ok (.iaload, 1) := by decide +kernel
theorem dX11_goOn_182 : decode prog_13_method_30_code 182 = .ok (.ireturn, 1) := by decide +kernel
theorem dX11_goOn_183 : decode prog_13_method_30_code 183 = .ok (.iinc 3 1, 3) := by decide +kernel
theorem dX11_goOn_186 : decode prog_13_method_30_code 186 = .ok (.goto (-82), 3) := by decide +kernel
theorem dX11_goOn_189 : decode prog_13_method_30_code 189 = .ok (.aload_n 0, 1) := by decide +kernel
theorem dX11_goOn_190 : decode prog_13_method_30_code 190 = .ok (.aload_n 0, 1) := by decide +kernel
theorem dX11_goOn_191 : decode prog_13_method_30_code 191 = .ok (.getfield 196, 3) := by decide +kernel
theorem dX11_goOn_194 : decode prog_13_method_30_code 194 = .ok (.aload_n 0, 1) := by decide +kernel
theorem dX11_goOn_195 : decode prog_13_method_30_code 195 = .ok (.iload_n 1, 1) := by decide +kernel
theorem dX11_goOn_196 : decode prog_13_method_30_code 196 = .ok (.invokevirtual 190, 3) := by decide +kernel
theorem dX11_goOn_199 : decode prog_13_method_30_code 199 = .ok (.aload_n 0, 1) := by decide +kernel
theorem dX11_goOn_200 : decode prog_13_method_30_code 200 = .ok (.getfield 16, 3) := by decide +kernel
theorem dX11_goOn_203 : decode prog_13_method_30_code 203 = .ok (.iload_n 1, 1) := by decide +kernel
theorem dX11_goOn_204 : decode prog_13_method_30_code 204 = .ok (.iaload, 1) := by decide +kernel
theorem dX11_goOn_205 : decode prog_13_method_30_code 205 = .ok (.idiv, 1) := by decide +kernel
theorem dX11_goOn_206 : decode prog_13_method_30_code 206 = .ok (.isub, 1) := by decide +kernel
theorem dX11_goOn_207 : decode prog_13_method_30_code 207 = .ok (.aload_n 0, 1) := by decide +kernel
theorem dX11_goOn_208 : decode prog_13_method_30_code 208 = .ok (.getfield 13, 3) := by decide +kernel
theorem dX11_goOn_211 : decode prog_13_method_30_code 211 = .ok (.iload_n 1, 1) := by decide +kernel
theorem dX11_goOn_212 : decode prog_13_method_30_code 212 = .ok (.iaload, 1) := by decide +kernel
theorem dX11_goOn_213 : decode prog_13_method_30_code 213 = .ok (.iadd, 1) := by decide +kernel
theorem dX11_goOn_214 : decode prog_13_method_30_code 214 = .ok (.aload_n 0, 1) := by decide +kernel
theorem dX11_goOn_215 : decode prog_13_method_30_code 215 = .ok (.iload_n 1, 1) := by decide +kernel
theorem dX11_goOn_216 : decode prog_13_method_30_code 216 = .ok (.invokevirtual 190, 3) := by decide +kernel
theorem dX11_goOn_219 : decode prog_13_method_30_code 219 = .ok (.iadd, 1) := by decide +kernel
theorem dX11_goOn_220 : decode prog_13_method_30_code 220 = .ok (.putfield 196, 3) := by decide +kernel
theorem dX11_goOn_223 : decode prog_13_method_30_code 223 = .ok (.aload_n 0, 1) := by decide +kernel
theorem dX11_goOn_224 : decode prog_13_method_30_code 224 = .ok (.getfield 19, 3) := by decide +kernel
theorem dX11_goOn_227 : decode prog_13_method_30_code 227 = .ok (.iload_n 1, 1) := by decide +kernel
theorem dX11_goOn_228 : decode prog_13_method_30_code 228 = .ok (.iaload, 1) := by decide +kernel
theorem dX11_goOn_229 : decode prog_13_method_30_code 229 = .ok (.ireturn, 1) := by decide +kernel
abbrev rmX11_goOn : Room := { frames := 4, cells := 0, slots := 0, locals := 87 }
def bX11_goOn_13  (rc : Nat → Int32 → Int32 → Int32 → Hp → Option (Int32 × Hp)) (t0 : Nat) (v1 : Int32) (v3 : Int32) (v4 : Int32) (h : Hp) : Option (Int32 × Hp) :=
  gk (h.1 t0) 12 <|
  bd (h.2.2.2.1 t0 10) fun a2 =>
  gk (h.1 a2) 13 <|
  gd (ix v1 (h.2.1 a2)) <|
  if (h.2.2.1 a2 (Int32.toNatClampNeg v1)) ≤ v4 then
  (nm (hp_si h t0 37 ((h.2.2.1 t0 37) + v3)) fun g7 =>
  bd (g7.2.2.2.1 t0 4) fun a9 =>
  gk (g7.1 a9) 13 <|
  gd (ix v1 (g7.2.1 a9)) <|
  some (g7.2.2.1 a9 (Int32.toNatClampNeg v1), g7))
  else
  (bd (h.2.2.2.1 t0 14) fun a13 =>
  gk (h.1 a13) 13 <|
  gd (ix ((6 * v1) + v4) (h.2.1 a13)) <|
  b2 (fX11_through t0 1 (h.2.2.1 a13 (Int32.toNatClampNeg ((6 * v1) + v4))) h) fun r19 g17 =>
  gk (g17.1 t0) 12 <|
  bd (g17.2.2.2.1 t0 36) fun a22 =>
  gk (g17.1 a22) 13 <|
  gd (ix v1 (g17.2.1 a22)) <|
  if r19 = (g17.2.2.1 a22 (Int32.toNatClampNeg v1)) then
  (bd (g17.2.2.2.1 t0 12) fun a28 =>
  gk (g17.1 a28) 13 <|
  gd (ix ((6 * v1) + v4) (g17.2.1 a28)) <|
  b2 (fX11_press t0 (g17.2.2.1 a28 (Int32.toNatClampNeg ((6 * v1) + v4))) g17) fun _ g32 =>
  gk (g32.1 t0) 12 <|
  bd (g32.2.2.2.1 t0 14) fun a37 =>
  gk (g32.1 a37) 13 <|
  gd (ix ((6 * v1) + v4) (g32.2.1 a37)) <|
  some (g32.2.2.1 a37 (Int32.toNatClampNeg ((6 * v1) + v4)), g32))
  else
  (nm (v4 + 1) fun x27 =>
  rc t0 v1 v3 x27 g17))
def fX11_goOn_13  : Nat → Int32 → Int32 → Int32 → Hp → Option (Int32 × Hp) := fx (bX11_goOn_13 ) (fun _ _ _ _ _ => none) NF
def bX11_goOn_104  (rc : Nat → Int32 → Int32 → Hp → Option (Int32 × Hp)) (t0 : Nat) (v1 : Int32) (v3 : Int32) (h : Hp) : Option (Int32 × Hp) :=
  gk (h.1 t0) 12 <|
  bd (h.2.2.2.1 t0 10) fun a2 =>
  gk (h.1 a2) 13 <|
  gd (ix v1 (h.2.1 a2)) <|
  if (h.2.2.1 a2 (Int32.toNatClampNeg v1)) ≤ v3 then
  (b2 (fX11_heard t0 v1 h) fun r9 g7 =>
  gk (g7.1 t0) 12 <|
  bd (g7.2.2.2.1 t0 3) fun a12 =>
  gk (g7.1 a12) 13 <|
  gd (ix v1 (g7.2.1 a12)) <|
  gd (decide (¬ (g7.2.2.1 a12 (Int32.toNatClampNeg v1)) = 0)) <|
  bd (g7.2.2.2.1 t0 2) fun a17 =>
  gk (g7.1 a17) 13 <|
  gd (ix v1 (g7.2.1 a17)) <|
  b2 (fX11_heard t0 v1 g7) fun r23 g21 =>
  gk (g21.1 t0) 12 <|
  nm (hp_si g21 t0 37 ((((h.2.2.1 t0 37) - (r9 / (g7.2.2.1 a12 (Int32.toNatClampNeg v1)))) + (g7.2.2.1 a17 (Int32.toNatClampNeg v1))) + r23)) fun g26 =>
  bd (g26.2.2.2.1 t0 4) fun a28 =>
  gk (g26.1 a28) 13 <|
  gd (ix v1 (g26.2.1 a28)) <|
  some (g26.2.2.1 a28 (Int32.toNatClampNeg v1), g26))
  else
  (bd (h.2.2.2.1 t0 11) fun a32 =>
  gk (h.1 a32) 13 <|
  gd (ix ((6 * v1) + v3) (h.2.1 a32)) <|
  nm (hp_si h t0 37 ((h.2.2.1 t0 37) + (h.2.2.1 a32 (Int32.toNatClampNeg ((6 * v1) + v3))))) fun g36 =>
  bd (g36.2.2.2.1 t0 13) fun a38 =>
  gk (g36.1 a38) 13 <|
  gd (ix ((6 * v1) + v3) (g36.2.1 a38)) <|
  if (((g36.2.2.1 a38 (Int32.toNatClampNeg ((6 * v1) + v3))) >>> ((g36.2.2.1 t0 32) &&& 31)) &&& 1) = 1 then
  (bd (g36.2.2.2.1 t0 12) fun a44 =>
  gk (g36.1 a44) 13 <|
  gd (ix ((6 * v1) + v3) (g36.2.1 a44)) <|
  b2 (fX11_press t0 (g36.2.2.1 a44 (Int32.toNatClampNeg ((6 * v1) + v3))) g36) fun _ g48 =>
  gk (g48.1 t0) 12 <|
  bd (g48.2.2.2.1 t0 14) fun a53 =>
  gk (g48.1 a53) 13 <|
  gd (ix ((6 * v1) + v3) (g48.2.1 a53)) <|
  some (g48.2.2.1 a53 (Int32.toNatClampNeg ((6 * v1) + v3)), g48))
  else
  (nm (v3 + 1) fun x43 =>
  rc t0 v1 x43 g36))
def fX11_goOn_104  : Nat → Int32 → Int32 → Hp → Option (Int32 × Hp) := fx (bX11_goOn_104 ) (fun _ _ _ _ => none) NF
def fX11_goOn  (t0 : Nat) (v1 : Int32) (v2 : Int32) (h : Hp) : Option (Int32 × Hp) :=
  if v2 = 0 then
  (fX11_goOn_104  t0 v1 0 h)
  else
  (gk (h.1 t0) 12 <|
  b2 (fX11_heard t0 v1 h) fun r5 g3 =>
  fX11_goOn_13  t0 v1 r5 0 g3)
section
variable {p : Program} {l : Launch} {e : Env} {s : State} {m : MethodId} {args : Array Value} {below : List Frame} {meth : Method} {c : Code} {D : va_G} {cA : Nat → ClassId} {h0 h9 : Hp}
set_option maxHeartbeats 4000000 in
set_option maxRecDepth 100000 in
theorem tX11_goOn_13  {r : Int32} (cx : CallFix p m c prog_13_method_30_code 5 s args tbG RX11) (hr : meth.sig.returnType = (Option.some FieldType.int)) (hlk : meth.locks = false)  (n : Nat) : ∀ (t0 : Nat) (v1 : Int32) (v3 : Int32) (v4 : Int32) (h : Hp) (H : Heap) (locs : List Loc) (ls : Array Slot), hp_B D cA (hp_A h0) s h H locs → lv_has ls 5 [(0, .ref t0), (1, .int v1), (3, .int v3), (4, .int v4)] → fx (bX11_goOn_13 ) (fun _ _ _ _ _ => none) n t0 v1 v3 v4 h = some (r, h9) → W p l e rmX11_goOn s m args below meth c H locs 0 0 (MQ below (hp_Qi D cA h0 h9 r) args s 0 0 (hp_A h0)) (F0 m 13 ls []) := by
  obtain ⟨hx, hb, -⟩ := id cx
  induction n with
  | zero => intro t0 v1 v3 v4 h H locs ls hB hl hf; cases hf
  | succ n ih =>
    intro t0 v1 v3 v4 h H locs ls hB hl hf
    replace hf : bX11_goOn_13  (fx (bX11_goOn_13 ) (fun _ _ _ _ _ => none) n) t0 v1 v3 v4 h = some (r, h9) := hf
    unfold bX11_goOn_13 at hf
    refine lv_iload hx hb dX11_goOn_13 (lv_at hl 3 rfl) ?_
    refine lv_aload_n hx hb dX11_goOn_15 rfl (lv_at hl 0 rfl) ?_
    obtain ⟨k1, hf⟩ := gk_ok hf
    obtain ⟨a2, q3, hf⟩ := bd_ok hf
    refine gf_X11_37 cx hB k1 q3 dX11_goOn_16 ?_
    refine lv_iload_n hx hb dX11_goOn_19 rfl (lv_at hl 1 rfl) ?_
    obtain ⟨k4, hf⟩ := gk_ok hf
    obtain ⟨j5, hf⟩ := gd_ok hf
    refine hp_iald cx hB k4 j5 dX11_goOn_20 ?_
    refine lv_icmp_ge (tgt := 85) hx hb dX11_goOn_21 (by decide) (fun c6 => ?_) (fun c6 => ?_)
    · replace hf := it_t c6 hf
      refine lv_aload_n hx hb dX11_goOn_85 rfl (lv_at hl 0 rfl) ?_
      refine lv_dup hx hb dX11_goOn_86 rfl ?_
      refine gf_X11_196 cx hB k1 dX11_goOn_87 ?_
      refine lv_iload_n hx hb dX11_goOn_90 rfl (lv_at hl 2 rfl) ?_
      refine lv_iadd hx hb dX11_goOn_91 ?_
      obtain ⟨g7, eg7, hf⟩ := nm_ok hf
      refine pf_X11_196 cx hB k1 dX11_goOn_92 (fun H locs hB => ?_)
      rw [← eg7] at hB
      refine lv_aload_n hx hb dX11_goOn_95 rfl (lv_at hl 0 rfl) ?_
      have k8 : g7.1 t0 = 12 := by rw [eg7]; exact k1
      obtain ⟨a9, q10, hf⟩ := bd_ok hf
      refine gf_X11_19 cx hB k8 q10 dX11_goOn_96 ?_
      refine lv_iload_n hx hb dX11_goOn_99 rfl (lv_at hl 1 rfl) ?_
      obtain ⟨k11, hf⟩ := gk_ok hf
      obtain ⟨j12, hf⟩ := gd_ok hf
      refine hp_iald cx hB k11 j12 dX11_goOn_100 ?_
      obtain ⟨rfl, rfl⟩ := rt_ok hf
      exact hp_iret cx hB hr hlk (Nat.le_of_ble_eq_true rfl) (Nat.le_of_ble_eq_true rfl) dX11_goOn_101
    · replace hf := it_f c6 hf
      refine lv_aload_n hx hb dX11_goOn_24 rfl (lv_at hl 0 rfl) ?_
      refine lv_iconst (v := 1) hx hb dX11_goOn_25 (by decide) ?_
      refine lv_aload_n hx hb dX11_goOn_26 rfl (lv_at hl 0 rfl) ?_
      obtain ⟨a13, q14, hf⟩ := bd_ok hf
      refine gf_X11_49 cx hB k1 q14 dX11_goOn_27 ?_
      refine lv_bipush (v := 6) hx hb dX11_goOn_30 (by decide) ?_
      refine lv_iload_n hx hb dX11_goOn_32 rfl (lv_at hl 1 rfl) ?_
      refine lv_imul hx hb dX11_goOn_33 ?_
      refine lv_iload hx hb dX11_goOn_34 (lv_at hl 3 rfl) ?_
      refine lv_iadd hx hb dX11_goOn_36 ?_
      obtain ⟨k15, hf⟩ := gk_ok hf
      obtain ⟨j16, hf⟩ := gd_ok hf
      refine hp_iald cx hB k15 j16 dX11_goOn_37 ?_
      obtain ⟨r19, g17, m18, hf⟩ := b2_ok hf
      refine hp_cI0 (cl_X11_180 cx hB (cX11_through l D cA t0 1 (h.2.2.1 a13 (Int32.toNatClampNeg ((6 * v1) + v4))) h _ g17 m18) k1 ⟨Nat.le_of_ble_eq_true rfl, Nat.le_of_ble_eq_true rfl⟩ rfl hl.1 rfl (Nat.le_of_ble_eq_true rfl) ⟨Nat.le_of_ble_eq_true rfl, Nat.le_of_ble_eq_true rfl⟩ dX11_goOn_38) rfl rfl hB (fun H locs hB => ?_)
      refine lv_aload_n hx hb dX11_goOn_41 rfl (lv_at hl 0 rfl) ?_
      obtain ⟨k21, hf⟩ := gk_ok hf
      obtain ⟨a22, q23, hf⟩ := bd_ok hf
      refine gf_X11_82 cx hB k21 q23 dX11_goOn_42 ?_
      refine lv_iload_n hx hb dX11_goOn_45 rfl (lv_at hl 1 rfl) ?_
      obtain ⟨k24, hf⟩ := gk_ok hf
      obtain ⟨j25, hf⟩ := gd_ok hf
      refine hp_iald cx hB k24 j25 dX11_goOn_46 ?_
      refine lv_icmp_ne (tgt := 79) hx hb dX11_goOn_47 (by decide) (fun c26 => ?_) (fun c26 => ?_)
      · replace hf := it_f c26 hf
        obtain ⟨x27, ex27, hf⟩ := nm_ok hf
        refine lv_iinc (v := x27) (lv' := [(4, .int x27), (0, .ref t0), (1, .int v1), (3, .int v3)]) hx hb dX11_goOn_79 hl (k := 3) rfl (by rw [ex27]; rfl) (by decide) rfl (fun ls hl => ?_)
        refine lv_goto (tgt := 13) hx hb dX11_goOn_82 (by decide) ?_
        exact ih t0 v1 v3 x27 g17 _ _ _ hB (lv_sub hl [1, 2, 3, 0] rfl) hf
      · replace hf := it_t c26 hf
        refine lv_aload_n hx hb dX11_goOn_50 rfl (lv_at hl 0 rfl) ?_
        refine lv_aload_n hx hb dX11_goOn_51 rfl (lv_at hl 0 rfl) ?_
        obtain ⟨a28, q29, hf⟩ := bd_ok hf
        refine gf_X11_43 cx hB k21 q29 dX11_goOn_52 ?_
        refine lv_bipush (v := 6) hx hb dX11_goOn_55 (by decide) ?_
        refine lv_iload_n hx hb dX11_goOn_57 rfl (lv_at hl 1 rfl) ?_
        refine lv_imul hx hb dX11_goOn_58 ?_
        refine lv_iload hx hb dX11_goOn_59 (lv_at hl 3 rfl) ?_
        refine lv_iadd hx hb dX11_goOn_61 ?_
        obtain ⟨k30, hf⟩ := gk_ok hf
        obtain ⟨j31, hf⟩ := gd_ok hf
        refine hp_iald cx hB k30 j31 dX11_goOn_62 ?_
        obtain ⟨uu, g32, m33, hf⟩ := b2_ok hf
        refine hp_cV0 (cl_X11_205 cx hB (cX11_press l D cA t0 (g17.2.2.1 a28 (Int32.toNatClampNeg ((6 * v1) + v4))) g17 _ g32 m33) k21 ⟨Nat.le_of_ble_eq_true rfl, Nat.le_of_ble_eq_true rfl⟩ rfl hl.1 rfl (Nat.le_of_ble_eq_true rfl) ⟨Nat.le_of_ble_eq_true rfl, Nat.le_of_ble_eq_true rfl⟩ dX11_goOn_63) rfl rfl hB (fun H locs hB => ?_)
        refine lv_aload_n hx hb dX11_goOn_66 rfl (lv_at hl 0 rfl) ?_
        obtain ⟨k36, hf⟩ := gk_ok hf
        obtain ⟨a37, q38, hf⟩ := bd_ok hf
        refine gf_X11_49 cx hB k36 q38 dX11_goOn_67 ?_
        refine lv_bipush (v := 6) hx hb dX11_goOn_70 (by decide) ?_
        refine lv_iload_n hx hb dX11_goOn_72 rfl (lv_at hl 1 rfl) ?_
        refine lv_imul hx hb dX11_goOn_73 ?_
        refine lv_iload hx hb dX11_goOn_74 (lv_at hl 3 rfl) ?_
        refine lv_iadd hx hb dX11_goOn_76 ?_
        obtain ⟨k39, hf⟩ := gk_ok hf
        obtain ⟨j40, hf⟩ := gd_ok hf
        refine hp_iald cx hB k39 j40 dX11_goOn_77 ?_
        obtain ⟨rfl, rfl⟩ := rt_ok hf
        exact hp_iret cx hB hr hlk (Nat.le_of_ble_eq_true rfl) (Nat.le_of_ble_eq_true rfl) dX11_goOn_78
set_option maxHeartbeats 4000000 in
set_option maxRecDepth 100000 in
theorem tX11_goOn_104  {r : Int32} (cx : CallFix p m c prog_13_method_30_code 5 s args tbG RX11) (hr : meth.sig.returnType = (Option.some FieldType.int)) (hlk : meth.locks = false)  (n : Nat) : ∀ (t0 : Nat) (v1 : Int32) (v3 : Int32) (h : Hp) (H : Heap) (locs : List Loc) (ls : Array Slot), hp_B D cA (hp_A h0) s h H locs → lv_has ls 5 [(0, .ref t0), (1, .int v1), (3, .int v3)] → fx (bX11_goOn_104 ) (fun _ _ _ _ => none) n t0 v1 v3 h = some (r, h9) → W p l e rmX11_goOn s m args below meth c H locs 0 0 (MQ below (hp_Qi D cA h0 h9 r) args s 0 0 (hp_A h0)) (F0 m 104 ls []) := by
  obtain ⟨hx, hb, -⟩ := id cx
  induction n with
  | zero => intro t0 v1 v3 h H locs ls hB hl hf; cases hf
  | succ n ih =>
    intro t0 v1 v3 h H locs ls hB hl hf
    replace hf : bX11_goOn_104  (fx (bX11_goOn_104 ) (fun _ _ _ _ => none) n) t0 v1 v3 h = some (r, h9) := hf
    unfold bX11_goOn_104 at hf
    refine lv_iload_n hx hb dX11_goOn_104 rfl (lv_at hl 2 rfl) ?_
    refine lv_aload_n hx hb dX11_goOn_105 rfl (lv_at hl 0 rfl) ?_
    obtain ⟨k1, hf⟩ := gk_ok hf
    obtain ⟨a2, q3, hf⟩ := bd_ok hf
    refine gf_X11_37 cx hB k1 q3 dX11_goOn_106 ?_
    refine lv_iload_n hx hb dX11_goOn_109 rfl (lv_at hl 1 rfl) ?_
    obtain ⟨k4, hf⟩ := gk_ok hf
    obtain ⟨j5, hf⟩ := gd_ok hf
    refine hp_iald cx hB k4 j5 dX11_goOn_110 ?_
    refine lv_icmp_ge (tgt := 189) hx hb dX11_goOn_111 (by decide) (fun c6 => ?_) (fun c6 => ?_)
    · replace hf := it_t c6 hf
      refine lv_aload_n hx hb dX11_goOn_189 rfl (lv_at hl 0 rfl) ?_
      refine lv_aload_n hx hb dX11_goOn_190 rfl (lv_at hl 0 rfl) ?_
      refine gf_X11_196 cx hB k1 dX11_goOn_191 ?_
      refine lv_aload_n hx hb dX11_goOn_194 rfl (lv_at hl 0 rfl) ?_
      refine lv_iload_n hx hb dX11_goOn_195 rfl (lv_at hl 1 rfl) ?_
      obtain ⟨r9, g7, m8, hf⟩ := b2_ok hf
      refine hp_cI0 (cl_X11_190 cx hB (cX11_heard l D cA t0 v1 h _ g7 m8) k1 ⟨Nat.le_of_ble_eq_true rfl, Nat.le_of_ble_eq_true rfl⟩ rfl hl.1 rfl (Nat.le_of_ble_eq_true rfl) ⟨Nat.le_of_ble_eq_true rfl, Nat.le_of_ble_eq_true rfl⟩ dX11_goOn_196) rfl rfl hB (fun H locs hB => ?_)
      refine lv_aload_n hx hb dX11_goOn_199 rfl (lv_at hl 0 rfl) ?_
      obtain ⟨k11, hf⟩ := gk_ok hf
      obtain ⟨a12, q13, hf⟩ := bd_ok hf
      refine gf_X11_16 cx hB k11 q13 dX11_goOn_200 ?_
      refine lv_iload_n hx hb dX11_goOn_203 rfl (lv_at hl 1 rfl) ?_
      obtain ⟨k14, hf⟩ := gk_ok hf
      obtain ⟨j15, hf⟩ := gd_ok hf
      refine hp_iald cx hB k14 j15 dX11_goOn_204 ?_
      obtain ⟨c16, hf⟩ := gd_ok hf
      refine lv_idiv hx hb dX11_goOn_205 (of_decide_eq_true c16) ?_
      refine lv_isub hx hb dX11_goOn_206 ?_
      refine lv_aload_n hx hb dX11_goOn_207 rfl (lv_at hl 0 rfl) ?_
      obtain ⟨a17, q18, hf⟩ := bd_ok hf
      refine gf_X11_13 cx hB k11 q18 dX11_goOn_208 ?_
      refine lv_iload_n hx hb dX11_goOn_211 rfl (lv_at hl 1 rfl) ?_
      obtain ⟨k19, hf⟩ := gk_ok hf
      obtain ⟨j20, hf⟩ := gd_ok hf
      refine hp_iald cx hB k19 j20 dX11_goOn_212 ?_
      refine lv_iadd hx hb dX11_goOn_213 ?_
      refine lv_aload_n hx hb dX11_goOn_214 rfl (lv_at hl 0 rfl) ?_
      refine lv_iload_n hx hb dX11_goOn_215 rfl (lv_at hl 1 rfl) ?_
      obtain ⟨r23, g21, m22, hf⟩ := b2_ok hf
      refine hp_cI0 (cl_X11_190 cx hB (cX11_heard l D cA t0 v1 g7 _ g21 m22) k11 ⟨Nat.le_of_ble_eq_true rfl, Nat.le_of_ble_eq_true rfl⟩ rfl hl.1 rfl (Nat.le_of_ble_eq_true rfl) ⟨Nat.le_of_ble_eq_true rfl, Nat.le_of_ble_eq_true rfl⟩ dX11_goOn_216) rfl rfl hB (fun H locs hB => ?_)
      refine lv_iadd hx hb dX11_goOn_219 ?_
      obtain ⟨k25, hf⟩ := gk_ok hf
      obtain ⟨g26, eg26, hf⟩ := nm_ok hf
      refine pf_X11_196 cx hB k25 dX11_goOn_220 (fun H locs hB => ?_)
      rw [← eg26] at hB
      refine lv_aload_n hx hb dX11_goOn_223 rfl (lv_at hl 0 rfl) ?_
      have k27 : g26.1 t0 = 12 := by rw [eg26]; exact k25
      obtain ⟨a28, q29, hf⟩ := bd_ok hf
      refine gf_X11_19 cx hB k27 q29 dX11_goOn_224 ?_
      refine lv_iload_n hx hb dX11_goOn_227 rfl (lv_at hl 1 rfl) ?_
      obtain ⟨k30, hf⟩ := gk_ok hf
      obtain ⟨j31, hf⟩ := gd_ok hf
      refine hp_iald cx hB k30 j31 dX11_goOn_228 ?_
      obtain ⟨rfl, rfl⟩ := rt_ok hf
      exact hp_iret cx hB hr hlk (Nat.le_of_ble_eq_true rfl) (Nat.le_of_ble_eq_true rfl) dX11_goOn_229
    · replace hf := it_f c6 hf
      refine lv_aload_n hx hb dX11_goOn_114 rfl (lv_at hl 0 rfl) ?_
      refine lv_dup hx hb dX11_goOn_115 rfl ?_
      refine gf_X11_196 cx hB k1 dX11_goOn_116 ?_
      refine lv_aload_n hx hb dX11_goOn_119 rfl (lv_at hl 0 rfl) ?_
      obtain ⟨a32, q33, hf⟩ := bd_ok hf
      refine gf_X11_40 cx hB k1 q33 dX11_goOn_120 ?_
      refine lv_bipush (v := 6) hx hb dX11_goOn_123 (by decide) ?_
      refine lv_iload_n hx hb dX11_goOn_125 rfl (lv_at hl 1 rfl) ?_
      refine lv_imul hx hb dX11_goOn_126 ?_
      refine lv_iload_n hx hb dX11_goOn_127 rfl (lv_at hl 2 rfl) ?_
      refine lv_iadd hx hb dX11_goOn_128 ?_
      obtain ⟨k34, hf⟩ := gk_ok hf
      obtain ⟨j35, hf⟩ := gd_ok hf
      refine hp_iald cx hB k34 j35 dX11_goOn_129 ?_
      refine lv_iadd hx hb dX11_goOn_130 ?_
      obtain ⟨g36, eg36, hf⟩ := nm_ok hf
      refine pf_X11_196 cx hB k1 dX11_goOn_131 (fun H locs hB => ?_)
      rw [← eg36] at hB
      refine lv_aload_n hx hb dX11_goOn_134 rfl (lv_at hl 0 rfl) ?_
      have k37 : g36.1 t0 = 12 := by rw [eg36]; exact k1
      obtain ⟨a38, q39, hf⟩ := bd_ok hf
      refine gf_X11_46 cx hB k37 q39 dX11_goOn_135 ?_
      refine lv_bipush (v := 6) hx hb dX11_goOn_138 (by decide) ?_
      refine lv_iload_n hx hb dX11_goOn_140 rfl (lv_at hl 1 rfl) ?_
      refine lv_imul hx hb dX11_goOn_141 ?_
      refine lv_iload_n hx hb dX11_goOn_142 rfl (lv_at hl 2 rfl) ?_
      refine lv_iadd hx hb dX11_goOn_143 ?_
      obtain ⟨k40, hf⟩ := gk_ok hf
      obtain ⟨j41, hf⟩ := gd_ok hf
      refine hp_iald cx hB k40 j41 dX11_goOn_144 ?_
      refine lv_aload_n hx hb dX11_goOn_145 rfl (lv_at hl 0 rfl) ?_
      refine gf_X11_169 cx hB k37 dX11_goOn_146 ?_
      refine lv_ishr hx hb dX11_goOn_149 ?_
      refine lv_iconst (v := 1) hx hb dX11_goOn_150 (by decide) ?_
      refine lv_iand hx hb dX11_goOn_151 ?_
      refine lv_iconst (v := 1) hx hb dX11_goOn_152 (by decide) ?_
      refine lv_icmp_ne (tgt := 183) hx hb dX11_goOn_153 (by decide) (fun c42 => ?_) (fun c42 => ?_)
      · replace hf := it_f c42 hf
        obtain ⟨x43, ex43, hf⟩ := nm_ok hf
        refine lv_iinc (v := x43) (lv' := [(3, .int x43), (0, .ref t0), (1, .int v1)]) hx hb dX11_goOn_183 hl (k := 2) rfl (by rw [ex43]; rfl) (by decide) rfl (fun ls hl => ?_)
        refine lv_goto (tgt := 104) hx hb dX11_goOn_186 (by decide) ?_
        exact ih t0 v1 x43 g36 _ _ _ hB (lv_sub hl [1, 2, 0] rfl) hf
      · replace hf := it_t c42 hf
        refine lv_aload_n hx hb dX11_goOn_156 rfl (lv_at hl 0 rfl) ?_
        refine lv_aload_n hx hb dX11_goOn_157 rfl (lv_at hl 0 rfl) ?_
        obtain ⟨a44, q45, hf⟩ := bd_ok hf
        refine gf_X11_43 cx hB k37 q45 dX11_goOn_158 ?_
        refine lv_bipush (v := 6) hx hb dX11_goOn_161 (by decide) ?_
        refine lv_iload_n hx hb dX11_goOn_163 rfl (lv_at hl 1 rfl) ?_
        refine lv_imul hx hb dX11_goOn_164 ?_
        refine lv_iload_n hx hb dX11_goOn_165 rfl (lv_at hl 2 rfl) ?_
        refine lv_iadd hx hb dX11_goOn_166 ?_
        obtain ⟨k46, hf⟩ := gk_ok hf
        obtain ⟨j47, hf⟩ := gd_ok hf
        refine hp_iald cx hB k46 j47 dX11_goOn_167 ?_
        obtain ⟨uu, g48, m49, hf⟩ := b2_ok hf
        refine hp_cV0 (cl_X11_205 cx hB (cX11_press l D cA t0 (g36.2.2.1 a44 (Int32.toNatClampNeg ((6 * v1) + v3))) g36 _ g48 m49) k37 ⟨Nat.le_of_ble_eq_true rfl, Nat.le_of_ble_eq_true rfl⟩ rfl hl.1 rfl (Nat.le_of_ble_eq_true rfl) ⟨Nat.le_of_ble_eq_true rfl, Nat.le_of_ble_eq_true rfl⟩ dX11_goOn_168) rfl rfl hB (fun H locs hB => ?_)
        refine lv_aload_n hx hb dX11_goOn_171 rfl (lv_at hl 0 rfl) ?_
        obtain ⟨k52, hf⟩ := gk_ok hf
        obtain ⟨a53, q54, hf⟩ := bd_ok hf
        refine gf_X11_49 cx hB k52 q54 dX11_goOn_172 ?_
        refine lv_bipush (v := 6) hx hb dX11_goOn_175 (by decide) ?_
        refine lv_iload_n hx hb dX11_goOn_177 rfl (lv_at hl 1 rfl) ?_
        refine lv_imul hx hb dX11_goOn_178 ?_
        refine lv_iload_n hx hb dX11_goOn_179 rfl (lv_at hl 2 rfl) ?_
        refine lv_iadd hx hb dX11_goOn_180 ?_
        obtain ⟨k55, hf⟩ := gk_ok hf
        obtain ⟨j56, hf⟩ := gd_ok hf
        refine hp_iald cx hB k55 j56 dX11_goOn_181 ?_
        obtain ⟨rfl, rfl⟩ := rt_ok hf
        exact hp_iret cx hB hr hlk (Nat.le_of_ble_eq_true rfl) (Nat.le_of_ble_eq_true rfl) dX11_goOn_182
set_option maxHeartbeats 4000000 in
set_option maxRecDepth 100000 in
theorem tX11_goOn_0  {r : Int32} (cx : CallFix p m c prog_13_method_30_code 5 s args tbG RX11) (hr : meth.sig.returnType = (Option.some FieldType.int)) (hlk : meth.locks = false)  (t0 : Nat) (v1 : Int32) (v2 : Int32) (h : Hp) (H : Heap) (locs : List Loc) (ls : Array Slot) (hB : hp_B D cA (hp_A h0) s h H locs) (hl : lv_has ls 5 [(0, .ref t0), (1, .int v1), (2, .int v2)]) (hf : fX11_goOn  t0 v1 v2 h = some (r, h9)) : W p l e rmX11_goOn s m args below meth c H locs 0 0 (MQ below (hp_Qi D cA h0 h9 r) args s 0 0 (hp_A h0)) (F0 m 0 ls []) := by
  obtain ⟨hx, hb, -⟩ := id cx
  unfold fX11_goOn at hf
  refine lv_iload_n hx hb dX11_goOn_0 rfl (lv_at hl 2 rfl) ?_
  refine lv_if_eq (tgt := 102) hx hb dX11_goOn_1 (by decide) (fun c1 => ?_) (fun c1 => ?_)
  · replace hf := it_t c1 hf
    refine lv_iconst (v := 0) hx hb dX11_goOn_102 (by decide) ?_
    refine lv_istore_n (lv' := [(3, .int 0), (0, .ref t0), (1, .int v1), (2, .int v2)]) hx hb dX11_goOn_103 rfl hl (by decide) rfl (fun ls hl => ?_)
    exact tX11_goOn_104 cx hr hlk  NF t0 v1 0 h _ _ _ hB (lv_sub hl [1, 2, 0] rfl) hf
  · replace hf := it_f c1 hf
    refine lv_aload_n hx hb dX11_goOn_4 rfl (lv_at hl 0 rfl) ?_
    refine lv_iload_n hx hb dX11_goOn_5 rfl (lv_at hl 1 rfl) ?_
    obtain ⟨k2, hf⟩ := gk_ok hf
    obtain ⟨r5, g3, m4, hf⟩ := b2_ok hf
    refine hp_cI0 (cl_X11_190 cx hB (cX11_heard l D cA t0 v1 h _ g3 m4) k2 ⟨Nat.le_of_ble_eq_true rfl, Nat.le_of_ble_eq_true rfl⟩ rfl hl.1 rfl (Nat.le_of_ble_eq_true rfl) ⟨Nat.le_of_ble_eq_true rfl, Nat.le_of_ble_eq_true rfl⟩ dX11_goOn_6) rfl rfl hB (fun H locs hB => ?_)
    refine lv_istore_n (lv' := [(3, .int r5), (0, .ref t0), (1, .int v1), (2, .int v2)]) hx hb dX11_goOn_9 rfl hl (by decide) rfl (fun ls hl => ?_)
    refine lv_iconst (v := 0) hx hb dX11_goOn_10 (by decide) ?_
    refine lv_istore (lv' := [(4, .int 0), (3, .int r5), (0, .ref t0), (1, .int v1), (2, .int v2)]) hx hb dX11_goOn_11 hl (by decide) rfl (fun ls hl => ?_)
    exact tX11_goOn_13 cx hr hlk  NF t0 v1 r5 0 g3 _ _ _ hB (lv_sub hl [2, 3, 1, 0] rfl) hf
end
set_option maxHeartbeats 4000000 in
set_option maxRecDepth 100000 in
theorem cX11_goOn (l : Launch) (D : va_G) (cA : Nat → ClassId) (t0 : Nat) (v1 : Int32) (v2 : Int32) (h : Hp) (r : Int32) (h9 : Hp) (hf : fX11_goOn t0 v1 v2 h = some (r, h9)) : hp_M l yX11_goOn prog_13_method_30_code 5 (Option.some FieldType.int) rmX11_goOn D cA h [.ref t0, .int v1, .int v2] (hp_Qi D cA h h9 r) := by
  refine Met.ofW (cc := prog_13_method_30_code) (maxL := 5) (ret := (Option.some FieldType.int)) (by decide) rfl ?_
  intro p e s m args below meth c s₁ B hml hv
  obtain ⟨rfl, hU⟩ := hv
  have hts := atoms_spec (ws := Cond.code yX11_goOn prog_13_method_30_code 5 (Option.some FieldType.int) :: tbG) B.pre
  have hl := lv_entry ([.ref t0, .int v1, .int v2]) (n := 5) (Nat.le_of_ble_eq_true rfl)
  rw [lg_entry_eq]
  generalize (lg_sl ([.ref t0, .int v1, .int v2]) ++ List.replicate (5 - (lg_sl ([.ref t0, .int v1, .int v2])).length) Slot.unset).toArray = ls at hl ⊢
  exact tX11_goOn_0 ⟨B.exec, B.bytes, hml, findClass_of_methodNamed B.named, fun w hw => hts w (List.mem_cons_of_mem _ hw)⟩ B.returns B.notSynchronized t0 v1 v2 h _ _ _ (hp_B.entry hU) hl hf
section
variable {p : Program} {l : Launch} {e : Env} {R : Room} {s : State} {m : MethodId} {args : Array Value} {below : List Frame} {meth : Method} {c : Code} {H : Heap} {locs : List Loc} {cells slots : Nat} {Q : State → Prop}
variable {cc : ByteArray} {pc nL : Nat} {ls : Array Slot} {rest : List Value} {D : va_G} {cA : Nat → ClassId} {A : Nat → Prop} {a : Nat} {h : Hp}
theorem pf_X11_209 (cx : CallFix p m c cc nL s args tbG RX11) (hB : hp_B D cA A s h H locs) (hka : h.1 a = 12) {x : Int32} (hdg : decode cc pc = .ok (.putfield 209, 3)) (kk : ∀ (H1 : Heap) (locs1 : List Loc), hp_B D cA A s (hp_si h a 38 x) H1 locs1 → W p l e R s m args below meth c H1 locs1 cells slots Q (F0 m (pc + 3) ls rest)) : W p l e R s m args below meth c H locs cells slots Q (F0 m pc ls (.int x :: .ref a :: rest)) :=
  hp_putX cx hB (ci := 11) 38 tyX11 tyX11_ok nmX11 rfl inX11 (by decide) rfl (by decide) (Or.inl rfl) qw_770 hka (v := .int x) (hp_like_si h a 38 x) (hp_fs_si (by decide) rfl) rfl rfl hdg kk
theorem gf_X11_85 (cx : CallFix p m c cc nL s args tbG RX11) (hB : hp_B D cA A s h H locs) (hka : h.1 a = 12) {b : Nat} (ho : h.2.2.2.1 a 42 = some b) (hdg : decode cc pc = .ok (.getfield 85, 3)) (kk : W p l e R s m args below meth c H locs cells slots Q (F0 m (pc + 3) ls (.ref b :: rest))) : W p l e R s m args below meth c H locs cells slots Q (F0 m pc ls (.ref a :: rest)) :=
  hp_getR cx hB (ci := 11) 42 rfl inX11 (by decide) rfl (by decide) rfl qw_774 hka (o := some b) ho.symm hdg kk
theorem gf_X11_222 (cx : CallFix p m c cc nL s args tbG RX11) (hB : hp_B D cA A s h H locs) (hka : h.1 a = 12) (hdg : decode cc pc = .ok (.getfield 222, 3)) (kk : W p l e R s m args below meth c H locs cells slots Q (F0 m (pc + 3) ls (.int (h.2.2.1 a 39) :: rest))) : W p l e R s m args below meth c H locs cells slots Q (F0 m pc ls (.ref a :: rest)) :=
  hp_getI cx hB (ci := 11) 39 rfl inX11 (by decide) rfl (by decide) rfl qw_771 hka hdg kk
theorem pf_X11_222 (cx : CallFix p m c cc nL s args tbG RX11) (hB : hp_B D cA A s h H locs) (hka : h.1 a = 12) {x : Int32} (hdg : decode cc pc = .ok (.putfield 222, 3)) (kk : ∀ (H1 : Heap) (locs1 : List Loc), hp_B D cA A s (hp_si h a 39 x) H1 locs1 → W p l e R s m args below meth c H1 locs1 cells slots Q (F0 m (pc + 3) ls rest)) : W p l e R s m args below meth c H locs cells slots Q (F0 m pc ls (.int x :: .ref a :: rest)) :=
  hp_putX cx hB (ci := 11) 39 tyX11 tyX11_ok nmX11 rfl inX11 (by decide) rfl (by decide) (Or.inl rfl) qw_771 hka (v := .int x) (hp_like_si h a 39 x) (hp_fs_si (by decide) rfl) rfl rfl hdg kk
theorem gf_X11_89 (cx : CallFix p m c cc nL s args tbG RX11) (hB : hp_B D cA A s h H locs) (hka : h.1 a = 12) {b : Nat} (ho : h.2.2.2.1 a 43 = some b) (hdg : decode cc pc = .ok (.getfield 89, 3)) (kk : W p l e R s m args below meth c H locs cells slots Q (F0 m (pc + 3) ls (.ref b :: rest))) : W p l e R s m args below meth c H locs cells slots Q (F0 m pc ls (.ref a :: rest)) :=
  hp_getR cx hB (ci := 11) 43 rfl inX11 (by decide) rfl (by decide) rfl qw_775 hka (o := some b) ho.symm hdg kk
end
abbrev yX11_comes : MethodName := ⟨"SpokenMenusModel", "comes", "(I)V"⟩
theorem dX11_comes_0 : decode prog_13_method_32_code 0 = .ok (.aload_n 0, 1) := by decide +kernel
theorem dX11_comes_1 : decode prog_13_method_32_code 1 = .ok (.iload_n 1, 1) := by decide +kernel
theorem dX11_comes_2 : decode prog_13_method_32_code 2 = .ok (.putfield 209, 3) := by decide +kernel
theorem dX11_comes_5 : decode prog_13_method_32_code 5 = .ok (.aload_n 0, 1) := by decide +kernel
theorem dX11_comes_6 : decode prog_13_method_32_code 6 = .ok (.getfield 85, 3) := by decide +kernel
theorem dX11_comes_9 : decode prog_13_method_32_code 9 = .ok (.iload_n 1, 1) := by decide +kernel
theorem dX11_comes_10 : decode prog_13_method_32_code 10 = .ok (.iconst 1, 1) := by decide +kernel
theorem dX11_comes_11 : decode prog_13_method_32_code 11 = .ok (.bastore, 1) := by decide +kernel
theorem dX11_comes_12 : decode prog_13_method_32_code 12 = .ok (.aload_n 0, 1) := by decide +kernel
theorem dX11_comes_13 : decode prog_13_method_32_code 13 = .ok (.getfield 222, 3) := by decide +kernel
theorem dX11_comes_16 : decode prog_13_method_32_code 16 = .ok (.bipush 60, 2) := by decide +kernel
theorem dX11_comes_18 : decode prog_13_method_32_code 18 = .ok (.if_icmp .ge 13, 3) := by decide +kernel
theorem dX11_comes_21 : decode prog_13_method_32_code 21 = .ok (.aload_n 0, 1) := by decide +kernel
theorem dX11_comes_22 : decode prog_13_method_32_code 22 = .ok (.getfield 89, 3) := by decide +kernel
theorem dX11_comes_25 : decode prog_13_method_32_code 25 = .ok (.aload_n 0, 1) := by decide +kernel
theorem dX11_comes_26 : decode prog_13_method_32_code 26 = .ok (.getfield 222, 3) := by decide +kernel
theorem dX11_comes_29 : decode prog_13_method_32_code 29 = .ok (.iload_n 1, 1) := by decide +kernel
theorem dX11_comes_30 : decode prog_13_method_32_code 30 = .ok (.iastore, 1) := by decide +kernel
theorem dX11_comes_31 : decode prog_13_method_32_code 31 = .ok (.aload_n 0, 1) := by decide +kernel
theorem dX11_comes_32 : decode prog_13_method_32_code 32 = .ok (.dup, 1) := by decide +kernel
theorem dX11_comes_33 : decode prog_13_method_32_code 33 = .ok (.getfield 222, 3) := by decide +kernel
theorem dX11_comes_36 : decode prog_13_method_32_code 36 = .ok (.iconst 1, 1) := by decide +kernel
theorem dX11_comes_37 : decode prog_13_method_32_code 37 = .ok (.iadd, 1) := by decide +kernel
theorem dX11_comes_38 : decode prog_13_method_32_code 38 = .ok (.putfield 222, 3) := by decide +kernel
theorem dX11_comes_41 : decode prog_13_method_32_code 41 = .ok (.return_, 1) := by decide +kernel
abbrev rmX11_comes : Room := { frames := 0, cells := 0, slots := 0, locals := 0 }
def fX11_comes  (t0 : Nat) (v1 : Int32) (h : Hp) : Option (Unit × Hp) :=
  gk (h.1 t0) 12 <|
  nm (hp_si h t0 38 v1) fun g2 =>
  bd (g2.2.2.2.1 t0 42) fun a4 =>
  gk (g2.1 a4) 14 <|
  gd (ix v1 (g2.2.1 a4)) <|
  nm (hp_si g2 a4 (Int32.toNatClampNeg v1) 1) fun g8 =>
  if 60 ≤ (g8.2.2.1 t0 39) then
  (nm (hp_si g8 t0 39 ((g8.2.2.1 t0 39) + 1)) fun g11 =>
  some ((), g11))
  else
  (bd (g8.2.2.2.1 t0 43) fun a12 =>
  gk (g8.1 a12) 13 <|
  gd (ix (g8.2.2.1 t0 39) (g8.2.1 a12)) <|
  nm (hp_si g8 a12 (Int32.toNatClampNeg (g8.2.2.1 t0 39)) v1) fun g16 =>
  nm (hp_si g16 t0 39 ((g16.2.2.1 t0 39) + 1)) fun g18 =>
  some ((), g18))
section
variable {p : Program} {l : Launch} {e : Env} {s : State} {m : MethodId} {args : Array Value} {below : List Frame} {meth : Method} {c : Code} {D : va_G} {cA : Nat → ClassId} {h0 h9 : Hp}
set_option maxHeartbeats 4000000 in
set_option maxRecDepth 100000 in
theorem tX11_comes_0  (cx : CallFix p m c prog_13_method_32_code 2 s args tbG RX11) (hr : meth.sig.returnType = none) (hlk : meth.locks = false)  (t0 : Nat) (v1 : Int32) (h : Hp) (H : Heap) (locs : List Loc) (ls : Array Slot) (hB : hp_B D cA (hp_A h0) s h H locs) (hl : lv_has ls 2 [(0, .ref t0), (1, .int v1)]) (hf : fX11_comes  t0 v1 h = some ((), h9)) : W p l e rmX11_comes s m args below meth c H locs 0 0 (MQ below (hp_Qv D cA h0 h9) args s 0 0 (hp_A h0)) (F0 m 0 ls []) := by
  obtain ⟨hx, hb, -⟩ := id cx
  unfold fX11_comes at hf
  refine lv_aload_n hx hb dX11_comes_0 rfl (lv_at hl 0 rfl) ?_
  refine lv_iload_n hx hb dX11_comes_1 rfl (lv_at hl 1 rfl) ?_
  obtain ⟨k1, hf⟩ := gk_ok hf
  obtain ⟨g2, eg2, hf⟩ := nm_ok hf
  refine pf_X11_209 cx hB k1 dX11_comes_2 (fun H locs hB => ?_)
  rw [← eg2] at hB
  refine lv_aload_n hx hb dX11_comes_5 rfl (lv_at hl 0 rfl) ?_
  have k3 : g2.1 t0 = 12 := by rw [eg2]; exact k1
  obtain ⟨a4, q5, hf⟩ := bd_ok hf
  refine gf_X11_85 cx hB k3 q5 dX11_comes_6 ?_
  refine lv_iload_n hx hb dX11_comes_9 rfl (lv_at hl 1 rfl) ?_
  refine lv_iconst (v := 1) hx hb dX11_comes_10 (by decide) ?_
  obtain ⟨k6, hf⟩ := gk_ok hf
  obtain ⟨j7, hf⟩ := gd_ok hf
  obtain ⟨g8, eg8, hf⟩ := nm_ok hf
  refine hp_zast cx hB k6 j7 rfl dX11_comes_11 (fun H locs hB => ?_)
  rw [← eg8] at hB
  refine lv_aload_n hx hb dX11_comes_12 rfl (lv_at hl 0 rfl) ?_
  have k9 : g8.1 t0 = 12 := by rw [eg8]; exact k3
  refine gf_X11_222 cx hB k9 dX11_comes_13 ?_
  refine lv_bipush (v := 60) hx hb dX11_comes_16 (by decide) ?_
  refine lv_icmp_ge (tgt := 31) hx hb dX11_comes_18 (by decide) (fun c10 => ?_) (fun c10 => ?_)
  · replace hf := it_t c10 hf
    refine lv_aload_n hx hb dX11_comes_31 rfl (lv_at hl 0 rfl) ?_
    refine lv_dup hx hb dX11_comes_32 rfl ?_
    refine gf_X11_222 cx hB k9 dX11_comes_33 ?_
    refine lv_iconst (v := 1) hx hb dX11_comes_36 (by decide) ?_
    refine lv_iadd hx hb dX11_comes_37 ?_
    obtain ⟨g11, eg11, hf⟩ := nm_ok hf
    refine pf_X11_222 cx hB k9 dX11_comes_38 (fun H locs hB => ?_)
    rw [← eg11] at hB
    obtain ⟨-, rfl⟩ := rt_ok hf
    exact hp_vret cx hB hr hlk (Nat.le_of_ble_eq_true rfl) (Nat.le_of_ble_eq_true rfl) dX11_comes_41
  · replace hf := it_f c10 hf
    refine lv_aload_n hx hb dX11_comes_21 rfl (lv_at hl 0 rfl) ?_
    obtain ⟨a12, q13, hf⟩ := bd_ok hf
    refine gf_X11_89 cx hB k9 q13 dX11_comes_22 ?_
    refine lv_aload_n hx hb dX11_comes_25 rfl (lv_at hl 0 rfl) ?_
    refine gf_X11_222 cx hB k9 dX11_comes_26 ?_
    refine lv_iload_n hx hb dX11_comes_29 rfl (lv_at hl 1 rfl) ?_
    obtain ⟨k14, hf⟩ := gk_ok hf
    obtain ⟨j15, hf⟩ := gd_ok hf
    obtain ⟨g16, eg16, hf⟩ := nm_ok hf
    refine hp_iast cx hB k14 j15 dX11_comes_30 (fun H locs hB => ?_)
    rw [← eg16] at hB
    refine lv_aload_n hx hb dX11_comes_31 rfl (lv_at hl 0 rfl) ?_
    refine lv_dup hx hb dX11_comes_32 rfl ?_
    have k17 : g16.1 t0 = 12 := by rw [eg16]; exact k9
    refine gf_X11_222 cx hB k17 dX11_comes_33 ?_
    refine lv_iconst (v := 1) hx hb dX11_comes_36 (by decide) ?_
    refine lv_iadd hx hb dX11_comes_37 ?_
    obtain ⟨g18, eg18, hf⟩ := nm_ok hf
    refine pf_X11_222 cx hB k17 dX11_comes_38 (fun H locs hB => ?_)
    rw [← eg18] at hB
    obtain ⟨-, rfl⟩ := rt_ok hf
    exact hp_vret cx hB hr hlk (Nat.le_of_ble_eq_true rfl) (Nat.le_of_ble_eq_true rfl) dX11_comes_41
end
set_option maxHeartbeats 4000000 in
set_option maxRecDepth 100000 in
theorem cX11_comes (l : Launch) (D : va_G) (cA : Nat → ClassId) (t0 : Nat) (v1 : Int32) (h : Hp) (_u : Unit) (h9 : Hp) (hf : fX11_comes t0 v1 h = some (_u, h9)) : hp_M l yX11_comes prog_13_method_32_code 2 none rmX11_comes D cA h [.ref t0, .int v1] (hp_Qv D cA h h9) := by
  refine Met.ofW (cc := prog_13_method_32_code) (maxL := 2) (ret := none) (by decide) rfl ?_
  intro p e s m args below meth c s₁ B hml hv
  obtain ⟨rfl, hU⟩ := hv
  have hts := atoms_spec (ws := Cond.code yX11_comes prog_13_method_32_code 2 none :: tbG) B.pre
  have hl := lv_entry ([.ref t0, .int v1]) (n := 2) (Nat.le_of_ble_eq_true rfl)
  rw [lg_entry_eq]
  generalize (lg_sl ([.ref t0, .int v1]) ++ List.replicate (2 - (lg_sl ([.ref t0, .int v1])).length) Slot.unset).toArray = ls at hl ⊢
  exact tX11_comes_0 ⟨B.exec, B.bytes, hml, findClass_of_methodNamed B.named, fun w hw => hts w (List.mem_cons_of_mem _ hw)⟩ B.returns B.notSynchronized t0 v1 h _ _ _ (hp_B.entry hU) hl hf
section
variable {p : Program} {l : Launch} {e : Env} {R : Room} {s : State} {m : MethodId} {args : Array Value} {below : List Frame} {meth : Method} {c : Code} {H : Heap} {locs : List Loc} {cells slots : Nat} {Q : State → Prop}
variable {cc : ByteArray} {pc nL : Nat} {ls : Array Slot} {rest : List Value} {D : va_G} {cA : Nat → ClassId} {A : Nat → Prop} {a : Nat} {h : Hp}
theorem gf_X11_209 (cx : CallFix p m c cc nL s args tbG RX11) (hB : hp_B D cA A s h H locs) (hka : h.1 a = 12) (hdg : decode cc pc = .ok (.getfield 209, 3)) (kk : W p l e R s m args below meth c H locs cells slots Q (F0 m (pc + 3) ls (.int (h.2.2.1 a 38) :: rest))) : W p l e R s m args below meth c H locs cells slots Q (F0 m pc ls (.ref a :: rest)) :=
  hp_getI cx hB (ci := 11) 38 rfl inX11 (by decide) rfl (by decide) rfl qw_770 hka hdg kk
theorem gf_X11_212 (cx : CallFix p m c cc nL s args tbG RX11) (hB : hp_B D cA A s h H locs) (hka : h.1 a = 12) (hdg : decode cc pc = .ok (.getfield 212, 3)) (kk : W p l e R s m args below meth c H locs cells slots Q (F0 m (pc + 3) ls (.int (h.2.2.1 a 41) :: rest))) : W p l e R s m args below meth c H locs cells slots Q (F0 m pc ls (.ref a :: rest)) :=
  hp_getI cx hB (ci := 11) 41 rfl inX11 (by decide) rfl (by decide) rfl qw_773 hka hdg kk
theorem pf_X11_212 (cx : CallFix p m c cc nL s args tbG RX11) (hB : hp_B D cA A s h H locs) (hka : h.1 a = 12) {x : Int32} (hdg : decode cc pc = .ok (.putfield 212, 3)) (kk : ∀ (H1 : Heap) (locs1 : List Loc), hp_B D cA A s (hp_si h a 41 x) H1 locs1 → W p l e R s m args below meth c H1 locs1 cells slots Q (F0 m (pc + 3) ls rest)) : W p l e R s m args below meth c H locs cells slots Q (F0 m pc ls (.int x :: .ref a :: rest)) :=
  hp_putX cx hB (ci := 11) 41 tyX11 tyX11_ok nmX11 rfl inX11 (by decide) rfl (by decide) (Or.inl rfl) qw_773 hka (v := .int x) (hp_like_si h a 41 x) (hp_fs_si (by decide) rfl) rfl rfl hdg kk
theorem cl_X11_215 {As st0 : List Value} {b : Nat} {Qc : Array Value → State → Outcome → State → Prop} (cx : CallFix p m c cc nL s args tbG RX11) (hB : hp_B D cA A s h H locs) (hM : hp_M l yX11_goOn prog_13_method_30_code 5 (Option.some FieldType.int) rmX11_goOn D cA h (.ref b :: As) Qc) (hkb : h.1 b = 12) (hR : rmX11_goOn.frames + 1 ≤ R.frames ∧ 8 + (5 + 11) + rmX11_goOn.locals ≤ R.locals) (hn : As.length = 2) (hls : ls.size = nL) (hst : st0 = As.reverse ++ .ref b :: rest) (hW : (rest.map fun v => v.category).sum ≤ 8) (hf : cells + rmX11_goOn.cells ≤ R.cells ∧ slots + rmX11_goOn.slots ≤ R.slots) (hdg : decode cc pc = .ok (.invokevirtual 215, 3)) :
    va_Run p l e R s m args below meth c H locs cells slots rmX11_goOn.cells rmX11_goOn.slots (F0 m pc ls st0) rest (Qc (Value.ref b :: As).toArray) (hp_A h) :=
  hp_runV cx hB hM (ci := 11) rfl (by decide) hkb qw_1033 qw_1030 qw_1032 qp_32 qw_10 (by decide +kernel) hR hn hls hst hW hf hdg
theorem cl_X11_219 {As st0 : List Value} {b : Nat} {Qc : Array Value → State → Outcome → State → Prop} (cx : CallFix p m c cc nL s args tbG RX11) (hB : hp_B D cA A s h H locs) (hM : hp_M l yX11_comes prog_13_method_32_code 2 none rmX11_comes D cA h (.ref b :: As) Qc) (hkb : h.1 b = 12) (hR : rmX11_comes.frames + 1 ≤ R.frames ∧ 8 + (2 + 11) + rmX11_comes.locals ≤ R.locals) (hn : As.length = 1) (hls : ls.size = nL) (hst : st0 = As.reverse ++ .ref b :: rest) (hW : (rest.map fun v => v.category).sum ≤ 8) (hf : cells + rmX11_comes.cells ≤ R.cells ∧ slots + rmX11_comes.slots ≤ R.slots) (hdg : decode cc pc = .ok (.invokevirtual 219, 3)) :
    va_Run p l e R s m args below meth c H locs cells slots rmX11_comes.cells rmX11_comes.slots (F0 m pc ls st0) rest (Qc (Value.ref b :: As).toArray) (hp_A h) :=
  hp_runV cx hB hM (ci := 11) rfl (by decide) hkb qw_1025 qw_1022 qw_1024 qp_30 qw_10 (by decide +kernel) hR hn hls hst hW hf hdg
end
abbrev yX11_step : MethodName := ⟨"SpokenMenusModel", "step", "(Z)I"⟩
theorem dX11_step_0 : decode prog_13_method_31_code 0 = .ok (.aload_n 0, 1) := by decide +kernel
theorem dX11_step_1 : decode prog_13_method_31_code 1 = .ok (.getfield 209, 3) := by decide +kernel
theorem dX11_step_4 : decode prog_13_method_31_code 4 = .ok (.istore_n 2, 1) := by decide +kernel
theorem dX11_step_5 : decode prog_13_method_31_code 5 = .ok (.iconst (-1), 1) := by decide +kernel
theorem dX11_step_6 : decode prog_13_method_31_code 6 = .ok (.istore_n 3, 1) := by decide +kernel
theorem dX11_step_7 : decode prog_13_method_31_code 7 = .ok (.iconst 0, 1) := by decide +kernel
theorem dX11_step_8 : decode prog_13_method_31_code 8 = .ok (.istore 4, 2) := by decide +kernel
theorem dX11_step_10 : decode prog_13_method_31_code 10 = .ok (.aload_n 0, 1) := by decide +kernel
theorem dX11_step_11 : decode prog_13_method_31_code 11 = .ok (.aload_n 0, 1) := by decide +kernel
theorem dX11_step_12 : decode prog_13_method_31_code 12 = .ok (.getfield 7, 3) := by decide +kernel
theorem dX11_step_15 : decode prog_13_method_31_code 15 = .ok (.iload_n 2, 1) := by decide +kernel
theorem dX11_step_16 : decode prog_13_method_31_code 16 = .ok (.iaload, 1) := by decide +kernel
theorem dX11_step_17 : decode prog_13_method_31_code 17 = .ok (.iconst 3, 1) := by decide +kernel
theorem dX11_step_18 : decode prog_13_method_31_code 18 = .ok (.if_icmp .ne 12, 3) := by decide +kernel
theorem dX11_step_21 : decode prog_13_method_31_code 21 = .ok (.aload_n 0, 1) := by decide +kernel
theorem dX11_step_22 : decode prog_13_method_31_code 22 = .ok (.getfield 212, 3) := by decide +kernel
theorem dX11_step_25 : decode prog_13_method_31_code 25 = .ok (.iconst 1, 1) := by decide +kernel
theorem dX11_step_26 : decode prog_13_method_31_code 26 = .ok (.iadd, 1) := by decide +kernel
theorem dX11_step_27 : decode prog_13_method_31_code 27 = .ok (.goto 4, 3) := by decide +kernel
theorem dX11_step_30 : decode prog_13_method_31_code 30 = .ok (.iconst 0, 1) := by decide +kernel
theorem dX11_step_31 : decode prog_13_method_31_code 31 = .ok (.putfield 212, 3) := by decide +kernel
theorem dX11_step_34 : decode prog_13_method_31_code 34 = .ok (.aload_n 0, 1) := by decide +kernel
theorem dX11_step_35 : decode prog_13_method_31_code 35 = .ok (.getfield 212, 3) := by decide +kernel
theorem dX11_step_38 : decode prog_13_method_31_code 38 = .ok (.bipush 40, 2) := by decide +kernel
theorem dX11_step_40 : decode prog_13_method_31_code 40 = .ok (.if_icmp .le 5, 3) := by decide +kernel
theorem dX11_step_43 : decode prog_13_method_31_code 43 = .ok (.iconst 3, 1) := by decide +kernel
theorem dX11_step_44 : decode prog_13_method_31_code 44 = .ok (.ireturn, 1) := by decide +kernel
theorem dX11_step_45 : decode prog_13_method_31_code 45 = .ok (.aload_n 0, 1) := by decide +kernel
theorem dX11_step_46 : decode prog_13_method_31_code 46 = .ok (.getfield 7, 3) := by decide +kernel
theorem dX11_step_49 : decode prog_13_method_31_code 49 = .ok (.iload_n 2, 1) := by decide +kernel
theorem dX11_step_50 : decode prog_13_method_31_code 50 = .ok (.iaload, 1) := by decide +kernel
theorem dX11_step_51 : decode prog_13_method_31_code 51 = .ok (.ifCond .ne 13, 3) := by decide +kernel
theorem dX11_step_54 : decode prog_13_method_31_code 54 = .ok (.aload_n 0, 1) := by decide +kernel
theorem dX11_step_55 : decode prog_13_method_31_code 55 = .ok (.iload_n 2, 1) := by decide +kernel
theorem dX11_step_56 : decode prog_13_method_31_code 56 = .ok (.iload_n 1, 1) := by decide +kernel
theorem dX11_step_57 : decode prog_13_method_31_code 57 = .ok (.invokevirtual 215, 3) := by decide +kernel
theorem dX11_step_60 : decode prog_13_method_31_code 60 = .ok (.istore_n 3, 1) := by decide +kernel
theorem dX11_step_61 : decode prog_13_method_31_code 61 = .ok (.goto 160, 3) := by decide +kernel
theorem dX11_step_64 : decode prog_13_method_31_code 64 = .ok (.aload_n 0, 1) := by decide +kernel
theorem dX11_step_65 : decode prog_13_method_31_code 65 = .ok (.getfield 7, 3) := by decide +kernel
theorem dX11_step_68 : decode prog_13_method_31_code 68 = .ok (.iload_n 2, 1) := by decide +kernel
theorem dX11_step_69 : decode prog_13_method_31_code 69 = .ok (.iaload, 1) := by decide +kernel
theorem dX11_step_70 : decode prog_13_method_31_code 70 = .ok (.iconst 3, 1) := by decide +kernel
theorem dX11_step_71 : decode prog_13_method_31_code 71 = .ok (.if_icmp .ne 30, 3) := by decide +kernel
theorem dX11_step_74 : decode prog_13_method_31_code 74 = .ok (.aload_n 0, 1) := by decide +kernel
theorem dX11_step_75 : decode prog_13_method_31_code 75 = .ok (.iload_n 2, 1) := by decide +kernel
theorem dX11_step_76 : decode prog_13_method_31_code 76 = .ok (.invokevirtual 184, 3) := by decide +kernel
theorem dX11_step_79 : decode prog_13_method_31_code 79 = .ok (.ifCond .eq 12, 3) := by decide +kernel
theorem dX11_step_82 : decode prog_13_method_31_code 82 = .ok (.aload_n 0, 1) := by decide +kernel
theorem dX11_step_83 : decode prog_13_method_31_code 83 = .ok (.getfield 19, 3) := by decide +kernel
theorem dX11_step_86 : decode prog_13_method_31_code 86 = .ok (.iload_n 2, 1) := by decide +kernel
theorem dX11_step_87 : decode prog_13_method_31_code 87 = .ok (.iaload, 1) := by decide +kernel
theorem dX11_step_88 : decode prog_13_method_31_code 88 = .ok (.goto 9, 3) := by decide +kernel
theorem dX11_step_91 : decode prog_13_method_31_code 91 = .ok (.aload_n 0, 1) := by decide +kernel
theorem dX11_step_92 : decode prog_13_method_31_code 92 = .ok (.getfield 22, 3) := by decide +kernel
theorem dX11_step_95 : decode prog_13_method_31_code 95 = .ok (.iload_n 2, 1) := by decide +kernel
theorem dX11_step_96 : decode prog_13_method_31_code 96 = .ok (.iaload, 1) := by decide +kernel
theorem dX11_step_97 : decode prog_13_method_31_code 97 = .ok (.istore_n 3, 1) := by decide +kernel
theorem dX11_step_98 : decode prog_13_method_31_code 98 = .ok (.goto 123, 3) := by decide +kernel
theorem dX11_step_101 : decode prog_13_method_31_code 101 = .ok (.aload_n 0, 1) := by decide +kernel
theorem dX11_step_102 : decode prog_13_method_31_code 102 = .ok (.getfield 7, 3) := by decide +kernel
theorem dX11_step_105 : decode prog_13_method_31_code 105 = .ok (.iload_n 2, 1) := by decide +kernel
theorem dX11_step_106 : decode prog_13_method_31_code 106 = .ok (.iaload, 1) := by decide +kernel
theorem dX11_step_107 : decode prog_13_method_31_code 107 = .ok (.iconst 4, 1) := by decide +kernel
theorem dX11_step_108 : decode prog_13_method_31_code 108 = .ok (.if_icmp .ne 84, 3) := by decide +kernel
theorem dX11_step_111 : decode prog_13_method_31_code 111 = .ok (.aload_n 0, 1) := by decide +kernel
theorem dX11_step_112 : decode prog_13_method_31_code 112 = .ok (.getfield 34, 3) := by decide +kernel
theorem dX11_step_115 : decode prog_13_method_31_code 115 = .ok (.iload_n 2, 1) := by decide +kernel
theorem dX11_step_116 : decode prog_13_method_31_code 116 = .ok (.iaload, 1) := by decide +kernel
theorem dX11_step_117 : decode prog_13_method_31_code 117 = .ok (.iload_n 1, 1) := by decide +kernel
theorem dX11_step_118 : decode prog_13_method_31_code 118 = .ok (.ifCond .eq 7, 3) := by decide +kernel
theorem dX11_step_121 : decode prog_13_method_31_code 121 = .ok (.iconst 0, 1) := by decide +kernel
theorem dX11_step_122 : decode prog_13_method_31_code 122 = .ok (.goto 9, 3) := by decide +kernel
theorem dX11_step_125 : decode prog_13_method_31_code 125 = .ok (.aload_n 0, 1) := by decide +kernel
theorem dX11_step_126 : decode prog_13_method_31_code 126 = .ok (.getfield 13, 3) := by decide +kernel
theorem dX11_step_129 : decode prog_13_method_31_code 129 = .ok (.iload_n 2, 1) := by decide +kernel
theorem dX11_step_130 : decode prog_13_method_31_code 130 = .ok (.iaload, 1) := by decide +kernel
theorem dX11_step_131 : decode prog_13_method_31_code 131 = .ok (.iadd, 1) := by decide +kernel
theorem dX11_step_132 : decode prog_13_method_31_code 132 = .ok (.istore 5, 2) := by decide +kernel
theorem dX11_step_134 : decode prog_13_method_31_code 134 = .ok (.aload_n 0, 1) := by decide +kernel
theorem dX11_step_135 : decode prog_13_method_31_code 135 = .ok (.dup, 1) := by decide +kernel
theorem dX11_step_136 : decode prog_13_method_31_code 136 = .ok (.getfield 196, 3) := by decide +kernel
theorem dX11_step_139 : decode prog_13_method_31_code 139 = .ok (.aload_n 0, 1) := by decide +kernel
theorem dX11_step_140 : decode prog_13_method_31_code 140 = .ok (.iload_n 2, 1) := by decide +kernel
theorem dX11_step_141 : decode prog_13_method_31_code 141 = .ok (.invokevirtual 187, 3) := by decide +kernel
theorem dX11_step_144 : decode prog_13_method_31_code 144 = .ok (.ifCond .eq 8, 3) := by decide +kernel
theorem dX11_step_147 : decode prog_13_method_31_code 147 = .ok (.iload 5, 2) := by decide +kernel
theorem dX11_step_149 : decode prog_13_method_31_code 149 = .ok (.goto 12, 3) := by decide +kernel
theorem dX11_step_152 : decode prog_13_method_31_code 152 = .ok (.iload 5, 2) := by decide +kernel
theorem dX11_step_154 : decode prog_13_method_31_code 154 = .ok (.aload_n 0, 1) := by decide +kernel
theorem dX11_step_155 : decode prog_13_method_31_code 155 = .ok (.getfield 16, 3) := by decide +kernel
theorem dX11_step_158 : decode prog_13_method_31_code 158 = .ok (.iload_n 2, 1) := by decide +kernel
theorem dX11_step_159 : decode prog_13_method_31_code 159 = .ok (.iaload, 1) := by decide +kernel
theorem dX11_step_160 : decode prog_13_method_31_code 160 = .ok (.imul, 1) := by decide +kernel
theorem dX11_step_161 : decode prog_13_method_31_code 161 = .ok (.iadd, 1) := by decide +kernel
theorem dX11_step_162 : decode prog_13_method_31_code 162 = .ok (.putfield 196, 3) := by decide +kernel
theorem dX11_step_165 : decode prog_13_method_31_code 165 = .ok (.aload_n 0, 1) := by decide +kernel
theorem dX11_step_166 : decode prog_13_method_31_code 166 = .ok (.iload_n 2, 1) := by decide +kernel
theorem dX11_step_167 : decode prog_13_method_31_code 167 = .ok (.invokevirtual 187, 3) := by decide +kernel
theorem dX11_step_170 : decode prog_13_method_31_code 170 = .ok (.ifCond .eq 12, 3) := by decide +kernel
theorem dX11_step_173 : decode prog_13_method_31_code 173 = .ok (.aload_n 0, 1) := by decide +kernel
theorem dX11_step_174 : decode prog_13_method_31_code 174 = .ok (.getfield 19, 3) := by decide +kernel
theorem dX11_step_177 : decode prog_13_method_31_code 177 = .ok (.iload_n 2, 1) := by decide +kernel
theorem dX11_step_178 : decode prog_13_method_31_code 178 = .ok (.iaload, 1) := by decide +kernel
theorem dX11_step_179 : decode prog_13_method_31_code 179 = .ok (.goto 9, 3) := by decide +kernel
theorem dX11_step_182 : decode prog_13_method_31_code 182 = .ok (.aload_n 0, 1) := by decide +kernel
theorem dX11_step_183 : decode prog_13_method_31_code 183 = .ok (.getfield 22, 3) := by decide +kernel
theorem dX11_step_186 : decode prog_13_method_31_code 186 = .ok (.iload_n 2, 1) := by decide +kernel
theorem dX11_step_187 : decode prog_13_method_31_code 187 = .ok (.iaload, 1) := by decide +kernel
theorem dX11_step_188 : decode prog_13_method_31_code 188 = .ok (.istore_n 3, 1) := by decide +kernel
theorem dX11_step_189 : decode prog_13_method_31_code 189 = .ok (.goto 32, 3) := by decide +kernel
theorem dX11_step_192 : decode prog_13_method_31_code 192 = .ok (.aload_n 0, 1) := by decide +kernel
theorem dX11_step_193 : decode prog_13_method_31_code 193 = .ok (.dup, 1) := by decide +kernel
theorem dX11_step_194 : decode prog_13_method_31_code 194 = .ok (.getfield 196, 3) := by decide +kernel
theorem dX11_step_197 : decode prog_13_method_31_code 197 = .ok (.aload_n 0, 1) := by decide +kernel
theorem dX11_step_198 : decode prog_13_method_31_code 198 = .ok (.getfield 13, 3) := by decide +kernel
theorem dX11_step_201 : decode prog_13_method_31_code 201 = .ok (.iload_n 2, 1) := by decide +kernel
theorem dX11_step_202 : decode prog_13_method_31_code 202 = .ok (.iaload, 1) := by decide +kernel
theorem dX11_step_203 : decode prog_13_method_31_code 203 = .ok (.iadd, 1) := by decide +kernel
theorem dX11_step_204 : decode prog_13_method_31_code 204 = .ok (.putfield 196, 3) := by decide +kernel
theorem dX11_step_207 : decode prog_13_method_31_code 207 = .ok (.aload_n 0, 1) := by decide +kernel
theorem dX11_step_208 : decode prog_13_method_31_code 208 = .ok (.iload_n 2, 1) := by decide +kernel
theorem dX11_step_209 : decode prog_13_method_31_code 209 = .ok (.invokevirtual 177, 3) := by decide +kernel
theorem dX11_step_212 : decode prog_13_method_31_code 212 = .ok (.istore 4, 2) := by decide +kernel
theorem dX11_step_214 : decode prog_13_method_31_code 214 = .ok (.aload_n 0, 1) := by decide +kernel
theorem dX11_step_215 : decode prog_13_method_31_code 215 = .ok (.getfield 19, 3) := by decide +kernel
theorem dX11_step_218 : decode prog_13_method_31_code 218 = .ok (.iload_n 2, 1) := by decide +kernel
theorem dX11_step_219 : decode prog_13_method_31_code 219 = .ok (.iaload, 1) := by decide +kernel
theorem dX11_step_220 : decode prog_13_method_31_code 220 = .ok (.istore_n 3, 1) := by decide +kernel
theorem dX11_step_221 : decode prog_13_method_31_code 221 = .ok (.aload_n 0, 1) := by decide +kernel
theorem dX11_step_222 : decode prog_13_method_31_code 222 = .ok (.getfield 196, 3) := by decide +kernel
theorem dX11_step_225 : decode prog_13_method_31_code 225 = .ok (.aload_n 0, 1) := by decide +kernel
theorem dX11_step_226 : decode prog_13_method_31_code 226 = .ok (.getfield 199, 3) := by decide +kernel
theorem dX11_step_229 : decode prog_13_method_31_code 229 = .ok (.if_icmp .le 13, 3) := by decide +kernel
theorem dX11_step_232 : decode prog_13_method_31_code 232 = .ok (.aload_n 0, 1) := by decide +kernel
theorem dX11_step_233 : decode prog_13_method_31_code 233 = .ok (.aload_n 0, 1) := by decide +kernel
theorem dX11_step_234 : decode prog_13_method_31_code 234 = .ok (.getfield 199, 3) := by decide +kernel
theorem dX11_step_237 : decode prog_13_method_31_code 237 = .ok (.putfield 196, 3) := by decide +kernel
theorem dX11_step_240 : decode prog_13_method_31_code 240 = .ok (.iconst 2, 1) := by decide +kernel
theorem dX11_step_241 : decode prog_13_method_31_code 241 = .ok (.ireturn, 1) := by decide +kernel
theorem dX11_step_242 : decode prog_13_method_31_code 242 = .ok (.iload 4, 2) := by decide +kernel
theorem dX11_step_244 : decode prog_13_method_31_code 244 = .ok (.ifCond .eq 5, 3) := by decide +kernel
theorem dX11_step_247 : decode prog_13_method_31_code 247 = .ok (.iconst 0, 1) := by decide +kernel
theorem dX11_step_248 : decode prog_13_method_31_code 248 = .ok (.ireturn, 1) := by decide +kernel
theorem dX11_step_249 : decode prog_13_method_31_code 249 = .ok (.aload_n 0, 1) := by decide +kernel
theorem dX11_step_250 : decode prog_13_method_31_code 250 = .ok (.iload_n 3, 1) := by decide +kernel
theorem dX11_step_251 : decode prog_13_method_31_code 251 = .ok (.invokevirtual 142, 3) := by decide +kernel
theorem dX11_step_254 : decode prog_13_method_31_code 254 = .ok (.ifCond .ne 5, 3) := by decide +kernel
theorem dX11_step_257 : decode prog_13_method_31_code 257 = .ok (.iconst 1, 1) := by decide +kernel
theorem dX11_step_258 : decode prog_13_method_31_code 258 = .ok (.ireturn, 1) := by decide +kernel
theorem dX11_step_259 : decode prog_13_method_31_code 259 = .ok (.aload_n 0, 1) := by decide +kernel
theorem dX11_step_260 : decode prog_13_method_31_code 260 = .ok (.iload_n 3, 1) := by decide +kernel
theorem dX11_step_261 : decode prog_13_method_31_code 261 = .ok (.invokevirtual 219, 3) := by decide +kernel
theorem dX11_step_264 : decode prog_13_method_31_code 264 = .ok (.bipush (-4), 2) := by decide +kernel
theorem dX11_step_266 : decode prog_13_method_31_code 266 = .ok (.ireturn, 1) := by decide +kernel
abbrev rmX11_step : Room := { frames := 5, cells := 0, slots := 0, locals := 111 }
def fX11_step_221  (t0 : Nat) (v3 : Int32) (v4 : Int32) (h : Hp) : Option (Int32 × Hp) :=
  gk (h.1 t0) 12 <|
  if (h.2.2.1 t0 37) ≤ (h.2.2.1 t0 34) then
  (if v4 = 0 then
  (b2 (fX11_isPlace t0 v3 h) fun r6 g4 =>
  if r6 = 0 then
  (some (1, g4))
  else
  (gk (g4.1 t0) 12 <|
  b2 (fX11_comes t0 v3 g4) fun _ g10 =>
  some ((-4), g10)))
  else
  (some (0, h)))
  else
  (nm (hp_si h t0 37 (h.2.2.1 t0 34)) fun g14 =>
  some (2, g14))
def fX11_step_161  (t0 : Nat) (v2 : Int32) (v4 : Int32) (s0 : Int32) (s1 : Int32) (u2 : Nat) (h : Hp) : Option (Int32 × Hp) :=
  gk (h.1 u2) 12 <|
  nm (hp_si h u2 37 (s1 + s0)) fun g2 =>
  gk (g2.1 t0) 12 <|
  b2 (fX11_isRight t0 v2 g2) fun r6 g4 =>
  if r6 = 0 then
  (gk (g4.1 t0) 12 <|
  bd (g4.2.2.2.1 t0 5) fun a10 =>
  gk (g4.1 a10) 13 <|
  gd (ix v2 (g4.2.1 a10)) <|
  nm (g4.2.2.1 a10 (Int32.toNatClampNeg v2)) fun x14 =>
  fX11_step_221  t0 x14 v4 g4)
  else
  (gk (g4.1 t0) 12 <|
  bd (g4.2.2.2.1 t0 4) fun a16 =>
  gk (g4.1 a16) 13 <|
  gd (ix v2 (g4.2.1 a16)) <|
  nm (g4.2.2.1 a16 (Int32.toNatClampNeg v2)) fun x20 =>
  fX11_step_221  t0 x20 v4 g4)
def fX11_step_131  (t0 : Nat) (v2 : Int32) (v4 : Int32) (s0 : Int32) (s1 : Int32) (h : Hp) : Option (Int32 × Hp) :=
  nm (s1 + s0) fun x1 =>
  gk (h.1 t0) 12 <|
  b2 (fX11_isRight t0 v2 h) fun r5 g3 =>
  if r5 = 0 then
  (gk (g3.1 t0) 12 <|
  bd (g3.2.2.2.1 t0 3) fun a9 =>
  gk (g3.1 a9) 13 <|
  gd (ix v2 (g3.2.1 a9)) <|
  fX11_step_161  t0 v2 v4 (x1 * (g3.2.2.1 a9 (Int32.toNatClampNeg v2))) (h.2.2.1 t0 37) t0 g3)
  else
  (fX11_step_161  t0 v2 v4 x1 (h.2.2.1 t0 37) t0 g3)
def fX11_step_31  (t0 : Nat) (v1 : Int32) (v2 : Int32) (v4 : Int32) (s0 : Int32) (u1 : Nat) (h : Hp) : Option (Int32 × Hp) :=
  gk (h.1 u1) 12 <|
  nm (hp_si h u1 41 s0) fun g2 =>
  gk (g2.1 t0) 12 <|
  if (g2.2.2.1 t0 41) ≤ 40 then
  (bd (g2.2.2.2.1 t0 1) fun a5 =>
  gk (g2.1 a5) 13 <|
  gd (ix v2 (g2.2.1 a5)) <|
  if (g2.2.2.1 a5 (Int32.toNatClampNeg v2)) = 0 then
  (b2 (fX11_goOn t0 v2 v1 g2) fun r58 g56 =>
  fX11_step_221  t0 r58 v4 g56)
  else
  (gd (ix v2 (g2.2.1 a5)) <|
  if (g2.2.2.1 a5 (Int32.toNatClampNeg v2)) = 3 then
  (b2 (fX11_isOpen t0 v2 g2) fun r41 g39 =>
  if r41 = 0 then
  (gk (g39.1 t0) 12 <|
  bd (g39.2.2.2.1 t0 5) fun a45 =>
  gk (g39.1 a45) 13 <|
  gd (ix v2 (g39.2.1 a45)) <|
  nm (g39.2.2.1 a45 (Int32.toNatClampNeg v2)) fun x49 =>
  fX11_step_221  t0 x49 v4 g39)
  else
  (gk (g39.1 t0) 12 <|
  bd (g39.2.2.2.1 t0 4) fun a51 =>
  gk (g39.1 a51) 13 <|
  gd (ix v2 (g39.2.1 a51)) <|
  nm (g39.2.2.1 a51 (Int32.toNatClampNeg v2)) fun x55 =>
  fX11_step_221  t0 x55 v4 g39))
  else
  (gd (ix v2 (g2.2.1 a5)) <|
  if (g2.2.2.1 a5 (Int32.toNatClampNeg v2)) = 4 then
  (bd (g2.2.2.2.1 t0 9) fun a30 =>
  gk (g2.1 a30) 13 <|
  gd (ix v2 (g2.2.1 a30)) <|
  if v1 = 0 then
  (bd (g2.2.2.2.1 t0 2) fun a35 =>
  gk (g2.1 a35) 13 <|
  gd (ix v2 (g2.2.1 a35)) <|
  fX11_step_131  t0 v2 v4 (g2.2.2.1 a35 (Int32.toNatClampNeg v2)) (g2.2.2.1 a30 (Int32.toNatClampNeg v2)) g2)
  else
  (fX11_step_131  t0 v2 v4 0 (g2.2.2.1 a30 (Int32.toNatClampNeg v2)) g2))
  else
  (bd (g2.2.2.2.1 t0 2) fun a14 =>
  gk (g2.1 a14) 13 <|
  gd (ix v2 (g2.2.1 a14)) <|
  nm (hp_si g2 t0 37 ((g2.2.2.1 t0 37) + (g2.2.2.1 a14 (Int32.toNatClampNeg v2)))) fun g18 =>
  b2 (fX11_isServed t0 v2 g18) fun r22 g20 =>
  gk (g20.1 t0) 12 <|
  bd (g20.2.2.2.1 t0 4) fun a25 =>
  gk (g20.1 a25) 13 <|
  gd (ix v2 (g20.2.1 a25)) <|
  nm (g20.2.2.1 a25 (Int32.toNatClampNeg v2)) fun x29 =>
  fX11_step_221  t0 x29 r22 g20))))
  else
  (some (3, g2))
def fX11_step  (t0 : Nat) (v1 : Int32) (h : Hp) : Option (Int32 × Hp) :=
  gk (h.1 t0) 12 <|
  nm (h.2.2.1 t0 38) fun x2 =>
  bd (h.2.2.2.1 t0 1) fun a3 =>
  gk (h.1 a3) 13 <|
  gd (ix x2 (h.2.1 a3)) <|
  if (h.2.2.1 a3 (Int32.toNatClampNeg x2)) = 3 then
  (fX11_step_31  t0 v1 x2 0 ((h.2.2.1 t0 41) + 1) t0 h)
  else
  (fX11_step_31  t0 v1 x2 0 0 t0 h)
section
variable {p : Program} {l : Launch} {e : Env} {s : State} {m : MethodId} {args : Array Value} {below : List Frame} {meth : Method} {c : Code} {D : va_G} {cA : Nat → ClassId} {h0 h9 : Hp}
set_option maxHeartbeats 4000000 in
set_option maxRecDepth 100000 in
theorem tX11_step_221  {r : Int32} (cx : CallFix p m c prog_13_method_31_code 6 s args tbG RX11) (hr : meth.sig.returnType = (Option.some FieldType.int)) (hlk : meth.locks = false)  (t0 : Nat) (v3 : Int32) (v4 : Int32) (h : Hp) (H : Heap) (locs : List Loc) (ls : Array Slot) (hB : hp_B D cA (hp_A h0) s h H locs) (hl : lv_has ls 6 [(0, .ref t0), (3, .int v3), (4, .int v4)]) (hf : fX11_step_221  t0 v3 v4 h = some (r, h9)) : W p l e rmX11_step s m args below meth c H locs 0 0 (MQ below (hp_Qi D cA h0 h9 r) args s 0 0 (hp_A h0)) (F0 m 221 ls []) := by
  obtain ⟨hx, hb, -⟩ := id cx
  unfold fX11_step_221 at hf
  refine lv_aload_n hx hb dX11_step_221 rfl (lv_at hl 0 rfl) ?_
  obtain ⟨k1, hf⟩ := gk_ok hf
  refine gf_X11_196 cx hB k1 dX11_step_222 ?_
  refine lv_aload_n hx hb dX11_step_225 rfl (lv_at hl 0 rfl) ?_
  refine gf_X11_199 cx hB k1 dX11_step_226 ?_
  refine lv_icmp_le (tgt := 242) hx hb dX11_step_229 (by decide) (fun c2 => ?_) (fun c2 => ?_)
  · replace hf := it_t c2 hf
    refine lv_iload hx hb dX11_step_242 (lv_at hl 2 rfl) ?_
    refine lv_if_eq (tgt := 249) hx hb dX11_step_244 (by decide) (fun c3 => ?_) (fun c3 => ?_)
    · replace hf := it_t c3 hf
      refine lv_aload_n hx hb dX11_step_249 rfl (lv_at hl 0 rfl) ?_
      refine lv_iload_n hx hb dX11_step_250 rfl (lv_at hl 1 rfl) ?_
      obtain ⟨r6, g4, m5, hf⟩ := b2_ok hf
      refine hp_cI0 (cl_X11_142 cx hB (cX11_isPlace l D cA t0 v3 h _ g4 m5) k1 ⟨Nat.le_of_ble_eq_true rfl, Nat.le_of_ble_eq_true rfl⟩ rfl hl.1 rfl (Nat.le_of_ble_eq_true rfl) ⟨Nat.le_of_ble_eq_true rfl, Nat.le_of_ble_eq_true rfl⟩ dX11_step_251) rfl rfl hB (fun H locs hB => ?_)
      refine lv_if_ne (tgt := 259) hx hb dX11_step_254 (by decide) (fun c8 => ?_) (fun c8 => ?_)
      · replace hf := it_f c8 hf
        refine lv_aload_n hx hb dX11_step_259 rfl (lv_at hl 0 rfl) ?_
        refine lv_iload_n hx hb dX11_step_260 rfl (lv_at hl 1 rfl) ?_
        obtain ⟨k9, hf⟩ := gk_ok hf
        obtain ⟨uu, g10, m11, hf⟩ := b2_ok hf
        refine hp_cV0 (cl_X11_219 cx hB (cX11_comes l D cA t0 v3 g4 _ g10 m11) k9 ⟨Nat.le_of_ble_eq_true rfl, Nat.le_of_ble_eq_true rfl⟩ rfl hl.1 rfl (Nat.le_of_ble_eq_true rfl) ⟨Nat.le_of_ble_eq_true rfl, Nat.le_of_ble_eq_true rfl⟩ dX11_step_261) rfl rfl hB (fun H locs hB => ?_)
        refine lv_bipush (v := (-4)) hx hb dX11_step_264 (by decide) ?_
        obtain ⟨rfl, rfl⟩ := rt_ok hf
        exact hp_iret cx hB hr hlk (Nat.le_of_ble_eq_true rfl) (Nat.le_of_ble_eq_true rfl) dX11_step_266
      · replace hf := it_t c8 hf
        refine lv_iconst (v := 1) hx hb dX11_step_257 (by decide) ?_
        obtain ⟨rfl, rfl⟩ := rt_ok hf
        exact hp_iret cx hB hr hlk (Nat.le_of_ble_eq_true rfl) (Nat.le_of_ble_eq_true rfl) dX11_step_258
    · replace hf := it_f c3 hf
      refine lv_iconst (v := 0) hx hb dX11_step_247 (by decide) ?_
      obtain ⟨rfl, rfl⟩ := rt_ok hf
      exact hp_iret cx hB hr hlk (Nat.le_of_ble_eq_true rfl) (Nat.le_of_ble_eq_true rfl) dX11_step_248
  · replace hf := it_f c2 hf
    refine lv_aload_n hx hb dX11_step_232 rfl (lv_at hl 0 rfl) ?_
    refine lv_aload_n hx hb dX11_step_233 rfl (lv_at hl 0 rfl) ?_
    refine gf_X11_199 cx hB k1 dX11_step_234 ?_
    obtain ⟨g14, eg14, hf⟩ := nm_ok hf
    refine pf_X11_196 cx hB k1 dX11_step_237 (fun H locs hB => ?_)
    rw [← eg14] at hB
    refine lv_iconst (v := 2) hx hb dX11_step_240 (by decide) ?_
    obtain ⟨rfl, rfl⟩ := rt_ok hf
    exact hp_iret cx hB hr hlk (Nat.le_of_ble_eq_true rfl) (Nat.le_of_ble_eq_true rfl) dX11_step_241
set_option maxHeartbeats 4000000 in
set_option maxRecDepth 100000 in
theorem tX11_step_161  {r : Int32} (cx : CallFix p m c prog_13_method_31_code 6 s args tbG RX11) (hr : meth.sig.returnType = (Option.some FieldType.int)) (hlk : meth.locks = false)  (t0 : Nat) (v2 : Int32) (v4 : Int32) (s0 : Int32) (s1 : Int32) (u2 : Nat) (h : Hp) (H : Heap) (locs : List Loc) (ls : Array Slot) (hB : hp_B D cA (hp_A h0) s h H locs) (hl : lv_has ls 6 [(0, .ref t0), (2, .int v2), (4, .int v4)]) (hf : fX11_step_161  t0 v2 v4 s0 s1 u2 h = some (r, h9)) : W p l e rmX11_step s m args below meth c H locs 0 0 (MQ below (hp_Qi D cA h0 h9 r) args s 0 0 (hp_A h0)) (F0 m 161 ls [.int s0, .int s1, .ref u2]) := by
  obtain ⟨hx, hb, -⟩ := id cx
  unfold fX11_step_161 at hf
  refine lv_iadd hx hb dX11_step_161 ?_
  obtain ⟨k1, hf⟩ := gk_ok hf
  obtain ⟨g2, eg2, hf⟩ := nm_ok hf
  refine pf_X11_196 cx hB k1 dX11_step_162 (fun H locs hB => ?_)
  rw [← eg2] at hB
  refine lv_aload_n hx hb dX11_step_165 rfl (lv_at hl 0 rfl) ?_
  refine lv_iload_n hx hb dX11_step_166 rfl (lv_at hl 1 rfl) ?_
  obtain ⟨k3, hf⟩ := gk_ok hf
  obtain ⟨r6, g4, m5, hf⟩ := b2_ok hf
  refine hp_cI0 (cl_X11_187 cx hB (cX11_isRight l D cA t0 v2 g2 _ g4 m5) k3 ⟨Nat.le_of_ble_eq_true rfl, Nat.le_of_ble_eq_true rfl⟩ rfl hl.1 rfl (Nat.le_of_ble_eq_true rfl) ⟨Nat.le_of_ble_eq_true rfl, Nat.le_of_ble_eq_true rfl⟩ dX11_step_167) rfl rfl hB (fun H locs hB => ?_)
  refine lv_if_eq (tgt := 182) hx hb dX11_step_170 (by decide) (fun c8 => ?_) (fun c8 => ?_)
  · replace hf := it_t c8 hf
    refine lv_aload_n hx hb dX11_step_182 rfl (lv_at hl 0 rfl) ?_
    obtain ⟨k9, hf⟩ := gk_ok hf
    obtain ⟨a10, q11, hf⟩ := bd_ok hf
    refine gf_X11_22 cx hB k9 q11 dX11_step_183 ?_
    refine lv_iload_n hx hb dX11_step_186 rfl (lv_at hl 1 rfl) ?_
    obtain ⟨k12, hf⟩ := gk_ok hf
    obtain ⟨j13, hf⟩ := gd_ok hf
    refine hp_iald cx hB k12 j13 dX11_step_187 ?_
    obtain ⟨x14, ex14, hf⟩ := nm_ok hf
    refine lv_ren ex14 ?_
    refine lv_istore_n (lv' := [(3, .int x14), (0, .ref t0), (2, .int v2), (4, .int v4)]) hx hb dX11_step_188 rfl hl (by decide) rfl (fun ls hl => ?_)
    refine lv_goto (tgt := 221) hx hb dX11_step_189 (by decide) ?_
    exact tX11_step_221 cx hr hlk  t0 x14 v4 g4 _ _ _ hB (lv_sub hl [1, 0, 3] rfl) hf
  · replace hf := it_f c8 hf
    refine lv_aload_n hx hb dX11_step_173 rfl (lv_at hl 0 rfl) ?_
    obtain ⟨k15, hf⟩ := gk_ok hf
    obtain ⟨a16, q17, hf⟩ := bd_ok hf
    refine gf_X11_19 cx hB k15 q17 dX11_step_174 ?_
    refine lv_iload_n hx hb dX11_step_177 rfl (lv_at hl 1 rfl) ?_
    obtain ⟨k18, hf⟩ := gk_ok hf
    obtain ⟨j19, hf⟩ := gd_ok hf
    refine hp_iald cx hB k18 j19 dX11_step_178 ?_
    refine lv_goto (tgt := 188) hx hb dX11_step_179 (by decide) ?_
    obtain ⟨x20, ex20, hf⟩ := nm_ok hf
    refine lv_ren ex20 ?_
    refine lv_istore_n (lv' := [(3, .int x20), (0, .ref t0), (2, .int v2), (4, .int v4)]) hx hb dX11_step_188 rfl hl (by decide) rfl (fun ls hl => ?_)
    refine lv_goto (tgt := 221) hx hb dX11_step_189 (by decide) ?_
    exact tX11_step_221 cx hr hlk  t0 x20 v4 g4 _ _ _ hB (lv_sub hl [1, 0, 3] rfl) hf
set_option maxHeartbeats 4000000 in
set_option maxRecDepth 100000 in
theorem tX11_step_131  {r : Int32} (cx : CallFix p m c prog_13_method_31_code 6 s args tbG RX11) (hr : meth.sig.returnType = (Option.some FieldType.int)) (hlk : meth.locks = false)  (t0 : Nat) (v2 : Int32) (v4 : Int32) (s0 : Int32) (s1 : Int32) (h : Hp) (H : Heap) (locs : List Loc) (ls : Array Slot) (hB : hp_B D cA (hp_A h0) s h H locs) (hl : lv_has ls 6 [(0, .ref t0), (2, .int v2), (4, .int v4)]) (hf : fX11_step_131  t0 v2 v4 s0 s1 h = some (r, h9)) : W p l e rmX11_step s m args below meth c H locs 0 0 (MQ below (hp_Qi D cA h0 h9 r) args s 0 0 (hp_A h0)) (F0 m 131 ls [.int s0, .int s1]) := by
  obtain ⟨hx, hb, -⟩ := id cx
  unfold fX11_step_131 at hf
  refine lv_iadd hx hb dX11_step_131 ?_
  obtain ⟨x1, ex1, hf⟩ := nm_ok hf
  refine lv_ren ex1 ?_
  refine lv_istore (lv' := [(5, .int x1), (0, .ref t0), (2, .int v2), (4, .int v4)]) hx hb dX11_step_132 hl (by decide) rfl (fun ls hl => ?_)
  refine lv_aload_n hx hb dX11_step_134 rfl (lv_at hl 1 rfl) ?_
  refine lv_dup hx hb dX11_step_135 rfl ?_
  obtain ⟨k2, hf⟩ := gk_ok hf
  refine gf_X11_196 cx hB k2 dX11_step_136 ?_
  refine lv_aload_n hx hb dX11_step_139 rfl (lv_at hl 1 rfl) ?_
  refine lv_iload_n hx hb dX11_step_140 rfl (lv_at hl 2 rfl) ?_
  obtain ⟨r5, g3, m4, hf⟩ := b2_ok hf
  refine hp_cI0 (cl_X11_187 cx hB (cX11_isRight l D cA t0 v2 h _ g3 m4) k2 ⟨Nat.le_of_ble_eq_true rfl, Nat.le_of_ble_eq_true rfl⟩ rfl hl.1 rfl (Nat.le_of_ble_eq_true rfl) ⟨Nat.le_of_ble_eq_true rfl, Nat.le_of_ble_eq_true rfl⟩ dX11_step_141) rfl rfl hB (fun H locs hB => ?_)
  refine lv_if_eq (tgt := 152) hx hb dX11_step_144 (by decide) (fun c7 => ?_) (fun c7 => ?_)
  · replace hf := it_t c7 hf
    refine lv_iload hx hb dX11_step_152 (lv_at hl 0 rfl) ?_
    refine lv_aload_n hx hb dX11_step_154 rfl (lv_at hl 1 rfl) ?_
    obtain ⟨k8, hf⟩ := gk_ok hf
    obtain ⟨a9, q10, hf⟩ := bd_ok hf
    refine gf_X11_16 cx hB k8 q10 dX11_step_155 ?_
    refine lv_iload_n hx hb dX11_step_158 rfl (lv_at hl 2 rfl) ?_
    obtain ⟨k11, hf⟩ := gk_ok hf
    obtain ⟨j12, hf⟩ := gd_ok hf
    refine hp_iald cx hB k11 j12 dX11_step_159 ?_
    refine lv_imul hx hb dX11_step_160 ?_
    exact tX11_step_161 cx hr hlk  t0 v2 v4 (x1 * (g3.2.2.1 a9 (Int32.toNatClampNeg v2))) (h.2.2.1 t0 37) t0 g3 _ _ _ hB (lv_sub hl [1, 2, 3] rfl) hf
  · replace hf := it_f c7 hf
    refine lv_iload hx hb dX11_step_147 (lv_at hl 0 rfl) ?_
    refine lv_goto (tgt := 161) hx hb dX11_step_149 (by decide) ?_
    exact tX11_step_161 cx hr hlk  t0 v2 v4 x1 (h.2.2.1 t0 37) t0 g3 _ _ _ hB (lv_sub hl [1, 2, 3] rfl) hf
set_option maxHeartbeats 4000000 in
set_option maxRecDepth 100000 in
theorem tX11_step_31  {r : Int32} (cx : CallFix p m c prog_13_method_31_code 6 s args tbG RX11) (hr : meth.sig.returnType = (Option.some FieldType.int)) (hlk : meth.locks = false)  (t0 : Nat) (v1 : Int32) (v2 : Int32) (v4 : Int32) (s0 : Int32) (u1 : Nat) (h : Hp) (H : Heap) (locs : List Loc) (ls : Array Slot) (hB : hp_B D cA (hp_A h0) s h H locs) (hl : lv_has ls 6 [(0, .ref t0), (1, .int v1), (2, .int v2), (4, .int v4)]) (hf : fX11_step_31  t0 v1 v2 v4 s0 u1 h = some (r, h9)) : W p l e rmX11_step s m args below meth c H locs 0 0 (MQ below (hp_Qi D cA h0 h9 r) args s 0 0 (hp_A h0)) (F0 m 31 ls [.int s0, .ref u1]) := by
  obtain ⟨hx, hb, -⟩ := id cx
  unfold fX11_step_31 at hf
  obtain ⟨k1, hf⟩ := gk_ok hf
  obtain ⟨g2, eg2, hf⟩ := nm_ok hf
  refine pf_X11_212 cx hB k1 dX11_step_31 (fun H locs hB => ?_)
  rw [← eg2] at hB
  refine lv_aload_n hx hb dX11_step_34 rfl (lv_at hl 0 rfl) ?_
  obtain ⟨k3, hf⟩ := gk_ok hf
  refine gf_X11_212 cx hB k3 dX11_step_35 ?_
  refine lv_bipush (v := 40) hx hb dX11_step_38 (by decide) ?_
  refine lv_icmp_le (tgt := 45) hx hb dX11_step_40 (by decide) (fun c4 => ?_) (fun c4 => ?_)
  · replace hf := it_t c4 hf
    refine lv_aload_n hx hb dX11_step_45 rfl (lv_at hl 0 rfl) ?_
    obtain ⟨a5, q6, hf⟩ := bd_ok hf
    refine gf_X11_7 cx hB k3 q6 dX11_step_46 ?_
    refine lv_iload_n hx hb dX11_step_49 rfl (lv_at hl 2 rfl) ?_
    obtain ⟨k7, hf⟩ := gk_ok hf
    obtain ⟨j8, hf⟩ := gd_ok hf
    refine hp_iald cx hB k7 j8 dX11_step_50 ?_
    refine lv_if_ne (tgt := 64) hx hb dX11_step_51 (by decide) (fun c9 => ?_) (fun c9 => ?_)
    · replace hf := it_f c9 hf
      refine lv_aload_n hx hb dX11_step_64 rfl (lv_at hl 0 rfl) ?_
      refine gf_X11_7 cx hB k3 q6 dX11_step_65 ?_
      refine lv_iload_n hx hb dX11_step_68 rfl (lv_at hl 2 rfl) ?_
      obtain ⟨j10, hf⟩ := gd_ok hf
      refine hp_iald cx hB k7 j10 dX11_step_69 ?_
      refine lv_iconst (v := 3) hx hb dX11_step_70 (by decide) ?_
      refine lv_icmp_ne (tgt := 101) hx hb dX11_step_71 (by decide) (fun c11 => ?_) (fun c11 => ?_)
      · replace hf := it_f c11 hf
        refine lv_aload_n hx hb dX11_step_101 rfl (lv_at hl 0 rfl) ?_
        refine gf_X11_7 cx hB k3 q6 dX11_step_102 ?_
        refine lv_iload_n hx hb dX11_step_105 rfl (lv_at hl 2 rfl) ?_
        obtain ⟨j12, hf⟩ := gd_ok hf
        refine hp_iald cx hB k7 j12 dX11_step_106 ?_
        refine lv_iconst (v := 4) hx hb dX11_step_107 (by decide) ?_
        refine lv_icmp_ne (tgt := 192) hx hb dX11_step_108 (by decide) (fun c13 => ?_) (fun c13 => ?_)
        · replace hf := it_f c13 hf
          refine lv_aload_n hx hb dX11_step_192 rfl (lv_at hl 0 rfl) ?_
          refine lv_dup hx hb dX11_step_193 rfl ?_
          refine gf_X11_196 cx hB k3 dX11_step_194 ?_
          refine lv_aload_n hx hb dX11_step_197 rfl (lv_at hl 0 rfl) ?_
          obtain ⟨a14, q15, hf⟩ := bd_ok hf
          refine gf_X11_13 cx hB k3 q15 dX11_step_198 ?_
          refine lv_iload_n hx hb dX11_step_201 rfl (lv_at hl 2 rfl) ?_
          obtain ⟨k16, hf⟩ := gk_ok hf
          obtain ⟨j17, hf⟩ := gd_ok hf
          refine hp_iald cx hB k16 j17 dX11_step_202 ?_
          refine lv_iadd hx hb dX11_step_203 ?_
          obtain ⟨g18, eg18, hf⟩ := nm_ok hf
          refine pf_X11_196 cx hB k3 dX11_step_204 (fun H locs hB => ?_)
          rw [← eg18] at hB
          refine lv_aload_n hx hb dX11_step_207 rfl (lv_at hl 0 rfl) ?_
          refine lv_iload_n hx hb dX11_step_208 rfl (lv_at hl 2 rfl) ?_
          have k19 : g18.1 t0 = 12 := by rw [eg18]; exact k3
          obtain ⟨r22, g20, m21, hf⟩ := b2_ok hf
          refine hp_cI0 (cl_X11_177 cx hB (cX11_isServed l D cA t0 v2 g18 _ g20 m21) k19 ⟨Nat.le_of_ble_eq_true rfl, Nat.le_of_ble_eq_true rfl⟩ rfl hl.1 rfl (Nat.le_of_ble_eq_true rfl) ⟨Nat.le_of_ble_eq_true rfl, Nat.le_of_ble_eq_true rfl⟩ dX11_step_209) rfl rfl hB (fun H locs hB => ?_)
          refine lv_istore (lv' := [(4, .int r22), (0, .ref t0), (1, .int v1), (2, .int v2)]) hx hb dX11_step_212 hl (by decide) rfl (fun ls hl => ?_)
          refine lv_aload_n hx hb dX11_step_214 rfl (lv_at hl 1 rfl) ?_
          obtain ⟨k24, hf⟩ := gk_ok hf
          obtain ⟨a25, q26, hf⟩ := bd_ok hf
          refine gf_X11_19 cx hB k24 q26 dX11_step_215 ?_
          refine lv_iload_n hx hb dX11_step_218 rfl (lv_at hl 3 rfl) ?_
          obtain ⟨k27, hf⟩ := gk_ok hf
          obtain ⟨j28, hf⟩ := gd_ok hf
          refine hp_iald cx hB k27 j28 dX11_step_219 ?_
          obtain ⟨x29, ex29, hf⟩ := nm_ok hf
          refine lv_ren ex29 ?_
          refine lv_istore_n (lv' := [(3, .int x29), (4, .int r22), (0, .ref t0), (1, .int v1), (2, .int v2)]) hx hb dX11_step_220 rfl hl (by decide) rfl (fun ls hl => ?_)
          exact tX11_step_221 cx hr hlk  t0 x29 r22 g20 _ _ _ hB (lv_sub hl [2, 0, 1] rfl) hf
        · replace hf := it_t c13 hf
          refine lv_aload_n hx hb dX11_step_111 rfl (lv_at hl 0 rfl) ?_
          obtain ⟨a30, q31, hf⟩ := bd_ok hf
          refine gf_X11_34 cx hB k3 q31 dX11_step_112 ?_
          refine lv_iload_n hx hb dX11_step_115 rfl (lv_at hl 2 rfl) ?_
          obtain ⟨k32, hf⟩ := gk_ok hf
          obtain ⟨j33, hf⟩ := gd_ok hf
          refine hp_iald cx hB k32 j33 dX11_step_116 ?_
          refine lv_iload_n hx hb dX11_step_117 rfl (lv_at hl 1 rfl) ?_
          refine lv_if_eq (tgt := 125) hx hb dX11_step_118 (by decide) (fun c34 => ?_) (fun c34 => ?_)
          · replace hf := it_t c34 hf
            refine lv_aload_n hx hb dX11_step_125 rfl (lv_at hl 0 rfl) ?_
            obtain ⟨a35, q36, hf⟩ := bd_ok hf
            refine gf_X11_13 cx hB k3 q36 dX11_step_126 ?_
            refine lv_iload_n hx hb dX11_step_129 rfl (lv_at hl 2 rfl) ?_
            obtain ⟨k37, hf⟩ := gk_ok hf
            obtain ⟨j38, hf⟩ := gd_ok hf
            refine hp_iald cx hB k37 j38 dX11_step_130 ?_
            exact tX11_step_131 cx hr hlk  t0 v2 v4 (g2.2.2.1 a35 (Int32.toNatClampNeg v2)) (g2.2.2.1 a30 (Int32.toNatClampNeg v2)) g2 _ _ _ hB (lv_sub hl [0, 2, 3] rfl) hf
          · replace hf := it_f c34 hf
            refine lv_iconst (v := 0) hx hb dX11_step_121 (by decide) ?_
            refine lv_goto (tgt := 131) hx hb dX11_step_122 (by decide) ?_
            exact tX11_step_131 cx hr hlk  t0 v2 v4 0 (g2.2.2.1 a30 (Int32.toNatClampNeg v2)) g2 _ _ _ hB (lv_sub hl [0, 2, 3] rfl) hf
      · replace hf := it_t c11 hf
        refine lv_aload_n hx hb dX11_step_74 rfl (lv_at hl 0 rfl) ?_
        refine lv_iload_n hx hb dX11_step_75 rfl (lv_at hl 2 rfl) ?_
        obtain ⟨r41, g39, m40, hf⟩ := b2_ok hf
        refine hp_cI0 (cl_X11_184 cx hB (cX11_isOpen l D cA t0 v2 g2 _ g39 m40) k3 ⟨Nat.le_of_ble_eq_true rfl, Nat.le_of_ble_eq_true rfl⟩ rfl hl.1 rfl (Nat.le_of_ble_eq_true rfl) ⟨Nat.le_of_ble_eq_true rfl, Nat.le_of_ble_eq_true rfl⟩ dX11_step_76) rfl rfl hB (fun H locs hB => ?_)
        refine lv_if_eq (tgt := 91) hx hb dX11_step_79 (by decide) (fun c43 => ?_) (fun c43 => ?_)
        · replace hf := it_t c43 hf
          refine lv_aload_n hx hb dX11_step_91 rfl (lv_at hl 0 rfl) ?_
          obtain ⟨k44, hf⟩ := gk_ok hf
          obtain ⟨a45, q46, hf⟩ := bd_ok hf
          refine gf_X11_22 cx hB k44 q46 dX11_step_92 ?_
          refine lv_iload_n hx hb dX11_step_95 rfl (lv_at hl 2 rfl) ?_
          obtain ⟨k47, hf⟩ := gk_ok hf
          obtain ⟨j48, hf⟩ := gd_ok hf
          refine hp_iald cx hB k47 j48 dX11_step_96 ?_
          obtain ⟨x49, ex49, hf⟩ := nm_ok hf
          refine lv_ren ex49 ?_
          refine lv_istore_n (lv' := [(3, .int x49), (0, .ref t0), (1, .int v1), (2, .int v2), (4, .int v4)]) hx hb dX11_step_97 rfl hl (by decide) rfl (fun ls hl => ?_)
          refine lv_goto (tgt := 221) hx hb dX11_step_98 (by decide) ?_
          exact tX11_step_221 cx hr hlk  t0 x49 v4 g39 _ _ _ hB (lv_sub hl [1, 0, 4] rfl) hf
        · replace hf := it_f c43 hf
          refine lv_aload_n hx hb dX11_step_82 rfl (lv_at hl 0 rfl) ?_
          obtain ⟨k50, hf⟩ := gk_ok hf
          obtain ⟨a51, q52, hf⟩ := bd_ok hf
          refine gf_X11_19 cx hB k50 q52 dX11_step_83 ?_
          refine lv_iload_n hx hb dX11_step_86 rfl (lv_at hl 2 rfl) ?_
          obtain ⟨k53, hf⟩ := gk_ok hf
          obtain ⟨j54, hf⟩ := gd_ok hf
          refine hp_iald cx hB k53 j54 dX11_step_87 ?_
          refine lv_goto (tgt := 97) hx hb dX11_step_88 (by decide) ?_
          obtain ⟨x55, ex55, hf⟩ := nm_ok hf
          refine lv_ren ex55 ?_
          refine lv_istore_n (lv' := [(3, .int x55), (0, .ref t0), (1, .int v1), (2, .int v2), (4, .int v4)]) hx hb dX11_step_97 rfl hl (by decide) rfl (fun ls hl => ?_)
          refine lv_goto (tgt := 221) hx hb dX11_step_98 (by decide) ?_
          exact tX11_step_221 cx hr hlk  t0 x55 v4 g39 _ _ _ hB (lv_sub hl [1, 0, 4] rfl) hf
    · replace hf := it_t c9 hf
      refine lv_aload_n hx hb dX11_step_54 rfl (lv_at hl 0 rfl) ?_
      refine lv_iload_n hx hb dX11_step_55 rfl (lv_at hl 2 rfl) ?_
      refine lv_iload_n hx hb dX11_step_56 rfl (lv_at hl 1 rfl) ?_
      obtain ⟨r58, g56, m57, hf⟩ := b2_ok hf
      refine hp_cI0 (cl_X11_215 cx hB (cX11_goOn l D cA t0 v2 v1 g2 _ g56 m57) k3 ⟨Nat.le_of_ble_eq_true rfl, Nat.le_of_ble_eq_true rfl⟩ rfl hl.1 rfl (Nat.le_of_ble_eq_true rfl) ⟨Nat.le_of_ble_eq_true rfl, Nat.le_of_ble_eq_true rfl⟩ dX11_step_57) rfl rfl hB (fun H locs hB => ?_)
      refine lv_istore_n (lv' := [(3, .int r58), (0, .ref t0), (1, .int v1), (2, .int v2), (4, .int v4)]) hx hb dX11_step_60 rfl hl (by decide) rfl (fun ls hl => ?_)
      refine lv_goto (tgt := 221) hx hb dX11_step_61 (by decide) ?_
      exact tX11_step_221 cx hr hlk  t0 r58 v4 g56 _ _ _ hB (lv_sub hl [1, 0, 4] rfl) hf
  · replace hf := it_f c4 hf
    refine lv_iconst (v := 3) hx hb dX11_step_43 (by decide) ?_
    obtain ⟨rfl, rfl⟩ := rt_ok hf
    exact hp_iret cx hB hr hlk (Nat.le_of_ble_eq_true rfl) (Nat.le_of_ble_eq_true rfl) dX11_step_44
set_option maxHeartbeats 4000000 in
set_option maxRecDepth 100000 in
theorem tX11_step_0  {r : Int32} (cx : CallFix p m c prog_13_method_31_code 6 s args tbG RX11) (hr : meth.sig.returnType = (Option.some FieldType.int)) (hlk : meth.locks = false)  (t0 : Nat) (v1 : Int32) (h : Hp) (H : Heap) (locs : List Loc) (ls : Array Slot) (hB : hp_B D cA (hp_A h0) s h H locs) (hl : lv_has ls 6 [(0, .ref t0), (1, .int v1)]) (hf : fX11_step  t0 v1 h = some (r, h9)) : W p l e rmX11_step s m args below meth c H locs 0 0 (MQ below (hp_Qi D cA h0 h9 r) args s 0 0 (hp_A h0)) (F0 m 0 ls []) := by
  obtain ⟨hx, hb, -⟩ := id cx
  unfold fX11_step at hf
  refine lv_aload_n hx hb dX11_step_0 rfl (lv_at hl 0 rfl) ?_
  obtain ⟨k1, hf⟩ := gk_ok hf
  refine gf_X11_209 cx hB k1 dX11_step_1 ?_
  obtain ⟨x2, ex2, hf⟩ := nm_ok hf
  refine lv_ren ex2 ?_
  refine lv_istore_n (lv' := [(2, .int x2), (0, .ref t0), (1, .int v1)]) hx hb dX11_step_4 rfl hl (by decide) rfl (fun ls hl => ?_)
  refine lv_iconst (v := (-1)) hx hb dX11_step_5 (by decide) ?_
  refine lv_istore_n (lv' := [(3, .int (-1)), (2, .int x2), (0, .ref t0), (1, .int v1)]) hx hb dX11_step_6 rfl hl (by decide) rfl (fun ls hl => ?_)
  refine lv_iconst (v := 0) hx hb dX11_step_7 (by decide) ?_
  refine lv_istore (lv' := [(4, .int 0), (3, .int (-1)), (2, .int x2), (0, .ref t0), (1, .int v1)]) hx hb dX11_step_8 hl (by decide) rfl (fun ls hl => ?_)
  refine lv_aload_n hx hb dX11_step_10 rfl (lv_at hl 3 rfl) ?_
  refine lv_aload_n hx hb dX11_step_11 rfl (lv_at hl 3 rfl) ?_
  obtain ⟨a3, q4, hf⟩ := bd_ok hf
  refine gf_X11_7 cx hB k1 q4 dX11_step_12 ?_
  refine lv_iload_n hx hb dX11_step_15 rfl (lv_at hl 2 rfl) ?_
  obtain ⟨k5, hf⟩ := gk_ok hf
  obtain ⟨j6, hf⟩ := gd_ok hf
  refine hp_iald cx hB k5 j6 dX11_step_16 ?_
  refine lv_iconst (v := 3) hx hb dX11_step_17 (by decide) ?_
  refine lv_icmp_ne (tgt := 30) hx hb dX11_step_18 (by decide) (fun c7 => ?_) (fun c7 => ?_)
  · replace hf := it_f c7 hf
    refine lv_iconst (v := 0) hx hb dX11_step_30 (by decide) ?_
    exact tX11_step_31 cx hr hlk  t0 v1 x2 0 0 t0 h _ _ _ hB (lv_sub hl [3, 4, 2, 0] rfl) hf
  · replace hf := it_t c7 hf
    refine lv_aload_n hx hb dX11_step_21 rfl (lv_at hl 3 rfl) ?_
    refine gf_X11_212 cx hB k1 dX11_step_22 ?_
    refine lv_iconst (v := 1) hx hb dX11_step_25 (by decide) ?_
    refine lv_iadd hx hb dX11_step_26 ?_
    refine lv_goto (tgt := 31) hx hb dX11_step_27 (by decide) ?_
    exact tX11_step_31 cx hr hlk  t0 v1 x2 0 ((h.2.2.1 t0 41) + 1) t0 h _ _ _ hB (lv_sub hl [3, 4, 2, 0] rfl) hf
end
set_option maxHeartbeats 4000000 in
set_option maxRecDepth 100000 in
theorem cX11_step (l : Launch) (D : va_G) (cA : Nat → ClassId) (t0 : Nat) (v1 : Int32) (h : Hp) (r : Int32) (h9 : Hp) (hf : fX11_step t0 v1 h = some (r, h9)) : hp_M l yX11_step prog_13_method_31_code 6 (Option.some FieldType.int) rmX11_step D cA h [.ref t0, .int v1] (hp_Qi D cA h h9 r) := by
  refine Met.ofW (cc := prog_13_method_31_code) (maxL := 6) (ret := (Option.some FieldType.int)) (by decide) rfl ?_
  intro p e s m args below meth c s₁ B hml hv
  obtain ⟨rfl, hU⟩ := hv
  have hts := atoms_spec (ws := Cond.code yX11_step prog_13_method_31_code 6 (Option.some FieldType.int) :: tbG) B.pre
  have hl := lv_entry ([.ref t0, .int v1]) (n := 6) (Nat.le_of_ble_eq_true rfl)
  rw [lg_entry_eq]
  generalize (lg_sl ([.ref t0, .int v1]) ++ List.replicate (6 - (lg_sl ([.ref t0, .int v1])).length) Slot.unset).toArray = ls at hl ⊢
  exact tX11_step_0 ⟨B.exec, B.bytes, hml, findClass_of_methodNamed B.named, fun w hw => hts w (List.mem_cons_of_mem _ hw)⟩ B.returns B.notSynchronized t0 v1 h _ _ _ (hp_B.entry hU) hl hf
section
variable {p : Program} {l : Launch} {e : Env} {R : Room} {s : State} {m : MethodId} {args : Array Value} {below : List Frame} {meth : Method} {c : Code} {H : Heap} {locs : List Loc} {cells slots : Nat} {Q : State → Prop}
variable {cc : ByteArray} {pc nL : Nat} {ls : Array Slot} {rest : List Value} {D : va_G} {cA : Nat → ClassId} {A : Nat → Prop} {a : Nat} {h : Hp}
theorem pf_X11_169 (cx : CallFix p m c cc nL s args tbG RX11) (hB : hp_B D cA A s h H locs) (hka : h.1 a = 12) {x : Int32} (hdg : decode cc pc = .ok (.putfield 169, 3)) (kk : ∀ (H1 : Heap) (locs1 : List Loc), hp_B D cA A s (hp_si h a 32 x) H1 locs1 → W p l e R s m args below meth c H1 locs1 cells slots Q (F0 m (pc + 3) ls rest)) : W p l e R s m args below meth c H locs cells slots Q (F0 m pc ls (.int x :: .ref a :: rest)) :=
  hp_putX cx hB (ci := 11) 32 tyX11 tyX11_ok nmX11 rfl inX11 (by decide) rfl (by decide) (Or.inl rfl) qw_764 hka (v := .int x) (hp_like_si h a 32 x) (hp_fs_si (by decide) rfl) rfl rfl hdg kk
theorem pf_X11_166 (cx : CallFix p m c cc nL s args tbG RX11) (hB : hp_B D cA A s h H locs) (hka : h.1 a = 12) {x : Int32} (hdg : decode cc pc = .ok (.putfield 166, 3)) (kk : ∀ (H1 : Heap) (locs1 : List Loc), hp_B D cA A s (hp_si h a 33 x) H1 locs1 → W p l e R s m args below meth c H1 locs1 cells slots Q (F0 m (pc + 3) ls rest)) : W p l e R s m args below meth c H locs cells slots Q (F0 m pc ls (.int x :: .ref a :: rest)) :=
  hp_putX cx hB (ci := 11) 33 tyX11 tyX11_ok nmX11 rfl inX11 (by decide) rfl (by decide) (Or.inl rfl) qw_765 hka (v := .int x) (hp_like_si h a 33 x) (hp_fs_si (by decide) rfl) rfl rfl hdg kk
theorem pf_X11_199 (cx : CallFix p m c cc nL s args tbG RX11) (hB : hp_B D cA A s h H locs) (hka : h.1 a = 12) {x : Int32} (hdg : decode cc pc = .ok (.putfield 199, 3)) (kk : ∀ (H1 : Heap) (locs1 : List Loc), hp_B D cA A s (hp_si h a 34 x) H1 locs1 → W p l e R s m args below meth c H1 locs1 cells slots Q (F0 m (pc + 3) ls rest)) : W p l e R s m args below meth c H locs cells slots Q (F0 m pc ls (.int x :: .ref a :: rest)) :=
  hp_putX cx hB (ci := 11) 34 tyX11 tyX11_ok nmX11 rfl inX11 (by decide) rfl (by decide) (Or.inl rfl) qw_766 hka (v := .int x) (hp_like_si h a 34 x) (hp_fs_si (by decide) rfl) rfl rfl hdg kk
theorem pf_X11_163 (cx : CallFix p m c cc nL s args tbG RX11) (hB : hp_B D cA A s h H locs) (hka : h.1 a = 12) {x : Int32} (hdg : decode cc pc = .ok (.putfield 163, 3)) (kk : ∀ (H1 : Heap) (locs1 : List Loc), hp_B D cA A s (hp_si h a 35 x) H1 locs1 → W p l e R s m args below meth c H1 locs1 cells slots Q (F0 m (pc + 3) ls rest)) : W p l e R s m args below meth c H locs cells slots Q (F0 m pc ls (.int x :: .ref a :: rest)) :=
  hp_putX cx hB (ci := 11) 35 tyX11 tyX11_ok nmX11 rfl inX11 (by decide) rfl (by decide) (Or.inl rfl) qw_767 hka (v := .int x) (hp_like_si h a 35 x) (hp_fs_si (by decide) rfl) rfl rfl hdg kk
theorem cl_X11_225 {As st0 : List Value} {b : Nat} {Qc : Array Value → State → Outcome → State → Prop} (cx : CallFix p m c cc nL s args tbG RX11) (hB : hp_B D cA A s h H locs) (hM : hp_M l yX11_layLeast prog_13_method_28_code 4 none rmX11_layLeast D cA h (.ref b :: As) Qc) (hkb : h.1 b = 12) (hR : rmX11_layLeast.frames + 1 ≤ R.frames ∧ 8 + (4 + 11) + rmX11_layLeast.locals ≤ R.locals) (hn : As.length = 0) (hls : ls.size = nL) (hst : st0 = As.reverse ++ .ref b :: rest) (hW : (rest.map fun v => v.category).sum ≤ 8) (hf : cells + rmX11_layLeast.cells ≤ R.cells ∧ slots + rmX11_layLeast.slots ≤ R.slots) (hdg : decode cc pc = .ok (.invokevirtual 225, 3)) :
    va_Run p l e R s m args below meth c H locs cells slots rmX11_layLeast.cells rmX11_layLeast.slots (F0 m pc ls st0) rest (Qc (Value.ref b :: As).toArray) (hp_A h) :=
  hp_runV cx hB hM (ci := 11) rfl (by decide) hkb qw_992 qw_989 qw_991 qp_22 qw_10 (by decide +kernel) hR hn hls hst hW hf hdg
theorem cl_X11_228 {As st0 : List Value} {b : Nat} {Qc : Array Value → State → Outcome → State → Prop} (cx : CallFix p m c cc nL s args tbG RX11) (hB : hp_B D cA A s h H locs) (hM : hp_M l yX11_step prog_13_method_31_code 6 (Option.some FieldType.int) rmX11_step D cA h (.ref b :: As) Qc) (hkb : h.1 b = 12) (hR : rmX11_step.frames + 1 ≤ R.frames ∧ 8 + (6 + 11) + rmX11_step.locals ≤ R.locals) (hn : As.length = 1) (hls : ls.size = nL) (hst : st0 = As.reverse ++ .ref b :: rest) (hW : (rest.map fun v => v.category).sum ≤ 8) (hf : cells + rmX11_step.cells ≤ R.cells ∧ slots + rmX11_step.slots ≤ R.slots) (hdg : decode cc pc = .ok (.invokevirtual 228, 3)) :
    va_Run p l e R s m args below meth c H locs cells slots rmX11_step.cells rmX11_step.slots (F0 m pc ls st0) rest (Qc (Value.ref b :: As).toArray) (hp_A h) :=
  hp_runV cx hB hM (ci := 11) rfl (by decide) hkb qw_1029 qw_1026 qw_1028 qp_31 qw_10 (by decide +kernel) hR hn hls hst hW hf hdg
end
abbrev yX11_goThrough : MethodName := ⟨"SpokenMenusModel", "goThrough", "(IIIIZ)I"⟩
theorem dX11_goThrough_0 : decode prog_13_method_33_code 0 = .ok (.aload_n 0, 1) := by decide +kernel
theorem dX11_goThrough_1 : decode prog_13_method_33_code 1 = .ok (.iload_n 1, 1) := by decide +kernel
theorem dX11_goThrough_2 : decode prog_13_method_33_code 2 = .ok (.putfield 169, 3) := by decide +kernel
theorem dX11_goThrough_5 : decode prog_13_method_33_code 5 = .ok (.aload_n 0, 1) := by decide +kernel
theorem dX11_goThrough_6 : decode prog_13_method_33_code 6 = .ok (.iload_n 2, 1) := by decide +kernel
theorem dX11_goThrough_7 : decode prog_13_method_33_code 7 = .ok (.putfield 166, 3) := by decide +kernel
theorem dX11_goThrough_10 : decode prog_13_method_33_code 10 = .ok (.aload_n 0, 1) := by decide +kernel
theorem dX11_goThrough_11 : decode prog_13_method_33_code 11 = .ok (.iload_n 3, 1) := by decide +kernel
theorem dX11_goThrough_12 : decode prog_13_method_33_code 12 = .ok (.putfield 199, 3) := by decide +kernel
theorem dX11_goThrough_15 : decode prog_13_method_33_code 15 = .ok (.aload_n 0, 1) := by decide +kernel
theorem dX11_goThrough_16 : decode prog_13_method_33_code 16 = .ok (.iload 4, 2) := by decide +kernel
theorem dX11_goThrough_18 : decode prog_13_method_33_code 18 = .ok (.putfield 163, 3) := by decide +kernel
theorem dX11_goThrough_21 : decode prog_13_method_33_code 21 = .ok (.aload_n 0, 1) := by decide +kernel
theorem dX11_goThrough_22 : decode prog_13_method_33_code 22 = .ok (.iconst 0, 1) := by decide +kernel
theorem dX11_goThrough_23 : decode prog_13_method_33_code 23 = .ok (.putfield 196, 3) := by decide +kernel
theorem dX11_goThrough_26 : decode prog_13_method_33_code 26 = .ok (.aload_n 0, 1) := by decide +kernel
theorem dX11_goThrough_27 : decode prog_13_method_33_code 27 = .ok (.iconst 0, 1) := by decide +kernel
theorem dX11_goThrough_28 : decode prog_13_method_33_code 28 = .ok (.putfield 222, 3) := by decide +kernel
theorem dX11_goThrough_31 : decode prog_13_method_33_code 31 = .ok (.aload_n 0, 1) := by decide +kernel
theorem dX11_goThrough_32 : decode prog_13_method_33_code 32 = .ok (.iconst 0, 1) := by decide +kernel
theorem dX11_goThrough_33 : decode prog_13_method_33_code 33 = .ok (.putfield 202, 3) := by decide +kernel
theorem dX11_goThrough_36 : decode prog_13_method_33_code 36 = .ok (.aload_n 0, 1) := by decide +kernel
theorem dX11_goThrough_37 : decode prog_13_method_33_code 37 = .ok (.iconst 0, 1) := by decide +kernel
theorem dX11_goThrough_38 : decode prog_13_method_33_code 38 = .ok (.putfield 212, 3) := by decide +kernel
theorem dX11_goThrough_41 : decode prog_13_method_33_code 41 = .ok (.iconst 0, 1) := by decide +kernel
theorem dX11_goThrough_42 : decode prog_13_method_33_code 42 = .ok (.istore 6, 2) := by decide +kernel
theorem dX11_goThrough_44 : decode prog_13_method_33_code 44 = .ok (.iload 6, 2) := by decide +kernel
theorem dX11_goThrough_46 : decode prog_13_method_33_code 46 = .ok (.bipush 40, 2) := by decide +kernel
theorem dX11_goThrough_48 : decode prog_13_method_33_code 48 = .ok (.if_icmp .ge 17, 3) := by decide +kernel
theorem dX11_goThrough_51 : decode prog_13_method_33_code 51 = .ok (.aload_n 0, 1) := by decide +kernel
theorem dX11_goThrough_52 : decode prog_13_method_33_code 52 = .ok (.getfield 85, 3) := by decide +kernel
theorem dX11_goThrough_55 : decode prog_13_method_33_code 55 = .ok (.iload 6, 2) := by decide +kernel
theorem dX11_goThrough_57 : decode prog_13_method_33_code 57 = .ok (.iconst 0, 1) := by decide +kernel
theorem dX11_goThrough_58 : decode prog_13_method_33_code 58 = .ok (.bastore, 1) := by decide +kernel
theorem dX11_goThrough_59 : decode prog_13_method_33_code 59 = .ok (.iinc 6 1, 3) := by decide +kernel
theorem dX11_goThrough_62 : decode prog_13_method_33_code 62 = .ok (.goto (-18), 3) := by decide +kernel
theorem dX11_goThrough_65 : decode prog_13_method_33_code 65 = .ok (.iconst 0, 1) := by decide +kernel
theorem dX11_goThrough_66 : decode prog_13_method_33_code 66 = .ok (.istore 6, 2) := by decide +kernel
theorem dX11_goThrough_68 : decode prog_13_method_33_code 68 = .ok (.iload 5, 2) := by decide +kernel
theorem dX11_goThrough_70 : decode prog_13_method_33_code 70 = .ok (.ifCond .eq 25, 3) := by decide +kernel
theorem dX11_goThrough_73 : decode prog_13_method_33_code 73 = .ok (.aload_n 0, 1) := by decide +kernel
theorem dX11_goThrough_74 : decode prog_13_method_33_code 74 = .ok (.invokevirtual 225, 3) := by decide +kernel
theorem dX11_goThrough_77 : decode prog_13_method_33_code 77 = .ok (.aload_n 0, 1) := by decide +kernel
theorem dX11_goThrough_78 : decode prog_13_method_33_code 78 = .ok (.getfield 82, 3) := by decide +kernel
theorem dX11_goThrough_81 : decode prog_13_method_33_code 81 = .ok (.iconst 0, 1) := by decide +kernel
theorem dX11_goThrough_82 : decode prog_13_method_33_code 82 = .ok (.iaload, 1) := by decide +kernel
theorem dX11_goThrough_83 : decode prog_13_method_33_code 83 = .ok (.ldc 172, 2) := by decide +kernel
theorem dX11_goThrough_85 : decode prog_13_method_33_code 85 = .ok (.if_icmp .ge 7, 3) := by decide +kernel
theorem dX11_goThrough_88 : decode prog_13_method_33_code 88 = .ok (.iconst 1, 1) := by decide +kernel
theorem dX11_goThrough_89 : decode prog_13_method_33_code 89 = .ok (.goto 4, 3) := by decide +kernel
theorem dX11_goThrough_92 : decode prog_13_method_33_code 92 = .ok (.iconst 0, 1) := by decide +kernel
theorem dX11_goThrough_93 : decode prog_13_method_33_code 93 = .ok (.istore 6, 2) := by decide +kernel
theorem dX11_goThrough_95 : decode prog_13_method_33_code 95 = .ok (.aload_n 0, 1) := by decide +kernel
theorem dX11_goThrough_96 : decode prog_13_method_33_code 96 = .ok (.iconst 0, 1) := by decide +kernel
theorem dX11_goThrough_97 : decode prog_13_method_33_code 97 = .ok (.invokevirtual 219, 3) := by decide +kernel
theorem dX11_goThrough_100 : decode prog_13_method_33_code 100 = .ok (.bipush (-4), 2) := by decide +kernel
theorem dX11_goThrough_102 : decode prog_13_method_33_code 102 = .ok (.istore 7, 2) := by decide +kernel
theorem dX11_goThrough_104 : decode prog_13_method_33_code 104 = .ok (.iload 7, 2) := by decide +kernel
theorem dX11_goThrough_106 : decode prog_13_method_33_code 106 = .ok (.bipush (-4), 2) := by decide +kernel
theorem dX11_goThrough_108 : decode prog_13_method_33_code 108 = .ok (.if_icmp .ne 14, 3) := by decide +kernel
theorem dX11_goThrough_111 : decode prog_13_method_33_code 111 = .ok (.aload_n 0, 1) := by decide +kernel
theorem dX11_goThrough_112 : decode prog_13_method_33_code 112 = .ok (.iload 6, 2) := by decide +kernel
theorem dX11_goThrough_114 : decode prog_13_method_33_code 114 = .ok (.invokevirtual 228, 3) := by decide +kernel
theorem dX11_goThrough_117 : decode prog_13_method_33_code 117 = .ok (.istore 7, 2) := by decide +kernel
theorem dX11_goThrough_119 : decode prog_13_method_33_code 119 = .ok (.goto (-15), 3) := by decide +kernel
theorem dX11_goThrough_122 : decode prog_13_method_33_code 122 = .ok (.iload 7, 2) := by decide +kernel
theorem dX11_goThrough_124 : decode prog_13_method_33_code 124 = .ok (.ireturn, 1) := by decide +kernel
abbrev rmX11_goThrough : Room := { frames := 6, cells := 0, slots := 0, locals := 136 }
def bX11_goThrough_104  (rc : Nat → Int32 → Int32 → Hp → Option (Int32 × Hp)) (t0 : Nat) (v6 : Int32) (v7 : Int32) (h : Hp) : Option (Int32 × Hp) :=
  if v7 = (-4) then
  (gk (h.1 t0) 12 <|
  b2 (fX11_step t0 v6 h) fun r5 g3 =>
  rc t0 v6 r5 g3)
  else
  (some (v7, h))
def fX11_goThrough_104  : Nat → Int32 → Int32 → Hp → Option (Int32 × Hp) := fx (bX11_goThrough_104 ) (fun _ _ _ _ => none) NF
def bX11_goThrough_44  (rc : Nat → Int32 → Int32 → Hp → Option (Int32 × Hp)) (t0 : Nat) (v5 : Int32) (v6 : Int32) (h : Hp) : Option (Int32 × Hp) :=
  if 40 ≤ v6 then
  (if v5 = 0 then
  (gk (h.1 t0) 12 <|
  b2 (fX11_comes t0 0 h) fun _ g4 =>
  fX11_goThrough_104  t0 0 (-4) g4)
  else
  (gk (h.1 t0) 12 <|
  b2 (fX11_layLeast t0 h) fun _ g9 =>
  gk (g9.1 t0) 12 <|
  bd (g9.2.2.2.1 t0 36) fun a14 =>
  gk (g9.1 a14) 13 <|
  gd (ix 0 (g9.2.1 a14)) <|
  if 100000000 ≤ (g9.2.2.1 a14 (Int32.toNatClampNeg 0)) then
  (b2 (fX11_comes t0 0 g9) fun _ g19 =>
  fX11_goThrough_104  t0 0 (-4) g19)
  else
  (b2 (fX11_comes t0 0 g9) fun _ g23 =>
  fX11_goThrough_104  t0 1 (-4) g23)))
  else
  (gk (h.1 t0) 12 <|
  bd (h.2.2.2.1 t0 42) fun a28 =>
  gk (h.1 a28) 14 <|
  gd (ix v6 (h.2.1 a28)) <|
  nm (hp_si h a28 (Int32.toNatClampNeg v6) 0) fun g32 =>
  nm (v6 + 1) fun x33 =>
  rc t0 v5 x33 g32)
def fX11_goThrough_44  : Nat → Int32 → Int32 → Hp → Option (Int32 × Hp) := fx (bX11_goThrough_44 ) (fun _ _ _ _ => none) NF
def fX11_goThrough  (t0 : Nat) (v1 : Int32) (v2 : Int32) (v3 : Int32) (v4 : Int32) (v5 : Int32) (h : Hp) : Option (Int32 × Hp) :=
  gk (h.1 t0) 12 <|
  nm (hp_si h t0 32 v1) fun g2 =>
  nm (hp_si g2 t0 33 v2) fun g4 =>
  nm (hp_si g4 t0 34 v3) fun g6 =>
  nm (hp_si g6 t0 35 v4) fun g8 =>
  nm (hp_si g8 t0 37 0) fun g10 =>
  nm (hp_si g10 t0 39 0) fun g12 =>
  nm (hp_si g12 t0 40 0) fun g14 =>
  nm (hp_si g14 t0 41 0) fun g16 =>
  fX11_goThrough_44  t0 v5 0 g16
section
variable {p : Program} {l : Launch} {e : Env} {s : State} {m : MethodId} {args : Array Value} {below : List Frame} {meth : Method} {c : Code} {D : va_G} {cA : Nat → ClassId} {h0 h9 : Hp}
set_option maxHeartbeats 4000000 in
set_option maxRecDepth 100000 in
theorem tX11_goThrough_104  {r : Int32} (cx : CallFix p m c prog_13_method_33_code 8 s args tbG RX11) (hr : meth.sig.returnType = (Option.some FieldType.int)) (hlk : meth.locks = false)  (n : Nat) : ∀ (t0 : Nat) (v6 : Int32) (v7 : Int32) (h : Hp) (H : Heap) (locs : List Loc) (ls : Array Slot), hp_B D cA (hp_A h0) s h H locs → lv_has ls 8 [(0, .ref t0), (6, .int v6), (7, .int v7)] → fx (bX11_goThrough_104 ) (fun _ _ _ _ => none) n t0 v6 v7 h = some (r, h9) → W p l e rmX11_goThrough s m args below meth c H locs 0 0 (MQ below (hp_Qi D cA h0 h9 r) args s 0 0 (hp_A h0)) (F0 m 104 ls []) := by
  obtain ⟨hx, hb, -⟩ := id cx
  induction n with
  | zero => intro t0 v6 v7 h H locs ls hB hl hf; cases hf
  | succ n ih =>
    intro t0 v6 v7 h H locs ls hB hl hf
    replace hf : bX11_goThrough_104  (fx (bX11_goThrough_104 ) (fun _ _ _ _ => none) n) t0 v6 v7 h = some (r, h9) := hf
    unfold bX11_goThrough_104 at hf
    refine lv_iload hx hb dX11_goThrough_104 (lv_at hl 2 rfl) ?_
    refine lv_bipush (v := (-4)) hx hb dX11_goThrough_106 (by decide) ?_
    refine lv_icmp_ne (tgt := 122) hx hb dX11_goThrough_108 (by decide) (fun c1 => ?_) (fun c1 => ?_)
    · replace hf := it_f c1 hf
      refine lv_iload hx hb dX11_goThrough_122 (lv_at hl 2 rfl) ?_
      obtain ⟨rfl, rfl⟩ := rt_ok hf
      exact hp_iret cx hB hr hlk (Nat.le_of_ble_eq_true rfl) (Nat.le_of_ble_eq_true rfl) dX11_goThrough_124
    · replace hf := it_t c1 hf
      refine lv_aload_n hx hb dX11_goThrough_111 rfl (lv_at hl 0 rfl) ?_
      refine lv_iload hx hb dX11_goThrough_112 (lv_at hl 1 rfl) ?_
      obtain ⟨k2, hf⟩ := gk_ok hf
      obtain ⟨r5, g3, m4, hf⟩ := b2_ok hf
      refine hp_cI0 (cl_X11_228 cx hB (cX11_step l D cA t0 v6 h _ g3 m4) k2 ⟨Nat.le_of_ble_eq_true rfl, Nat.le_of_ble_eq_true rfl⟩ rfl hl.1 rfl (Nat.le_of_ble_eq_true rfl) ⟨Nat.le_of_ble_eq_true rfl, Nat.le_of_ble_eq_true rfl⟩ dX11_goThrough_114) rfl rfl hB (fun H locs hB => ?_)
      refine lv_istore (lv' := [(7, .int r5), (0, .ref t0), (6, .int v6)]) hx hb dX11_goThrough_117 hl (by decide) rfl (fun ls hl => ?_)
      refine lv_goto (tgt := 104) hx hb dX11_goThrough_119 (by decide) ?_
      exact ih t0 v6 r5 g3 _ _ _ hB (lv_sub hl [1, 2, 0] rfl) hf
set_option maxHeartbeats 4000000 in
set_option maxRecDepth 100000 in
theorem tX11_goThrough_44  {r : Int32} (cx : CallFix p m c prog_13_method_33_code 8 s args tbG RX11) (hr : meth.sig.returnType = (Option.some FieldType.int)) (hlk : meth.locks = false)  (n : Nat) : ∀ (t0 : Nat) (v5 : Int32) (v6 : Int32) (h : Hp) (H : Heap) (locs : List Loc) (ls : Array Slot), hp_B D cA (hp_A h0) s h H locs → lv_has ls 8 [(0, .ref t0), (5, .int v5), (6, .int v6)] → fx (bX11_goThrough_44 ) (fun _ _ _ _ => none) n t0 v5 v6 h = some (r, h9) → W p l e rmX11_goThrough s m args below meth c H locs 0 0 (MQ below (hp_Qi D cA h0 h9 r) args s 0 0 (hp_A h0)) (F0 m 44 ls []) := by
  obtain ⟨hx, hb, -⟩ := id cx
  induction n with
  | zero => intro t0 v5 v6 h H locs ls hB hl hf; cases hf
  | succ n ih =>
    intro t0 v5 v6 h H locs ls hB hl hf
    replace hf : bX11_goThrough_44  (fx (bX11_goThrough_44 ) (fun _ _ _ _ => none) n) t0 v5 v6 h = some (r, h9) := hf
    unfold bX11_goThrough_44 at hf
    refine lv_iload hx hb dX11_goThrough_44 (lv_at hl 2 rfl) ?_
    refine lv_bipush (v := 40) hx hb dX11_goThrough_46 (by decide) ?_
    refine lv_icmp_ge (tgt := 65) hx hb dX11_goThrough_48 (by decide) (fun c1 => ?_) (fun c1 => ?_)
    · replace hf := it_t c1 hf
      refine lv_iconst (v := 0) hx hb dX11_goThrough_65 (by decide) ?_
      refine lv_istore (lv' := [(6, .int 0), (0, .ref t0), (5, .int v5)]) hx hb dX11_goThrough_66 hl (by decide) rfl (fun ls hl => ?_)
      refine lv_iload hx hb dX11_goThrough_68 (lv_at hl 2 rfl) ?_
      refine lv_if_eq (tgt := 95) hx hb dX11_goThrough_70 (by decide) (fun c2 => ?_) (fun c2 => ?_)
      · replace hf := it_t c2 hf
        refine lv_aload_n hx hb dX11_goThrough_95 rfl (lv_at hl 1 rfl) ?_
        refine lv_iconst (v := 0) hx hb dX11_goThrough_96 (by decide) ?_
        obtain ⟨k3, hf⟩ := gk_ok hf
        obtain ⟨uu, g4, m5, hf⟩ := b2_ok hf
        refine hp_cV0 (cl_X11_219 cx hB (cX11_comes l D cA t0 0 h _ g4 m5) k3 ⟨Nat.le_of_ble_eq_true rfl, Nat.le_of_ble_eq_true rfl⟩ rfl hl.1 rfl (Nat.le_of_ble_eq_true rfl) ⟨Nat.le_of_ble_eq_true rfl, Nat.le_of_ble_eq_true rfl⟩ dX11_goThrough_97) rfl rfl hB (fun H locs hB => ?_)
        refine lv_bipush (v := (-4)) hx hb dX11_goThrough_100 (by decide) ?_
        refine lv_istore (lv' := [(7, .int (-4)), (6, .int 0), (0, .ref t0), (5, .int v5)]) hx hb dX11_goThrough_102 hl (by decide) rfl (fun ls hl => ?_)
        exact tX11_goThrough_104 cx hr hlk  NF t0 0 (-4) g4 _ _ _ hB (lv_sub hl [2, 1, 0] rfl) hf
      · replace hf := it_f c2 hf
        refine lv_aload_n hx hb dX11_goThrough_73 rfl (lv_at hl 1 rfl) ?_
        obtain ⟨k8, hf⟩ := gk_ok hf
        obtain ⟨uu, g9, m10, hf⟩ := b2_ok hf
        refine hp_cV0 (cl_X11_225 cx hB (cX11_layLeast l D cA t0 h _ g9 m10) k8 ⟨Nat.le_of_ble_eq_true rfl, Nat.le_of_ble_eq_true rfl⟩ rfl hl.1 rfl (Nat.le_of_ble_eq_true rfl) ⟨Nat.le_of_ble_eq_true rfl, Nat.le_of_ble_eq_true rfl⟩ dX11_goThrough_74) rfl rfl hB (fun H locs hB => ?_)
        refine lv_aload_n hx hb dX11_goThrough_77 rfl (lv_at hl 1 rfl) ?_
        obtain ⟨k13, hf⟩ := gk_ok hf
        obtain ⟨a14, q15, hf⟩ := bd_ok hf
        refine gf_X11_82 cx hB k13 q15 dX11_goThrough_78 ?_
        refine lv_iconst (v := 0) hx hb dX11_goThrough_81 (by decide) ?_
        obtain ⟨k16, hf⟩ := gk_ok hf
        obtain ⟨j17, hf⟩ := gd_ok hf
        refine hp_iald cx hB k16 j17 dX11_goThrough_82 ?_
        refine lv_ldc (v := 100000000) hx hb cx.2.2.2.1 (cx.2.2.2.2 _ (tb_in qw_993 rfl)) dX11_goThrough_83 ?_
        refine lv_icmp_ge (tgt := 92) hx hb dX11_goThrough_85 (by decide) (fun c18 => ?_) (fun c18 => ?_)
        · replace hf := it_t c18 hf
          refine lv_iconst (v := 0) hx hb dX11_goThrough_92 (by decide) ?_
          refine lv_istore (lv' := [(6, .int 0), (0, .ref t0), (5, .int v5)]) hx hb dX11_goThrough_93 hl (by decide) rfl (fun ls hl => ?_)
          refine lv_aload_n hx hb dX11_goThrough_95 rfl (lv_at hl 1 rfl) ?_
          refine lv_iconst (v := 0) hx hb dX11_goThrough_96 (by decide) ?_
          obtain ⟨uu, g19, m20, hf⟩ := b2_ok hf
          refine hp_cV0 (cl_X11_219 cx hB (cX11_comes l D cA t0 0 g9 _ g19 m20) k13 ⟨Nat.le_of_ble_eq_true rfl, Nat.le_of_ble_eq_true rfl⟩ rfl hl.1 rfl (Nat.le_of_ble_eq_true rfl) ⟨Nat.le_of_ble_eq_true rfl, Nat.le_of_ble_eq_true rfl⟩ dX11_goThrough_97) rfl rfl hB (fun H locs hB => ?_)
          refine lv_bipush (v := (-4)) hx hb dX11_goThrough_100 (by decide) ?_
          refine lv_istore (lv' := [(7, .int (-4)), (6, .int 0), (0, .ref t0), (5, .int v5)]) hx hb dX11_goThrough_102 hl (by decide) rfl (fun ls hl => ?_)
          exact tX11_goThrough_104 cx hr hlk  NF t0 0 (-4) g19 _ _ _ hB (lv_sub hl [2, 1, 0] rfl) hf
        · replace hf := it_f c18 hf
          refine lv_iconst (v := 1) hx hb dX11_goThrough_88 (by decide) ?_
          refine lv_goto (tgt := 93) hx hb dX11_goThrough_89 (by decide) ?_
          refine lv_istore (lv' := [(6, .int 1), (0, .ref t0), (5, .int v5)]) hx hb dX11_goThrough_93 hl (by decide) rfl (fun ls hl => ?_)
          refine lv_aload_n hx hb dX11_goThrough_95 rfl (lv_at hl 1 rfl) ?_
          refine lv_iconst (v := 0) hx hb dX11_goThrough_96 (by decide) ?_
          obtain ⟨uu, g23, m24, hf⟩ := b2_ok hf
          refine hp_cV0 (cl_X11_219 cx hB (cX11_comes l D cA t0 0 g9 _ g23 m24) k13 ⟨Nat.le_of_ble_eq_true rfl, Nat.le_of_ble_eq_true rfl⟩ rfl hl.1 rfl (Nat.le_of_ble_eq_true rfl) ⟨Nat.le_of_ble_eq_true rfl, Nat.le_of_ble_eq_true rfl⟩ dX11_goThrough_97) rfl rfl hB (fun H locs hB => ?_)
          refine lv_bipush (v := (-4)) hx hb dX11_goThrough_100 (by decide) ?_
          refine lv_istore (lv' := [(7, .int (-4)), (6, .int 1), (0, .ref t0), (5, .int v5)]) hx hb dX11_goThrough_102 hl (by decide) rfl (fun ls hl => ?_)
          exact tX11_goThrough_104 cx hr hlk  NF t0 1 (-4) g23 _ _ _ hB (lv_sub hl [2, 1, 0] rfl) hf
    · replace hf := it_f c1 hf
      refine lv_aload_n hx hb dX11_goThrough_51 rfl (lv_at hl 0 rfl) ?_
      obtain ⟨k27, hf⟩ := gk_ok hf
      obtain ⟨a28, q29, hf⟩ := bd_ok hf
      refine gf_X11_85 cx hB k27 q29 dX11_goThrough_52 ?_
      refine lv_iload hx hb dX11_goThrough_55 (lv_at hl 2 rfl) ?_
      refine lv_iconst (v := 0) hx hb dX11_goThrough_57 (by decide) ?_
      obtain ⟨k30, hf⟩ := gk_ok hf
      obtain ⟨j31, hf⟩ := gd_ok hf
      obtain ⟨g32, eg32, hf⟩ := nm_ok hf
      refine hp_zast cx hB k30 j31 rfl dX11_goThrough_58 (fun H locs hB => ?_)
      rw [← eg32] at hB
      obtain ⟨x33, ex33, hf⟩ := nm_ok hf
      refine lv_iinc (v := x33) (lv' := [(6, .int x33), (0, .ref t0), (5, .int v5)]) hx hb dX11_goThrough_59 hl (k := 2) rfl (by rw [ex33]; rfl) (by decide) rfl (fun ls hl => ?_)
      refine lv_goto (tgt := 44) hx hb dX11_goThrough_62 (by decide) ?_
      exact ih t0 v5 x33 g32 _ _ _ hB (lv_sub hl [1, 2, 0] rfl) hf
set_option maxHeartbeats 4000000 in
set_option maxRecDepth 100000 in
theorem tX11_goThrough_0  {r : Int32} (cx : CallFix p m c prog_13_method_33_code 8 s args tbG RX11) (hr : meth.sig.returnType = (Option.some FieldType.int)) (hlk : meth.locks = false)  (t0 : Nat) (v1 : Int32) (v2 : Int32) (v3 : Int32) (v4 : Int32) (v5 : Int32) (h : Hp) (H : Heap) (locs : List Loc) (ls : Array Slot) (hB : hp_B D cA (hp_A h0) s h H locs) (hl : lv_has ls 8 [(0, .ref t0), (1, .int v1), (2, .int v2), (3, .int v3), (4, .int v4), (5, .int v5)]) (hf : fX11_goThrough  t0 v1 v2 v3 v4 v5 h = some (r, h9)) : W p l e rmX11_goThrough s m args below meth c H locs 0 0 (MQ below (hp_Qi D cA h0 h9 r) args s 0 0 (hp_A h0)) (F0 m 0 ls []) := by
  obtain ⟨hx, hb, -⟩ := id cx
  unfold fX11_goThrough at hf
  refine lv_aload_n hx hb dX11_goThrough_0 rfl (lv_at hl 0 rfl) ?_
  refine lv_iload_n hx hb dX11_goThrough_1 rfl (lv_at hl 1 rfl) ?_
  obtain ⟨k1, hf⟩ := gk_ok hf
  obtain ⟨g2, eg2, hf⟩ := nm_ok hf
  refine pf_X11_169 cx hB k1 dX11_goThrough_2 (fun H locs hB => ?_)
  rw [← eg2] at hB
  refine lv_aload_n hx hb dX11_goThrough_5 rfl (lv_at hl 0 rfl) ?_
  refine lv_iload_n hx hb dX11_goThrough_6 rfl (lv_at hl 2 rfl) ?_
  have k3 : g2.1 t0 = 12 := by rw [eg2]; exact k1
  obtain ⟨g4, eg4, hf⟩ := nm_ok hf
  refine pf_X11_166 cx hB k3 dX11_goThrough_7 (fun H locs hB => ?_)
  rw [← eg4] at hB
  refine lv_aload_n hx hb dX11_goThrough_10 rfl (lv_at hl 0 rfl) ?_
  refine lv_iload_n hx hb dX11_goThrough_11 rfl (lv_at hl 3 rfl) ?_
  have k5 : g4.1 t0 = 12 := by rw [eg4]; exact k3
  obtain ⟨g6, eg6, hf⟩ := nm_ok hf
  refine pf_X11_199 cx hB k5 dX11_goThrough_12 (fun H locs hB => ?_)
  rw [← eg6] at hB
  refine lv_aload_n hx hb dX11_goThrough_15 rfl (lv_at hl 0 rfl) ?_
  refine lv_iload hx hb dX11_goThrough_16 (lv_at hl 4 rfl) ?_
  have k7 : g6.1 t0 = 12 := by rw [eg6]; exact k5
  obtain ⟨g8, eg8, hf⟩ := nm_ok hf
  refine pf_X11_163 cx hB k7 dX11_goThrough_18 (fun H locs hB => ?_)
  rw [← eg8] at hB
  refine lv_aload_n hx hb dX11_goThrough_21 rfl (lv_at hl 0 rfl) ?_
  refine lv_iconst (v := 0) hx hb dX11_goThrough_22 (by decide) ?_
  have k9 : g8.1 t0 = 12 := by rw [eg8]; exact k7
  obtain ⟨g10, eg10, hf⟩ := nm_ok hf
  refine pf_X11_196 cx hB k9 dX11_goThrough_23 (fun H locs hB => ?_)
  rw [← eg10] at hB
  refine lv_aload_n hx hb dX11_goThrough_26 rfl (lv_at hl 0 rfl) ?_
  refine lv_iconst (v := 0) hx hb dX11_goThrough_27 (by decide) ?_
  have k11 : g10.1 t0 = 12 := by rw [eg10]; exact k9
  obtain ⟨g12, eg12, hf⟩ := nm_ok hf
  refine pf_X11_222 cx hB k11 dX11_goThrough_28 (fun H locs hB => ?_)
  rw [← eg12] at hB
  refine lv_aload_n hx hb dX11_goThrough_31 rfl (lv_at hl 0 rfl) ?_
  refine lv_iconst (v := 0) hx hb dX11_goThrough_32 (by decide) ?_
  have k13 : g12.1 t0 = 12 := by rw [eg12]; exact k11
  obtain ⟨g14, eg14, hf⟩ := nm_ok hf
  refine pf_X11_202 cx hB k13 dX11_goThrough_33 (fun H locs hB => ?_)
  rw [← eg14] at hB
  refine lv_aload_n hx hb dX11_goThrough_36 rfl (lv_at hl 0 rfl) ?_
  refine lv_iconst (v := 0) hx hb dX11_goThrough_37 (by decide) ?_
  have k15 : g14.1 t0 = 12 := by rw [eg14]; exact k13
  obtain ⟨g16, eg16, hf⟩ := nm_ok hf
  refine pf_X11_212 cx hB k15 dX11_goThrough_38 (fun H locs hB => ?_)
  rw [← eg16] at hB
  refine lv_iconst (v := 0) hx hb dX11_goThrough_41 (by decide) ?_
  refine lv_istore (lv' := [(6, .int 0), (0, .ref t0), (1, .int v1), (2, .int v2), (3, .int v3), (4, .int v4), (5, .int v5)]) hx hb dX11_goThrough_42 hl (by decide) rfl (fun ls hl => ?_)
  exact tX11_goThrough_44 cx hr hlk  NF t0 v5 0 g16 _ _ _ hB (lv_sub hl [1, 6, 0] rfl) hf
end
set_option maxHeartbeats 4000000 in
set_option maxRecDepth 100000 in
theorem cX11_goThrough (l : Launch) (D : va_G) (cA : Nat → ClassId) (t0 : Nat) (v1 : Int32) (v2 : Int32) (v3 : Int32) (v4 : Int32) (v5 : Int32) (h : Hp) (r : Int32) (h9 : Hp) (hf : fX11_goThrough t0 v1 v2 v3 v4 v5 h = some (r, h9)) : hp_M l yX11_goThrough prog_13_method_33_code 8 (Option.some FieldType.int) rmX11_goThrough D cA h [.ref t0, .int v1, .int v2, .int v3, .int v4, .int v5] (hp_Qi D cA h h9 r) := by
  refine Met.ofW (cc := prog_13_method_33_code) (maxL := 8) (ret := (Option.some FieldType.int)) (by decide) rfl ?_
  intro p e s m args below meth c s₁ B hml hv
  obtain ⟨rfl, hU⟩ := hv
  have hts := atoms_spec (ws := Cond.code yX11_goThrough prog_13_method_33_code 8 (Option.some FieldType.int) :: tbG) B.pre
  have hl := lv_entry ([.ref t0, .int v1, .int v2, .int v3, .int v4, .int v5]) (n := 8) (Nat.le_of_ble_eq_true rfl)
  rw [lg_entry_eq]
  generalize (lg_sl ([.ref t0, .int v1, .int v2, .int v3, .int v4, .int v5]) ++ List.replicate (8 - (lg_sl ([.ref t0, .int v1, .int v2, .int v3, .int v4, .int v5])).length) Slot.unset).toArray = ls at hl ⊢
  exact tX11_goThrough_0 ⟨B.exec, B.bytes, hml, findClass_of_methodNamed B.named, fun w hw => hts w (List.mem_cons_of_mem _ hw)⟩ B.returns B.notSynchronized t0 v1 v2 v3 v4 v5 h _ _ _ (hp_B.entry hU) hl hf
