abbrev yX8_hasSeen : MethodName := ⟨"SpokenMenus$Walk", "hasSeen", "(I)Z"⟩
theorem dX8_hasSeen_0 : decode prog_10_method_4_code 0 = .ok (.iload_n 1, 1) := by decide +kernel
theorem dX8_hasSeen_1 : decode prog_10_method_4_code 1 = .ok (.ifCond .lt 22, 3) := by decide +kernel
theorem dX8_hasSeen_4 : decode prog_10_method_4_code 4 = .ok (.iload_n 1, 1) := by decide +kernel
theorem dX8_hasSeen_5 : decode prog_10_method_4_code 5 = .ok (.bipush 40, 2) := by decide +kernel
theorem dX8_hasSeen_7 : decode prog_10_method_4_code 7 = .ok (.if_icmp .ge 16, 3) := by decide +kernel
theorem dX8_hasSeen_10 : decode prog_10_method_4_code 10 = .ok (.aload_n 0, 1) := by decide +kernel
theorem dX8_hasSeen_11 : decode prog_10_method_4_code 11 = .ok (.getfield 38, 3) := by decide +kernel
theorem dX8_hasSeen_14 : decode prog_10_method_4_code 14 = .ok (.iload_n 1, 1) := by decide +kernel
theorem dX8_hasSeen_15 : decode prog_10_method_4_code 15 = .ok (.baload, 1) := by decide +kernel
theorem dX8_hasSeen_16 : decode prog_10_method_4_code 16 = .ok (.ifCond .eq 7, 3) := by decide +kernel
theorem dX8_hasSeen_19 : decode prog_10_method_4_code 19 = .ok (.iconst 1, 1) := by decide +kernel
theorem dX8_hasSeen_20 : decode prog_10_method_4_code 20 = .ok (.goto 4, 3) := by decide +kernel
theorem dX8_hasSeen_23 : decode prog_10_method_4_code 23 = .ok (.iconst 0, 1) := by decide +kernel
theorem dX8_hasSeen_24 : decode prog_10_method_4_code 24 = .ok (.ireturn, 1) := by decide +kernel
abbrev rmX8_hasSeen : Room := { frames := 0, cells := 0, slots := 0, locals := 0 }
def fX8_hasSeen  (t0 : Nat) (v1 : Int32) (h : Hp) : Option (Int32 × Hp) :=
  if v1 < 0 then
  (some (0, h))
  else
  (if 40 ≤ v1 then
  (some (0, h))
  else
  (gk (h.1 t0) 9 <|
  bd (h.2.2.2.1 t0 8) fun a4 =>
  gk (h.1 a4) 14 <|
  gd (ix v1 (h.2.1 a4)) <|
  if (h.2.2.1 a4 (Int32.toNatClampNeg v1)) = 0 then
  (some (0, h))
  else
  (some (1, h))))
section
variable {p : Program} {l : Launch} {e : Env} {s : State} {m : MethodId} {args : Array Value} {below : List Frame} {meth : Method} {c : Code} {D : va_G} {cA : Nat → ClassId} {h0 h9 : Hp}
set_option maxHeartbeats 4000000 in
set_option maxRecDepth 100000 in
theorem tX8_hasSeen_0  {r : Int32} (cx : CallFix p m c prog_10_method_4_code 2 s args tbG RX8) (hr : meth.sig.returnType = (Option.some FieldType.boolean)) (hlk : meth.locks = false)  (t0 : Nat) (v1 : Int32) (h : Hp) (H : Heap) (locs : List Loc) (ls : Array Slot) (hB : hp_B D cA (hp_A h0) s h H locs) (hl : lv_has ls 2 [(0, .ref t0), (1, .int v1)]) (hf : fX8_hasSeen  t0 v1 h = some (r, h9)) : W p l e rmX8_hasSeen s m args below meth c H locs 0 0 (MQ below (hp_Qi D cA h0 h9 r) args s 0 0 (hp_A h0)) (F0 m 0 ls []) := by
  obtain ⟨hx, hb, -⟩ := id cx
  unfold fX8_hasSeen at hf
  refine lv_iload_n hx hb dX8_hasSeen_0 rfl (lv_at hl 1 rfl) ?_
  refine lv_if_lt (tgt := 23) hx hb dX8_hasSeen_1 (by decide) (fun c1 => ?_) (fun c1 => ?_)
  · replace hf := it_t c1 hf
    refine lv_iconst (v := 0) hx hb dX8_hasSeen_23 (by decide) ?_
    obtain ⟨rfl, rfl⟩ := rt_ok hf
    exact hp_zret cx hB hr hlk (Nat.le_of_ble_eq_true rfl) (Nat.le_of_ble_eq_true rfl) rfl dX8_hasSeen_24
  · replace hf := it_f c1 hf
    refine lv_iload_n hx hb dX8_hasSeen_4 rfl (lv_at hl 1 rfl) ?_
    refine lv_bipush (v := 40) hx hb dX8_hasSeen_5 (by decide) ?_
    refine lv_icmp_ge (tgt := 23) hx hb dX8_hasSeen_7 (by decide) (fun c2 => ?_) (fun c2 => ?_)
    · replace hf := it_t c2 hf
      refine lv_iconst (v := 0) hx hb dX8_hasSeen_23 (by decide) ?_
      obtain ⟨rfl, rfl⟩ := rt_ok hf
      exact hp_zret cx hB hr hlk (Nat.le_of_ble_eq_true rfl) (Nat.le_of_ble_eq_true rfl) rfl dX8_hasSeen_24
    · replace hf := it_f c2 hf
      refine lv_aload_n hx hb dX8_hasSeen_10 rfl (lv_at hl 0 rfl) ?_
      obtain ⟨k3, hf⟩ := gk_ok hf
      obtain ⟨a4, q5, hf⟩ := bd_ok hf
      refine gf_X8_38 cx hB k3 q5 dX8_hasSeen_11 ?_
      refine lv_iload_n hx hb dX8_hasSeen_14 rfl (lv_at hl 1 rfl) ?_
      obtain ⟨k6, hf⟩ := gk_ok hf
      obtain ⟨j7, hf⟩ := gd_ok hf
      refine hp_zald cx hB k6 j7 dX8_hasSeen_15 ?_
      refine lv_if_eq (tgt := 23) hx hb dX8_hasSeen_16 (by decide) (fun c8 => ?_) (fun c8 => ?_)
      · replace hf := it_t c8 hf
        refine lv_iconst (v := 0) hx hb dX8_hasSeen_23 (by decide) ?_
        obtain ⟨rfl, rfl⟩ := rt_ok hf
        exact hp_zret cx hB hr hlk (Nat.le_of_ble_eq_true rfl) (Nat.le_of_ble_eq_true rfl) rfl dX8_hasSeen_24
      · replace hf := it_f c8 hf
        refine lv_iconst (v := 1) hx hb dX8_hasSeen_19 (by decide) ?_
        refine lv_goto (tgt := 24) hx hb dX8_hasSeen_20 (by decide) ?_
        obtain ⟨rfl, rfl⟩ := rt_ok hf
        exact hp_zret cx hB hr hlk (Nat.le_of_ble_eq_true rfl) (Nat.le_of_ble_eq_true rfl) rfl dX8_hasSeen_24
end
set_option maxHeartbeats 4000000 in
set_option maxRecDepth 100000 in
theorem cX8_hasSeen (l : Launch) (D : va_G) (cA : Nat → ClassId) (t0 : Nat) (v1 : Int32) (h : Hp) (r : Int32) (h9 : Hp) (hf : fX8_hasSeen t0 v1 h = some (r, h9)) : hp_M l yX8_hasSeen prog_10_method_4_code 2 (Option.some FieldType.boolean) rmX8_hasSeen D cA h [.ref t0, .int v1] (hp_Qi D cA h h9 r) := by
  refine Met.ofW (cc := prog_10_method_4_code) (maxL := 2) (ret := (Option.some FieldType.boolean)) (by decide) rfl ?_
  intro p e s m args below meth c s₁ B hml hv
  obtain ⟨rfl, hU⟩ := hv
  have hts := atoms_spec (ws := Cond.code yX8_hasSeen prog_10_method_4_code 2 (Option.some FieldType.boolean) :: tbG) B.pre
  have hl := lv_entry ([.ref t0, .int v1]) (n := 2) (Nat.le_of_ble_eq_true rfl)
  rw [lg_entry_eq]
  generalize (lg_sl ([.ref t0, .int v1]) ++ List.replicate (2 - (lg_sl ([.ref t0, .int v1])).length) Slot.unset).toArray = ls at hl ⊢
  exact tX8_hasSeen_0 ⟨B.exec, B.bytes, hml, findClass_of_methodNamed B.named, fun w hw => hts w (List.mem_cons_of_mem _ hw)⟩ B.returns B.notSynchronized t0 v1 h _ _ _ (hp_B.entry hU) hl hf
section
variable {p : Program} {l : Launch} {e : Env} {R : Room} {s : State} {m : MethodId} {args : Array Value} {below : List Frame} {meth : Method} {c : Code} {H : Heap} {locs : List Loc} {cells slots : Nat} {Q : State → Prop}
variable {cc : ByteArray} {pc nL : Nat} {ls : Array Slot} {rest : List Value} {D : va_G} {cA : Nat → ClassId} {A : Nat → Prop} {a : Nat} {h : Hp}
theorem pf_X9_9 (cx : CallFix p m c cc nL s args tbG RX9) (hB : hp_B D cA A s h H locs) (hnm : meth.name = "<init>") (hka : h.1 a = 10) {b : Nat} (hdg : decode cc pc = .ok (.putfield 9, 3)) (kk : ∀ (H1 : Heap) (locs1 : List Loc), hp_B D cA A s (hp_sr h a 0 (some b)) H1 locs1 → W p l e R s m args below meth c H1 locs1 cells slots Q (F0 m (pc + 3) ls rest)) : W p l e R s m args below meth c H locs cells slots Q (F0 m pc ls (.ref b :: .ref a :: rest)) :=
  hp_putX cx hB (ci := 9) 0 tyX9 tyX9_ok nmX9 rfl inX9 (by decide) rfl (by decide) (Or.inr ⟨rfl, hnm, rfl⟩) qw_50 hka (v := va_rf (some b)) (hp_like_sr h a 0 (some b)) (hp_fs_sr (by decide) rfl) rfl rfl hdg kk
end
abbrev yX9_init : MethodName := ⟨"SpokenMenus$Ways", "<init>", "()V"⟩
theorem dX9_init_0 : decode prog_11_method_1_code 0 = .ok (.aload_n 0, 1) := by decide +kernel
theorem dX9_init_1 : decode prog_11_method_1_code 1 = .ok (.invokespecial 3, 3) := by decide +kernel
theorem dX9_init_4 : decode prog_11_method_1_code 4 = .ok (.aload_n 0, 1) := by decide +kernel
theorem dX9_init_5 : decode prog_11_method_1_code 5 = .ok (.bipush 40, 2) := by decide +kernel
theorem dX9_init_7 : decode prog_11_method_1_code 7 = .ok (.newarray .int, 2) := by decide +kernel
theorem dX9_init_9 : decode prog_11_method_1_code 9 = .ok (.putfield 9, 3) := by decide +kernel
theorem dX9_init_12 : decode prog_11_method_1_code 12 = .ok (.return_, 1) := by decide +kernel
abbrev rmX9_init : Room := { frames := 1, cells := 1, slots := 40, locals := 20 }
def fX9_init  (t0 : Nat) (h : Hp) : Option (Unit × Hp) :=
  nm h.2.2.2.2 fun a1 =>
  nm (hp_nw h 13 40) fun g2 =>
  gk (g2.1 t0) 10 <|
  nm (hp_sr g2 t0 0 (some a1)) fun g5 =>
  some ((), g5)
section
variable {p : Program} {l : Launch} {e : Env} {s : State} {m : MethodId} {args : Array Value} {below : List Frame} {meth : Method} {c : Code} {D : va_G} {cA : Nat → ClassId} {h0 h9 : Hp}
set_option maxHeartbeats 4000000 in
set_option maxRecDepth 100000 in
theorem tX9_init_0  (cx : CallFix p m c prog_11_method_1_code 1 s args tbG RX9) (hr : meth.sig.returnType = none) (hlk : meth.locks = false) (hnm : meth.name = "<init>")  (t0 : Nat) (h : Hp) (H : Heap) (locs : List Loc) (ls : Array Slot) (hB : hp_B D cA (hp_A h0) s h H locs) (hl : lv_has ls 1 [(0, .ref t0)]) (hf : fX9_init  t0 h = some ((), h9)) : W p l e rmX9_init s m args below meth c H locs 0 0 (MQ below (hp_Qv D cA h0 h9) args s 1 40 (hp_A h0)) (F0 m 0 ls []) := by
  obtain ⟨hx, hb, -⟩ := id cx
  unfold fX9_init at hf
  refine lv_aload_n hx hb dX9_init_0 rfl (lv_at hl 0 rfl) ?_
  refine W.objInit hx hb cx.2.2.2.1 (cx.2.2.2.2 _ (tb_in qw_49 rfl)) (cx.2.2.2.2 _ (tb_in qw_22 rfl)) (cx.2.2.2.2 _ (tb_in qw_23 rfl)) rfl (by rw [cx.2.2.1]; exact hl.1) rfl dX9_init_1 (Nat.le_of_ble_eq_true rfl) (Nat.le_of_ble_eq_true rfl) ?_
  refine W.eq (g2 := F0 m 4 ls []) rfl ?_
  refine lv_aload_n hx hb dX9_init_4 rfl (lv_at hl 0 rfl) ?_
  refine lv_bipush (v := 40) hx hb dX9_init_5 (by decide) ?_
  obtain ⟨a1, ea1, hf⟩ := nm_ok hf
  obtain ⟨g2, eg2, hf⟩ := nm_ok hf
  refine hp_newa cx hB 13 (N' := 40) (ty := .int) rfl (by decide) rfl (fun h9 => h9) rfl qw_54 ea1 (by decide) (by decide) (by decide) (Nat.le_of_ble_eq_true rfl) (Nat.le_of_ble_eq_true rfl) dX9_init_7 (fun H hB => ?_)
  rw [← eg2] at hB
  have k3 : g2.1 a1 = 13 := by rw [eg2, ea1]; exact va_up_self _ _ _
  obtain ⟨k4, hf⟩ := gk_ok hf
  obtain ⟨g5, eg5, hf⟩ := nm_ok hf
  refine pf_X9_9 cx hB hnm k4 dX9_init_9 (fun H locs hB => ?_)
  rw [← eg5] at hB
  obtain ⟨-, rfl⟩ := rt_ok hf
  exact hp_vret cx hB hr hlk (Nat.le_of_ble_eq_true rfl) (Nat.le_of_ble_eq_true rfl) dX9_init_12
end
set_option maxHeartbeats 4000000 in
set_option maxRecDepth 100000 in
theorem cX9_init (l : Launch) (D : va_G) (cA : Nat → ClassId) (t0 : Nat) (h : Hp) (_u : Unit) (h9 : Hp) (hf : fX9_init t0 h = some (_u, h9)) : hp_M l yX9_init prog_11_method_1_code 1 none rmX9_init D cA h [.ref t0] (hp_Qv D cA h h9) := by
  refine Met.ofW (cc := prog_11_method_1_code) (maxL := 1) (ret := none) (by decide) rfl ?_
  intro p e s m args below meth c s₁ B hml hv
  obtain ⟨rfl, hU⟩ := hv
  have hts := atoms_spec (ws := Cond.code yX9_init prog_11_method_1_code 1 none :: tbG) B.pre
  have hl := lv_entry ([.ref t0]) (n := 1) (Nat.le_of_ble_eq_true rfl)
  rw [lg_entry_eq]
  generalize (lg_sl ([.ref t0]) ++ List.replicate (1 - (lg_sl ([.ref t0])).length) Slot.unset).toArray = ls at hl ⊢
  exact tX9_init_0 ⟨B.exec, B.bytes, hml, findClass_of_methodNamed B.named, fun w hw => hts w (List.mem_cons_of_mem _ hw)⟩ B.returns B.notSynchronized ((name_of_methodNamed B.named B.method).1) t0 h _ _ _ (hp_B.entry hU) hl hf
abbrev yX10_within : MethodName := ⟨"SpokenMenus", "within", "(III)Z"⟩
theorem dX10_within_0 : decode prog_1_method_28_code 0 = .ok (.iload_n 0, 1) := by decide +kernel
theorem dX10_within_1 : decode prog_1_method_28_code 1 = .ok (.iload_n 1, 1) := by decide +kernel
theorem dX10_within_2 : decode prog_1_method_28_code 2 = .ok (.if_icmp .lt 12, 3) := by decide +kernel
theorem dX10_within_5 : decode prog_1_method_28_code 5 = .ok (.iload_n 0, 1) := by decide +kernel
theorem dX10_within_6 : decode prog_1_method_28_code 6 = .ok (.iload_n 2, 1) := by decide +kernel
theorem dX10_within_7 : decode prog_1_method_28_code 7 = .ok (.if_icmp .gt 7, 3) := by decide +kernel
theorem dX10_within_10 : decode prog_1_method_28_code 10 = .ok (.iconst 1, 1) := by decide +kernel
theorem dX10_within_11 : decode prog_1_method_28_code 11 = .ok (.goto 4, 3) := by decide +kernel
theorem dX10_within_14 : decode prog_1_method_28_code 14 = .ok (.iconst 0, 1) := by decide +kernel
theorem dX10_within_15 : decode prog_1_method_28_code 15 = .ok (.ireturn, 1) := by decide +kernel
abbrev rmX10_within : Room := { frames := 0, cells := 0, slots := 0, locals := 0 }
def fX10_within  (v0 : Int32) (v1 : Int32) (v2 : Int32) (h : Hp) : Option (Int32 × Hp) :=
  if v0 < v1 then
  (some (0, h))
  else
  (if v2 < v0 then
  (some (0, h))
  else
  (some (1, h)))
section
variable {p : Program} {l : Launch} {e : Env} {s : State} {m : MethodId} {args : Array Value} {below : List Frame} {meth : Method} {c : Code} {D : va_G} {cA : Nat → ClassId} {h0 h9 : Hp}
set_option maxHeartbeats 4000000 in
set_option maxRecDepth 100000 in
theorem tX10_within_0  {r : Int32} (cx : CallFix p m c prog_1_method_28_code 3 s args tbG RX10) (hr : meth.sig.returnType = (Option.some FieldType.boolean)) (hlk : meth.locks = false)  (v0 : Int32) (v1 : Int32) (v2 : Int32) (h : Hp) (H : Heap) (locs : List Loc) (ls : Array Slot) (hB : hp_B D cA (hp_A h0) s h H locs) (hl : lv_has ls 3 [(0, .int v0), (1, .int v1), (2, .int v2)]) (hf : fX10_within  v0 v1 v2 h = some (r, h9)) : W p l e rmX10_within s m args below meth c H locs 0 0 (MQ below (hp_Qi D cA h0 h9 r) args s 0 0 (hp_A h0)) (F0 m 0 ls []) := by
  obtain ⟨hx, hb, -⟩ := id cx
  unfold fX10_within at hf
  refine lv_iload_n hx hb dX10_within_0 rfl (lv_at hl 0 rfl) ?_
  refine lv_iload_n hx hb dX10_within_1 rfl (lv_at hl 1 rfl) ?_
  refine lv_icmp_lt (tgt := 14) hx hb dX10_within_2 (by decide) (fun c1 => ?_) (fun c1 => ?_)
  · replace hf := it_t c1 hf
    refine lv_iconst (v := 0) hx hb dX10_within_14 (by decide) ?_
    obtain ⟨rfl, rfl⟩ := rt_ok hf
    exact hp_zret cx hB hr hlk (Nat.le_of_ble_eq_true rfl) (Nat.le_of_ble_eq_true rfl) rfl dX10_within_15
  · replace hf := it_f c1 hf
    refine lv_iload_n hx hb dX10_within_5 rfl (lv_at hl 0 rfl) ?_
    refine lv_iload_n hx hb dX10_within_6 rfl (lv_at hl 2 rfl) ?_
    refine lv_icmp_gt (tgt := 14) hx hb dX10_within_7 (by decide) (fun c2 => ?_) (fun c2 => ?_)
    · replace hf := it_t c2 hf
      refine lv_iconst (v := 0) hx hb dX10_within_14 (by decide) ?_
      obtain ⟨rfl, rfl⟩ := rt_ok hf
      exact hp_zret cx hB hr hlk (Nat.le_of_ble_eq_true rfl) (Nat.le_of_ble_eq_true rfl) rfl dX10_within_15
    · replace hf := it_f c2 hf
      refine lv_iconst (v := 1) hx hb dX10_within_10 (by decide) ?_
      refine lv_goto (tgt := 15) hx hb dX10_within_11 (by decide) ?_
      obtain ⟨rfl, rfl⟩ := rt_ok hf
      exact hp_zret cx hB hr hlk (Nat.le_of_ble_eq_true rfl) (Nat.le_of_ble_eq_true rfl) rfl dX10_within_15
end
set_option maxHeartbeats 4000000 in
set_option maxRecDepth 100000 in
theorem cX10_within (l : Launch) (D : va_G) (cA : Nat → ClassId) (v0 : Int32) (v1 : Int32) (v2 : Int32) (h : Hp) (r : Int32) (h9 : Hp) (hf : fX10_within v0 v1 v2 h = some (r, h9)) : hp_M l yX10_within prog_1_method_28_code 3 (Option.some FieldType.boolean) rmX10_within D cA h [.int v0, .int v1, .int v2] (hp_Qi D cA h h9 r) := by
  refine Met.ofW (cc := prog_1_method_28_code) (maxL := 3) (ret := (Option.some FieldType.boolean)) (by decide) rfl ?_
  intro p e s m args below meth c s₁ B hml hv
  obtain ⟨rfl, hU⟩ := hv
  have hts := atoms_spec (ws := Cond.code yX10_within prog_1_method_28_code 3 (Option.some FieldType.boolean) :: tbG) B.pre
  have hl := lv_entry ([.int v0, .int v1, .int v2]) (n := 3) (Nat.le_of_ble_eq_true rfl)
  rw [lg_entry_eq]
  generalize (lg_sl ([.int v0, .int v1, .int v2]) ++ List.replicate (3 - (lg_sl ([.int v0, .int v1, .int v2])).length) Slot.unset).toArray = ls at hl ⊢
  exact tX10_within_0 ⟨B.exec, B.bytes, hml, findClass_of_methodNamed B.named, fun w hw => hts w (List.mem_cons_of_mem _ hw)⟩ B.returns B.notSynchronized v0 v1 v2 h _ _ _ (hp_B.entry hU) hl hf
section
variable {p : Program} {l : Launch} {e : Env} {R : Room} {s : State} {m : MethodId} {args : Array Value} {below : List Frame} {meth : Method} {c : Code} {H : Heap} {locs : List Loc} {cells slots : Nat} {Q : State → Prop}
variable {cc : ByteArray} {pc nL : Nat} {ls : Array Slot} {rest : List Value} {D : va_G} {cA : Nat → ClassId} {A : Nat → Prop} {a : Nat} {h : Hp}
theorem cl_X10_61 {As st0 : List Value} {Qc : Array Value → State → Outcome → State → Prop} (cx : CallFix p m c cc nL s args tbG RX10) (hB : hp_B D cA A s h H locs) (hM : hp_M l yX10_within prog_1_method_28_code 3 (Option.some FieldType.boolean) rmX10_within D cA h As Qc) (hR : rmX10_within.frames + 1 ≤ R.frames ∧ 8 + (3 + 11) + rmX10_within.locals ≤ R.locals) (hn : As.length = 3) (hls : ls.size = nL) (hst : st0 = As.reverse ++ rest) (hW : (rest.map fun v => v.category).sum ≤ 8) (hf : cells + rmX10_within.cells ≤ R.cells ∧ slots + rmX10_within.slots ≤ R.slots) (hdg : decode cc pc = .ok (.invokestatic 61, 3)) :
    va_Run p l e R s m args below meth c H locs cells slots rmX10_within.cells rmX10_within.slots (F0 m pc ls st0) rest (Qc As.toArray) (hp_A h) :=
  hp_runS cx hB hM qw_231 qw_229 qw_230 qw_1 (by decide +kernel) hR hn hls hst hW hf hdg
end
abbrev yX10_isNext : MethodName := ⟨"SpokenMenus", "isNext", "(I)Z"⟩
theorem dX10_isNext_0 : decode prog_1_method_29_code 0 = .ok (.iload_n 0, 1) := by decide +kernel
theorem dX10_isNext_1 : decode prog_1_method_29_code 1 = .ok (.iconst (-1), 1) := by decide +kernel
theorem dX10_isNext_2 : decode prog_1_method_29_code 2 = .ok (.bipush 39, 2) := by decide +kernel
theorem dX10_isNext_4 : decode prog_1_method_29_code 4 = .ok (.invokestatic 61, 3) := by decide +kernel
theorem dX10_isNext_7 : decode prog_1_method_29_code 7 = .ok (.ireturn, 1) := by decide +kernel
abbrev rmX10_isNext : Room := { frames := 1, cells := 0, slots := 0, locals := 22 }
def fX10_isNext  (v0 : Int32) (h : Hp) : Option (Int32 × Hp) :=
  b2 (fX10_within v0 (-1) 39 h) fun r3 g1 =>
  gd (zb r3) <|
  some (r3, g1)
section
variable {p : Program} {l : Launch} {e : Env} {s : State} {m : MethodId} {args : Array Value} {below : List Frame} {meth : Method} {c : Code} {D : va_G} {cA : Nat → ClassId} {h0 h9 : Hp}
set_option maxHeartbeats 4000000 in
set_option maxRecDepth 100000 in
theorem tX10_isNext_0  {r : Int32} (cx : CallFix p m c prog_1_method_29_code 1 s args tbG RX10) (hr : meth.sig.returnType = (Option.some FieldType.boolean)) (hlk : meth.locks = false)  (v0 : Int32) (h : Hp) (H : Heap) (locs : List Loc) (ls : Array Slot) (hB : hp_B D cA (hp_A h0) s h H locs) (hl : lv_has ls 1 [(0, .int v0)]) (hf : fX10_isNext  v0 h = some (r, h9)) : W p l e rmX10_isNext s m args below meth c H locs 0 0 (MQ below (hp_Qi D cA h0 h9 r) args s 0 0 (hp_A h0)) (F0 m 0 ls []) := by
  obtain ⟨hx, hb, -⟩ := id cx
  unfold fX10_isNext at hf
  refine lv_iload_n hx hb dX10_isNext_0 rfl (lv_at hl 0 rfl) ?_
  refine lv_iconst (v := (-1)) hx hb dX10_isNext_1 (by decide) ?_
  refine lv_bipush (v := 39) hx hb dX10_isNext_2 (by decide) ?_
  obtain ⟨r3, g1, m2, hf⟩ := b2_ok hf
  refine hp_cI0 (cl_X10_61 cx hB (cX10_within l D cA v0 (-1) 39 h _ g1 m2) ⟨Nat.le_of_ble_eq_true rfl, Nat.le_of_ble_eq_true rfl⟩ rfl hl.1 rfl (Nat.le_of_ble_eq_true rfl) ⟨Nat.le_of_ble_eq_true rfl, Nat.le_of_ble_eq_true rfl⟩ dX10_isNext_4) rfl rfl hB (fun H locs hB => ?_)
  obtain ⟨c5, hf⟩ := gd_ok hf
  obtain ⟨rfl, rfl⟩ := rt_ok hf
  exact hp_zret cx hB hr hlk (Nat.le_of_ble_eq_true rfl) (Nat.le_of_ble_eq_true rfl) c5 dX10_isNext_7
end
set_option maxHeartbeats 4000000 in
set_option maxRecDepth 100000 in
theorem cX10_isNext (l : Launch) (D : va_G) (cA : Nat → ClassId) (v0 : Int32) (h : Hp) (r : Int32) (h9 : Hp) (hf : fX10_isNext v0 h = some (r, h9)) : hp_M l yX10_isNext prog_1_method_29_code 1 (Option.some FieldType.boolean) rmX10_isNext D cA h [.int v0] (hp_Qi D cA h h9 r) := by
  refine Met.ofW (cc := prog_1_method_29_code) (maxL := 1) (ret := (Option.some FieldType.boolean)) (by decide) rfl ?_
  intro p e s m args below meth c s₁ B hml hv
  obtain ⟨rfl, hU⟩ := hv
  have hts := atoms_spec (ws := Cond.code yX10_isNext prog_1_method_29_code 1 (Option.some FieldType.boolean) :: tbG) B.pre
  have hl := lv_entry ([.int v0]) (n := 1) (Nat.le_of_ble_eq_true rfl)
  rw [lg_entry_eq]
  generalize (lg_sl ([.int v0]) ++ List.replicate (1 - (lg_sl ([.int v0])).length) Slot.unset).toArray = ls at hl ⊢
  exact tX10_isNext_0 ⟨B.exec, B.bytes, hml, findClass_of_methodNamed B.named, fun w hw => hts w (List.mem_cons_of_mem _ hw)⟩ B.returns B.notSynchronized v0 h _ _ _ (hp_B.entry hU) hl hf
section
variable {p : Program} {l : Launch} {e : Env} {R : Room} {s : State} {m : MethodId} {args : Array Value} {below : List Frame} {meth : Method} {c : Code} {H : Heap} {locs : List Loc} {cells slots : Nat} {Q : State → Prop}
variable {cc : ByteArray} {pc nL : Nat} {ls : Array Slot} {rest : List Value} {D : va_G} {cA : Nat → ClassId} {A : Nat → Prop} {a : Nat} {h : Hp}
theorem cl_X10_65 {As st0 : List Value} {Qc : Array Value → State → Outcome → State → Prop} (cx : CallFix p m c cc nL s args tbG RX10) (hB : hp_B D cA A s h H locs) (hM : hp_M l yX10_isNext prog_1_method_29_code 1 (Option.some FieldType.boolean) rmX10_isNext D cA h As Qc) (hR : rmX10_isNext.frames + 1 ≤ R.frames ∧ 8 + (1 + 11) + rmX10_isNext.locals ≤ R.locals) (hn : As.length = 1) (hls : ls.size = nL) (hst : st0 = As.reverse ++ rest) (hW : (rest.map fun v => v.category).sum ≤ 8) (hf : cells + rmX10_isNext.cells ≤ R.cells ∧ slots + rmX10_isNext.slots ≤ R.slots) (hdg : decode cc pc = .ok (.invokestatic 65, 3)) :
    va_Run p l e R s m args below meth c H locs cells slots rmX10_isNext.cells rmX10_isNext.slots (F0 m pc ls st0) rest (Qc As.toArray) (hp_A h) :=
  hp_runS cx hB hM qw_234 qw_232 qw_233 qw_1 (by decide +kernel) hR hn hls hst hW hf hdg
theorem gf_X10_10 (cx : CallFix p m c cc nL s args tbG RX10) (hB : hp_B D cA A s h H locs) (hka : h.1 a = 11) {b : Nat} (ho : h.2.2.2.1 a 0 = some b) (hdg : decode cc pc = .ok (.getfield 10, 3)) (kk : W p l e R s m args below meth c H locs cells slots Q (F0 m (pc + 3) ls (.ref b :: rest))) : W p l e R s m args below meth c H locs cells slots Q (F0 m pc ls (.ref a :: rest)) :=
  hp_getR cx hB (ci := 10) 0 rfl inX10 (by decide) rfl (by decide) rfl qw_200 hka (o := some b) ho.symm hdg kk
theorem cl_X10_69 {As st0 : List Value} {b : Nat} {Qc : Array Value → State → Outcome → State → Prop} (cx : CallFix p m c cc nL s args tbG RX10) (hB : hp_B D cA A s h H locs) (hM : hp_M l yX2_isFull prog_4_method_2_code 1 (Option.some FieldType.boolean) rmX2_isFull D cA h (.ref b :: As) Qc) (hkb : h.1 b = 3) (hR : rmX2_isFull.frames + 1 ≤ R.frames ∧ 8 + (1 + 11) + rmX2_isFull.locals ≤ R.locals) (hn : As.length = 0) (hls : ls.size = nL) (hst : st0 = As.reverse ++ .ref b :: rest) (hW : (rest.map fun v => v.category).sum ≤ 8) (hf : cells + rmX2_isFull.cells ≤ R.cells ∧ slots + rmX2_isFull.slots ≤ R.slots) (hdg : decode cc pc = .ok (.invokevirtual 69, 3)) :
    va_Run p l e R s m args below meth c H locs cells slots rmX2_isFull.cells rmX2_isFull.slots (F0 m pc ls st0) rest (Qc (Value.ref b :: As).toArray) (hp_A h) :=
  hp_runV cx hB hM (ci := 2) rfl (by decide) hkb qw_238 qw_235 qw_236 qw_237 qw_2 (by decide +kernel) hR hn hls hst hW hf hdg
theorem cl_X10_75 {As st0 : List Value} {b : Nat} {Qc : Array Value → State → Outcome → State → Prop} (cx : CallFix p m c cc nL s args tbG RX10) (hB : hp_B D cA A s h H locs) (hM : hp_M l yX5_init prog_7_method_1_code 6 none rmX5_init D cA h (.ref b :: As) Qc) (hR : rmX5_init.frames + 1 ≤ R.frames ∧ 8 + (6 + 11) + rmX5_init.locals ≤ R.locals) (hn : As.length = 5) (hls : ls.size = nL) (hst : st0 = As.reverse ++ .ref b :: rest) (hW : (rest.map fun v => v.category).sum ≤ 8) (hf : cells + rmX5_init.cells ≤ R.cells ∧ slots + rmX5_init.slots ≤ R.slots) (hdg : decode cc pc = .ok (.invokespecial 75, 3)) :
    va_Run p l e R s m args below meth c H locs cells slots rmX5_init.cells rmX5_init.slots (F0 m pc ls st0) rest (Qc (Value.ref b :: As).toArray) (hp_A h) :=
  hp_runI cx hB hM qw_243 qw_241 qw_242 qw_11 rfl (by decide +kernel) hR hn hls hst hW hf hdg
theorem pf_X10_78 (cx : CallFix p m c cc nL s args tbG RX10) (hB : hp_B D cA A s h H locs) (hka : h.1 a = 6) {x : Int32} (hdg : decode cc pc = .ok (.putfield 78, 3)) (kk : ∀ (H1 : Heap) (locs1 : List Loc), hp_B D cA A s (hp_si h a 7 x) H1 locs1 → W p l e R s m args below meth c H1 locs1 cells slots Q (F0 m (pc + 3) ls rest)) : W p l e R s m args below meth c H locs cells slots Q (F0 m pc ls (.int x :: .ref a :: rest)) :=
  hp_putX cx hB (ci := 5) 7 tyX5 tyX5_ok nmX5 rfl inX5 (by decide) rfl (by decide) (Or.inl rfl) qw_277 hka (v := .int x) (hp_like_si h a 7 x) (hp_fs_si (by decide) rfl) rfl rfl hdg kk
theorem cl_X10_82 {As st0 : List Value} {b : Nat} {Qc : Array Value → State → Outcome → State → Prop} (cx : CallFix p m c cc nL s args tbG RX10) (hB : hp_B D cA A s h H locs) (hM : hp_M l yX2_add prog_4_method_3_code 2 (Option.some FieldType.int) rmX2_add D cA h (.ref b :: As) Qc) (hkb : h.1 b = 3) (hR : rmX2_add.frames + 1 ≤ R.frames ∧ 8 + (2 + 11) + rmX2_add.locals ≤ R.locals) (hn : As.length = 1) (hls : ls.size = nL) (hst : st0 = As.reverse ++ .ref b :: rest) (hW : (rest.map fun v => v.category).sum ≤ 8) (hf : cells + rmX2_add.cells ≤ R.cells ∧ slots + rmX2_add.slots ≤ R.slots) (hdg : decode cc pc = .ok (.invokevirtual 82, 3)) :
    va_Run p l e R s m args below meth c H locs cells slots rmX2_add.cells rmX2_add.slots (F0 m pc ls st0) rest (Qc (Value.ref b :: As).toArray) (hp_A h) :=
  hp_runV cx hB hM (ci := 2) rfl (by decide) hkb qw_310 qw_307 qw_308 qw_309 qw_2 (by decide +kernel) hR hn hls hst hW hf hdg
end
abbrev yX10_menu : MethodName := ⟨"SpokenMenus", "menu", "(III)I"⟩
theorem dX10_menu_0 : decode prog_1_method_2_code 0 = .ok (.iload_n 1, 1) := by decide +kernel
theorem dX10_menu_1 : decode prog_1_method_2_code 1 = .ok (.iconst 1, 1) := by decide +kernel
theorem dX10_menu_2 : decode prog_1_method_2_code 2 = .ok (.bipush 100, 2) := by decide +kernel
theorem dX10_menu_4 : decode prog_1_method_2_code 4 = .ok (.invokestatic 61, 3) := by decide +kernel
theorem dX10_menu_7 : decode prog_1_method_2_code 7 = .ok (.ifCond .eq 19, 3) := by decide +kernel
theorem dX10_menu_10 : decode prog_1_method_2_code 10 = .ok (.iload_n 2, 1) := by decide +kernel
theorem dX10_menu_11 : decode prog_1_method_2_code 11 = .ok (.iconst 1, 1) := by decide +kernel
theorem dX10_menu_12 : decode prog_1_method_2_code 12 = .ok (.iconst 3, 1) := by decide +kernel
theorem dX10_menu_13 : decode prog_1_method_2_code 13 = .ok (.invokestatic 61, 3) := by decide +kernel
theorem dX10_menu_16 : decode prog_1_method_2_code 16 = .ok (.ifCond .eq 10, 3) := by decide +kernel
theorem dX10_menu_19 : decode prog_1_method_2_code 19 = .ok (.iload_n 3, 1) := by decide +kernel
theorem dX10_menu_20 : decode prog_1_method_2_code 20 = .ok (.invokestatic 65, 3) := by decide +kernel
theorem dX10_menu_23 : decode prog_1_method_2_code 23 = .ok (.ifCond .ne 5, 3) := by decide +kernel
theorem dX10_menu_26 : decode prog_1_method_2_code 26 = .ok (.iconst (-1), 1) := by decide +kernel
theorem dX10_menu_27 : decode prog_1_method_2_code 27 = .ok (.ireturn, 1) := by decide +kernel
theorem dX10_menu_28 : decode prog_1_method_2_code 28 = .ok (.aload_n 0, 1) := by decide +kernel
theorem dX10_menu_29 : decode prog_1_method_2_code 29 = .ok (.getfield 10, 3) := by decide +kernel
theorem dX10_menu_32 : decode prog_1_method_2_code 32 = .ok (.invokevirtual 69, 3) := by decide +kernel
theorem dX10_menu_35 : decode prog_1_method_2_code 35 = .ok (.ifCond .eq 6, 3) := by decide +kernel
theorem dX10_menu_38 : decode prog_1_method_2_code 38 = .ok (.bipush (-3), 2) := by decide +kernel
theorem dX10_menu_40 : decode prog_1_method_2_code 40 = .ok (.ireturn, 1) := by decide +kernel
theorem dX10_menu_41 : decode prog_1_method_2_code 41 = .ok (.new 73, 3) := by decide +kernel
theorem dX10_menu_44 : decode prog_1_method_2_code 44 = .ok (.dup, 1) := by decide +kernel
theorem dX10_menu_45 : decode prog_1_method_2_code 45 = .ok (.iconst 0, 1) := by decide +kernel
theorem dX10_menu_46 : decode prog_1_method_2_code 46 = .ok (.iload_n 1, 1) := by decide +kernel
theorem dX10_menu_47 : decode prog_1_method_2_code 47 = .ok (.iconst 0, 1) := by decide +kernel
theorem dX10_menu_48 : decode prog_1_method_2_code 48 = .ok (.iload_n 3, 1) := by decide +kernel
theorem dX10_menu_49 : decode prog_1_method_2_code 49 = .ok (.iconst (-1), 1) := by decide +kernel
theorem dX10_menu_50 : decode prog_1_method_2_code 50 = .ok (.invokespecial 75, 3) := by decide +kernel
theorem dX10_menu_53 : decode prog_1_method_2_code 53 = .ok (.astore 4, 2) := by decide +kernel
theorem dX10_menu_55 : decode prog_1_method_2_code 55 = .ok (.aload 4, 2) := by decide +kernel
theorem dX10_menu_57 : decode prog_1_method_2_code 57 = .ok (.iload_n 2, 1) := by decide +kernel
theorem dX10_menu_58 : decode prog_1_method_2_code 58 = .ok (.putfield 78, 3) := by decide +kernel
theorem dX10_menu_61 : decode prog_1_method_2_code 61 = .ok (.aload_n 0, 1) := by decide +kernel
theorem dX10_menu_62 : decode prog_1_method_2_code 62 = .ok (.getfield 10, 3) := by decide +kernel
theorem dX10_menu_65 : decode prog_1_method_2_code 65 = .ok (.aload 4, 2) := by decide +kernel
theorem dX10_menu_67 : decode prog_1_method_2_code 67 = .ok (.invokevirtual 82, 3) := by decide +kernel
theorem dX10_menu_70 : decode prog_1_method_2_code 70 = .ok (.ireturn, 1) := by decide +kernel
abbrev rmX10_menu : Room := { frames := 2, cells := 2, slots := 17, locals := 45 }
def fX10_menu  (t0 : Nat) (v1 : Int32) (v2 : Int32) (v3 : Int32) (h : Hp) : Option (Int32 × Hp) :=
  b2 (fX10_within v1 1 100 h) fun r3 g1 =>
  if r3 = 0 then
  (some ((-1), g1))
  else
  (b2 (fX10_within v2 1 3 g1) fun r8 g6 =>
  if r8 = 0 then
  (some ((-1), g6))
  else
  (b2 (fX10_isNext v3 g6) fun r13 g11 =>
  if r13 = 0 then
  (some ((-1), g11))
  else
  (gk (g11.1 t0) 11 <|
  bd (g11.2.2.2.1 t0 0) fun a17 =>
  gk (g11.1 a17) 3 <|
  b2 (fX2_isFull a17 g11) fun r22 g20 =>
  if r22 = 0 then
  (nm g20.2.2.2.2 fun a25 =>
  nm (hp_nw g20 6 0) fun g26 =>
  b2 (fX5_init a25 0 v1 0 v3 (-1) g26) fun _ g28 =>
  gk (g28.1 a25) 6 <|
  nm (hp_si g28 a25 7 v2) fun g33 =>
  gk (g33.1 t0) 11 <|
  bd (g33.2.2.2.1 t0 0) fun a35 =>
  gk (g33.1 a35) 3 <|
  b2 (fX2_add a35 (some a25) g33) fun r40 g38 =>
  some (r40, g38))
  else
  (some ((-3), g20)))))
section
variable {p : Program} {l : Launch} {e : Env} {s : State} {m : MethodId} {args : Array Value} {below : List Frame} {meth : Method} {c : Code} {D : va_G} {cA : Nat → ClassId} {h0 h9 : Hp}
set_option maxHeartbeats 4000000 in
set_option maxRecDepth 100000 in
theorem tX10_menu_0  {r : Int32} (cx : CallFix p m c prog_1_method_2_code 5 s args tbG RX10) (hr : meth.sig.returnType = (Option.some FieldType.int)) (hlk : meth.locks = false)  (t0 : Nat) (v1 : Int32) (v2 : Int32) (v3 : Int32) (h : Hp) (H : Heap) (locs : List Loc) (ls : Array Slot) (hB : hp_B D cA (hp_A h0) s h H locs) (hl : lv_has ls 5 [(0, .ref t0), (1, .int v1), (2, .int v2), (3, .int v3)]) (hf : fX10_menu  t0 v1 v2 v3 h = some (r, h9)) : W p l e rmX10_menu s m args below meth c H locs 0 0 (MQ below (hp_Qi D cA h0 h9 r) args s 2 17 (hp_A h0)) (F0 m 0 ls []) := by
  obtain ⟨hx, hb, -⟩ := id cx
  unfold fX10_menu at hf
  refine lv_iload_n hx hb dX10_menu_0 rfl (lv_at hl 1 rfl) ?_
  refine lv_iconst (v := 1) hx hb dX10_menu_1 (by decide) ?_
  refine lv_bipush (v := 100) hx hb dX10_menu_2 (by decide) ?_
  obtain ⟨r3, g1, m2, hf⟩ := b2_ok hf
  refine hp_cI0 (cl_X10_61 cx hB (cX10_within l D cA v1 1 100 h _ g1 m2) ⟨Nat.le_of_ble_eq_true rfl, Nat.le_of_ble_eq_true rfl⟩ rfl hl.1 rfl (Nat.le_of_ble_eq_true rfl) ⟨Nat.le_of_ble_eq_true rfl, Nat.le_of_ble_eq_true rfl⟩ dX10_menu_4) rfl rfl hB (fun H locs hB => ?_)
  refine lv_if_eq (tgt := 26) hx hb dX10_menu_7 (by decide) (fun c5 => ?_) (fun c5 => ?_)
  · replace hf := it_t c5 hf
    refine lv_iconst (v := (-1)) hx hb dX10_menu_26 (by decide) ?_
    obtain ⟨rfl, rfl⟩ := rt_ok hf
    exact hp_iret cx hB hr hlk (Nat.le_of_ble_eq_true rfl) (Nat.le_of_ble_eq_true rfl) dX10_menu_27
  · replace hf := it_f c5 hf
    refine lv_iload_n hx hb dX10_menu_10 rfl (lv_at hl 2 rfl) ?_
    refine lv_iconst (v := 1) hx hb dX10_menu_11 (by decide) ?_
    refine lv_iconst (v := 3) hx hb dX10_menu_12 (by decide) ?_
    obtain ⟨r8, g6, m7, hf⟩ := b2_ok hf
    refine hp_cI0 (cl_X10_61 cx hB (cX10_within l D cA v2 1 3 g1 _ g6 m7) ⟨Nat.le_of_ble_eq_true rfl, Nat.le_of_ble_eq_true rfl⟩ rfl hl.1 rfl (Nat.le_of_ble_eq_true rfl) ⟨Nat.le_of_ble_eq_true rfl, Nat.le_of_ble_eq_true rfl⟩ dX10_menu_13) rfl rfl hB (fun H locs hB => ?_)
    refine lv_if_eq (tgt := 26) hx hb dX10_menu_16 (by decide) (fun c10 => ?_) (fun c10 => ?_)
    · replace hf := it_t c10 hf
      refine lv_iconst (v := (-1)) hx hb dX10_menu_26 (by decide) ?_
      obtain ⟨rfl, rfl⟩ := rt_ok hf
      exact hp_iret cx hB hr hlk (Nat.le_of_ble_eq_true rfl) (Nat.le_of_ble_eq_true rfl) dX10_menu_27
    · replace hf := it_f c10 hf
      refine lv_iload_n hx hb dX10_menu_19 rfl (lv_at hl 3 rfl) ?_
      obtain ⟨r13, g11, m12, hf⟩ := b2_ok hf
      refine hp_cI0 (cl_X10_65 cx hB (cX10_isNext l D cA v3 g6 _ g11 m12) ⟨Nat.le_of_ble_eq_true rfl, Nat.le_of_ble_eq_true rfl⟩ rfl hl.1 rfl (Nat.le_of_ble_eq_true rfl) ⟨Nat.le_of_ble_eq_true rfl, Nat.le_of_ble_eq_true rfl⟩ dX10_menu_20) rfl rfl hB (fun H locs hB => ?_)
      refine lv_if_ne (tgt := 28) hx hb dX10_menu_23 (by decide) (fun c15 => ?_) (fun c15 => ?_)
      · replace hf := it_f c15 hf
        refine lv_aload_n hx hb dX10_menu_28 rfl (lv_at hl 0 rfl) ?_
        obtain ⟨k16, hf⟩ := gk_ok hf
        obtain ⟨a17, q18, hf⟩ := bd_ok hf
        refine gf_X10_10 cx hB k16 q18 dX10_menu_29 ?_
        obtain ⟨k19, hf⟩ := gk_ok hf
        obtain ⟨r22, g20, m21, hf⟩ := b2_ok hf
        refine hp_cI0 (cl_X10_69 cx hB (cX2_isFull l D cA a17 g11 _ g20 m21) k19 ⟨Nat.le_of_ble_eq_true rfl, Nat.le_of_ble_eq_true rfl⟩ rfl hl.1 rfl (Nat.le_of_ble_eq_true rfl) ⟨Nat.le_of_ble_eq_true rfl, Nat.le_of_ble_eq_true rfl⟩ dX10_menu_32) rfl rfl hB (fun H locs hB => ?_)
        refine lv_if_eq (tgt := 41) hx hb dX10_menu_35 (by decide) (fun c24 => ?_) (fun c24 => ?_)
        · replace hf := it_t c24 hf
          obtain ⟨a25, ea25, hf⟩ := nm_ok hf
          obtain ⟨g26, eg26, hf⟩ := nm_ok hf
          refine hp_new cx hB (ci := 5) tyX5 tyX5_ok rfl inX5 (by decide) rfl (by decide +kernel) qw_239 qw_240 qw_11 ea25 (Nat.le_of_ble_eq_true rfl) (Nat.le_of_ble_eq_true rfl) dX10_menu_41 (fun H hB => ?_)
          rw [← eg26] at hB
          have k27 : g26.1 a25 = 6 := by rw [eg26, ea25]; exact va_up_self _ _ _
          refine lv_dup hx hb dX10_menu_44 rfl ?_
          refine lv_iconst (v := 0) hx hb dX10_menu_45 (by decide) ?_
          refine lv_iload_n hx hb dX10_menu_46 rfl (lv_at hl 1 rfl) ?_
          refine lv_iconst (v := 0) hx hb dX10_menu_47 (by decide) ?_
          refine lv_iload_n hx hb dX10_menu_48 rfl (lv_at hl 3 rfl) ?_
          refine lv_iconst (v := (-1)) hx hb dX10_menu_49 (by decide) ?_
          obtain ⟨uu, g28, m29, hf⟩ := b2_ok hf
          refine hp_cV (cl_X10_75 cx hB (cX5_init l D cA a25 0 v1 0 v3 (-1) g26 _ g28 m29) ⟨Nat.le_of_ble_eq_true rfl, Nat.le_of_ble_eq_true rfl⟩ rfl hl.1 rfl (Nat.le_of_ble_eq_true rfl) ⟨Nat.le_of_ble_eq_true rfl, Nat.le_of_ble_eq_true rfl⟩ dX10_menu_50) hB (fun H locs hB => ?_)
          refine lv_astore (lv' := [(4, .ref a25), (0, .ref t0), (1, .int v1), (2, .int v2), (3, .int v3)]) hx hb dX10_menu_53 hl (by decide) rfl (fun ls hl => ?_)
          refine lv_aload hx hb dX10_menu_55 (lv_at hl 0 rfl) ?_
          refine lv_iload_n hx hb dX10_menu_57 rfl (lv_at hl 3 rfl) ?_
          obtain ⟨k32, hf⟩ := gk_ok hf
          obtain ⟨g33, eg33, hf⟩ := nm_ok hf
          refine pf_X10_78 cx hB k32 dX10_menu_58 (fun H locs hB => ?_)
          rw [← eg33] at hB
          refine lv_aload_n hx hb dX10_menu_61 rfl (lv_at hl 1 rfl) ?_
          obtain ⟨k34, hf⟩ := gk_ok hf
          obtain ⟨a35, q36, hf⟩ := bd_ok hf
          refine gf_X10_10 cx hB k34 q36 dX10_menu_62 ?_
          refine lv_aload hx hb dX10_menu_65 (lv_at hl 0 rfl) ?_
          obtain ⟨k37, hf⟩ := gk_ok hf
          obtain ⟨r40, g38, m39, hf⟩ := b2_ok hf
          refine hp_cI0 (cl_X10_82 cx hB (cX2_add l D cA a35 (some a25) g33 _ g38 m39) k37 ⟨Nat.le_of_ble_eq_true rfl, Nat.le_of_ble_eq_true rfl⟩ rfl hl.1 rfl (Nat.le_of_ble_eq_true rfl) ⟨Nat.le_of_ble_eq_true rfl, Nat.le_of_ble_eq_true rfl⟩ dX10_menu_67) rfl rfl hB (fun H locs hB => ?_)
          obtain ⟨rfl, rfl⟩ := rt_ok hf
          exact hp_iret cx hB hr hlk (Nat.le_of_ble_eq_true rfl) (Nat.le_of_ble_eq_true rfl) dX10_menu_70
        · replace hf := it_f c24 hf
          refine lv_bipush (v := (-3)) hx hb dX10_menu_38 (by decide) ?_
          obtain ⟨rfl, rfl⟩ := rt_ok hf
          exact hp_iret cx hB hr hlk (Nat.le_of_ble_eq_true rfl) (Nat.le_of_ble_eq_true rfl) dX10_menu_40
      · replace hf := it_t c15 hf
        refine lv_iconst (v := (-1)) hx hb dX10_menu_26 (by decide) ?_
        obtain ⟨rfl, rfl⟩ := rt_ok hf
        exact hp_iret cx hB hr hlk (Nat.le_of_ble_eq_true rfl) (Nat.le_of_ble_eq_true rfl) dX10_menu_27
end
set_option maxHeartbeats 4000000 in
set_option maxRecDepth 100000 in
theorem cX10_menu (l : Launch) (D : va_G) (cA : Nat → ClassId) (t0 : Nat) (v1 : Int32) (v2 : Int32) (v3 : Int32) (h : Hp) (r : Int32) (h9 : Hp) (hf : fX10_menu t0 v1 v2 v3 h = some (r, h9)) : hp_M l yX10_menu prog_1_method_2_code 5 (Option.some FieldType.int) rmX10_menu D cA h [.ref t0, .int v1, .int v2, .int v3] (hp_Qi D cA h h9 r) := by
  refine Met.ofW (cc := prog_1_method_2_code) (maxL := 5) (ret := (Option.some FieldType.int)) (by decide) rfl ?_
  intro p e s m args below meth c s₁ B hml hv
  obtain ⟨rfl, hU⟩ := hv
  have hts := atoms_spec (ws := Cond.code yX10_menu prog_1_method_2_code 5 (Option.some FieldType.int) :: tbG) B.pre
  have hl := lv_entry ([.ref t0, .int v1, .int v2, .int v3]) (n := 5) (Nat.le_of_ble_eq_true rfl)
  rw [lg_entry_eq]
  generalize (lg_sl ([.ref t0, .int v1, .int v2, .int v3]) ++ List.replicate (5 - (lg_sl ([.ref t0, .int v1, .int v2, .int v3])).length) Slot.unset).toArray = ls at hl ⊢
  exact tX10_menu_0 ⟨B.exec, B.bytes, hml, findClass_of_methodNamed B.named, fun w hw => hts w (List.mem_cons_of_mem _ hw)⟩ B.returns B.notSynchronized t0 v1 v2 v3 h _ _ _ (hp_B.entry hU) hl hf
section
variable {p : Program} {l : Launch} {e : Env} {R : Room} {s : State} {m : MethodId} {args : Array Value} {below : List Frame} {meth : Method} {c : Code} {H : Heap} {locs : List Loc} {cells slots : Nat} {Q : State → Prop}
variable {cc : ByteArray} {pc nL : Nat} {ls : Array Slot} {rest : List Value} {D : va_G} {cA : Nat → ClassId} {A : Nat → Prop} {a : Nat} {h : Hp}
theorem cl_X10_86 {As st0 : List Value} {b : Nat} {Qc : Array Value → State → Outcome → State → Prop} (cx : CallFix p m c cc nL s args tbG RX10) (hB : hp_B D cA A s h H locs) (hM : hp_M l yX2_menuAt prog_4_method_5_code 3 (Option.some (FieldType.object "SpokenMenus$Place")) rmX2_menuAt D cA h (.ref b :: As) Qc) (hkb : h.1 b = 3) (hR : rmX2_menuAt.frames + 1 ≤ R.frames ∧ 8 + (3 + 11) + rmX2_menuAt.locals ≤ R.locals) (hn : As.length = 1) (hls : ls.size = nL) (hst : st0 = As.reverse ++ .ref b :: rest) (hW : (rest.map fun v => v.category).sum ≤ 8) (hf : cells + rmX2_menuAt.cells ≤ R.cells ∧ slots + rmX2_menuAt.slots ≤ R.slots) (hdg : decode cc pc = .ok (.invokevirtual 86, 3)) :
    va_Run p l e R s m args below meth c H locs cells slots rmX2_menuAt.cells rmX2_menuAt.slots (F0 m pc ls st0) rest (Qc (Value.ref b :: As).toArray) (hp_A h) :=
  hp_runV cx hB hM (ci := 2) rfl (by decide) hkb qw_319 qw_316 qw_317 qw_318 qw_2 (by decide +kernel) hR hn hls hst hW hf hdg
theorem cl_X10_91 {As st0 : List Value} {b : Nat} {Qc : Array Value → State → Outcome → State → Prop} (cx : CallFix p m c cc nL s args tbG RX10) (hB : hp_B D cA A s h H locs) (hM : hp_M l yX5_hasKey prog_7_method_3_code 3 (Option.some FieldType.boolean) rmX5_hasKey D cA h (.ref b :: As) Qc) (hkb : h.1 b = 6) (hR : rmX5_hasKey.frames + 1 ≤ R.frames ∧ 8 + (3 + 11) + rmX5_hasKey.locals ≤ R.locals) (hn : As.length = 1) (hls : ls.size = nL) (hst : st0 = As.reverse ++ .ref b :: rest) (hW : (rest.map fun v => v.category).sum ≤ 8) (hf : cells + rmX5_hasKey.cells ≤ R.cells ∧ slots + rmX5_hasKey.slots ≤ R.slots) (hdg : decode cc pc = .ok (.invokevirtual 91, 3)) :
    va_Run p l e R s m args below meth c H locs cells slots rmX5_hasKey.cells rmX5_hasKey.slots (F0 m pc ls st0) rest (Qc (Value.ref b :: As).toArray) (hp_A h) :=
  hp_runV cx hB hM (ci := 5) rfl (by decide) hkb qw_328 qw_325 qw_326 qw_327 qw_11 (by decide +kernel) hR hn hls hst hW hf hdg
theorem gf_X10_94 (cx : CallFix p m c cc nL s args tbG RX10) (hB : hp_B D cA A s h H locs) (hka : h.1 a = 6) (hdg : decode cc pc = .ok (.getfield 94, 3)) (kk : W p l e R s m args below meth c H locs cells slots Q (F0 m (pc + 3) ls (.int (h.2.2.1 a 6) :: rest))) : W p l e R s m args below meth c H locs cells slots Q (F0 m pc ls (.ref a :: rest)) :=
  hp_getI cx hB (ci := 5) 6 rfl inX5 (by decide) rfl (by decide) rfl qw_271 hka hdg kk
theorem cl_X10_99 {As st0 : List Value} {b : Nat} {Qc : Array Value → State → Outcome → State → Prop} (cx : CallFix p m c cc nL s args tbG RX10) (hB : hp_B D cA A s h H locs) (hM : hp_M l yX3_init prog_5_method_1_code 5 none rmX3_init D cA h (.ref b :: As) Qc) (hR : rmX3_init.frames + 1 ≤ R.frames ∧ 8 + (5 + 11) + rmX3_init.locals ≤ R.locals) (hn : As.length = 4) (hls : ls.size = nL) (hst : st0 = As.reverse ++ .ref b :: rest) (hW : (rest.map fun v => v.category).sum ≤ 8) (hf : cells + rmX3_init.cells ≤ R.cells ∧ slots + rmX3_init.slots ≤ R.slots) (hdg : decode cc pc = .ok (.invokespecial 99, 3)) :
    va_Run p l e R s m args below meth c H locs cells slots rmX3_init.cells rmX3_init.slots (F0 m pc ls st0) rest (Qc (Value.ref b :: As).toArray) (hp_A h) :=
  hp_runI cx hB hM qw_333 qw_331 qw_332 qw_12 rfl (by decide +kernel) hR hn hls hst hW hf hdg
theorem cl_X10_102 {As st0 : List Value} {b : Nat} {Qc : Array Value → State → Outcome → State → Prop} (cx : CallFix p m c cc nL s args tbG RX10) (hB : hp_B D cA A s h H locs) (hM : hp_M l yX5_addLine prog_7_method_2_code 2 none rmX5_addLine D cA h (.ref b :: As) Qc) (hkb : h.1 b = 6) (hR : rmX5_addLine.frames + 1 ≤ R.frames ∧ 8 + (2 + 11) + rmX5_addLine.locals ≤ R.locals) (hn : As.length = 1) (hls : ls.size = nL) (hst : st0 = As.reverse ++ .ref b :: rest) (hW : (rest.map fun v => v.category).sum ≤ 8) (hf : cells + rmX5_addLine.cells ≤ R.cells ∧ slots + rmX5_addLine.slots ≤ R.slots) (hdg : decode cc pc = .ok (.invokevirtual 102, 3)) :
    va_Run p l e R s m args below meth c H locs cells slots rmX5_addLine.cells rmX5_addLine.slots (F0 m pc ls st0) rest (Qc (Value.ref b :: As).toArray) (hp_A h) :=
  hp_runV cx hB hM (ci := 5) rfl (by decide) hkb qw_362 qw_359 qw_360 qw_361 qw_11 (by decide +kernel) hR hn hls hst hW hf hdg
end
abbrev yX10_line : MethodName := ⟨"SpokenMenus", "line", "(IIIII)I"⟩
theorem dX10_line_0 : decode prog_1_method_3_code 0 = .ok (.aload_n 0, 1) := by decide +kernel
theorem dX10_line_1 : decode prog_1_method_3_code 1 = .ok (.getfield 10, 3) := by decide +kernel
theorem dX10_line_4 : decode prog_1_method_3_code 4 = .ok (.iload_n 1, 1) := by decide +kernel
theorem dX10_line_5 : decode prog_1_method_3_code 5 = .ok (.invokevirtual 86, 3) := by decide +kernel
theorem dX10_line_8 : decode prog_1_method_3_code 8 = .ok (.astore 6, 2) := by decide +kernel
theorem dX10_line_10 : decode prog_1_method_3_code 10 = .ok (.aload 6, 2) := by decide +kernel
theorem dX10_line_12 : decode prog_1_method_3_code 12 = .ok (.ifnull 24, 3) := by decide +kernel
theorem dX10_line_15 : decode prog_1_method_3_code 15 = .ok (.iload_n 2, 1) := by decide +kernel
theorem dX10_line_16 : decode prog_1_method_3_code 16 = .ok (.iconst 1, 1) := by decide +kernel
theorem dX10_line_17 : decode prog_1_method_3_code 17 = .ok (.sipush 200, 3) := by decide +kernel
theorem dX10_line_20 : decode prog_1_method_3_code 20 = .ok (.invokestatic 61, 3) := by decide +kernel
theorem dX10_line_23 : decode prog_1_method_3_code 23 = .ok (.ifCond .eq 13, 3) := by decide +kernel
theorem dX10_line_26 : decode prog_1_method_3_code 26 = .ok (.iload_n 3, 1) := by decide +kernel
theorem dX10_line_27 : decode prog_1_method_3_code 27 = .ok (.iconst 0, 1) := by decide +kernel
theorem dX10_line_28 : decode prog_1_method_3_code 28 = .ok (.bipush 11, 2) := by decide +kernel
theorem dX10_line_30 : decode prog_1_method_3_code 30 = .ok (.invokestatic 61, 3) := by decide +kernel
theorem dX10_line_33 : decode prog_1_method_3_code 33 = .ok (.ifCond .ne 5, 3) := by decide +kernel
theorem dX10_line_36 : decode prog_1_method_3_code 36 = .ok (.iconst (-1), 1) := by decide +kernel
theorem dX10_line_37 : decode prog_1_method_3_code 37 = .ok (.ireturn, 1) := by decide +kernel
theorem dX10_line_38 : decode prog_1_method_3_code 38 = .ok (.iload 4, 2) := by decide +kernel
theorem dX10_line_40 : decode prog_1_method_3_code 40 = .ok (.iconst 0, 1) := by decide +kernel
theorem dX10_line_41 : decode prog_1_method_3_code 41 = .ok (.ldc 90, 2) := by decide +kernel
theorem dX10_line_43 : decode prog_1_method_3_code 43 = .ok (.invokestatic 61, 3) := by decide +kernel
theorem dX10_line_46 : decode prog_1_method_3_code 46 = .ok (.ifCond .eq 20, 3) := by decide +kernel
theorem dX10_line_49 : decode prog_1_method_3_code 49 = .ok (.iload 5, 2) := by decide +kernel
theorem dX10_line_51 : decode prog_1_method_3_code 51 = .ok (.invokestatic 65, 3) := by decide +kernel
theorem dX10_line_54 : decode prog_1_method_3_code 54 = .ok (.ifCond .eq 12, 3) := by decide +kernel
theorem dX10_line_57 : decode prog_1_method_3_code 57 = .ok (.aload 6, 2) := by decide +kernel
theorem dX10_line_59 : decode prog_1_method_3_code 59 = .ok (.iload_n 3, 1) := by decide +kernel
theorem dX10_line_60 : decode prog_1_method_3_code 60 = .ok (.invokevirtual 91, 3) := by decide +kernel
theorem dX10_line_63 : decode prog_1_method_3_code 63 = .ok (.ifCond .eq 5, 3) := by decide +kernel
theorem dX10_line_66 : decode prog_1_method_3_code 66 = .ok (.iconst (-1), 1) := by decide +kernel
theorem dX10_line_67 : decode prog_1_method_3_code 67 = .ok (.ireturn, 1) := by decide +kernel
theorem dX10_line_68 : decode prog_1_method_3_code 68 = .ok (.aload 6, 2) := by decide +kernel
theorem dX10_line_70 : decode prog_1_method_3_code 70 = .ok (.getfield 94, 3) := by decide +kernel
theorem dX10_line_73 : decode prog_1_method_3_code 73 = .ok (.bipush 6, 2) := by decide +kernel
theorem dX10_line_75 : decode prog_1_method_3_code 75 = .ok (.if_icmp .lt 6, 3) := by decide +kernel
theorem dX10_line_78 : decode prog_1_method_3_code 78 = .ok (.bipush (-3), 2) := by decide +kernel
theorem dX10_line_80 : decode prog_1_method_3_code 80 = .ok (.ireturn, 1) := by decide +kernel
theorem dX10_line_81 : decode prog_1_method_3_code 81 = .ok (.aload 6, 2) := by decide +kernel
theorem dX10_line_83 : decode prog_1_method_3_code 83 = .ok (.new 97, 3) := by decide +kernel
theorem dX10_line_86 : decode prog_1_method_3_code 86 = .ok (.dup, 1) := by decide +kernel
theorem dX10_line_87 : decode prog_1_method_3_code 87 = .ok (.iload_n 2, 1) := by decide +kernel
theorem dX10_line_88 : decode prog_1_method_3_code 88 = .ok (.iload_n 3, 1) := by decide +kernel
theorem dX10_line_89 : decode prog_1_method_3_code 89 = .ok (.iload 4, 2) := by decide +kernel
theorem dX10_line_91 : decode prog_1_method_3_code 91 = .ok (.iload 5, 2) := by decide +kernel
theorem dX10_line_93 : decode prog_1_method_3_code 93 = .ok (.invokespecial 99, 3) := by decide +kernel
theorem dX10_line_96 : decode prog_1_method_3_code 96 = .ok (.invokevirtual 102, 3) := by decide +kernel
theorem dX10_line_99 : decode prog_1_method_3_code 99 = .ok (.aload 6, 2) := by decide +kernel
theorem dX10_line_101 : decode prog_1_method_3_code 101 = .ok (.getfield 94, 3) := by decide +kernel
theorem dX10_line_104 : decode prog_1_method_3_code 104 = .ok (.ireturn, 1) := by decide +kernel
abbrev rmX10_line : Room := { frames := 2, cells := 1, slots := 4, locals := 44 }
def fX10_line  (t0 : Nat) (v1 : Int32) (v2 : Int32) (v3 : Int32) (v4 : Int32) (v5 : Int32) (h : Hp) : Option (Int32 × Hp) :=
  gk (h.1 t0) 11 <|
  bd (h.2.2.2.1 t0 0) fun a2 =>
  gk (h.1 a2) 3 <|
  b2 (fX2_menuAt a2 v1 h) fun o8 g5 =>
  rn o8
  (some ((-1), g5))
  (fun a9 =>
  b2 (fX10_within v2 1 200 g5) fun r12 g10 =>
  if r12 = 0 then
  (some ((-1), g10))
  else
  (b2 (fX10_within v3 0 11 g10) fun r17 g15 =>
  if r17 = 0 then
  (some ((-1), g15))
  else
  (b2 (fX10_within v4 0 65535 g15) fun r22 g20 =>
  if r22 = 0 then
  (some ((-1), g20))
  else
  (b2 (fX10_isNext v5 g20) fun r27 g25 =>
  if r27 = 0 then
  (some ((-1), g25))
  else
  (gk (g25.1 a9) 6 <|
  b2 (fX5_hasKey a9 v3 g25) fun r33 g31 =>
  if r33 = 0 then
  (gk (g31.1 a9) 6 <|
  if (g31.2.2.1 a9 6) < 6 then
  (nm g31.2.2.2.2 fun a38 =>
  nm (hp_nw g31 4 0) fun g39 =>
  b2 (fX3_init a38 v2 v3 v4 v5 g39) fun _ g41 =>
  gk (g41.1 a9) 6 <|
  b2 (fX5_addLine a9 (some a38) g41) fun _ g46 =>
  gk (g46.1 a9) 6 <|
  some (g46.2.2.1 a9 6, g46))
  else
  (some ((-3), g31)))
  else
  (some ((-1), g31)))))))
section
variable {p : Program} {l : Launch} {e : Env} {s : State} {m : MethodId} {args : Array Value} {below : List Frame} {meth : Method} {c : Code} {D : va_G} {cA : Nat → ClassId} {h0 h9 : Hp}
set_option maxHeartbeats 4000000 in
set_option maxRecDepth 100000 in
theorem tX10_line_0  {r : Int32} (cx : CallFix p m c prog_1_method_3_code 7 s args tbG RX10) (hr : meth.sig.returnType = (Option.some FieldType.int)) (hlk : meth.locks = false)  (t0 : Nat) (v1 : Int32) (v2 : Int32) (v3 : Int32) (v4 : Int32) (v5 : Int32) (h : Hp) (H : Heap) (locs : List Loc) (ls : Array Slot) (hB : hp_B D cA (hp_A h0) s h H locs) (hl : lv_has ls 7 [(0, .ref t0), (1, .int v1), (2, .int v2), (3, .int v3), (4, .int v4), (5, .int v5)]) (hf : fX10_line  t0 v1 v2 v3 v4 v5 h = some (r, h9)) : W p l e rmX10_line s m args below meth c H locs 0 0 (MQ below (hp_Qi D cA h0 h9 r) args s 1 4 (hp_A h0)) (F0 m 0 ls []) := by
  obtain ⟨hx, hb, -⟩ := id cx
  unfold fX10_line at hf
  refine lv_aload_n hx hb dX10_line_0 rfl (lv_at hl 0 rfl) ?_
  obtain ⟨k1, hf⟩ := gk_ok hf
  obtain ⟨a2, q3, hf⟩ := bd_ok hf
  refine gf_X10_10 cx hB k1 q3 dX10_line_1 ?_
  refine lv_iload_n hx hb dX10_line_4 rfl (lv_at hl 1 rfl) ?_
  obtain ⟨k4, hf⟩ := gk_ok hf
  obtain ⟨o8, g5, m6, hf⟩ := b2_ok hf
  refine hp_cR0 (cl_X10_86 cx hB (cX2_menuAt l D cA a2 v1 h _ g5 m6) k4 ⟨Nat.le_of_ble_eq_true rfl, Nat.le_of_ble_eq_true rfl⟩ rfl hl.1 rfl (Nat.le_of_ble_eq_true rfl) ⟨Nat.le_of_ble_eq_true rfl, Nat.le_of_ble_eq_true rfl⟩ dX10_line_5) rfl rfl hB (fun H locs hB => ?_)
  refine lq_astore (lv' := [(6, va_rf o8), (0, .ref t0), (1, .int v1), (2, .int v2), (3, .int v3), (4, .int v4), (5, .int v5)]) hx hb dX10_line_8 hl (by decide) rfl (fun ls hl => ?_)
  refine lq_aload hx hb dX10_line_10 (lv_at hl 0 rfl) ?_
  refine lq_ifnull (tgt := 36) hx hb dX10_line_12 (by decide) (fun eo => ?_) (fun a9 eo => ?_)
  · subst eo
    replace hf := rn_n hf
    refine lv_iconst (v := (-1)) hx hb dX10_line_36 (by decide) ?_
    obtain ⟨rfl, rfl⟩ := rt_ok hf
    exact hp_iret cx hB hr hlk (Nat.le_of_ble_eq_true rfl) (Nat.le_of_ble_eq_true rfl) dX10_line_37
  · subst eo
    replace hf := rn_s hf
    refine lv_iload_n hx hb dX10_line_15 rfl (lv_at hl 3 rfl) ?_
    refine lv_iconst (v := 1) hx hb dX10_line_16 (by decide) ?_
    refine lv_sipush (v := 200) hx hb dX10_line_17 (by decide) ?_
    obtain ⟨r12, g10, m11, hf⟩ := b2_ok hf
    refine hp_cI0 (cl_X10_61 cx hB (cX10_within l D cA v2 1 200 g5 _ g10 m11) ⟨Nat.le_of_ble_eq_true rfl, Nat.le_of_ble_eq_true rfl⟩ rfl hl.1 rfl (Nat.le_of_ble_eq_true rfl) ⟨Nat.le_of_ble_eq_true rfl, Nat.le_of_ble_eq_true rfl⟩ dX10_line_20) rfl rfl hB (fun H locs hB => ?_)
    refine lv_if_eq (tgt := 36) hx hb dX10_line_23 (by decide) (fun c14 => ?_) (fun c14 => ?_)
    · replace hf := it_t c14 hf
      refine lv_iconst (v := (-1)) hx hb dX10_line_36 (by decide) ?_
      obtain ⟨rfl, rfl⟩ := rt_ok hf
      exact hp_iret cx hB hr hlk (Nat.le_of_ble_eq_true rfl) (Nat.le_of_ble_eq_true rfl) dX10_line_37
    · replace hf := it_f c14 hf
      refine lv_iload_n hx hb dX10_line_26 rfl (lv_at hl 4 rfl) ?_
      refine lv_iconst (v := 0) hx hb dX10_line_27 (by decide) ?_
      refine lv_bipush (v := 11) hx hb dX10_line_28 (by decide) ?_
      obtain ⟨r17, g15, m16, hf⟩ := b2_ok hf
      refine hp_cI0 (cl_X10_61 cx hB (cX10_within l D cA v3 0 11 g10 _ g15 m16) ⟨Nat.le_of_ble_eq_true rfl, Nat.le_of_ble_eq_true rfl⟩ rfl hl.1 rfl (Nat.le_of_ble_eq_true rfl) ⟨Nat.le_of_ble_eq_true rfl, Nat.le_of_ble_eq_true rfl⟩ dX10_line_30) rfl rfl hB (fun H locs hB => ?_)
      refine lv_if_ne (tgt := 38) hx hb dX10_line_33 (by decide) (fun c19 => ?_) (fun c19 => ?_)
      · replace hf := it_f c19 hf
        refine lv_iload hx hb dX10_line_38 (lv_at hl 5 rfl) ?_
        refine lv_iconst (v := 0) hx hb dX10_line_40 (by decide) ?_
        refine lv_ldc (v := 65535) hx hb cx.2.2.2.1 (cx.2.2.2.2 _ (tb_in qw_324 rfl)) dX10_line_41 ?_
        obtain ⟨r22, g20, m21, hf⟩ := b2_ok hf
        refine hp_cI0 (cl_X10_61 cx hB (cX10_within l D cA v4 0 65535 g15 _ g20 m21) ⟨Nat.le_of_ble_eq_true rfl, Nat.le_of_ble_eq_true rfl⟩ rfl hl.1 rfl (Nat.le_of_ble_eq_true rfl) ⟨Nat.le_of_ble_eq_true rfl, Nat.le_of_ble_eq_true rfl⟩ dX10_line_43) rfl rfl hB (fun H locs hB => ?_)
        refine lv_if_eq (tgt := 66) hx hb dX10_line_46 (by decide) (fun c24 => ?_) (fun c24 => ?_)
        · replace hf := it_t c24 hf
          refine lv_iconst (v := (-1)) hx hb dX10_line_66 (by decide) ?_
          obtain ⟨rfl, rfl⟩ := rt_ok hf
          exact hp_iret cx hB hr hlk (Nat.le_of_ble_eq_true rfl) (Nat.le_of_ble_eq_true rfl) dX10_line_67
        · replace hf := it_f c24 hf
          refine lv_iload hx hb dX10_line_49 (lv_at hl 6 rfl) ?_
          obtain ⟨r27, g25, m26, hf⟩ := b2_ok hf
          refine hp_cI0 (cl_X10_65 cx hB (cX10_isNext l D cA v5 g20 _ g25 m26) ⟨Nat.le_of_ble_eq_true rfl, Nat.le_of_ble_eq_true rfl⟩ rfl hl.1 rfl (Nat.le_of_ble_eq_true rfl) ⟨Nat.le_of_ble_eq_true rfl, Nat.le_of_ble_eq_true rfl⟩ dX10_line_51) rfl rfl hB (fun H locs hB => ?_)
          refine lv_if_eq (tgt := 66) hx hb dX10_line_54 (by decide) (fun c29 => ?_) (fun c29 => ?_)
          · replace hf := it_t c29 hf
            refine lv_iconst (v := (-1)) hx hb dX10_line_66 (by decide) ?_
            obtain ⟨rfl, rfl⟩ := rt_ok hf
            exact hp_iret cx hB hr hlk (Nat.le_of_ble_eq_true rfl) (Nat.le_of_ble_eq_true rfl) dX10_line_67
          · replace hf := it_f c29 hf
            refine lv_aload hx hb dX10_line_57 (lv_at hl 0 rfl) ?_
            refine lv_iload_n hx hb dX10_line_59 rfl (lv_at hl 4 rfl) ?_
            obtain ⟨k30, hf⟩ := gk_ok hf
            obtain ⟨r33, g31, m32, hf⟩ := b2_ok hf
            refine hp_cI0 (cl_X10_91 cx hB (cX5_hasKey l D cA a9 v3 g25 _ g31 m32) k30 ⟨Nat.le_of_ble_eq_true rfl, Nat.le_of_ble_eq_true rfl⟩ rfl hl.1 rfl (Nat.le_of_ble_eq_true rfl) ⟨Nat.le_of_ble_eq_true rfl, Nat.le_of_ble_eq_true rfl⟩ dX10_line_60) rfl rfl hB (fun H locs hB => ?_)
            refine lv_if_eq (tgt := 68) hx hb dX10_line_63 (by decide) (fun c35 => ?_) (fun c35 => ?_)
            · replace hf := it_t c35 hf
              refine lv_aload hx hb dX10_line_68 (lv_at hl 0 rfl) ?_
              obtain ⟨k36, hf⟩ := gk_ok hf
              refine gf_X10_94 cx hB k36 dX10_line_70 ?_
              refine lv_bipush (v := 6) hx hb dX10_line_73 (by decide) ?_
              refine lv_icmp_lt (tgt := 81) hx hb dX10_line_75 (by decide) (fun c37 => ?_) (fun c37 => ?_)
              · replace hf := it_t c37 hf
                refine lv_aload hx hb dX10_line_81 (lv_at hl 0 rfl) ?_
                obtain ⟨a38, ea38, hf⟩ := nm_ok hf
                obtain ⟨g39, eg39, hf⟩ := nm_ok hf
                refine hp_new cx hB (ci := 3) tyX3 tyX3_ok rfl inX3 (by decide) rfl (by decide +kernel) qw_329 qw_330 qw_12 ea38 (Nat.le_of_ble_eq_true rfl) (Nat.le_of_ble_eq_true rfl) dX10_line_83 (fun H hB => ?_)
                rw [← eg39] at hB
                have k40 : g39.1 a38 = 4 := by rw [eg39, ea38]; exact va_up_self _ _ _
                refine lv_dup hx hb dX10_line_86 rfl ?_
                refine lv_iload_n hx hb dX10_line_87 rfl (lv_at hl 3 rfl) ?_
                refine lv_iload_n hx hb dX10_line_88 rfl (lv_at hl 4 rfl) ?_
                refine lv_iload hx hb dX10_line_89 (lv_at hl 5 rfl) ?_
                refine lv_iload hx hb dX10_line_91 (lv_at hl 6 rfl) ?_
                obtain ⟨uu, g41, m42, hf⟩ := b2_ok hf
                refine hp_cV0 (cl_X10_99 cx hB (cX3_init l D cA a38 v2 v3 v4 v5 g39 _ g41 m42) ⟨Nat.le_of_ble_eq_true rfl, Nat.le_of_ble_eq_true rfl⟩ rfl hl.1 rfl (Nat.le_of_ble_eq_true rfl) ⟨Nat.le_of_ble_eq_true rfl, Nat.le_of_ble_eq_true rfl⟩ dX10_line_93) rfl rfl hB (fun H locs hB => ?_)
                obtain ⟨k45, hf⟩ := gk_ok hf
                obtain ⟨uu, g46, m47, hf⟩ := b2_ok hf
                refine hp_cV0 (cl_X10_102 cx hB (cX5_addLine l D cA a9 (some a38) g41 _ g46 m47) k45 ⟨Nat.le_of_ble_eq_true rfl, Nat.le_of_ble_eq_true rfl⟩ rfl hl.1 rfl (Nat.le_of_ble_eq_true rfl) ⟨Nat.le_of_ble_eq_true rfl, Nat.le_of_ble_eq_true rfl⟩ dX10_line_96) rfl rfl hB (fun H locs hB => ?_)
                refine lv_aload hx hb dX10_line_99 (lv_at hl 0 rfl) ?_
                obtain ⟨k50, hf⟩ := gk_ok hf
                refine gf_X10_94 cx hB k50 dX10_line_101 ?_
                obtain ⟨rfl, rfl⟩ := rt_ok hf
                exact hp_iret cx hB hr hlk (Nat.le_of_ble_eq_true rfl) (Nat.le_of_ble_eq_true rfl) dX10_line_104
              · replace hf := it_f c37 hf
                refine lv_bipush (v := (-3)) hx hb dX10_line_78 (by decide) ?_
                obtain ⟨rfl, rfl⟩ := rt_ok hf
                exact hp_iret cx hB hr hlk (Nat.le_of_ble_eq_true rfl) (Nat.le_of_ble_eq_true rfl) dX10_line_80
            · replace hf := it_f c35 hf
              refine lv_iconst (v := (-1)) hx hb dX10_line_66 (by decide) ?_
              obtain ⟨rfl, rfl⟩ := rt_ok hf
              exact hp_iret cx hB hr hlk (Nat.le_of_ble_eq_true rfl) (Nat.le_of_ble_eq_true rfl) dX10_line_67
      · replace hf := it_t c19 hf
        refine lv_iconst (v := (-1)) hx hb dX10_line_36 (by decide) ?_
        obtain ⟨rfl, rfl⟩ := rt_ok hf
        exact hp_iret cx hB hr hlk (Nat.le_of_ble_eq_true rfl) (Nat.le_of_ble_eq_true rfl) dX10_line_37
end
set_option maxHeartbeats 4000000 in
set_option maxRecDepth 100000 in
theorem cX10_line (l : Launch) (D : va_G) (cA : Nat → ClassId) (t0 : Nat) (v1 : Int32) (v2 : Int32) (v3 : Int32) (v4 : Int32) (v5 : Int32) (h : Hp) (r : Int32) (h9 : Hp) (hf : fX10_line t0 v1 v2 v3 v4 v5 h = some (r, h9)) : hp_M l yX10_line prog_1_method_3_code 7 (Option.some FieldType.int) rmX10_line D cA h [.ref t0, .int v1, .int v2, .int v3, .int v4, .int v5] (hp_Qi D cA h h9 r) := by
  refine Met.ofW (cc := prog_1_method_3_code) (maxL := 7) (ret := (Option.some FieldType.int)) (by decide) rfl ?_
  intro p e s m args below meth c s₁ B hml hv
  obtain ⟨rfl, hU⟩ := hv
  have hts := atoms_spec (ws := Cond.code yX10_line prog_1_method_3_code 7 (Option.some FieldType.int) :: tbG) B.pre
  have hl := lv_entry ([.ref t0, .int v1, .int v2, .int v3, .int v4, .int v5]) (n := 7) (Nat.le_of_ble_eq_true rfl)
  rw [lg_entry_eq]
  generalize (lg_sl ([.ref t0, .int v1, .int v2, .int v3, .int v4, .int v5]) ++ List.replicate (7 - (lg_sl ([.ref t0, .int v1, .int v2, .int v3, .int v4, .int v5])).length) Slot.unset).toArray = ls at hl ⊢
  exact tX10_line_0 ⟨B.exec, B.bytes, hml, findClass_of_methodNamed B.named, fun w hw => hts w (List.mem_cons_of_mem _ hw)⟩ B.returns B.notSynchronized t0 v1 v2 v3 v4 v5 h _ _ _ (hp_B.entry hU) hl hf
abbrev yX10_desk : MethodName := ⟨"SpokenMenus", "desk", "(II)I"⟩
theorem dX10_desk_0 : decode prog_1_method_4_code 0 = .ok (.iload_n 1, 1) := by decide +kernel
theorem dX10_desk_1 : decode prog_1_method_4_code 1 = .ok (.iconst 0, 1) := by decide +kernel
theorem dX10_desk_2 : decode prog_1_method_4_code 2 = .ok (.sipush 500, 3) := by decide +kernel
theorem dX10_desk_5 : decode prog_1_method_4_code 5 = .ok (.invokestatic 61, 3) := by decide +kernel
theorem dX10_desk_8 : decode prog_1_method_4_code 8 = .ok (.ifCond .eq 13, 3) := by decide +kernel
theorem dX10_desk_11 : decode prog_1_method_4_code 11 = .ok (.iload_n 2, 1) := by decide +kernel
theorem dX10_desk_12 : decode prog_1_method_4_code 12 = .ok (.iconst 0, 1) := by decide +kernel
theorem dX10_desk_13 : decode prog_1_method_4_code 13 = .ok (.ldc 90, 2) := by decide +kernel
theorem dX10_desk_15 : decode prog_1_method_4_code 15 = .ok (.invokestatic 61, 3) := by decide +kernel
theorem dX10_desk_18 : decode prog_1_method_4_code 18 = .ok (.ifCond .ne 5, 3) := by decide +kernel
theorem dX10_desk_21 : decode prog_1_method_4_code 21 = .ok (.iconst (-1), 1) := by decide +kernel
theorem dX10_desk_22 : decode prog_1_method_4_code 22 = .ok (.ireturn, 1) := by decide +kernel
theorem dX10_desk_23 : decode prog_1_method_4_code 23 = .ok (.aload_n 0, 1) := by decide +kernel
theorem dX10_desk_24 : decode prog_1_method_4_code 24 = .ok (.getfield 10, 3) := by decide +kernel
theorem dX10_desk_27 : decode prog_1_method_4_code 27 = .ok (.invokevirtual 69, 3) := by decide +kernel
theorem dX10_desk_30 : decode prog_1_method_4_code 30 = .ok (.ifCond .eq 6, 3) := by decide +kernel
theorem dX10_desk_33 : decode prog_1_method_4_code 33 = .ok (.bipush (-3), 2) := by decide +kernel
theorem dX10_desk_35 : decode prog_1_method_4_code 35 = .ok (.ireturn, 1) := by decide +kernel
theorem dX10_desk_36 : decode prog_1_method_4_code 36 = .ok (.aload_n 0, 1) := by decide +kernel
theorem dX10_desk_37 : decode prog_1_method_4_code 37 = .ok (.getfield 10, 3) := by decide +kernel
theorem dX10_desk_40 : decode prog_1_method_4_code 40 = .ok (.new 73, 3) := by decide +kernel
theorem dX10_desk_43 : decode prog_1_method_4_code 43 = .ok (.dup, 1) := by decide +kernel
theorem dX10_desk_44 : decode prog_1_method_4_code 44 = .ok (.iconst 1, 1) := by decide +kernel
theorem dX10_desk_45 : decode prog_1_method_4_code 45 = .ok (.iload_n 1, 1) := by decide +kernel
theorem dX10_desk_46 : decode prog_1_method_4_code 46 = .ok (.iload_n 2, 1) := by decide +kernel
theorem dX10_desk_47 : decode prog_1_method_4_code 47 = .ok (.iconst (-1), 1) := by decide +kernel
theorem dX10_desk_48 : decode prog_1_method_4_code 48 = .ok (.iconst (-1), 1) := by decide +kernel
theorem dX10_desk_49 : decode prog_1_method_4_code 49 = .ok (.invokespecial 75, 3) := by decide +kernel
theorem dX10_desk_52 : decode prog_1_method_4_code 52 = .ok (.invokevirtual 82, 3) := by decide +kernel
theorem dX10_desk_55 : decode prog_1_method_4_code 55 = .ok (.ireturn, 1) := by decide +kernel
abbrev rmX10_desk : Room := { frames := 2, cells := 2, slots := 17, locals := 45 }
def fX10_desk  (t0 : Nat) (v1 : Int32) (v2 : Int32) (h : Hp) : Option (Int32 × Hp) :=
  b2 (fX10_within v1 0 500 h) fun r3 g1 =>
  if r3 = 0 then
  (some ((-1), g1))
  else
  (b2 (fX10_within v2 0 65535 g1) fun r8 g6 =>
  if r8 = 0 then
  (some ((-1), g6))
  else
  (gk (g6.1 t0) 11 <|
  bd (g6.2.2.2.1 t0 0) fun a12 =>
  gk (g6.1 a12) 3 <|
  b2 (fX2_isFull a12 g6) fun r17 g15 =>
  if r17 = 0 then
  (gk (g15.1 t0) 11 <|
  bd (g15.2.2.2.1 t0 0) fun a21 =>
  nm g15.2.2.2.2 fun a23 =>
  nm (hp_nw g15 6 0) fun g24 =>
  b2 (fX5_init a23 1 v1 v2 (-1) (-1) g24) fun _ g26 =>
  gk (g26.1 a21) 3 <|
  b2 (fX2_add a21 (some a23) g26) fun r33 g31 =>
  some (r33, g31))
  else
  (some ((-3), g15))))
section
variable {p : Program} {l : Launch} {e : Env} {s : State} {m : MethodId} {args : Array Value} {below : List Frame} {meth : Method} {c : Code} {D : va_G} {cA : Nat → ClassId} {h0 h9 : Hp}
set_option maxHeartbeats 4000000 in
set_option maxRecDepth 100000 in
theorem tX10_desk_0  {r : Int32} (cx : CallFix p m c prog_1_method_4_code 3 s args tbG RX10) (hr : meth.sig.returnType = (Option.some FieldType.int)) (hlk : meth.locks = false)  (t0 : Nat) (v1 : Int32) (v2 : Int32) (h : Hp) (H : Heap) (locs : List Loc) (ls : Array Slot) (hB : hp_B D cA (hp_A h0) s h H locs) (hl : lv_has ls 3 [(0, .ref t0), (1, .int v1), (2, .int v2)]) (hf : fX10_desk  t0 v1 v2 h = some (r, h9)) : W p l e rmX10_desk s m args below meth c H locs 0 0 (MQ below (hp_Qi D cA h0 h9 r) args s 2 17 (hp_A h0)) (F0 m 0 ls []) := by
  obtain ⟨hx, hb, -⟩ := id cx
  unfold fX10_desk at hf
  refine lv_iload_n hx hb dX10_desk_0 rfl (lv_at hl 1 rfl) ?_
  refine lv_iconst (v := 0) hx hb dX10_desk_1 (by decide) ?_
  refine lv_sipush (v := 500) hx hb dX10_desk_2 (by decide) ?_
  obtain ⟨r3, g1, m2, hf⟩ := b2_ok hf
  refine hp_cI0 (cl_X10_61 cx hB (cX10_within l D cA v1 0 500 h _ g1 m2) ⟨Nat.le_of_ble_eq_true rfl, Nat.le_of_ble_eq_true rfl⟩ rfl hl.1 rfl (Nat.le_of_ble_eq_true rfl) ⟨Nat.le_of_ble_eq_true rfl, Nat.le_of_ble_eq_true rfl⟩ dX10_desk_5) rfl rfl hB (fun H locs hB => ?_)
  refine lv_if_eq (tgt := 21) hx hb dX10_desk_8 (by decide) (fun c5 => ?_) (fun c5 => ?_)
  · replace hf := it_t c5 hf
    refine lv_iconst (v := (-1)) hx hb dX10_desk_21 (by decide) ?_
    obtain ⟨rfl, rfl⟩ := rt_ok hf
    exact hp_iret cx hB hr hlk (Nat.le_of_ble_eq_true rfl) (Nat.le_of_ble_eq_true rfl) dX10_desk_22
  · replace hf := it_f c5 hf
    refine lv_iload_n hx hb dX10_desk_11 rfl (lv_at hl 2 rfl) ?_
    refine lv_iconst (v := 0) hx hb dX10_desk_12 (by decide) ?_
    refine lv_ldc (v := 65535) hx hb cx.2.2.2.1 (cx.2.2.2.2 _ (tb_in qw_324 rfl)) dX10_desk_13 ?_
    obtain ⟨r8, g6, m7, hf⟩ := b2_ok hf
    refine hp_cI0 (cl_X10_61 cx hB (cX10_within l D cA v2 0 65535 g1 _ g6 m7) ⟨Nat.le_of_ble_eq_true rfl, Nat.le_of_ble_eq_true rfl⟩ rfl hl.1 rfl (Nat.le_of_ble_eq_true rfl) ⟨Nat.le_of_ble_eq_true rfl, Nat.le_of_ble_eq_true rfl⟩ dX10_desk_15) rfl rfl hB (fun H locs hB => ?_)
    refine lv_if_ne (tgt := 23) hx hb dX10_desk_18 (by decide) (fun c10 => ?_) (fun c10 => ?_)
    · replace hf := it_f c10 hf
      refine lv_aload_n hx hb dX10_desk_23 rfl (lv_at hl 0 rfl) ?_
      obtain ⟨k11, hf⟩ := gk_ok hf
      obtain ⟨a12, q13, hf⟩ := bd_ok hf
      refine gf_X10_10 cx hB k11 q13 dX10_desk_24 ?_
      obtain ⟨k14, hf⟩ := gk_ok hf
      obtain ⟨r17, g15, m16, hf⟩ := b2_ok hf
      refine hp_cI0 (cl_X10_69 cx hB (cX2_isFull l D cA a12 g6 _ g15 m16) k14 ⟨Nat.le_of_ble_eq_true rfl, Nat.le_of_ble_eq_true rfl⟩ rfl hl.1 rfl (Nat.le_of_ble_eq_true rfl) ⟨Nat.le_of_ble_eq_true rfl, Nat.le_of_ble_eq_true rfl⟩ dX10_desk_27) rfl rfl hB (fun H locs hB => ?_)
      refine lv_if_eq (tgt := 36) hx hb dX10_desk_30 (by decide) (fun c19 => ?_) (fun c19 => ?_)
      · replace hf := it_t c19 hf
        refine lv_aload_n hx hb dX10_desk_36 rfl (lv_at hl 0 rfl) ?_
        obtain ⟨k20, hf⟩ := gk_ok hf
        obtain ⟨a21, q22, hf⟩ := bd_ok hf
        refine gf_X10_10 cx hB k20 q22 dX10_desk_37 ?_
        obtain ⟨a23, ea23, hf⟩ := nm_ok hf
        obtain ⟨g24, eg24, hf⟩ := nm_ok hf
        refine hp_new cx hB (ci := 5) tyX5 tyX5_ok rfl inX5 (by decide) rfl (by decide +kernel) qw_239 qw_240 qw_11 ea23 (Nat.le_of_ble_eq_true rfl) (Nat.le_of_ble_eq_true rfl) dX10_desk_40 (fun H hB => ?_)
        rw [← eg24] at hB
        have k25 : g24.1 a23 = 6 := by rw [eg24, ea23]; exact va_up_self _ _ _
        refine lv_dup hx hb dX10_desk_43 rfl ?_
        refine lv_iconst (v := 1) hx hb dX10_desk_44 (by decide) ?_
        refine lv_iload_n hx hb dX10_desk_45 rfl (lv_at hl 1 rfl) ?_
        refine lv_iload_n hx hb dX10_desk_46 rfl (lv_at hl 2 rfl) ?_
        refine lv_iconst (v := (-1)) hx hb dX10_desk_47 (by decide) ?_
        refine lv_iconst (v := (-1)) hx hb dX10_desk_48 (by decide) ?_
        obtain ⟨uu, g26, m27, hf⟩ := b2_ok hf
        refine hp_cV (cl_X10_75 cx hB (cX5_init l D cA a23 1 v1 v2 (-1) (-1) g24 _ g26 m27) ⟨Nat.le_of_ble_eq_true rfl, Nat.le_of_ble_eq_true rfl⟩ rfl hl.1 rfl (Nat.le_of_ble_eq_true rfl) ⟨Nat.le_of_ble_eq_true rfl, Nat.le_of_ble_eq_true rfl⟩ dX10_desk_49) hB (fun H locs hB => ?_)
        obtain ⟨k30, hf⟩ := gk_ok hf
        obtain ⟨r33, g31, m32, hf⟩ := b2_ok hf
        refine hp_cI0 (cl_X10_82 cx hB (cX2_add l D cA a21 (some a23) g26 _ g31 m32) k30 ⟨Nat.le_of_ble_eq_true rfl, Nat.le_of_ble_eq_true rfl⟩ rfl hl.1 rfl (Nat.le_of_ble_eq_true rfl) ⟨Nat.le_of_ble_eq_true rfl, Nat.le_of_ble_eq_true rfl⟩ dX10_desk_52) rfl rfl hB (fun H locs hB => ?_)
        obtain ⟨rfl, rfl⟩ := rt_ok hf
        exact hp_iret cx hB hr hlk (Nat.le_of_ble_eq_true rfl) (Nat.le_of_ble_eq_true rfl) dX10_desk_55
      · replace hf := it_f c19 hf
        refine lv_bipush (v := (-3)) hx hb dX10_desk_33 (by decide) ?_
        obtain ⟨rfl, rfl⟩ := rt_ok hf
        exact hp_iret cx hB hr hlk (Nat.le_of_ble_eq_true rfl) (Nat.le_of_ble_eq_true rfl) dX10_desk_35
    · replace hf := it_t c10 hf
      refine lv_iconst (v := (-1)) hx hb dX10_desk_21 (by decide) ?_
      obtain ⟨rfl, rfl⟩ := rt_ok hf
      exact hp_iret cx hB hr hlk (Nat.le_of_ble_eq_true rfl) (Nat.le_of_ble_eq_true rfl) dX10_desk_22
end
set_option maxHeartbeats 4000000 in
set_option maxRecDepth 100000 in
theorem cX10_desk (l : Launch) (D : va_G) (cA : Nat → ClassId) (t0 : Nat) (v1 : Int32) (v2 : Int32) (h : Hp) (r : Int32) (h9 : Hp) (hf : fX10_desk t0 v1 v2 h = some (r, h9)) : hp_M l yX10_desk prog_1_method_4_code 3 (Option.some FieldType.int) rmX10_desk D cA h [.ref t0, .int v1, .int v2] (hp_Qi D cA h h9 r) := by
  refine Met.ofW (cc := prog_1_method_4_code) (maxL := 3) (ret := (Option.some FieldType.int)) (by decide) rfl ?_
  intro p e s m args below meth c s₁ B hml hv
  obtain ⟨rfl, hU⟩ := hv
  have hts := atoms_spec (ws := Cond.code yX10_desk prog_1_method_4_code 3 (Option.some FieldType.int) :: tbG) B.pre
  have hl := lv_entry ([.ref t0, .int v1, .int v2]) (n := 3) (Nat.le_of_ble_eq_true rfl)
  rw [lg_entry_eq]
  generalize (lg_sl ([.ref t0, .int v1, .int v2]) ++ List.replicate (3 - (lg_sl ([.ref t0, .int v1, .int v2])).length) Slot.unset).toArray = ls at hl ⊢
  exact tX10_desk_0 ⟨B.exec, B.bytes, hml, findClass_of_methodNamed B.named, fun w hw => hts w (List.mem_cons_of_mem _ hw)⟩ B.returns B.notSynchronized t0 v1 v2 h _ _ _ (hp_B.entry hU) hl hf
abbrev yX10_leaf : MethodName := ⟨"SpokenMenus", "leaf", "(III)I"⟩
theorem dX10_leaf_0 : decode prog_1_method_5_code 0 = .ok (.iload_n 1, 1) := by decide +kernel
theorem dX10_leaf_1 : decode prog_1_method_5_code 1 = .ok (.iconst 1, 1) := by decide +kernel
theorem dX10_leaf_2 : decode prog_1_method_5_code 2 = .ok (.sipush 200, 3) := by decide +kernel
theorem dX10_leaf_5 : decode prog_1_method_5_code 5 = .ok (.invokestatic 61, 3) := by decide +kernel
theorem dX10_leaf_8 : decode prog_1_method_5_code 8 = .ok (.ifCond .eq 20, 3) := by decide +kernel
theorem dX10_leaf_11 : decode prog_1_method_5_code 11 = .ok (.iload_n 2, 1) := by decide +kernel
theorem dX10_leaf_12 : decode prog_1_method_5_code 12 = .ok (.iconst 0, 1) := by decide +kernel
theorem dX10_leaf_13 : decode prog_1_method_5_code 13 = .ok (.ldc 90, 2) := by decide +kernel
theorem dX10_leaf_15 : decode prog_1_method_5_code 15 = .ok (.invokestatic 61, 3) := by decide +kernel
theorem dX10_leaf_18 : decode prog_1_method_5_code 18 = .ok (.ifCond .eq 10, 3) := by decide +kernel
theorem dX10_leaf_21 : decode prog_1_method_5_code 21 = .ok (.iload_n 3, 1) := by decide +kernel
theorem dX10_leaf_22 : decode prog_1_method_5_code 22 = .ok (.invokestatic 65, 3) := by decide +kernel
theorem dX10_leaf_25 : decode prog_1_method_5_code 25 = .ok (.ifCond .ne 5, 3) := by decide +kernel
theorem dX10_leaf_28 : decode prog_1_method_5_code 28 = .ok (.iconst (-1), 1) := by decide +kernel
theorem dX10_leaf_29 : decode prog_1_method_5_code 29 = .ok (.ireturn, 1) := by decide +kernel
theorem dX10_leaf_30 : decode prog_1_method_5_code 30 = .ok (.aload_n 0, 1) := by decide +kernel
theorem dX10_leaf_31 : decode prog_1_method_5_code 31 = .ok (.getfield 10, 3) := by decide +kernel
theorem dX10_leaf_34 : decode prog_1_method_5_code 34 = .ok (.invokevirtual 69, 3) := by decide +kernel
theorem dX10_leaf_37 : decode prog_1_method_5_code 37 = .ok (.ifCond .eq 6, 3) := by decide +kernel
theorem dX10_leaf_40 : decode prog_1_method_5_code 40 = .ok (.bipush (-3), 2) := by decide +kernel
theorem dX10_leaf_42 : decode prog_1_method_5_code 42 = .ok (.ireturn, 1) := by decide +kernel
theorem dX10_leaf_43 : decode prog_1_method_5_code 43 = .ok (.aload_n 0, 1) := by decide +kernel
theorem dX10_leaf_44 : decode prog_1_method_5_code 44 = .ok (.getfield 10, 3) := by decide +kernel
theorem dX10_leaf_47 : decode prog_1_method_5_code 47 = .ok (.new 73, 3) := by decide +kernel
theorem dX10_leaf_50 : decode prog_1_method_5_code 50 = .ok (.dup, 1) := by decide +kernel
theorem dX10_leaf_51 : decode prog_1_method_5_code 51 = .ok (.iconst 2, 1) := by decide +kernel
theorem dX10_leaf_52 : decode prog_1_method_5_code 52 = .ok (.iload_n 1, 1) := by decide +kernel
theorem dX10_leaf_53 : decode prog_1_method_5_code 53 = .ok (.iload_n 2, 1) := by decide +kernel
theorem dX10_leaf_54 : decode prog_1_method_5_code 54 = .ok (.iload_n 3, 1) := by decide +kernel
theorem dX10_leaf_55 : decode prog_1_method_5_code 55 = .ok (.iconst (-1), 1) := by decide +kernel
theorem dX10_leaf_56 : decode prog_1_method_5_code 56 = .ok (.invokespecial 75, 3) := by decide +kernel
theorem dX10_leaf_59 : decode prog_1_method_5_code 59 = .ok (.invokevirtual 82, 3) := by decide +kernel
theorem dX10_leaf_62 : decode prog_1_method_5_code 62 = .ok (.ireturn, 1) := by decide +kernel
abbrev rmX10_leaf : Room := { frames := 2, cells := 2, slots := 17, locals := 45 }
def fX10_leaf  (t0 : Nat) (v1 : Int32) (v2 : Int32) (v3 : Int32) (h : Hp) : Option (Int32 × Hp) :=
  b2 (fX10_within v1 1 200 h) fun r3 g1 =>
  if r3 = 0 then
  (some ((-1), g1))
  else
  (b2 (fX10_within v2 0 65535 g1) fun r8 g6 =>
  if r8 = 0 then
  (some ((-1), g6))
  else
  (b2 (fX10_isNext v3 g6) fun r13 g11 =>
  if r13 = 0 then
  (some ((-1), g11))
  else
  (gk (g11.1 t0) 11 <|
  bd (g11.2.2.2.1 t0 0) fun a17 =>
  gk (g11.1 a17) 3 <|
  b2 (fX2_isFull a17 g11) fun r22 g20 =>
  if r22 = 0 then
  (gk (g20.1 t0) 11 <|
  bd (g20.2.2.2.1 t0 0) fun a26 =>
  nm g20.2.2.2.2 fun a28 =>
  nm (hp_nw g20 6 0) fun g29 =>
  b2 (fX5_init a28 2 v1 v2 v3 (-1) g29) fun _ g31 =>
  gk (g31.1 a26) 3 <|
  b2 (fX2_add a26 (some a28) g31) fun r38 g36 =>
  some (r38, g36))
  else
  (some ((-3), g20)))))
section
variable {p : Program} {l : Launch} {e : Env} {s : State} {m : MethodId} {args : Array Value} {below : List Frame} {meth : Method} {c : Code} {D : va_G} {cA : Nat → ClassId} {h0 h9 : Hp}
set_option maxHeartbeats 4000000 in
set_option maxRecDepth 100000 in
theorem tX10_leaf_0  {r : Int32} (cx : CallFix p m c prog_1_method_5_code 4 s args tbG RX10) (hr : meth.sig.returnType = (Option.some FieldType.int)) (hlk : meth.locks = false)  (t0 : Nat) (v1 : Int32) (v2 : Int32) (v3 : Int32) (h : Hp) (H : Heap) (locs : List Loc) (ls : Array Slot) (hB : hp_B D cA (hp_A h0) s h H locs) (hl : lv_has ls 4 [(0, .ref t0), (1, .int v1), (2, .int v2), (3, .int v3)]) (hf : fX10_leaf  t0 v1 v2 v3 h = some (r, h9)) : W p l e rmX10_leaf s m args below meth c H locs 0 0 (MQ below (hp_Qi D cA h0 h9 r) args s 2 17 (hp_A h0)) (F0 m 0 ls []) := by
  obtain ⟨hx, hb, -⟩ := id cx
  unfold fX10_leaf at hf
  refine lv_iload_n hx hb dX10_leaf_0 rfl (lv_at hl 1 rfl) ?_
  refine lv_iconst (v := 1) hx hb dX10_leaf_1 (by decide) ?_
  refine lv_sipush (v := 200) hx hb dX10_leaf_2 (by decide) ?_
  obtain ⟨r3, g1, m2, hf⟩ := b2_ok hf
  refine hp_cI0 (cl_X10_61 cx hB (cX10_within l D cA v1 1 200 h _ g1 m2) ⟨Nat.le_of_ble_eq_true rfl, Nat.le_of_ble_eq_true rfl⟩ rfl hl.1 rfl (Nat.le_of_ble_eq_true rfl) ⟨Nat.le_of_ble_eq_true rfl, Nat.le_of_ble_eq_true rfl⟩ dX10_leaf_5) rfl rfl hB (fun H locs hB => ?_)
  refine lv_if_eq (tgt := 28) hx hb dX10_leaf_8 (by decide) (fun c5 => ?_) (fun c5 => ?_)
  · replace hf := it_t c5 hf
    refine lv_iconst (v := (-1)) hx hb dX10_leaf_28 (by decide) ?_
    obtain ⟨rfl, rfl⟩ := rt_ok hf
    exact hp_iret cx hB hr hlk (Nat.le_of_ble_eq_true rfl) (Nat.le_of_ble_eq_true rfl) dX10_leaf_29
  · replace hf := it_f c5 hf
    refine lv_iload_n hx hb dX10_leaf_11 rfl (lv_at hl 2 rfl) ?_
    refine lv_iconst (v := 0) hx hb dX10_leaf_12 (by decide) ?_
    refine lv_ldc (v := 65535) hx hb cx.2.2.2.1 (cx.2.2.2.2 _ (tb_in qw_324 rfl)) dX10_leaf_13 ?_
    obtain ⟨r8, g6, m7, hf⟩ := b2_ok hf
    refine hp_cI0 (cl_X10_61 cx hB (cX10_within l D cA v2 0 65535 g1 _ g6 m7) ⟨Nat.le_of_ble_eq_true rfl, Nat.le_of_ble_eq_true rfl⟩ rfl hl.1 rfl (Nat.le_of_ble_eq_true rfl) ⟨Nat.le_of_ble_eq_true rfl, Nat.le_of_ble_eq_true rfl⟩ dX10_leaf_15) rfl rfl hB (fun H locs hB => ?_)
    refine lv_if_eq (tgt := 28) hx hb dX10_leaf_18 (by decide) (fun c10 => ?_) (fun c10 => ?_)
    · replace hf := it_t c10 hf
      refine lv_iconst (v := (-1)) hx hb dX10_leaf_28 (by decide) ?_
      obtain ⟨rfl, rfl⟩ := rt_ok hf
      exact hp_iret cx hB hr hlk (Nat.le_of_ble_eq_true rfl) (Nat.le_of_ble_eq_true rfl) dX10_leaf_29
    · replace hf := it_f c10 hf
      refine lv_iload_n hx hb dX10_leaf_21 rfl (lv_at hl 3 rfl) ?_
      obtain ⟨r13, g11, m12, hf⟩ := b2_ok hf
      refine hp_cI0 (cl_X10_65 cx hB (cX10_isNext l D cA v3 g6 _ g11 m12) ⟨Nat.le_of_ble_eq_true rfl, Nat.le_of_ble_eq_true rfl⟩ rfl hl.1 rfl (Nat.le_of_ble_eq_true rfl) ⟨Nat.le_of_ble_eq_true rfl, Nat.le_of_ble_eq_true rfl⟩ dX10_leaf_22) rfl rfl hB (fun H locs hB => ?_)
      refine lv_if_ne (tgt := 30) hx hb dX10_leaf_25 (by decide) (fun c15 => ?_) (fun c15 => ?_)
      · replace hf := it_f c15 hf
        refine lv_aload_n hx hb dX10_leaf_30 rfl (lv_at hl 0 rfl) ?_
        obtain ⟨k16, hf⟩ := gk_ok hf
        obtain ⟨a17, q18, hf⟩ := bd_ok hf
        refine gf_X10_10 cx hB k16 q18 dX10_leaf_31 ?_
        obtain ⟨k19, hf⟩ := gk_ok hf
        obtain ⟨r22, g20, m21, hf⟩ := b2_ok hf
        refine hp_cI0 (cl_X10_69 cx hB (cX2_isFull l D cA a17 g11 _ g20 m21) k19 ⟨Nat.le_of_ble_eq_true rfl, Nat.le_of_ble_eq_true rfl⟩ rfl hl.1 rfl (Nat.le_of_ble_eq_true rfl) ⟨Nat.le_of_ble_eq_true rfl, Nat.le_of_ble_eq_true rfl⟩ dX10_leaf_34) rfl rfl hB (fun H locs hB => ?_)
        refine lv_if_eq (tgt := 43) hx hb dX10_leaf_37 (by decide) (fun c24 => ?_) (fun c24 => ?_)
        · replace hf := it_t c24 hf
          refine lv_aload_n hx hb dX10_leaf_43 rfl (lv_at hl 0 rfl) ?_
          obtain ⟨k25, hf⟩ := gk_ok hf
          obtain ⟨a26, q27, hf⟩ := bd_ok hf
          refine gf_X10_10 cx hB k25 q27 dX10_leaf_44 ?_
          obtain ⟨a28, ea28, hf⟩ := nm_ok hf
          obtain ⟨g29, eg29, hf⟩ := nm_ok hf
          refine hp_new cx hB (ci := 5) tyX5 tyX5_ok rfl inX5 (by decide) rfl (by decide +kernel) qw_239 qw_240 qw_11 ea28 (Nat.le_of_ble_eq_true rfl) (Nat.le_of_ble_eq_true rfl) dX10_leaf_47 (fun H hB => ?_)
          rw [← eg29] at hB
          have k30 : g29.1 a28 = 6 := by rw [eg29, ea28]; exact va_up_self _ _ _
          refine lv_dup hx hb dX10_leaf_50 rfl ?_
          refine lv_iconst (v := 2) hx hb dX10_leaf_51 (by decide) ?_
          refine lv_iload_n hx hb dX10_leaf_52 rfl (lv_at hl 1 rfl) ?_
          refine lv_iload_n hx hb dX10_leaf_53 rfl (lv_at hl 2 rfl) ?_
          refine lv_iload_n hx hb dX10_leaf_54 rfl (lv_at hl 3 rfl) ?_
          refine lv_iconst (v := (-1)) hx hb dX10_leaf_55 (by decide) ?_
          obtain ⟨uu, g31, m32, hf⟩ := b2_ok hf
          refine hp_cV (cl_X10_75 cx hB (cX5_init l D cA a28 2 v1 v2 v3 (-1) g29 _ g31 m32) ⟨Nat.le_of_ble_eq_true rfl, Nat.le_of_ble_eq_true rfl⟩ rfl hl.1 rfl (Nat.le_of_ble_eq_true rfl) ⟨Nat.le_of_ble_eq_true rfl, Nat.le_of_ble_eq_true rfl⟩ dX10_leaf_56) hB (fun H locs hB => ?_)
          obtain ⟨k35, hf⟩ := gk_ok hf
          obtain ⟨r38, g36, m37, hf⟩ := b2_ok hf
          refine hp_cI0 (cl_X10_82 cx hB (cX2_add l D cA a26 (some a28) g31 _ g36 m37) k35 ⟨Nat.le_of_ble_eq_true rfl, Nat.le_of_ble_eq_true rfl⟩ rfl hl.1 rfl (Nat.le_of_ble_eq_true rfl) ⟨Nat.le_of_ble_eq_true rfl, Nat.le_of_ble_eq_true rfl⟩ dX10_leaf_59) rfl rfl hB (fun H locs hB => ?_)
          obtain ⟨rfl, rfl⟩ := rt_ok hf
          exact hp_iret cx hB hr hlk (Nat.le_of_ble_eq_true rfl) (Nat.le_of_ble_eq_true rfl) dX10_leaf_62
        · replace hf := it_f c24 hf
          refine lv_bipush (v := (-3)) hx hb dX10_leaf_40 (by decide) ?_
          obtain ⟨rfl, rfl⟩ := rt_ok hf
          exact hp_iret cx hB hr hlk (Nat.le_of_ble_eq_true rfl) (Nat.le_of_ble_eq_true rfl) dX10_leaf_42
      · replace hf := it_t c15 hf
        refine lv_iconst (v := (-1)) hx hb dX10_leaf_28 (by decide) ?_
        obtain ⟨rfl, rfl⟩ := rt_ok hf
        exact hp_iret cx hB hr hlk (Nat.le_of_ble_eq_true rfl) (Nat.le_of_ble_eq_true rfl) dX10_leaf_29
end
set_option maxHeartbeats 4000000 in
set_option maxRecDepth 100000 in
theorem cX10_leaf (l : Launch) (D : va_G) (cA : Nat → ClassId) (t0 : Nat) (v1 : Int32) (v2 : Int32) (v3 : Int32) (h : Hp) (r : Int32) (h9 : Hp) (hf : fX10_leaf t0 v1 v2 v3 h = some (r, h9)) : hp_M l yX10_leaf prog_1_method_5_code 4 (Option.some FieldType.int) rmX10_leaf D cA h [.ref t0, .int v1, .int v2, .int v3] (hp_Qi D cA h h9 r) := by
  refine Met.ofW (cc := prog_1_method_5_code) (maxL := 4) (ret := (Option.some FieldType.int)) (by decide) rfl ?_
  intro p e s m args below meth c s₁ B hml hv
  obtain ⟨rfl, hU⟩ := hv
  have hts := atoms_spec (ws := Cond.code yX10_leaf prog_1_method_5_code 4 (Option.some FieldType.int) :: tbG) B.pre
  have hl := lv_entry ([.ref t0, .int v1, .int v2, .int v3]) (n := 4) (Nat.le_of_ble_eq_true rfl)
  rw [lg_entry_eq]
  generalize (lg_sl ([.ref t0, .int v1, .int v2, .int v3]) ++ List.replicate (4 - (lg_sl ([.ref t0, .int v1, .int v2, .int v3])).length) Slot.unset).toArray = ls at hl ⊢
  exact tX10_leaf_0 ⟨B.exec, B.bytes, hml, findClass_of_methodNamed B.named, fun w hw => hts w (List.mem_cons_of_mem _ hw)⟩ B.returns B.notSynchronized t0 v1 v2 v3 h _ _ _ (hp_B.entry hU) hl hf
abbrev yX10_isHour : MethodName := ⟨"SpokenMenus", "isHour", "(I)Z"⟩
theorem dX10_isHour_0 : decode prog_1_method_30_code 0 = .ok (.iload_n 0, 1) := by decide +kernel
theorem dX10_isHour_1 : decode prog_1_method_30_code 1 = .ok (.iconst 0, 1) := by decide +kernel
theorem dX10_isHour_2 : decode prog_1_method_30_code 2 = .ok (.bipush 23, 2) := by decide +kernel
theorem dX10_isHour_4 : decode prog_1_method_30_code 4 = .ok (.invokestatic 61, 3) := by decide +kernel
theorem dX10_isHour_7 : decode prog_1_method_30_code 7 = .ok (.ireturn, 1) := by decide +kernel
abbrev rmX10_isHour : Room := { frames := 1, cells := 0, slots := 0, locals := 22 }
def fX10_isHour  (v0 : Int32) (h : Hp) : Option (Int32 × Hp) :=
  b2 (fX10_within v0 0 23 h) fun r3 g1 =>
  gd (zb r3) <|
  some (r3, g1)
section
variable {p : Program} {l : Launch} {e : Env} {s : State} {m : MethodId} {args : Array Value} {below : List Frame} {meth : Method} {c : Code} {D : va_G} {cA : Nat → ClassId} {h0 h9 : Hp}
set_option maxHeartbeats 4000000 in
set_option maxRecDepth 100000 in
theorem tX10_isHour_0  {r : Int32} (cx : CallFix p m c prog_1_method_30_code 1 s args tbG RX10) (hr : meth.sig.returnType = (Option.some FieldType.boolean)) (hlk : meth.locks = false)  (v0 : Int32) (h : Hp) (H : Heap) (locs : List Loc) (ls : Array Slot) (hB : hp_B D cA (hp_A h0) s h H locs) (hl : lv_has ls 1 [(0, .int v0)]) (hf : fX10_isHour  v0 h = some (r, h9)) : W p l e rmX10_isHour s m args below meth c H locs 0 0 (MQ below (hp_Qi D cA h0 h9 r) args s 0 0 (hp_A h0)) (F0 m 0 ls []) := by
  obtain ⟨hx, hb, -⟩ := id cx
  unfold fX10_isHour at hf
  refine lv_iload_n hx hb dX10_isHour_0 rfl (lv_at hl 0 rfl) ?_
  refine lv_iconst (v := 0) hx hb dX10_isHour_1 (by decide) ?_
  refine lv_bipush (v := 23) hx hb dX10_isHour_2 (by decide) ?_
  obtain ⟨r3, g1, m2, hf⟩ := b2_ok hf
  refine hp_cI0 (cl_X10_61 cx hB (cX10_within l D cA v0 0 23 h _ g1 m2) ⟨Nat.le_of_ble_eq_true rfl, Nat.le_of_ble_eq_true rfl⟩ rfl hl.1 rfl (Nat.le_of_ble_eq_true rfl) ⟨Nat.le_of_ble_eq_true rfl, Nat.le_of_ble_eq_true rfl⟩ dX10_isHour_4) rfl rfl hB (fun H locs hB => ?_)
  obtain ⟨c5, hf⟩ := gd_ok hf
  obtain ⟨rfl, rfl⟩ := rt_ok hf
  exact hp_zret cx hB hr hlk (Nat.le_of_ble_eq_true rfl) (Nat.le_of_ble_eq_true rfl) c5 dX10_isHour_7
end
set_option maxHeartbeats 4000000 in
set_option maxRecDepth 100000 in
theorem cX10_isHour (l : Launch) (D : va_G) (cA : Nat → ClassId) (v0 : Int32) (h : Hp) (r : Int32) (h9 : Hp) (hf : fX10_isHour v0 h = some (r, h9)) : hp_M l yX10_isHour prog_1_method_30_code 1 (Option.some FieldType.boolean) rmX10_isHour D cA h [.int v0] (hp_Qi D cA h h9 r) := by
  refine Met.ofW (cc := prog_1_method_30_code) (maxL := 1) (ret := (Option.some FieldType.boolean)) (by decide) rfl ?_
  intro p e s m args below meth c s₁ B hml hv
  obtain ⟨rfl, hU⟩ := hv
  have hts := atoms_spec (ws := Cond.code yX10_isHour prog_1_method_30_code 1 (Option.some FieldType.boolean) :: tbG) B.pre
  have hl := lv_entry ([.int v0]) (n := 1) (Nat.le_of_ble_eq_true rfl)
  rw [lg_entry_eq]
  generalize (lg_sl ([.int v0]) ++ List.replicate (1 - (lg_sl ([.int v0])).length) Slot.unset).toArray = ls at hl ⊢
  exact tX10_isHour_0 ⟨B.exec, B.bytes, hml, findClass_of_methodNamed B.named, fun w hw => hts w (List.mem_cons_of_mem _ hw)⟩ B.returns B.notSynchronized v0 h _ _ _ (hp_B.entry hU) hl hf
section
variable {p : Program} {l : Launch} {e : Env} {R : Room} {s : State} {m : MethodId} {args : Array Value} {below : List Frame} {meth : Method} {c : Code} {H : Heap} {locs : List Loc} {cells slots : Nat} {Q : State → Prop}
variable {cc : ByteArray} {pc nL : Nat} {ls : Array Slot} {rest : List Value} {D : va_G} {cA : Nat → ClassId} {A : Nat → Prop} {a : Nat} {h : Hp}
theorem cl_X10_106 {As st0 : List Value} {Qc : Array Value → State → Outcome → State → Prop} (cx : CallFix p m c cc nL s args tbG RX10) (hB : hp_B D cA A s h H locs) (hM : hp_M l yX10_isHour prog_1_method_30_code 1 (Option.some FieldType.boolean) rmX10_isHour D cA h As Qc) (hR : rmX10_isHour.frames + 1 ≤ R.frames ∧ 8 + (1 + 11) + rmX10_isHour.locals ≤ R.locals) (hn : As.length = 1) (hls : ls.size = nL) (hst : st0 = As.reverse ++ rest) (hW : (rest.map fun v => v.category).sum ≤ 8) (hf : cells + rmX10_isHour.cells ≤ R.cells ∧ slots + rmX10_isHour.slots ≤ R.slots) (hdg : decode cc pc = .ok (.invokestatic 106, 3)) :
    va_Run p l e R s m args below meth c H locs cells slots rmX10_isHour.cells rmX10_isHour.slots (F0 m pc ls st0) rest (Qc As.toArray) (hp_A h) :=
  hp_runS cx hB hM qw_377 qw_375 qw_376 qw_1 (by decide +kernel) hR hn hls hst hW hf hdg
theorem pf_X10_109 (cx : CallFix p m c cc nL s args tbG RX10) (hB : hp_B D cA A s h H locs) (hka : h.1 a = 6) {x : Int32} (hdg : decode cc pc = .ok (.putfield 109, 3)) (kk : ∀ (H1 : Heap) (locs1 : List Loc), hp_B D cA A s (hp_si h a 9 x) H1 locs1 → W p l e R s m args below meth c H1 locs1 cells slots Q (F0 m (pc + 3) ls rest)) : W p l e R s m args below meth c H locs cells slots Q (F0 m pc ls (.int x :: .ref a :: rest)) :=
  hp_putX cx hB (ci := 5) 9 tyX5 tyX5_ok nmX5 rfl inX5 (by decide) rfl (by decide) (Or.inl rfl) qw_281 hka (v := .int x) (hp_like_si h a 9 x) (hp_fs_si (by decide) rfl) rfl rfl hdg kk
theorem pf_X10_112 (cx : CallFix p m c cc nL s args tbG RX10) (hB : hp_B D cA A s h H locs) (hka : h.1 a = 6) {x : Int32} (hdg : decode cc pc = .ok (.putfield 112, 3)) (kk : ∀ (H1 : Heap) (locs1 : List Loc), hp_B D cA A s (hp_si h a 10 x) H1 locs1 → W p l e R s m args below meth c H1 locs1 cells slots Q (F0 m (pc + 3) ls rest)) : W p l e R s m args below meth c H locs cells slots Q (F0 m pc ls (.int x :: .ref a :: rest)) :=
  hp_putX cx hB (ci := 5) 10 tyX5 tyX5_ok nmX5 rfl inX5 (by decide) rfl (by decide) (Or.inl rfl) qw_283 hka (v := .int x) (hp_like_si h a 10 x) (hp_fs_si (by decide) rfl) rfl rfl hdg kk
end
abbrev yX10_clock : MethodName := ⟨"SpokenMenus", "clock", "(IIII)I"⟩
theorem dX10_clock_0 : decode prog_1_method_6_code 0 = .ok (.iload_n 1, 1) := by decide +kernel
theorem dX10_clock_1 : decode prog_1_method_6_code 1 = .ok (.invokestatic 106, 3) := by decide +kernel
theorem dX10_clock_4 : decode prog_1_method_6_code 4 = .ok (.ifCond .eq 25, 3) := by decide +kernel
theorem dX10_clock_7 : decode prog_1_method_6_code 7 = .ok (.iload_n 2, 1) := by decide +kernel
theorem dX10_clock_8 : decode prog_1_method_6_code 8 = .ok (.invokestatic 106, 3) := by decide +kernel
theorem dX10_clock_11 : decode prog_1_method_6_code 11 = .ok (.ifCond .eq 18, 3) := by decide +kernel
theorem dX10_clock_14 : decode prog_1_method_6_code 14 = .ok (.iload_n 3, 1) := by decide +kernel
theorem dX10_clock_15 : decode prog_1_method_6_code 15 = .ok (.invokestatic 65, 3) := by decide +kernel
theorem dX10_clock_18 : decode prog_1_method_6_code 18 = .ok (.ifCond .eq 11, 3) := by decide +kernel
theorem dX10_clock_21 : decode prog_1_method_6_code 21 = .ok (.iload 4, 2) := by decide +kernel
theorem dX10_clock_23 : decode prog_1_method_6_code 23 = .ok (.invokestatic 65, 3) := by decide +kernel
theorem dX10_clock_26 : decode prog_1_method_6_code 26 = .ok (.ifCond .ne 5, 3) := by decide +kernel
theorem dX10_clock_29 : decode prog_1_method_6_code 29 = .ok (.iconst (-1), 1) := by decide +kernel
theorem dX10_clock_30 : decode prog_1_method_6_code 30 = .ok (.ireturn, 1) := by decide +kernel
theorem dX10_clock_31 : decode prog_1_method_6_code 31 = .ok (.aload_n 0, 1) := by decide +kernel
theorem dX10_clock_32 : decode prog_1_method_6_code 32 = .ok (.getfield 10, 3) := by decide +kernel
theorem dX10_clock_35 : decode prog_1_method_6_code 35 = .ok (.invokevirtual 69, 3) := by decide +kernel
theorem dX10_clock_38 : decode prog_1_method_6_code 38 = .ok (.ifCond .eq 6, 3) := by decide +kernel
theorem dX10_clock_41 : decode prog_1_method_6_code 41 = .ok (.bipush (-3), 2) := by decide +kernel
theorem dX10_clock_43 : decode prog_1_method_6_code 43 = .ok (.ireturn, 1) := by decide +kernel
theorem dX10_clock_44 : decode prog_1_method_6_code 44 = .ok (.new 73, 3) := by decide +kernel
theorem dX10_clock_47 : decode prog_1_method_6_code 47 = .ok (.dup, 1) := by decide +kernel
theorem dX10_clock_48 : decode prog_1_method_6_code 48 = .ok (.iconst 3, 1) := by decide +kernel
theorem dX10_clock_49 : decode prog_1_method_6_code 49 = .ok (.iconst 0, 1) := by decide +kernel
theorem dX10_clock_50 : decode prog_1_method_6_code 50 = .ok (.iconst 0, 1) := by decide +kernel
theorem dX10_clock_51 : decode prog_1_method_6_code 51 = .ok (.iload_n 3, 1) := by decide +kernel
theorem dX10_clock_52 : decode prog_1_method_6_code 52 = .ok (.iload 4, 2) := by decide +kernel
theorem dX10_clock_54 : decode prog_1_method_6_code 54 = .ok (.invokespecial 75, 3) := by decide +kernel
theorem dX10_clock_57 : decode prog_1_method_6_code 57 = .ok (.astore 5, 2) := by decide +kernel
theorem dX10_clock_59 : decode prog_1_method_6_code 59 = .ok (.aload 5, 2) := by decide +kernel
theorem dX10_clock_61 : decode prog_1_method_6_code 61 = .ok (.iload_n 1, 1) := by decide +kernel
theorem dX10_clock_62 : decode prog_1_method_6_code 62 = .ok (.putfield 109, 3) := by decide +kernel
theorem dX10_clock_65 : decode prog_1_method_6_code 65 = .ok (.aload 5, 2) := by decide +kernel
theorem dX10_clock_67 : decode prog_1_method_6_code 67 = .ok (.iload_n 2, 1) := by decide +kernel
theorem dX10_clock_68 : decode prog_1_method_6_code 68 = .ok (.putfield 112, 3) := by decide +kernel
theorem dX10_clock_71 : decode prog_1_method_6_code 71 = .ok (.aload_n 0, 1) := by decide +kernel
theorem dX10_clock_72 : decode prog_1_method_6_code 72 = .ok (.getfield 10, 3) := by decide +kernel
theorem dX10_clock_75 : decode prog_1_method_6_code 75 = .ok (.aload 5, 2) := by decide +kernel
theorem dX10_clock_77 : decode prog_1_method_6_code 77 = .ok (.invokevirtual 82, 3) := by decide +kernel
theorem dX10_clock_80 : decode prog_1_method_6_code 80 = .ok (.ireturn, 1) := by decide +kernel
abbrev rmX10_clock : Room := { frames := 2, cells := 2, slots := 17, locals := 45 }
def fX10_clock  (t0 : Nat) (v1 : Int32) (v2 : Int32) (v3 : Int32) (v4 : Int32) (h : Hp) : Option (Int32 × Hp) :=
  b2 (fX10_isHour v1 h) fun r3 g1 =>
  if r3 = 0 then
  (some ((-1), g1))
  else
  (b2 (fX10_isHour v2 g1) fun r8 g6 =>
  if r8 = 0 then
  (some ((-1), g6))
  else
  (b2 (fX10_isNext v3 g6) fun r13 g11 =>
  if r13 = 0 then
  (some ((-1), g11))
  else
  (b2 (fX10_isNext v4 g11) fun r18 g16 =>
  if r18 = 0 then
  (some ((-1), g16))
  else
  (gk (g16.1 t0) 11 <|
  bd (g16.2.2.2.1 t0 0) fun a22 =>
  gk (g16.1 a22) 3 <|
  b2 (fX2_isFull a22 g16) fun r27 g25 =>
  if r27 = 0 then
  (nm g25.2.2.2.2 fun a30 =>
  nm (hp_nw g25 6 0) fun g31 =>
  b2 (fX5_init a30 3 0 0 v3 v4 g31) fun _ g33 =>
  gk (g33.1 a30) 6 <|
  nm (hp_si g33 a30 9 v1) fun g38 =>
  nm (hp_si g38 a30 10 v2) fun g40 =>
  gk (g40.1 t0) 11 <|
  bd (g40.2.2.2.1 t0 0) fun a42 =>
  gk (g40.1 a42) 3 <|
  b2 (fX2_add a42 (some a30) g40) fun r47 g45 =>
  some (r47, g45))
  else
  (some ((-3), g25))))))
section
variable {p : Program} {l : Launch} {e : Env} {s : State} {m : MethodId} {args : Array Value} {below : List Frame} {meth : Method} {c : Code} {D : va_G} {cA : Nat → ClassId} {h0 h9 : Hp}
set_option maxHeartbeats 4000000 in
set_option maxRecDepth 100000 in
theorem tX10_clock_0  {r : Int32} (cx : CallFix p m c prog_1_method_6_code 6 s args tbG RX10) (hr : meth.sig.returnType = (Option.some FieldType.int)) (hlk : meth.locks = false)  (t0 : Nat) (v1 : Int32) (v2 : Int32) (v3 : Int32) (v4 : Int32) (h : Hp) (H : Heap) (locs : List Loc) (ls : Array Slot) (hB : hp_B D cA (hp_A h0) s h H locs) (hl : lv_has ls 6 [(0, .ref t0), (1, .int v1), (2, .int v2), (3, .int v3), (4, .int v4)]) (hf : fX10_clock  t0 v1 v2 v3 v4 h = some (r, h9)) : W p l e rmX10_clock s m args below meth c H locs 0 0 (MQ below (hp_Qi D cA h0 h9 r) args s 2 17 (hp_A h0)) (F0 m 0 ls []) := by
  obtain ⟨hx, hb, -⟩ := id cx
  unfold fX10_clock at hf
  refine lv_iload_n hx hb dX10_clock_0 rfl (lv_at hl 1 rfl) ?_
  obtain ⟨r3, g1, m2, hf⟩ := b2_ok hf
  refine hp_cI0 (cl_X10_106 cx hB (cX10_isHour l D cA v1 h _ g1 m2) ⟨Nat.le_of_ble_eq_true rfl, Nat.le_of_ble_eq_true rfl⟩ rfl hl.1 rfl (Nat.le_of_ble_eq_true rfl) ⟨Nat.le_of_ble_eq_true rfl, Nat.le_of_ble_eq_true rfl⟩ dX10_clock_1) rfl rfl hB (fun H locs hB => ?_)
  refine lv_if_eq (tgt := 29) hx hb dX10_clock_4 (by decide) (fun c5 => ?_) (fun c5 => ?_)
  · replace hf := it_t c5 hf
    refine lv_iconst (v := (-1)) hx hb dX10_clock_29 (by decide) ?_
    obtain ⟨rfl, rfl⟩ := rt_ok hf
    exact hp_iret cx hB hr hlk (Nat.le_of_ble_eq_true rfl) (Nat.le_of_ble_eq_true rfl) dX10_clock_30
  · replace hf := it_f c5 hf
    refine lv_iload_n hx hb dX10_clock_7 rfl (lv_at hl 2 rfl) ?_
    obtain ⟨r8, g6, m7, hf⟩ := b2_ok hf
    refine hp_cI0 (cl_X10_106 cx hB (cX10_isHour l D cA v2 g1 _ g6 m7) ⟨Nat.le_of_ble_eq_true rfl, Nat.le_of_ble_eq_true rfl⟩ rfl hl.1 rfl (Nat.le_of_ble_eq_true rfl) ⟨Nat.le_of_ble_eq_true rfl, Nat.le_of_ble_eq_true rfl⟩ dX10_clock_8) rfl rfl hB (fun H locs hB => ?_)
    refine lv_if_eq (tgt := 29) hx hb dX10_clock_11 (by decide) (fun c10 => ?_) (fun c10 => ?_)
    · replace hf := it_t c10 hf
      refine lv_iconst (v := (-1)) hx hb dX10_clock_29 (by decide) ?_
      obtain ⟨rfl, rfl⟩ := rt_ok hf
      exact hp_iret cx hB hr hlk (Nat.le_of_ble_eq_true rfl) (Nat.le_of_ble_eq_true rfl) dX10_clock_30
    · replace hf := it_f c10 hf
      refine lv_iload_n hx hb dX10_clock_14 rfl (lv_at hl 3 rfl) ?_
      obtain ⟨r13, g11, m12, hf⟩ := b2_ok hf
      refine hp_cI0 (cl_X10_65 cx hB (cX10_isNext l D cA v3 g6 _ g11 m12) ⟨Nat.le_of_ble_eq_true rfl, Nat.le_of_ble_eq_true rfl⟩ rfl hl.1 rfl (Nat.le_of_ble_eq_true rfl) ⟨Nat.le_of_ble_eq_true rfl, Nat.le_of_ble_eq_true rfl⟩ dX10_clock_15) rfl rfl hB (fun H locs hB => ?_)
      refine lv_if_eq (tgt := 29) hx hb dX10_clock_18 (by decide) (fun c15 => ?_) (fun c15 => ?_)
      · replace hf := it_t c15 hf
        refine lv_iconst (v := (-1)) hx hb dX10_clock_29 (by decide) ?_
        obtain ⟨rfl, rfl⟩ := rt_ok hf
        exact hp_iret cx hB hr hlk (Nat.le_of_ble_eq_true rfl) (Nat.le_of_ble_eq_true rfl) dX10_clock_30
      · replace hf := it_f c15 hf
        refine lv_iload hx hb dX10_clock_21 (lv_at hl 4 rfl) ?_
        obtain ⟨r18, g16, m17, hf⟩ := b2_ok hf
        refine hp_cI0 (cl_X10_65 cx hB (cX10_isNext l D cA v4 g11 _ g16 m17) ⟨Nat.le_of_ble_eq_true rfl, Nat.le_of_ble_eq_true rfl⟩ rfl hl.1 rfl (Nat.le_of_ble_eq_true rfl) ⟨Nat.le_of_ble_eq_true rfl, Nat.le_of_ble_eq_true rfl⟩ dX10_clock_23) rfl rfl hB (fun H locs hB => ?_)
        refine lv_if_ne (tgt := 31) hx hb dX10_clock_26 (by decide) (fun c20 => ?_) (fun c20 => ?_)
        · replace hf := it_f c20 hf
          refine lv_aload_n hx hb dX10_clock_31 rfl (lv_at hl 0 rfl) ?_
          obtain ⟨k21, hf⟩ := gk_ok hf
          obtain ⟨a22, q23, hf⟩ := bd_ok hf
          refine gf_X10_10 cx hB k21 q23 dX10_clock_32 ?_
          obtain ⟨k24, hf⟩ := gk_ok hf
          obtain ⟨r27, g25, m26, hf⟩ := b2_ok hf
          refine hp_cI0 (cl_X10_69 cx hB (cX2_isFull l D cA a22 g16 _ g25 m26) k24 ⟨Nat.le_of_ble_eq_true rfl, Nat.le_of_ble_eq_true rfl⟩ rfl hl.1 rfl (Nat.le_of_ble_eq_true rfl) ⟨Nat.le_of_ble_eq_true rfl, Nat.le_of_ble_eq_true rfl⟩ dX10_clock_35) rfl rfl hB (fun H locs hB => ?_)
          refine lv_if_eq (tgt := 44) hx hb dX10_clock_38 (by decide) (fun c29 => ?_) (fun c29 => ?_)
          · replace hf := it_t c29 hf
            obtain ⟨a30, ea30, hf⟩ := nm_ok hf
            obtain ⟨g31, eg31, hf⟩ := nm_ok hf
            refine hp_new cx hB (ci := 5) tyX5 tyX5_ok rfl inX5 (by decide) rfl (by decide +kernel) qw_239 qw_240 qw_11 ea30 (Nat.le_of_ble_eq_true rfl) (Nat.le_of_ble_eq_true rfl) dX10_clock_44 (fun H hB => ?_)
            rw [← eg31] at hB
            have k32 : g31.1 a30 = 6 := by rw [eg31, ea30]; exact va_up_self _ _ _
            refine lv_dup hx hb dX10_clock_47 rfl ?_
            refine lv_iconst (v := 3) hx hb dX10_clock_48 (by decide) ?_
            refine lv_iconst (v := 0) hx hb dX10_clock_49 (by decide) ?_
            refine lv_iconst (v := 0) hx hb dX10_clock_50 (by decide) ?_
            refine lv_iload_n hx hb dX10_clock_51 rfl (lv_at hl 3 rfl) ?_
            refine lv_iload hx hb dX10_clock_52 (lv_at hl 4 rfl) ?_
            obtain ⟨uu, g33, m34, hf⟩ := b2_ok hf
            refine hp_cV (cl_X10_75 cx hB (cX5_init l D cA a30 3 0 0 v3 v4 g31 _ g33 m34) ⟨Nat.le_of_ble_eq_true rfl, Nat.le_of_ble_eq_true rfl⟩ rfl hl.1 rfl (Nat.le_of_ble_eq_true rfl) ⟨Nat.le_of_ble_eq_true rfl, Nat.le_of_ble_eq_true rfl⟩ dX10_clock_54) hB (fun H locs hB => ?_)
            refine lv_astore (lv' := [(5, .ref a30), (0, .ref t0), (1, .int v1), (2, .int v2), (3, .int v3), (4, .int v4)]) hx hb dX10_clock_57 hl (by decide) rfl (fun ls hl => ?_)
            refine lv_aload hx hb dX10_clock_59 (lv_at hl 0 rfl) ?_
            refine lv_iload_n hx hb dX10_clock_61 rfl (lv_at hl 2 rfl) ?_
            obtain ⟨k37, hf⟩ := gk_ok hf
            obtain ⟨g38, eg38, hf⟩ := nm_ok hf
            refine pf_X10_109 cx hB k37 dX10_clock_62 (fun H locs hB => ?_)
            rw [← eg38] at hB
            refine lv_aload hx hb dX10_clock_65 (lv_at hl 0 rfl) ?_
            refine lv_iload_n hx hb dX10_clock_67 rfl (lv_at hl 3 rfl) ?_
            have k39 : g38.1 a30 = 6 := by rw [eg38]; exact k37
            obtain ⟨g40, eg40, hf⟩ := nm_ok hf
            refine pf_X10_112 cx hB k39 dX10_clock_68 (fun H locs hB => ?_)
            rw [← eg40] at hB
            refine lv_aload_n hx hb dX10_clock_71 rfl (lv_at hl 1 rfl) ?_
            obtain ⟨k41, hf⟩ := gk_ok hf
            obtain ⟨a42, q43, hf⟩ := bd_ok hf
            refine gf_X10_10 cx hB k41 q43 dX10_clock_72 ?_
            refine lv_aload hx hb dX10_clock_75 (lv_at hl 0 rfl) ?_
            obtain ⟨k44, hf⟩ := gk_ok hf
            obtain ⟨r47, g45, m46, hf⟩ := b2_ok hf
            refine hp_cI0 (cl_X10_82 cx hB (cX2_add l D cA a42 (some a30) g40 _ g45 m46) k44 ⟨Nat.le_of_ble_eq_true rfl, Nat.le_of_ble_eq_true rfl⟩ rfl hl.1 rfl (Nat.le_of_ble_eq_true rfl) ⟨Nat.le_of_ble_eq_true rfl, Nat.le_of_ble_eq_true rfl⟩ dX10_clock_77) rfl rfl hB (fun H locs hB => ?_)
            obtain ⟨rfl, rfl⟩ := rt_ok hf
            exact hp_iret cx hB hr hlk (Nat.le_of_ble_eq_true rfl) (Nat.le_of_ble_eq_true rfl) dX10_clock_80
          · replace hf := it_f c29 hf
            refine lv_bipush (v := (-3)) hx hb dX10_clock_41 (by decide) ?_
            obtain ⟨rfl, rfl⟩ := rt_ok hf
            exact hp_iret cx hB hr hlk (Nat.le_of_ble_eq_true rfl) (Nat.le_of_ble_eq_true rfl) dX10_clock_43
        · replace hf := it_t c20 hf
          refine lv_iconst (v := (-1)) hx hb dX10_clock_29 (by decide) ?_
          obtain ⟨rfl, rfl⟩ := rt_ok hf
          exact hp_iret cx hB hr hlk (Nat.le_of_ble_eq_true rfl) (Nat.le_of_ble_eq_true rfl) dX10_clock_30
end
set_option maxHeartbeats 4000000 in
set_option maxRecDepth 100000 in
theorem cX10_clock (l : Launch) (D : va_G) (cA : Nat → ClassId) (t0 : Nat) (v1 : Int32) (v2 : Int32) (v3 : Int32) (v4 : Int32) (h : Hp) (r : Int32) (h9 : Hp) (hf : fX10_clock t0 v1 v2 v3 v4 h = some (r, h9)) : hp_M l yX10_clock prog_1_method_6_code 6 (Option.some FieldType.int) rmX10_clock D cA h [.ref t0, .int v1, .int v2, .int v3, .int v4] (hp_Qi D cA h h9 r) := by
  refine Met.ofW (cc := prog_1_method_6_code) (maxL := 6) (ret := (Option.some FieldType.int)) (by decide) rfl ?_
  intro p e s m args below meth c s₁ B hml hv
  obtain ⟨rfl, hU⟩ := hv
  have hts := atoms_spec (ws := Cond.code yX10_clock prog_1_method_6_code 6 (Option.some FieldType.int) :: tbG) B.pre
  have hl := lv_entry ([.ref t0, .int v1, .int v2, .int v3, .int v4]) (n := 6) (Nat.le_of_ble_eq_true rfl)
  rw [lg_entry_eq]
  generalize (lg_sl ([.ref t0, .int v1, .int v2, .int v3, .int v4]) ++ List.replicate (6 - (lg_sl ([.ref t0, .int v1, .int v2, .int v3, .int v4])).length) Slot.unset).toArray = ls at hl ⊢
  exact tX10_clock_0 ⟨B.exec, B.bytes, hml, findClass_of_methodNamed B.named, fun w hw => hts w (List.mem_cons_of_mem _ hw)⟩ B.returns B.notSynchronized t0 v1 v2 v3 v4 h _ _ _ (hp_B.entry hU) hl hf
section
variable {p : Program} {l : Launch} {e : Env} {R : Room} {s : State} {m : MethodId} {args : Array Value} {below : List Frame} {meth : Method} {c : Code} {H : Heap} {locs : List Loc} {cells slots : Nat} {Q : State → Prop}
variable {cc : ByteArray} {pc nL : Nat} {ls : Array Slot} {rest : List Value} {D : va_G} {cA : Nat → ClassId} {A : Nat → Prop} {a : Nat} {h : Hp}
theorem pf_X10_115 (cx : CallFix p m c cc nL s args tbG RX10) (hB : hp_B D cA A s h H locs) (hka : h.1 a = 6) {x : Int32} (hdg : decode cc pc = .ok (.putfield 115, 3)) (kk : ∀ (H1 : Heap) (locs1 : List Loc), hp_B D cA A s (hp_si h a 8 x) H1 locs1 → W p l e R s m args below meth c H1 locs1 cells slots Q (F0 m (pc + 3) ls rest)) : W p l e R s m args below meth c H locs cells slots Q (F0 m pc ls (.int x :: .ref a :: rest)) :=
  hp_putX cx hB (ci := 5) 8 tyX5 tyX5_ok nmX5 rfl inX5 (by decide) rfl (by decide) (Or.inl rfl) qw_279 hka (v := .int x) (hp_like_si h a 8 x) (hp_fs_si (by decide) rfl) rfl rfl hdg kk
end
abbrev yX10_asked : MethodName := ⟨"SpokenMenus", "asked", "(IIIII)I"⟩
theorem dX10_asked_0 : decode prog_1_method_7_code 0 = .ok (.iload_n 1, 1) := by decide +kernel
theorem dX10_asked_1 : decode prog_1_method_7_code 1 = .ok (.iconst 1, 1) := by decide +kernel
theorem dX10_asked_2 : decode prog_1_method_7_code 2 = .ok (.sipush 200, 3) := by decide +kernel
theorem dX10_asked_5 : decode prog_1_method_7_code 5 = .ok (.invokestatic 61, 3) := by decide +kernel
theorem dX10_asked_8 : decode prog_1_method_7_code 8 = .ok (.ifCond .eq 22, 3) := by decide +kernel
theorem dX10_asked_11 : decode prog_1_method_7_code 11 = .ok (.iload_n 2, 1) := by decide +kernel
theorem dX10_asked_12 : decode prog_1_method_7_code 12 = .ok (.iconst 1, 1) := by decide +kernel
theorem dX10_asked_13 : decode prog_1_method_7_code 13 = .ok (.bipush 8, 2) := by decide +kernel
theorem dX10_asked_15 : decode prog_1_method_7_code 15 = .ok (.invokestatic 61, 3) := by decide +kernel
theorem dX10_asked_18 : decode prog_1_method_7_code 18 = .ok (.ifCond .eq 12, 3) := by decide +kernel
theorem dX10_asked_21 : decode prog_1_method_7_code 21 = .ok (.iload_n 3, 1) := by decide +kernel
theorem dX10_asked_22 : decode prog_1_method_7_code 22 = .ok (.iconst 1, 1) := by decide +kernel
theorem dX10_asked_23 : decode prog_1_method_7_code 23 = .ok (.iconst 3, 1) := by decide +kernel
theorem dX10_asked_24 : decode prog_1_method_7_code 24 = .ok (.invokestatic 61, 3) := by decide +kernel
theorem dX10_asked_27 : decode prog_1_method_7_code 27 = .ok (.ifCond .ne 5, 3) := by decide +kernel
theorem dX10_asked_30 : decode prog_1_method_7_code 30 = .ok (.iconst (-1), 1) := by decide +kernel
theorem dX10_asked_31 : decode prog_1_method_7_code 31 = .ok (.ireturn, 1) := by decide +kernel
theorem dX10_asked_32 : decode prog_1_method_7_code 32 = .ok (.iload 4, 2) := by decide +kernel
theorem dX10_asked_34 : decode prog_1_method_7_code 34 = .ok (.invokestatic 65, 3) := by decide +kernel
theorem dX10_asked_37 : decode prog_1_method_7_code 37 = .ok (.ifCond .eq 11, 3) := by decide +kernel
theorem dX10_asked_40 : decode prog_1_method_7_code 40 = .ok (.iload 5, 2) := by decide +kernel
theorem dX10_asked_42 : decode prog_1_method_7_code 42 = .ok (.invokestatic 65, 3) := by decide +kernel
theorem dX10_asked_45 : decode prog_1_method_7_code 45 = .ok (.ifCond .ne 5, 3) := by decide +kernel
theorem dX10_asked_48 : decode prog_1_method_7_code 48 = .ok (.iconst (-1), 1) := by decide +kernel
theorem dX10_asked_49 : decode prog_1_method_7_code 49 = .ok (.ireturn, 1) := by decide +kernel
theorem dX10_asked_50 : decode prog_1_method_7_code 50 = .ok (.aload_n 0, 1) := by decide +kernel
theorem dX10_asked_51 : decode prog_1_method_7_code 51 = .ok (.getfield 10, 3) := by decide +kernel
theorem dX10_asked_54 : decode prog_1_method_7_code 54 = .ok (.invokevirtual 69, 3) := by decide +kernel
theorem dX10_asked_57 : decode prog_1_method_7_code 57 = .ok (.ifCond .eq 6, 3) := by decide +kernel
theorem dX10_asked_60 : decode prog_1_method_7_code 60 = .ok (.bipush (-3), 2) := by decide +kernel
theorem dX10_asked_62 : decode prog_1_method_7_code 62 = .ok (.ireturn, 1) := by decide +kernel
theorem dX10_asked_63 : decode prog_1_method_7_code 63 = .ok (.new 73, 3) := by decide +kernel
theorem dX10_asked_66 : decode prog_1_method_7_code 66 = .ok (.dup, 1) := by decide +kernel
theorem dX10_asked_67 : decode prog_1_method_7_code 67 = .ok (.iconst 4, 1) := by decide +kernel
theorem dX10_asked_68 : decode prog_1_method_7_code 68 = .ok (.iload_n 1, 1) := by decide +kernel
theorem dX10_asked_69 : decode prog_1_method_7_code 69 = .ok (.iconst 0, 1) := by decide +kernel
theorem dX10_asked_70 : decode prog_1_method_7_code 70 = .ok (.iload 4, 2) := by decide +kernel
theorem dX10_asked_72 : decode prog_1_method_7_code 72 = .ok (.iload 5, 2) := by decide +kernel
theorem dX10_asked_74 : decode prog_1_method_7_code 74 = .ok (.invokespecial 75, 3) := by decide +kernel
theorem dX10_asked_77 : decode prog_1_method_7_code 77 = .ok (.astore 6, 2) := by decide +kernel
theorem dX10_asked_79 : decode prog_1_method_7_code 79 = .ok (.aload 6, 2) := by decide +kernel
theorem dX10_asked_81 : decode prog_1_method_7_code 81 = .ok (.iload_n 2, 1) := by decide +kernel
theorem dX10_asked_82 : decode prog_1_method_7_code 82 = .ok (.putfield 115, 3) := by decide +kernel
theorem dX10_asked_85 : decode prog_1_method_7_code 85 = .ok (.aload 6, 2) := by decide +kernel
theorem dX10_asked_87 : decode prog_1_method_7_code 87 = .ok (.iload_n 3, 1) := by decide +kernel
theorem dX10_asked_88 : decode prog_1_method_7_code 88 = .ok (.putfield 78, 3) := by decide +kernel
theorem dX10_asked_91 : decode prog_1_method_7_code 91 = .ok (.aload_n 0, 1) := by decide +kernel
theorem dX10_asked_92 : decode prog_1_method_7_code 92 = .ok (.getfield 10, 3) := by decide +kernel
theorem dX10_asked_95 : decode prog_1_method_7_code 95 = .ok (.aload 6, 2) := by decide +kernel
theorem dX10_asked_97 : decode prog_1_method_7_code 97 = .ok (.invokevirtual 82, 3) := by decide +kernel
theorem dX10_asked_100 : decode prog_1_method_7_code 100 = .ok (.ireturn, 1) := by decide +kernel
abbrev rmX10_asked : Room := { frames := 2, cells := 2, slots := 17, locals := 45 }
def fX10_asked  (t0 : Nat) (v1 : Int32) (v2 : Int32) (v3 : Int32) (v4 : Int32) (v5 : Int32) (h : Hp) : Option (Int32 × Hp) :=
  b2 (fX10_within v1 1 200 h) fun r3 g1 =>
  if r3 = 0 then
  (some ((-1), g1))
  else
  (b2 (fX10_within v2 1 8 g1) fun r8 g6 =>
  if r8 = 0 then
  (some ((-1), g6))
  else
  (b2 (fX10_within v3 1 3 g6) fun r13 g11 =>
  if r13 = 0 then
  (some ((-1), g11))
  else
  (b2 (fX10_isNext v4 g11) fun r18 g16 =>
  if r18 = 0 then
  (some ((-1), g16))
  else
  (b2 (fX10_isNext v5 g16) fun r23 g21 =>
  if r23 = 0 then
  (some ((-1), g21))
  else
  (gk (g21.1 t0) 11 <|
  bd (g21.2.2.2.1 t0 0) fun a27 =>
  gk (g21.1 a27) 3 <|
  b2 (fX2_isFull a27 g21) fun r32 g30 =>
  if r32 = 0 then
  (nm g30.2.2.2.2 fun a35 =>
  nm (hp_nw g30 6 0) fun g36 =>
  b2 (fX5_init a35 4 v1 0 v4 v5 g36) fun _ g38 =>
  gk (g38.1 a35) 6 <|
  nm (hp_si g38 a35 8 v2) fun g43 =>
  nm (hp_si g43 a35 7 v3) fun g45 =>
  gk (g45.1 t0) 11 <|
  bd (g45.2.2.2.1 t0 0) fun a47 =>
  gk (g45.1 a47) 3 <|
  b2 (fX2_add a47 (some a35) g45) fun r52 g50 =>
  some (r52, g50))
  else
  (some ((-3), g30)))))))
section
variable {p : Program} {l : Launch} {e : Env} {s : State} {m : MethodId} {args : Array Value} {below : List Frame} {meth : Method} {c : Code} {D : va_G} {cA : Nat → ClassId} {h0 h9 : Hp}
set_option maxHeartbeats 4000000 in
set_option maxRecDepth 100000 in
theorem tX10_asked_0  {r : Int32} (cx : CallFix p m c prog_1_method_7_code 7 s args tbG RX10) (hr : meth.sig.returnType = (Option.some FieldType.int)) (hlk : meth.locks = false)  (t0 : Nat) (v1 : Int32) (v2 : Int32) (v3 : Int32) (v4 : Int32) (v5 : Int32) (h : Hp) (H : Heap) (locs : List Loc) (ls : Array Slot) (hB : hp_B D cA (hp_A h0) s h H locs) (hl : lv_has ls 7 [(0, .ref t0), (1, .int v1), (2, .int v2), (3, .int v3), (4, .int v4), (5, .int v5)]) (hf : fX10_asked  t0 v1 v2 v3 v4 v5 h = some (r, h9)) : W p l e rmX10_asked s m args below meth c H locs 0 0 (MQ below (hp_Qi D cA h0 h9 r) args s 2 17 (hp_A h0)) (F0 m 0 ls []) := by
  obtain ⟨hx, hb, -⟩ := id cx
  unfold fX10_asked at hf
  refine lv_iload_n hx hb dX10_asked_0 rfl (lv_at hl 1 rfl) ?_
  refine lv_iconst (v := 1) hx hb dX10_asked_1 (by decide) ?_
  refine lv_sipush (v := 200) hx hb dX10_asked_2 (by decide) ?_
  obtain ⟨r3, g1, m2, hf⟩ := b2_ok hf
  refine hp_cI0 (cl_X10_61 cx hB (cX10_within l D cA v1 1 200 h _ g1 m2) ⟨Nat.le_of_ble_eq_true rfl, Nat.le_of_ble_eq_true rfl⟩ rfl hl.1 rfl (Nat.le_of_ble_eq_true rfl) ⟨Nat.le_of_ble_eq_true rfl, Nat.le_of_ble_eq_true rfl⟩ dX10_asked_5) rfl rfl hB (fun H locs hB => ?_)
  refine lv_if_eq (tgt := 30) hx hb dX10_asked_8 (by decide) (fun c5 => ?_) (fun c5 => ?_)
  · replace hf := it_t c5 hf
    refine lv_iconst (v := (-1)) hx hb dX10_asked_30 (by decide) ?_
    obtain ⟨rfl, rfl⟩ := rt_ok hf
    exact hp_iret cx hB hr hlk (Nat.le_of_ble_eq_true rfl) (Nat.le_of_ble_eq_true rfl) dX10_asked_31
  · replace hf := it_f c5 hf
    refine lv_iload_n hx hb dX10_asked_11 rfl (lv_at hl 2 rfl) ?_
    refine lv_iconst (v := 1) hx hb dX10_asked_12 (by decide) ?_
    refine lv_bipush (v := 8) hx hb dX10_asked_13 (by decide) ?_
    obtain ⟨r8, g6, m7, hf⟩ := b2_ok hf
    refine hp_cI0 (cl_X10_61 cx hB (cX10_within l D cA v2 1 8 g1 _ g6 m7) ⟨Nat.le_of_ble_eq_true rfl, Nat.le_of_ble_eq_true rfl⟩ rfl hl.1 rfl (Nat.le_of_ble_eq_true rfl) ⟨Nat.le_of_ble_eq_true rfl, Nat.le_of_ble_eq_true rfl⟩ dX10_asked_15) rfl rfl hB (fun H locs hB => ?_)
    refine lv_if_eq (tgt := 30) hx hb dX10_asked_18 (by decide) (fun c10 => ?_) (fun c10 => ?_)
    · replace hf := it_t c10 hf
      refine lv_iconst (v := (-1)) hx hb dX10_asked_30 (by decide) ?_
      obtain ⟨rfl, rfl⟩ := rt_ok hf
      exact hp_iret cx hB hr hlk (Nat.le_of_ble_eq_true rfl) (Nat.le_of_ble_eq_true rfl) dX10_asked_31
    · replace hf := it_f c10 hf
      refine lv_iload_n hx hb dX10_asked_21 rfl (lv_at hl 3 rfl) ?_
      refine lv_iconst (v := 1) hx hb dX10_asked_22 (by decide) ?_
      refine lv_iconst (v := 3) hx hb dX10_asked_23 (by decide) ?_
      obtain ⟨r13, g11, m12, hf⟩ := b2_ok hf
      refine hp_cI0 (cl_X10_61 cx hB (cX10_within l D cA v3 1 3 g6 _ g11 m12) ⟨Nat.le_of_ble_eq_true rfl, Nat.le_of_ble_eq_true rfl⟩ rfl hl.1 rfl (Nat.le_of_ble_eq_true rfl) ⟨Nat.le_of_ble_eq_true rfl, Nat.le_of_ble_eq_true rfl⟩ dX10_asked_24) rfl rfl hB (fun H locs hB => ?_)
      refine lv_if_ne (tgt := 32) hx hb dX10_asked_27 (by decide) (fun c15 => ?_) (fun c15 => ?_)
      · replace hf := it_f c15 hf
        refine lv_iload hx hb dX10_asked_32 (lv_at hl 4 rfl) ?_
        obtain ⟨r18, g16, m17, hf⟩ := b2_ok hf
        refine hp_cI0 (cl_X10_65 cx hB (cX10_isNext l D cA v4 g11 _ g16 m17) ⟨Nat.le_of_ble_eq_true rfl, Nat.le_of_ble_eq_true rfl⟩ rfl hl.1 rfl (Nat.le_of_ble_eq_true rfl) ⟨Nat.le_of_ble_eq_true rfl, Nat.le_of_ble_eq_true rfl⟩ dX10_asked_34) rfl rfl hB (fun H locs hB => ?_)
        refine lv_if_eq (tgt := 48) hx hb dX10_asked_37 (by decide) (fun c20 => ?_) (fun c20 => ?_)
        · replace hf := it_t c20 hf
          refine lv_iconst (v := (-1)) hx hb dX10_asked_48 (by decide) ?_
          obtain ⟨rfl, rfl⟩ := rt_ok hf
          exact hp_iret cx hB hr hlk (Nat.le_of_ble_eq_true rfl) (Nat.le_of_ble_eq_true rfl) dX10_asked_49
        · replace hf := it_f c20 hf
          refine lv_iload hx hb dX10_asked_40 (lv_at hl 5 rfl) ?_
          obtain ⟨r23, g21, m22, hf⟩ := b2_ok hf
          refine hp_cI0 (cl_X10_65 cx hB (cX10_isNext l D cA v5 g16 _ g21 m22) ⟨Nat.le_of_ble_eq_true rfl, Nat.le_of_ble_eq_true rfl⟩ rfl hl.1 rfl (Nat.le_of_ble_eq_true rfl) ⟨Nat.le_of_ble_eq_true rfl, Nat.le_of_ble_eq_true rfl⟩ dX10_asked_42) rfl rfl hB (fun H locs hB => ?_)
          refine lv_if_ne (tgt := 50) hx hb dX10_asked_45 (by decide) (fun c25 => ?_) (fun c25 => ?_)
          · replace hf := it_f c25 hf
            refine lv_aload_n hx hb dX10_asked_50 rfl (lv_at hl 0 rfl) ?_
            obtain ⟨k26, hf⟩ := gk_ok hf
            obtain ⟨a27, q28, hf⟩ := bd_ok hf
            refine gf_X10_10 cx hB k26 q28 dX10_asked_51 ?_
            obtain ⟨k29, hf⟩ := gk_ok hf
            obtain ⟨r32, g30, m31, hf⟩ := b2_ok hf
            refine hp_cI0 (cl_X10_69 cx hB (cX2_isFull l D cA a27 g21 _ g30 m31) k29 ⟨Nat.le_of_ble_eq_true rfl, Nat.le_of_ble_eq_true rfl⟩ rfl hl.1 rfl (Nat.le_of_ble_eq_true rfl) ⟨Nat.le_of_ble_eq_true rfl, Nat.le_of_ble_eq_true rfl⟩ dX10_asked_54) rfl rfl hB (fun H locs hB => ?_)
            refine lv_if_eq (tgt := 63) hx hb dX10_asked_57 (by decide) (fun c34 => ?_) (fun c34 => ?_)
            · replace hf := it_t c34 hf
              obtain ⟨a35, ea35, hf⟩ := nm_ok hf
              obtain ⟨g36, eg36, hf⟩ := nm_ok hf
              refine hp_new cx hB (ci := 5) tyX5 tyX5_ok rfl inX5 (by decide) rfl (by decide +kernel) qw_239 qw_240 qw_11 ea35 (Nat.le_of_ble_eq_true rfl) (Nat.le_of_ble_eq_true rfl) dX10_asked_63 (fun H hB => ?_)
              rw [← eg36] at hB
              have k37 : g36.1 a35 = 6 := by rw [eg36, ea35]; exact va_up_self _ _ _
              refine lv_dup hx hb dX10_asked_66 rfl ?_
              refine lv_iconst (v := 4) hx hb dX10_asked_67 (by decide) ?_
              refine lv_iload_n hx hb dX10_asked_68 rfl (lv_at hl 1 rfl) ?_
              refine lv_iconst (v := 0) hx hb dX10_asked_69 (by decide) ?_
              refine lv_iload hx hb dX10_asked_70 (lv_at hl 4 rfl) ?_
              refine lv_iload hx hb dX10_asked_72 (lv_at hl 5 rfl) ?_
              obtain ⟨uu, g38, m39, hf⟩ := b2_ok hf
              refine hp_cV (cl_X10_75 cx hB (cX5_init l D cA a35 4 v1 0 v4 v5 g36 _ g38 m39) ⟨Nat.le_of_ble_eq_true rfl, Nat.le_of_ble_eq_true rfl⟩ rfl hl.1 rfl (Nat.le_of_ble_eq_true rfl) ⟨Nat.le_of_ble_eq_true rfl, Nat.le_of_ble_eq_true rfl⟩ dX10_asked_74) hB (fun H locs hB => ?_)
              refine lv_astore (lv' := [(6, .ref a35), (0, .ref t0), (1, .int v1), (2, .int v2), (3, .int v3), (4, .int v4), (5, .int v5)]) hx hb dX10_asked_77 hl (by decide) rfl (fun ls hl => ?_)
              refine lv_aload hx hb dX10_asked_79 (lv_at hl 0 rfl) ?_
              refine lv_iload_n hx hb dX10_asked_81 rfl (lv_at hl 3 rfl) ?_
              obtain ⟨k42, hf⟩ := gk_ok hf
              obtain ⟨g43, eg43, hf⟩ := nm_ok hf
              refine pf_X10_115 cx hB k42 dX10_asked_82 (fun H locs hB => ?_)
              rw [← eg43] at hB
              refine lv_aload hx hb dX10_asked_85 (lv_at hl 0 rfl) ?_
              refine lv_iload_n hx hb dX10_asked_87 rfl (lv_at hl 4 rfl) ?_
              have k44 : g43.1 a35 = 6 := by rw [eg43]; exact k42
              obtain ⟨g45, eg45, hf⟩ := nm_ok hf
              refine pf_X10_78 cx hB k44 dX10_asked_88 (fun H locs hB => ?_)
              rw [← eg45] at hB
              refine lv_aload_n hx hb dX10_asked_91 rfl (lv_at hl 1 rfl) ?_
              obtain ⟨k46, hf⟩ := gk_ok hf
              obtain ⟨a47, q48, hf⟩ := bd_ok hf
              refine gf_X10_10 cx hB k46 q48 dX10_asked_92 ?_
              refine lv_aload hx hb dX10_asked_95 (lv_at hl 0 rfl) ?_
              obtain ⟨k49, hf⟩ := gk_ok hf
              obtain ⟨r52, g50, m51, hf⟩ := b2_ok hf
              refine hp_cI0 (cl_X10_82 cx hB (cX2_add l D cA a47 (some a35) g45 _ g50 m51) k49 ⟨Nat.le_of_ble_eq_true rfl, Nat.le_of_ble_eq_true rfl⟩ rfl hl.1 rfl (Nat.le_of_ble_eq_true rfl) ⟨Nat.le_of_ble_eq_true rfl, Nat.le_of_ble_eq_true rfl⟩ dX10_asked_97) rfl rfl hB (fun H locs hB => ?_)
              obtain ⟨rfl, rfl⟩ := rt_ok hf
              exact hp_iret cx hB hr hlk (Nat.le_of_ble_eq_true rfl) (Nat.le_of_ble_eq_true rfl) dX10_asked_100
            · replace hf := it_f c34 hf
              refine lv_bipush (v := (-3)) hx hb dX10_asked_60 (by decide) ?_
              obtain ⟨rfl, rfl⟩ := rt_ok hf
              exact hp_iret cx hB hr hlk (Nat.le_of_ble_eq_true rfl) (Nat.le_of_ble_eq_true rfl) dX10_asked_62
          · replace hf := it_t c25 hf
            refine lv_iconst (v := (-1)) hx hb dX10_asked_48 (by decide) ?_
            obtain ⟨rfl, rfl⟩ := rt_ok hf
            exact hp_iret cx hB hr hlk (Nat.le_of_ble_eq_true rfl) (Nat.le_of_ble_eq_true rfl) dX10_asked_49
      · replace hf := it_t c15 hf
        refine lv_iconst (v := (-1)) hx hb dX10_asked_30 (by decide) ?_
        obtain ⟨rfl, rfl⟩ := rt_ok hf
        exact hp_iret cx hB hr hlk (Nat.le_of_ble_eq_true rfl) (Nat.le_of_ble_eq_true rfl) dX10_asked_31
end
set_option maxHeartbeats 4000000 in
set_option maxRecDepth 100000 in
theorem cX10_asked (l : Launch) (D : va_G) (cA : Nat → ClassId) (t0 : Nat) (v1 : Int32) (v2 : Int32) (v3 : Int32) (v4 : Int32) (v5 : Int32) (h : Hp) (r : Int32) (h9 : Hp) (hf : fX10_asked t0 v1 v2 v3 v4 v5 h = some (r, h9)) : hp_M l yX10_asked prog_1_method_7_code 7 (Option.some FieldType.int) rmX10_asked D cA h [.ref t0, .int v1, .int v2, .int v3, .int v4, .int v5] (hp_Qi D cA h h9 r) := by
  refine Met.ofW (cc := prog_1_method_7_code) (maxL := 7) (ret := (Option.some FieldType.int)) (by decide) rfl ?_
  intro p e s m args below meth c s₁ B hml hv
  obtain ⟨rfl, hU⟩ := hv
  have hts := atoms_spec (ws := Cond.code yX10_asked prog_1_method_7_code 7 (Option.some FieldType.int) :: tbG) B.pre
  have hl := lv_entry ([.ref t0, .int v1, .int v2, .int v3, .int v4, .int v5]) (n := 7) (Nat.le_of_ble_eq_true rfl)
  rw [lg_entry_eq]
  generalize (lg_sl ([.ref t0, .int v1, .int v2, .int v3, .int v4, .int v5]) ++ List.replicate (7 - (lg_sl ([.ref t0, .int v1, .int v2, .int v3, .int v4, .int v5])).length) Slot.unset).toArray = ls at hl ⊢
  exact tX10_asked_0 ⟨B.exec, B.bytes, hml, findClass_of_methodNamed B.named, fun w hw => hts w (List.mem_cons_of_mem _ hw)⟩ B.returns B.notSynchronized t0 v1 v2 v3 v4 v5 h _ _ _ (hp_B.entry hU) hl hf
abbrev yX10_isLineValue : MethodName := ⟨"SpokenMenus", "isLineValue", "(II)Z"⟩
theorem dX10_isLineValue_0 : decode prog_1_method_32_code 0 = .ok (.iload_n 0, 1) := by decide +kernel
theorem dX10_isLineValue_1 : decode prog_1_method_32_code 1 = .ok (.tableswitch 49 0 2 #[27, 36, 44], 27) := by decide +kernel
theorem dX10_isLineValue_28 : decode prog_1_method_32_code 28 = .ok (.iload_n 1, 1) := by decide +kernel
theorem dX10_isLineValue_29 : decode prog_1_method_32_code 29 = .ok (.iconst 1, 1) := by decide +kernel
theorem dX10_isLineValue_30 : decode prog_1_method_32_code 30 = .ok (.sipush 200, 3) := by decide +kernel
theorem dX10_isLineValue_33 : decode prog_1_method_32_code 33 = .ok (.invokestatic 61, 3) := by decide +kernel
theorem dX10_isLineValue_36 : decode prog_1_method_32_code 36 = .ok (.ireturn, 1) := by decide +kernel
theorem dX10_isLineValue_37 : decode prog_1_method_32_code 37 = .ok (.iload_n 1, 1) := by decide +kernel
theorem dX10_isLineValue_38 : decode prog_1_method_32_code 38 = .ok (.iconst 0, 1) := by decide +kernel
theorem dX10_isLineValue_39 : decode prog_1_method_32_code 39 = .ok (.ldc 90, 2) := by decide +kernel
theorem dX10_isLineValue_41 : decode prog_1_method_32_code 41 = .ok (.invokestatic 61, 3) := by decide +kernel
theorem dX10_isLineValue_44 : decode prog_1_method_32_code 44 = .ok (.ireturn, 1) := by decide +kernel
theorem dX10_isLineValue_45 : decode prog_1_method_32_code 45 = .ok (.iload_n 1, 1) := by decide +kernel
theorem dX10_isLineValue_46 : decode prog_1_method_32_code 46 = .ok (.invokestatic 65, 3) := by decide +kernel
theorem dX10_isLineValue_49 : decode prog_1_method_32_code 49 = .ok (.ireturn, 1) := by decide +kernel
theorem dX10_isLineValue_50 : decode prog_1_method_32_code 50 = .ok (.iconst 0, 1) := by decide +kernel
theorem dX10_isLineValue_51 : decode prog_1_method_32_code 51 = .ok (.ireturn, 1) := by decide +kernel
abbrev rmX10_isLineValue : Room := { frames := 2, cells := 0, slots := 0, locals := 42 }
def fX10_isLineValue  (v0 : Int32) (v1 : Int32) (h : Hp) : Option (Int32 × Hp) :=
  if v0 = 0 then
  (b2 (fX10_within v1 1 200 h) fun r4 g2 =>
  gd (zb r4) <|
  some (r4, g2))
  else
  if v0 = 1 then
  (b2 (fX10_within v1 0 65535 h) fun r10 g8 =>
  gd (zb r10) <|
  some (r10, g8))
  else
  if v0 = 2 then
  (b2 (fX10_isNext v1 h) fun r16 g14 =>
  gd (zb r16) <|
  some (r16, g14))
  else
  (some (0, h))
section
variable {p : Program} {l : Launch} {e : Env} {s : State} {m : MethodId} {args : Array Value} {below : List Frame} {meth : Method} {c : Code} {D : va_G} {cA : Nat → ClassId} {h0 h9 : Hp}
set_option maxHeartbeats 4000000 in
set_option maxRecDepth 100000 in
theorem tX10_isLineValue_0  {r : Int32} (cx : CallFix p m c prog_1_method_32_code 2 s args tbG RX10) (hr : meth.sig.returnType = (Option.some FieldType.boolean)) (hlk : meth.locks = false)  (v0 : Int32) (v1 : Int32) (h : Hp) (H : Heap) (locs : List Loc) (ls : Array Slot) (hB : hp_B D cA (hp_A h0) s h H locs) (hl : lv_has ls 2 [(0, .int v0), (1, .int v1)]) (hf : fX10_isLineValue  v0 v1 h = some (r, h9)) : W p l e rmX10_isLineValue s m args below meth c H locs 0 0 (MQ below (hp_Qi D cA h0 h9 r) args s 0 0 (hp_A h0)) (F0 m 0 ls []) := by
  obtain ⟨hx, hb, -⟩ := id cx
  unfold fX10_isLineValue at hf
  refine lv_iload_n hx hb dX10_isLineValue_0 rfl (lv_at hl 0 rfl) ?_
  by_cases c1 : v0 = 0
  · replace hf := it_t c1 hf
    refine lv_tableIn (off := 27) (tgt := 28) hx hb dX10_isLineValue_1 (by rw [c1]; decide) (by rw [c1]; decide) (by rw [c1]; rfl) (by decide) ?_
    refine lv_iload_n hx hb dX10_isLineValue_28 rfl (lv_at hl 1 rfl) ?_
    refine lv_iconst (v := 1) hx hb dX10_isLineValue_29 (by decide) ?_
    refine lv_sipush (v := 200) hx hb dX10_isLineValue_30 (by decide) ?_
    obtain ⟨r4, g2, m3, hf⟩ := b2_ok hf
    refine hp_cI0 (cl_X10_61 cx hB (cX10_within l D cA v1 1 200 h _ g2 m3) ⟨Nat.le_of_ble_eq_true rfl, Nat.le_of_ble_eq_true rfl⟩ rfl hl.1 rfl (Nat.le_of_ble_eq_true rfl) ⟨Nat.le_of_ble_eq_true rfl, Nat.le_of_ble_eq_true rfl⟩ dX10_isLineValue_33) rfl rfl hB (fun H locs hB => ?_)
    obtain ⟨c6, hf⟩ := gd_ok hf
    obtain ⟨rfl, rfl⟩ := rt_ok hf
    exact hp_zret cx hB hr hlk (Nat.le_of_ble_eq_true rfl) (Nat.le_of_ble_eq_true rfl) c6 dX10_isLineValue_36
  · replace hf := it_f c1 hf
    by_cases c7 : v0 = 1
    · replace hf := it_t c7 hf
      refine lv_tableIn (off := 36) (tgt := 37) hx hb dX10_isLineValue_1 (by rw [c7]; decide) (by rw [c7]; decide) (by rw [c7]; rfl) (by decide) ?_
      refine lv_iload_n hx hb dX10_isLineValue_37 rfl (lv_at hl 1 rfl) ?_
      refine lv_iconst (v := 0) hx hb dX10_isLineValue_38 (by decide) ?_
      refine lv_ldc (v := 65535) hx hb cx.2.2.2.1 (cx.2.2.2.2 _ (tb_in qw_324 rfl)) dX10_isLineValue_39 ?_
      obtain ⟨r10, g8, m9, hf⟩ := b2_ok hf
      refine hp_cI0 (cl_X10_61 cx hB (cX10_within l D cA v1 0 65535 h _ g8 m9) ⟨Nat.le_of_ble_eq_true rfl, Nat.le_of_ble_eq_true rfl⟩ rfl hl.1 rfl (Nat.le_of_ble_eq_true rfl) ⟨Nat.le_of_ble_eq_true rfl, Nat.le_of_ble_eq_true rfl⟩ dX10_isLineValue_41) rfl rfl hB (fun H locs hB => ?_)
      obtain ⟨c12, hf⟩ := gd_ok hf
      obtain ⟨rfl, rfl⟩ := rt_ok hf
      exact hp_zret cx hB hr hlk (Nat.le_of_ble_eq_true rfl) (Nat.le_of_ble_eq_true rfl) c12 dX10_isLineValue_44
    · replace hf := it_f c7 hf
      by_cases c13 : v0 = 2
      · replace hf := it_t c13 hf
        refine lv_tableIn (off := 44) (tgt := 45) hx hb dX10_isLineValue_1 (by rw [c13]; decide) (by rw [c13]; decide) (by rw [c13]; rfl) (by decide) ?_
        refine lv_iload_n hx hb dX10_isLineValue_45 rfl (lv_at hl 1 rfl) ?_
        obtain ⟨r16, g14, m15, hf⟩ := b2_ok hf
        refine hp_cI0 (cl_X10_65 cx hB (cX10_isNext l D cA v1 h _ g14 m15) ⟨Nat.le_of_ble_eq_true rfl, Nat.le_of_ble_eq_true rfl⟩ rfl hl.1 rfl (Nat.le_of_ble_eq_true rfl) ⟨Nat.le_of_ble_eq_true rfl, Nat.le_of_ble_eq_true rfl⟩ dX10_isLineValue_46) rfl rfl hB (fun H locs hB => ?_)
        obtain ⟨c18, hf⟩ := gd_ok hf
        obtain ⟨rfl, rfl⟩ := rt_ok hf
        exact hp_zret cx hB hr hlk (Nat.le_of_ble_eq_true rfl) (Nat.le_of_ble_eq_true rfl) c18 dX10_isLineValue_49
      · replace hf := it_f c13 hf
        refine lv_tableOut (tgt := 50) hx hb dX10_isLineValue_1 (by have nc1 := lv_neT c1 (a := 0) rfl; have nc7 := lv_neT c7 (a := 1) rfl; have nc13 := lv_neT c13 (a := 2) rfl; omega) (by decide) ?_
        refine lv_iconst (v := 0) hx hb dX10_isLineValue_50 (by decide) ?_
        obtain ⟨rfl, rfl⟩ := rt_ok hf
        exact hp_zret cx hB hr hlk (Nat.le_of_ble_eq_true rfl) (Nat.le_of_ble_eq_true rfl) rfl dX10_isLineValue_51
end
set_option maxHeartbeats 4000000 in
set_option maxRecDepth 100000 in
theorem cX10_isLineValue (l : Launch) (D : va_G) (cA : Nat → ClassId) (v0 : Int32) (v1 : Int32) (h : Hp) (r : Int32) (h9 : Hp) (hf : fX10_isLineValue v0 v1 h = some (r, h9)) : hp_M l yX10_isLineValue prog_1_method_32_code 2 (Option.some FieldType.boolean) rmX10_isLineValue D cA h [.int v0, .int v1] (hp_Qi D cA h h9 r) := by
  refine Met.ofW (cc := prog_1_method_32_code) (maxL := 2) (ret := (Option.some FieldType.boolean)) (by decide) rfl ?_
  intro p e s m args below meth c s₁ B hml hv
  obtain ⟨rfl, hU⟩ := hv
  have hts := atoms_spec (ws := Cond.code yX10_isLineValue prog_1_method_32_code 2 (Option.some FieldType.boolean) :: tbG) B.pre
  have hl := lv_entry ([.int v0, .int v1]) (n := 2) (Nat.le_of_ble_eq_true rfl)
  rw [lg_entry_eq]
  generalize (lg_sl ([.int v0, .int v1]) ++ List.replicate (2 - (lg_sl ([.int v0, .int v1])).length) Slot.unset).toArray = ls at hl ⊢
  exact tX10_isLineValue_0 ⟨B.exec, B.bytes, hml, findClass_of_methodNamed B.named, fun w hw => hts w (List.mem_cons_of_mem _ hw)⟩ B.returns B.notSynchronized v0 v1 h _ _ _ (hp_B.entry hU) hl hf
section
variable {p : Program} {l : Launch} {e : Env} {R : Room} {s : State} {m : MethodId} {args : Array Value} {below : List Frame} {meth : Method} {c : Code} {H : Heap} {locs : List Loc} {cells slots : Nat} {Q : State → Prop}
variable {cc : ByteArray} {pc nL : Nat} {ls : Array Slot} {rest : List Value} {D : va_G} {cA : Nat → ClassId} {A : Nat → Prop} {a : Nat} {h : Hp}
theorem cl_X10_118 {As st0 : List Value} {b : Nat} {Qc : Array Value → State → Outcome → State → Prop} (cx : CallFix p m c cc nL s args tbG RX10) (hB : hp_B D cA A s h H locs) (hM : hp_M l yX2_lineAt prog_4_method_6_code 4 (Option.some (FieldType.object "SpokenMenus$Line")) rmX2_lineAt D cA h (.ref b :: As) Qc) (hkb : h.1 b = 3) (hR : rmX2_lineAt.frames + 1 ≤ R.frames ∧ 8 + (4 + 11) + rmX2_lineAt.locals ≤ R.locals) (hn : As.length = 2) (hls : ls.size = nL) (hst : st0 = As.reverse ++ .ref b :: rest) (hW : (rest.map fun v => v.category).sum ≤ 8) (hf : cells + rmX2_lineAt.cells ≤ R.cells ∧ slots + rmX2_lineAt.slots ≤ R.slots) (hdg : decode cc pc = .ok (.invokevirtual 118, 3)) :
    va_Run p l e R s m args below meth c H locs cells slots rmX2_lineAt.cells rmX2_lineAt.slots (F0 m pc ls st0) rest (Qc (Value.ref b :: As).toArray) (hp_A h) :=
  hp_runV cx hB hM (ci := 2) rfl (by decide) hkb qw_389 qw_386 qw_387 qw_388 qw_2 (by decide +kernel) hR hn hls hst hW hf hdg
theorem cl_X10_122 {As st0 : List Value} {Qc : Array Value → State → Outcome → State → Prop} (cx : CallFix p m c cc nL s args tbG RX10) (hB : hp_B D cA A s h H locs) (hM : hp_M l yX10_isLineValue prog_1_method_32_code 2 (Option.some FieldType.boolean) rmX10_isLineValue D cA h As Qc) (hR : rmX10_isLineValue.frames + 1 ≤ R.frames ∧ 8 + (2 + 11) + rmX10_isLineValue.locals ≤ R.locals) (hn : As.length = 2) (hls : ls.size = nL) (hst : st0 = As.reverse ++ rest) (hW : (rest.map fun v => v.category).sum ≤ 8) (hf : cells + rmX10_isLineValue.cells ≤ R.cells ∧ slots + rmX10_isLineValue.slots ≤ R.slots) (hdg : decode cc pc = .ok (.invokestatic 122, 3)) :
    va_Run p l e R s m args below meth c H locs cells slots rmX10_isLineValue.cells rmX10_isLineValue.slots (F0 m pc ls st0) rest (Qc As.toArray) (hp_A h) :=
  hp_runS cx hB hM qw_393 qw_391 qw_392 qw_1 (by decide +kernel) hR hn hls hst hW hf hdg
theorem gf_X10_126 (cx : CallFix p m c cc nL s args tbG RX10) (hB : hp_B D cA A s h H locs) (hka : h.1 a = 4) (hdg : decode cc pc = .ok (.getfield 126, 3)) (kk : W p l e R s m args below meth c H locs cells slots Q (F0 m (pc + 3) ls (.int (h.2.2.1 a 0) :: rest))) : W p l e R s m args below meth c H locs cells slots Q (F0 m pc ls (.ref a :: rest)) :=
  hp_getI cx hB (ci := 3) 0 rfl inX3 (by decide) rfl (by decide) rfl qw_338 hka hdg kk
theorem pf_X10_126 (cx : CallFix p m c cc nL s args tbG RX10) (hB : hp_B D cA A s h H locs) (hka : h.1 a = 4) {x : Int32} (hdg : decode cc pc = .ok (.putfield 126, 3)) (kk : ∀ (H1 : Heap) (locs1 : List Loc), hp_B D cA A s (hp_si h a 0 x) H1 locs1 → W p l e R s m args below meth c H1 locs1 cells slots Q (F0 m (pc + 3) ls rest)) : W p l e R s m args below meth c H locs cells slots Q (F0 m pc ls (.int x :: .ref a :: rest)) :=
  hp_putX cx hB (ci := 3) 0 tyX3 tyX3_ok nmX3 rfl inX3 (by decide) rfl (by decide) (Or.inl rfl) qw_338 hka (v := .int x) (hp_like_si h a 0 x) (hp_fs_si (by decide) rfl) rfl rfl hdg kk
theorem gf_X10_129 (cx : CallFix p m c cc nL s args tbG RX10) (hB : hp_B D cA A s h H locs) (hka : h.1 a = 4) (hdg : decode cc pc = .ok (.getfield 129, 3)) (kk : W p l e R s m args below meth c H locs cells slots Q (F0 m (pc + 3) ls (.int (h.2.2.1 a 2) :: rest))) : W p l e R s m args below meth c H locs cells slots Q (F0 m pc ls (.ref a :: rest)) :=
  hp_getI cx hB (ci := 3) 2 rfl inX3 (by decide) rfl (by decide) rfl qw_344 hka hdg kk
theorem pf_X10_129 (cx : CallFix p m c cc nL s args tbG RX10) (hB : hp_B D cA A s h H locs) (hka : h.1 a = 4) {x : Int32} (hdg : decode cc pc = .ok (.putfield 129, 3)) (kk : ∀ (H1 : Heap) (locs1 : List Loc), hp_B D cA A s (hp_si h a 2 x) H1 locs1 → W p l e R s m args below meth c H1 locs1 cells slots Q (F0 m (pc + 3) ls rest)) : W p l e R s m args below meth c H locs cells slots Q (F0 m pc ls (.int x :: .ref a :: rest)) :=
  hp_putX cx hB (ci := 3) 2 tyX3 tyX3_ok nmX3 rfl inX3 (by decide) rfl (by decide) (Or.inl rfl) qw_344 hka (v := .int x) (hp_like_si h a 2 x) (hp_fs_si (by decide) rfl) rfl rfl hdg kk
theorem gf_X10_132 (cx : CallFix p m c cc nL s args tbG RX10) (hB : hp_B D cA A s h H locs) (hka : h.1 a = 4) (hdg : decode cc pc = .ok (.getfield 132, 3)) (kk : W p l e R s m args below meth c H locs cells slots Q (F0 m (pc + 3) ls (.int (h.2.2.1 a 3) :: rest))) : W p l e R s m args below meth c H locs cells slots Q (F0 m pc ls (.ref a :: rest)) :=
  hp_getI cx hB (ci := 3) 3 rfl inX3 (by decide) rfl (by decide) rfl qw_347 hka hdg kk
theorem pf_X10_132 (cx : CallFix p m c cc nL s args tbG RX10) (hB : hp_B D cA A s h H locs) (hka : h.1 a = 4) {x : Int32} (hdg : decode cc pc = .ok (.putfield 132, 3)) (kk : ∀ (H1 : Heap) (locs1 : List Loc), hp_B D cA A s (hp_si h a 3 x) H1 locs1 → W p l e R s m args below meth c H1 locs1 cells slots Q (F0 m (pc + 3) ls rest)) : W p l e R s m args below meth c H locs cells slots Q (F0 m pc ls (.int x :: .ref a :: rest)) :=
  hp_putX cx hB (ci := 3) 3 tyX3 tyX3_ok nmX3 rfl inX3 (by decide) rfl (by decide) (Or.inl rfl) qw_347 hka (v := .int x) (hp_like_si h a 3 x) (hp_fs_si (by decide) rfl) rfl rfl hdg kk
end
abbrev yX10_change : MethodName := ⟨"SpokenMenus", "change", "(IIII)I"⟩
theorem dX10_change_0 : decode prog_1_method_8_code 0 = .ok (.aload_n 0, 1) := by decide +kernel
theorem dX10_change_1 : decode prog_1_method_8_code 1 = .ok (.getfield 10, 3) := by decide +kernel
theorem dX10_change_4 : decode prog_1_method_8_code 4 = .ok (.iload_n 1, 1) := by decide +kernel
theorem dX10_change_5 : decode prog_1_method_8_code 5 = .ok (.iload_n 2, 1) := by decide +kernel
theorem dX10_change_6 : decode prog_1_method_8_code 6 = .ok (.invokevirtual 118, 3) := by decide +kernel
theorem dX10_change_9 : decode prog_1_method_8_code 9 = .ok (.astore 5, 2) := by decide +kernel
theorem dX10_change_11 : decode prog_1_method_8_code 11 = .ok (.aload 5, 2) := by decide +kernel
theorem dX10_change_13 : decode prog_1_method_8_code 13 = .ok (.ifnull 12, 3) := by decide +kernel
theorem dX10_change_16 : decode prog_1_method_8_code 16 = .ok (.iload_n 3, 1) := by decide +kernel
theorem dX10_change_17 : decode prog_1_method_8_code 17 = .ok (.iload 4, 2) := by decide +kernel
theorem dX10_change_19 : decode prog_1_method_8_code 19 = .ok (.invokestatic 122, 3) := by decide +kernel
theorem dX10_change_22 : decode prog_1_method_8_code 22 = .ok (.ifCond .ne 7, 3) := by decide +kernel
theorem dX10_change_25 : decode prog_1_method_8_code 25 = .ok (.sipush (-1000), 3) := by decide +kernel
theorem dX10_change_28 : decode prog_1_method_8_code 28 = .ok (.ireturn, 1) := by decide +kernel
theorem dX10_change_29 : decode prog_1_method_8_code 29 = .ok (.iload_n 3, 1) := by decide +kernel
theorem dX10_change_30 : decode prog_1_method_8_code 30 = .ok (.lookupswitch 60 #[(0, 26), (1, 43)], 26) := by decide +kernel
theorem dX10_change_56 : decode prog_1_method_8_code 56 = .ok (.aload 5, 2) := by decide +kernel
theorem dX10_change_58 : decode prog_1_method_8_code 58 = .ok (.getfield 126, 3) := by decide +kernel
theorem dX10_change_61 : decode prog_1_method_8_code 61 = .ok (.istore 6, 2) := by decide +kernel
theorem dX10_change_63 : decode prog_1_method_8_code 63 = .ok (.aload 5, 2) := by decide +kernel
theorem dX10_change_65 : decode prog_1_method_8_code 65 = .ok (.iload 4, 2) := by decide +kernel
theorem dX10_change_67 : decode prog_1_method_8_code 67 = .ok (.putfield 126, 3) := by decide +kernel
theorem dX10_change_70 : decode prog_1_method_8_code 70 = .ok (.iload 6, 2) := by decide +kernel
theorem dX10_change_72 : decode prog_1_method_8_code 72 = .ok (.ireturn, 1) := by decide +kernel
theorem dX10_change_73 : decode prog_1_method_8_code 73 = .ok (.aload 5, 2) := by decide +kernel
theorem dX10_change_75 : decode prog_1_method_8_code 75 = .ok (.getfield 129, 3) := by decide +kernel
theorem dX10_change_78 : decode prog_1_method_8_code 78 = .ok (.istore 6, 2) := by decide +kernel
theorem dX10_change_80 : decode prog_1_method_8_code 80 = .ok (.aload 5, 2) := by decide +kernel
theorem dX10_change_82 : decode prog_1_method_8_code 82 = .ok (.iload 4, 2) := by decide +kernel
theorem dX10_change_84 : decode prog_1_method_8_code 84 = .ok (.putfield 129, 3) := by decide +kernel
theorem dX10_change_87 : decode prog_1_method_8_code 87 = .ok (.iload 6, 2) := by decide +kernel
theorem dX10_change_89 : decode prog_1_method_8_code 89 = .ok (.ireturn, 1) := by decide +kernel
theorem dX10_change_90 : decode prog_1_method_8_code 90 = .ok (.aload 5, 2) := by decide +kernel
theorem dX10_change_92 : decode prog_1_method_8_code 92 = .ok (.getfield 132, 3) := by decide +kernel
theorem dX10_change_95 : decode prog_1_method_8_code 95 = .ok (.istore 6, 2) := by decide +kernel
theorem dX10_change_97 : decode prog_1_method_8_code 97 = .ok (.aload 5, 2) := by decide +kernel
theorem dX10_change_99 : decode prog_1_method_8_code 99 = .ok (.iload 4, 2) := by decide +kernel
theorem dX10_change_101 : decode prog_1_method_8_code 101 = .ok (.putfield 132, 3) := by decide +kernel
theorem dX10_change_104 : decode prog_1_method_8_code 104 = .ok (.iload 6, 2) := by decide +kernel
theorem dX10_change_106 : decode prog_1_method_8_code 106 = .ok (.ireturn, 1) := by decide +kernel
abbrev rmX10_change : Room := { frames := 3, cells := 0, slots := 0, locals := 66 }
def fX10_change  (t0 : Nat) (v1 : Int32) (v2 : Int32) (v3 : Int32) (v4 : Int32) (h : Hp) : Option (Int32 × Hp) :=
  gk (h.1 t0) 11 <|
  bd (h.2.2.2.1 t0 0) fun a2 =>
  gk (h.1 a2) 3 <|
  b2 (fX2_lineAt a2 v1 v2 h) fun o8 g5 =>
  rn o8
  (some ((-1000), g5))
  (fun a9 =>
  b2 (fX10_isLineValue v3 v4 g5) fun r12 g10 =>
  if r12 = 0 then
  (some ((-1000), g10))
  else
  (if v3 = 0 then
  (gk (g10.1 a9) 4 <|
  nm (g10.2.2.1 a9 0) fun x17 =>
  nm (hp_si g10 a9 0 v4) fun g18 =>
  some (x17, g18))
  else
  if v3 = 1 then
  (gk (g10.1 a9) 4 <|
  nm (g10.2.2.1 a9 2) fun x21 =>
  nm (hp_si g10 a9 2 v4) fun g22 =>
  some (x21, g22))
  else
  (gk (g10.1 a9) 4 <|
  nm (g10.2.2.1 a9 3) fun x24 =>
  nm (hp_si g10 a9 3 v4) fun g25 =>
  some (x24, g25))))
section
variable {p : Program} {l : Launch} {e : Env} {s : State} {m : MethodId} {args : Array Value} {below : List Frame} {meth : Method} {c : Code} {D : va_G} {cA : Nat → ClassId} {h0 h9 : Hp}
set_option maxHeartbeats 4000000 in
set_option maxRecDepth 100000 in
theorem tX10_change_0  {r : Int32} (cx : CallFix p m c prog_1_method_8_code 7 s args tbG RX10) (hr : meth.sig.returnType = (Option.some FieldType.int)) (hlk : meth.locks = false)  (t0 : Nat) (v1 : Int32) (v2 : Int32) (v3 : Int32) (v4 : Int32) (h : Hp) (H : Heap) (locs : List Loc) (ls : Array Slot) (hB : hp_B D cA (hp_A h0) s h H locs) (hl : lv_has ls 7 [(0, .ref t0), (1, .int v1), (2, .int v2), (3, .int v3), (4, .int v4)]) (hf : fX10_change  t0 v1 v2 v3 v4 h = some (r, h9)) : W p l e rmX10_change s m args below meth c H locs 0 0 (MQ below (hp_Qi D cA h0 h9 r) args s 0 0 (hp_A h0)) (F0 m 0 ls []) := by
  obtain ⟨hx, hb, -⟩ := id cx
  unfold fX10_change at hf
  refine lv_aload_n hx hb dX10_change_0 rfl (lv_at hl 0 rfl) ?_
  obtain ⟨k1, hf⟩ := gk_ok hf
  obtain ⟨a2, q3, hf⟩ := bd_ok hf
  refine gf_X10_10 cx hB k1 q3 dX10_change_1 ?_
  refine lv_iload_n hx hb dX10_change_4 rfl (lv_at hl 1 rfl) ?_
  refine lv_iload_n hx hb dX10_change_5 rfl (lv_at hl 2 rfl) ?_
  obtain ⟨k4, hf⟩ := gk_ok hf
  obtain ⟨o8, g5, m6, hf⟩ := b2_ok hf
  refine hp_cR0 (cl_X10_118 cx hB (cX2_lineAt l D cA a2 v1 v2 h _ g5 m6) k4 ⟨Nat.le_of_ble_eq_true rfl, Nat.le_of_ble_eq_true rfl⟩ rfl hl.1 rfl (Nat.le_of_ble_eq_true rfl) ⟨Nat.le_of_ble_eq_true rfl, Nat.le_of_ble_eq_true rfl⟩ dX10_change_6) rfl rfl hB (fun H locs hB => ?_)
  refine lq_astore (lv' := [(5, va_rf o8), (0, .ref t0), (1, .int v1), (2, .int v2), (3, .int v3), (4, .int v4)]) hx hb dX10_change_9 hl (by decide) rfl (fun ls hl => ?_)
  refine lq_aload hx hb dX10_change_11 (lv_at hl 0 rfl) ?_
  refine lq_ifnull (tgt := 25) hx hb dX10_change_13 (by decide) (fun eo => ?_) (fun a9 eo => ?_)
  · subst eo
    replace hf := rn_n hf
    refine lv_sipush (v := (-1000)) hx hb dX10_change_25 (by decide) ?_
    obtain ⟨rfl, rfl⟩ := rt_ok hf
    exact hp_iret cx hB hr hlk (Nat.le_of_ble_eq_true rfl) (Nat.le_of_ble_eq_true rfl) dX10_change_28
  · subst eo
    replace hf := rn_s hf
    refine lv_iload_n hx hb dX10_change_16 rfl (lv_at hl 4 rfl) ?_
    refine lv_iload hx hb dX10_change_17 (lv_at hl 5 rfl) ?_
    obtain ⟨r12, g10, m11, hf⟩ := b2_ok hf
    refine hp_cI0 (cl_X10_122 cx hB (cX10_isLineValue l D cA v3 v4 g5 _ g10 m11) ⟨Nat.le_of_ble_eq_true rfl, Nat.le_of_ble_eq_true rfl⟩ rfl hl.1 rfl (Nat.le_of_ble_eq_true rfl) ⟨Nat.le_of_ble_eq_true rfl, Nat.le_of_ble_eq_true rfl⟩ dX10_change_19) rfl rfl hB (fun H locs hB => ?_)
    refine lv_if_ne (tgt := 29) hx hb dX10_change_22 (by decide) (fun c14 => ?_) (fun c14 => ?_)
    · replace hf := it_f c14 hf
      refine lv_iload_n hx hb dX10_change_29 rfl (lv_at hl 4 rfl) ?_
      by_cases c15 : v3 = 0
      · replace hf := it_t c15 hf
        refine lv_lookup (off := 26) (tgt := 56) hx hb dX10_change_30 (by decide) (by rw [c15]; rfl) (by decide) ?_
        refine lv_aload hx hb dX10_change_56 (lv_at hl 0 rfl) ?_
        obtain ⟨k16, hf⟩ := gk_ok hf
        refine gf_X10_126 cx hB k16 dX10_change_58 ?_
        obtain ⟨x17, ex17, hf⟩ := nm_ok hf
        refine lv_ren ex17 ?_
        refine lv_istore (lv' := [(6, .int x17), (5, .ref a9), (0, .ref t0), (1, .int v1), (2, .int v2), (3, .int v3), (4, .int v4)]) hx hb dX10_change_61 hl (by decide) rfl (fun ls hl => ?_)
        refine lv_aload hx hb dX10_change_63 (lv_at hl 1 rfl) ?_
        refine lv_iload hx hb dX10_change_65 (lv_at hl 6 rfl) ?_
        obtain ⟨g18, eg18, hf⟩ := nm_ok hf
        refine pf_X10_126 cx hB k16 dX10_change_67 (fun H locs hB => ?_)
        rw [← eg18] at hB
        refine lv_iload hx hb dX10_change_70 (lv_at hl 0 rfl) ?_
        obtain ⟨rfl, rfl⟩ := rt_ok hf
        exact hp_iret cx hB hr hlk (Nat.le_of_ble_eq_true rfl) (Nat.le_of_ble_eq_true rfl) dX10_change_72
      · replace hf := it_f c15 hf
        by_cases c19 : v3 = 1
        · replace hf := it_t c19 hf
          refine lv_lookup (off := 43) (tgt := 73) hx hb dX10_change_30 (by decide) (by rw [c19]; rfl) (by decide) ?_
          refine lv_aload hx hb dX10_change_73 (lv_at hl 0 rfl) ?_
          obtain ⟨k20, hf⟩ := gk_ok hf
          refine gf_X10_129 cx hB k20 dX10_change_75 ?_
          obtain ⟨x21, ex21, hf⟩ := nm_ok hf
          refine lv_ren ex21 ?_
          refine lv_istore (lv' := [(6, .int x21), (5, .ref a9), (0, .ref t0), (1, .int v1), (2, .int v2), (3, .int v3), (4, .int v4)]) hx hb dX10_change_78 hl (by decide) rfl (fun ls hl => ?_)
          refine lv_aload hx hb dX10_change_80 (lv_at hl 1 rfl) ?_
          refine lv_iload hx hb dX10_change_82 (lv_at hl 6 rfl) ?_
          obtain ⟨g22, eg22, hf⟩ := nm_ok hf
          refine pf_X10_129 cx hB k20 dX10_change_84 (fun H locs hB => ?_)
          rw [← eg22] at hB
          refine lv_iload hx hb dX10_change_87 (lv_at hl 0 rfl) ?_
          obtain ⟨rfl, rfl⟩ := rt_ok hf
          exact hp_iret cx hB hr hlk (Nat.le_of_ble_eq_true rfl) (Nat.le_of_ble_eq_true rfl) dX10_change_89
        · replace hf := it_f c19 hf
          refine lv_lookup (off := 60) (tgt := 90) hx hb dX10_change_30 (by decide) (by refine (lv_osw c15 rfl).trans ?_; refine (lv_osw c19 rfl).trans ?_; rfl) (by decide) ?_
          refine lv_aload hx hb dX10_change_90 (lv_at hl 0 rfl) ?_
          obtain ⟨k23, hf⟩ := gk_ok hf
          refine gf_X10_132 cx hB k23 dX10_change_92 ?_
          obtain ⟨x24, ex24, hf⟩ := nm_ok hf
          refine lv_ren ex24 ?_
          refine lv_istore (lv' := [(6, .int x24), (5, .ref a9), (0, .ref t0), (1, .int v1), (2, .int v2), (3, .int v3), (4, .int v4)]) hx hb dX10_change_95 hl (by decide) rfl (fun ls hl => ?_)
          refine lv_aload hx hb dX10_change_97 (lv_at hl 1 rfl) ?_
          refine lv_iload hx hb dX10_change_99 (lv_at hl 6 rfl) ?_
          obtain ⟨g25, eg25, hf⟩ := nm_ok hf
          refine pf_X10_132 cx hB k23 dX10_change_101 (fun H locs hB => ?_)
          rw [← eg25] at hB
          refine lv_iload hx hb dX10_change_104 (lv_at hl 0 rfl) ?_
          obtain ⟨rfl, rfl⟩ := rt_ok hf
          exact hp_iret cx hB hr hlk (Nat.le_of_ble_eq_true rfl) (Nat.le_of_ble_eq_true rfl) dX10_change_106
    · replace hf := it_t c14 hf
      refine lv_sipush (v := (-1000)) hx hb dX10_change_25 (by decide) ?_
      obtain ⟨rfl, rfl⟩ := rt_ok hf
      exact hp_iret cx hB hr hlk (Nat.le_of_ble_eq_true rfl) (Nat.le_of_ble_eq_true rfl) dX10_change_28
end
set_option maxHeartbeats 4000000 in
set_option maxRecDepth 100000 in
theorem cX10_change (l : Launch) (D : va_G) (cA : Nat → ClassId) (t0 : Nat) (v1 : Int32) (v2 : Int32) (v3 : Int32) (v4 : Int32) (h : Hp) (r : Int32) (h9 : Hp) (hf : fX10_change t0 v1 v2 v3 v4 h = some (r, h9)) : hp_M l yX10_change prog_1_method_8_code 7 (Option.some FieldType.int) rmX10_change D cA h [.ref t0, .int v1, .int v2, .int v3, .int v4] (hp_Qi D cA h h9 r) := by
  refine Met.ofW (cc := prog_1_method_8_code) (maxL := 7) (ret := (Option.some FieldType.int)) (by decide) rfl ?_
  intro p e s m args below meth c s₁ B hml hv
  obtain ⟨rfl, hU⟩ := hv
  have hts := atoms_spec (ws := Cond.code yX10_change prog_1_method_8_code 7 (Option.some FieldType.int) :: tbG) B.pre
  have hl := lv_entry ([.ref t0, .int v1, .int v2, .int v3, .int v4]) (n := 7) (Nat.le_of_ble_eq_true rfl)
  rw [lg_entry_eq]
  generalize (lg_sl ([.ref t0, .int v1, .int v2, .int v3, .int v4]) ++ List.replicate (7 - (lg_sl ([.ref t0, .int v1, .int v2, .int v3, .int v4])).length) Slot.unset).toArray = ls at hl ⊢
  exact tX10_change_0 ⟨B.exec, B.bytes, hml, findClass_of_methodNamed B.named, fun w hw => hts w (List.mem_cons_of_mem _ hw)⟩ B.returns B.notSynchronized t0 v1 v2 v3 v4 h _ _ _ (hp_B.entry hU) hl hf
section
variable {p : Program} {l : Launch} {e : Env} {R : Room} {s : State} {m : MethodId} {args : Array Value} {below : List Frame} {meth : Method} {c : Code} {H : Heap} {locs : List Loc} {cells slots : Nat} {Q : State → Prop}
variable {cc : ByteArray} {pc nL : Nat} {ls : Array Slot} {rest : List Value} {D : va_G} {cA : Nat → ClassId} {A : Nat → Prop} {a : Nat} {h : Hp}
theorem gf_X10_135 (cx : CallFix p m c cc nL s args tbG RX10) (hB : hp_B D cA A s h H locs) (hka : h.1 a = 6) {b : Nat} (ho : h.2.2.2.1 a 5 = some b) (hdg : decode cc pc = .ok (.getfield 135, 3)) (kk : W p l e R s m args below meth c H locs cells slots Q (F0 m (pc + 3) ls (.ref b :: rest))) : W p l e R s m args below meth c H locs cells slots Q (F0 m pc ls (.ref a :: rest)) :=
  hp_getR cx hB (ci := 5) 5 rfl inX5 (by decide) rfl (by decide) rfl qw_269 hka (o := some b) ho.symm hdg kk
end
abbrev yX10_swap : MethodName := ⟨"SpokenMenus", "swap", "(III)I"⟩
theorem dX10_swap_0 : decode prog_1_method_9_code 0 = .ok (.aload_n 0, 1) := by decide +kernel
theorem dX10_swap_1 : decode prog_1_method_9_code 1 = .ok (.getfield 10, 3) := by decide +kernel
theorem dX10_swap_4 : decode prog_1_method_9_code 4 = .ok (.iload_n 1, 1) := by decide +kernel
theorem dX10_swap_5 : decode prog_1_method_9_code 5 = .ok (.invokevirtual 86, 3) := by decide +kernel
theorem dX10_swap_8 : decode prog_1_method_9_code 8 = .ok (.astore 4, 2) := by decide +kernel
theorem dX10_swap_10 : decode prog_1_method_9_code 10 = .ok (.aload_n 0, 1) := by decide +kernel
theorem dX10_swap_11 : decode prog_1_method_9_code 11 = .ok (.getfield 10, 3) := by decide +kernel
theorem dX10_swap_14 : decode prog_1_method_9_code 14 = .ok (.iload_n 1, 1) := by decide +kernel
theorem dX10_swap_15 : decode prog_1_method_9_code 15 = .ok (.iload_n 2, 1) := by decide +kernel
theorem dX10_swap_16 : decode prog_1_method_9_code 16 = .ok (.invokevirtual 118, 3) := by decide +kernel
theorem dX10_swap_19 : decode prog_1_method_9_code 19 = .ok (.astore 5, 2) := by decide +kernel
theorem dX10_swap_21 : decode prog_1_method_9_code 21 = .ok (.aload_n 0, 1) := by decide +kernel
theorem dX10_swap_22 : decode prog_1_method_9_code 22 = .ok (.getfield 10, 3) := by decide +kernel
theorem dX10_swap_25 : decode prog_1_method_9_code 25 = .ok (.iload_n 1, 1) := by decide +kernel
theorem dX10_swap_26 : decode prog_1_method_9_code 26 = .ok (.iload_n 3, 1) := by decide +kernel
theorem dX10_swap_27 : decode prog_1_method_9_code 27 = .ok (.invokevirtual 118, 3) := by decide +kernel
theorem dX10_swap_30 : decode prog_1_method_9_code 30 = .ok (.astore 6, 2) := by decide +kernel
theorem dX10_swap_32 : decode prog_1_method_9_code 32 = .ok (.aload 4, 2) := by decide +kernel
theorem dX10_swap_34 : decode prog_1_method_9_code 34 = .ok (.ifnull 13, 3) := by decide +kernel
theorem dX10_swap_37 : decode prog_1_method_9_code 37 = .ok (.aload 5, 2) := by decide +kernel
theorem dX10_swap_39 : decode prog_1_method_9_code 39 = .ok (.ifnull 8, 3) := by decide +kernel
theorem dX10_swap_42 : decode prog_1_method_9_code 42 = .ok (.aload 6, 2) := by decide +kernel
theorem dX10_swap_44 : decode prog_1_method_9_code 44 = .ok (.ifnonnull 5, 3) := by decide +kernel
theorem dX10_swap_47 : decode prog_1_method_9_code 47 = .ok (.iconst (-1), 1) := by decide +kernel
theorem dX10_swap_48 : decode prog_1_method_9_code 48 = .ok (.ireturn, 1) := by decide +kernel
theorem dX10_swap_49 : decode prog_1_method_9_code 49 = .ok (.aload 4, 2) := by decide +kernel
theorem dX10_swap_51 : decode prog_1_method_9_code 51 = .ok (.getfield 135, 3) := by decide +kernel
theorem dX10_swap_54 : decode prog_1_method_9_code 54 = .ok (.iload_n 2, 1) := by decide +kernel
theorem dX10_swap_55 : decode prog_1_method_9_code 55 = .ok (.aload 6, 2) := by decide +kernel
theorem dX10_swap_57 : decode prog_1_method_9_code 57 = .ok (.aastore, 1) := by decide +kernel
theorem dX10_swap_58 : decode prog_1_method_9_code 58 = .ok (.aload 4, 2) := by decide +kernel
theorem dX10_swap_60 : decode prog_1_method_9_code 60 = .ok (.getfield 135, 3) := by decide +kernel
theorem dX10_swap_63 : decode prog_1_method_9_code 63 = .ok (.iload_n 3, 1) := by decide +kernel
theorem dX10_swap_64 : decode prog_1_method_9_code 64 = .ok (.aload 5, 2) := by decide +kernel
theorem dX10_swap_66 : decode prog_1_method_9_code 66 = .ok (.aastore, 1) := by decide +kernel
theorem dX10_swap_67 : decode prog_1_method_9_code 67 = .ok (.iconst 0, 1) := by decide +kernel
theorem dX10_swap_68 : decode prog_1_method_9_code 68 = .ok (.ireturn, 1) := by decide +kernel
abbrev rmX10_swap : Room := { frames := 3, cells := 0, slots := 0, locals := 66 }
def fX10_swap  (t0 : Nat) (v1 : Int32) (v2 : Int32) (v3 : Int32) (h : Hp) : Option (Int32 × Hp) :=
  gk (h.1 t0) 11 <|
  bd (h.2.2.2.1 t0 0) fun a2 =>
  gk (h.1 a2) 3 <|
  b2 (fX2_menuAt a2 v1 h) fun o8 g5 =>
  gk (g5.1 t0) 11 <|
  bd (g5.2.2.2.1 t0 0) fun a10 =>
  gk (g5.1 a10) 3 <|
  b2 (fX2_lineAt a10 v1 v2 g5) fun o16 g13 =>
  gk (g13.1 t0) 11 <|
  bd (g13.2.2.2.1 t0 0) fun a18 =>
  gk (g13.1 a18) 3 <|
  b2 (fX2_lineAt a18 v1 v3 g13) fun o24 g21 =>
  rn o8
  (some ((-1), g21))
  (fun a25 =>
  rn o16
  (some ((-1), g21))
  (fun a26 =>
  rn o24
  (some ((-1), g21))
  (fun a27 =>
  gk (g21.1 a25) 6 <|
  bd (g21.2.2.2.1 a25 5) fun a29 =>
  gk (g21.1 a29) 16 <|
  gk (g21.1 a27) 4 <|
  gd (ix v2 (g21.2.1 a29)) <|
  nm (hp_sr g21 a29 (Int32.toNatClampNeg v2) (some a27)) fun g34 =>
  bd (g34.2.2.2.1 a25 5) fun a36 =>
  gk (g34.1 a36) 16 <|
  gk (g34.1 a26) 4 <|
  gd (ix v3 (g34.2.1 a36)) <|
  nm (hp_sr g34 a36 (Int32.toNatClampNeg v3) (some a26)) fun g41 =>
  some (0, g41))))
section
variable {p : Program} {l : Launch} {e : Env} {s : State} {m : MethodId} {args : Array Value} {below : List Frame} {meth : Method} {c : Code} {D : va_G} {cA : Nat → ClassId} {h0 h9 : Hp}
set_option maxHeartbeats 4000000 in
set_option maxRecDepth 100000 in
theorem tX10_swap_0  {r : Int32} (cx : CallFix p m c prog_1_method_9_code 7 s args tbG RX10) (hr : meth.sig.returnType = (Option.some FieldType.int)) (hlk : meth.locks = false)  (t0 : Nat) (v1 : Int32) (v2 : Int32) (v3 : Int32) (h : Hp) (H : Heap) (locs : List Loc) (ls : Array Slot) (hB : hp_B D cA (hp_A h0) s h H locs) (hl : lv_has ls 7 [(0, .ref t0), (1, .int v1), (2, .int v2), (3, .int v3)]) (hf : fX10_swap  t0 v1 v2 v3 h = some (r, h9)) : W p l e rmX10_swap s m args below meth c H locs 0 0 (MQ below (hp_Qi D cA h0 h9 r) args s 0 0 (hp_A h0)) (F0 m 0 ls []) := by
  obtain ⟨hx, hb, -⟩ := id cx
  unfold fX10_swap at hf
  refine lv_aload_n hx hb dX10_swap_0 rfl (lv_at hl 0 rfl) ?_
  obtain ⟨k1, hf⟩ := gk_ok hf
  obtain ⟨a2, q3, hf⟩ := bd_ok hf
  refine gf_X10_10 cx hB k1 q3 dX10_swap_1 ?_
  refine lv_iload_n hx hb dX10_swap_4 rfl (lv_at hl 1 rfl) ?_
  obtain ⟨k4, hf⟩ := gk_ok hf
  obtain ⟨o8, g5, m6, hf⟩ := b2_ok hf
  refine hp_cR0 (cl_X10_86 cx hB (cX2_menuAt l D cA a2 v1 h _ g5 m6) k4 ⟨Nat.le_of_ble_eq_true rfl, Nat.le_of_ble_eq_true rfl⟩ rfl hl.1 rfl (Nat.le_of_ble_eq_true rfl) ⟨Nat.le_of_ble_eq_true rfl, Nat.le_of_ble_eq_true rfl⟩ dX10_swap_5) rfl rfl hB (fun H locs hB => ?_)
  refine lq_astore (lv' := [(4, va_rf o8), (0, .ref t0), (1, .int v1), (2, .int v2), (3, .int v3)]) hx hb dX10_swap_8 hl (by decide) rfl (fun ls hl => ?_)
  refine lv_aload_n hx hb dX10_swap_10 rfl (lv_at hl 1 rfl) ?_
  obtain ⟨k9, hf⟩ := gk_ok hf
  obtain ⟨a10, q11, hf⟩ := bd_ok hf
  refine gf_X10_10 cx hB k9 q11 dX10_swap_11 ?_
  refine lv_iload_n hx hb dX10_swap_14 rfl (lv_at hl 2 rfl) ?_
  refine lv_iload_n hx hb dX10_swap_15 rfl (lv_at hl 3 rfl) ?_
  obtain ⟨k12, hf⟩ := gk_ok hf
  obtain ⟨o16, g13, m14, hf⟩ := b2_ok hf
  refine hp_cR0 (cl_X10_118 cx hB (cX2_lineAt l D cA a10 v1 v2 g5 _ g13 m14) k12 ⟨Nat.le_of_ble_eq_true rfl, Nat.le_of_ble_eq_true rfl⟩ rfl hl.1 rfl (Nat.le_of_ble_eq_true rfl) ⟨Nat.le_of_ble_eq_true rfl, Nat.le_of_ble_eq_true rfl⟩ dX10_swap_16) rfl rfl hB (fun H locs hB => ?_)
  refine lq_astore (lv' := [(5, va_rf o16), (4, va_rf o8), (0, .ref t0), (1, .int v1), (2, .int v2), (3, .int v3)]) hx hb dX10_swap_19 hl (by decide) (by cases o8 <;> rfl) (fun ls hl => ?_)
  refine lv_aload_n hx hb dX10_swap_21 rfl (lv_at hl 2 rfl) ?_
  obtain ⟨k17, hf⟩ := gk_ok hf
  obtain ⟨a18, q19, hf⟩ := bd_ok hf
  refine gf_X10_10 cx hB k17 q19 dX10_swap_22 ?_
  refine lv_iload_n hx hb dX10_swap_25 rfl (lv_at hl 3 rfl) ?_
  refine lv_iload_n hx hb dX10_swap_26 rfl (lv_at hl 5 rfl) ?_
  obtain ⟨k20, hf⟩ := gk_ok hf
  obtain ⟨o24, g21, m22, hf⟩ := b2_ok hf
  refine hp_cR0 (cl_X10_118 cx hB (cX2_lineAt l D cA a18 v1 v3 g13 _ g21 m22) k20 ⟨Nat.le_of_ble_eq_true rfl, Nat.le_of_ble_eq_true rfl⟩ rfl hl.1 rfl (Nat.le_of_ble_eq_true rfl) ⟨Nat.le_of_ble_eq_true rfl, Nat.le_of_ble_eq_true rfl⟩ dX10_swap_27) rfl rfl hB (fun H locs hB => ?_)
  refine lq_astore (lv' := [(6, va_rf o24), (5, va_rf o16), (4, va_rf o8), (0, .ref t0), (1, .int v1), (2, .int v2), (3, .int v3)]) hx hb dX10_swap_30 hl (by decide) (by cases o16 <;> rfl) (fun ls hl => ?_)
  refine lq_aload hx hb dX10_swap_32 (lv_at hl 2 rfl) ?_
  refine lq_ifnull (tgt := 47) hx hb dX10_swap_34 (by decide) (fun eo => ?_) (fun a25 eo => ?_)
  · subst eo
    replace hf := rn_n hf
    refine lv_iconst (v := (-1)) hx hb dX10_swap_47 (by decide) ?_
    obtain ⟨rfl, rfl⟩ := rt_ok hf
    exact hp_iret cx hB hr hlk (Nat.le_of_ble_eq_true rfl) (Nat.le_of_ble_eq_true rfl) dX10_swap_48
  · subst eo
    replace hf := rn_s hf
    refine lq_aload hx hb dX10_swap_37 (lv_at hl 1 rfl) ?_
    refine lq_ifnull (tgt := 47) hx hb dX10_swap_39 (by decide) (fun eo => ?_) (fun a26 eo => ?_)
    · subst eo
      replace hf := rn_n hf
      refine lv_iconst (v := (-1)) hx hb dX10_swap_47 (by decide) ?_
      obtain ⟨rfl, rfl⟩ := rt_ok hf
      exact hp_iret cx hB hr hlk (Nat.le_of_ble_eq_true rfl) (Nat.le_of_ble_eq_true rfl) dX10_swap_48
    · subst eo
      replace hf := rn_s hf
      refine lq_aload hx hb dX10_swap_42 (lv_at hl 0 rfl) ?_
      refine lq_ifnonnull (tgt := 49) hx hb dX10_swap_44 (by decide) (fun eo => ?_) (fun a27 eo => ?_)
      · subst eo
        replace hf := rn_n hf
        refine lv_iconst (v := (-1)) hx hb dX10_swap_47 (by decide) ?_
        obtain ⟨rfl, rfl⟩ := rt_ok hf
        exact hp_iret cx hB hr hlk (Nat.le_of_ble_eq_true rfl) (Nat.le_of_ble_eq_true rfl) dX10_swap_48
      · subst eo
        replace hf := rn_s hf
        refine lv_aload hx hb dX10_swap_49 (lv_at hl 2 rfl) ?_
        obtain ⟨k28, hf⟩ := gk_ok hf
        obtain ⟨a29, q30, hf⟩ := bd_ok hf
        refine gf_X10_135 cx hB k28 q30 dX10_swap_51 ?_
        refine lv_iload_n hx hb dX10_swap_54 rfl (lv_at hl 5 rfl) ?_
        refine lv_aload hx hb dX10_swap_55 (lv_at hl 0 rfl) ?_
        obtain ⟨k31, hf⟩ := gk_ok hf
        obtain ⟨k32, hf⟩ := gk_ok hf
        obtain ⟨j33, hf⟩ := gd_ok hf
        obtain ⟨g34, eg34, hf⟩ := nm_ok hf
        refine hp_aast cx hB 16 3 (by decide) rfl rfl (by decide) k31 k32 j33 dX10_swap_57 (fun H locs hB => ?_)
        rw [← eg34] at hB
        refine lv_aload hx hb dX10_swap_58 (lv_at hl 2 rfl) ?_
        have k35 : g34.1 a25 = 6 := by rw [eg34]; exact k28
        obtain ⟨a36, q37, hf⟩ := bd_ok hf
        refine gf_X10_135 cx hB k35 q37 dX10_swap_60 ?_
        refine lv_iload_n hx hb dX10_swap_63 rfl (lv_at hl 6 rfl) ?_
        refine lv_aload hx hb dX10_swap_64 (lv_at hl 1 rfl) ?_
        obtain ⟨k38, hf⟩ := gk_ok hf
        obtain ⟨k39, hf⟩ := gk_ok hf
        obtain ⟨j40, hf⟩ := gd_ok hf
        obtain ⟨g41, eg41, hf⟩ := nm_ok hf
        refine hp_aast cx hB 16 3 (by decide) rfl rfl (by decide) k38 k39 j40 dX10_swap_66 (fun H locs hB => ?_)
        rw [← eg41] at hB
        refine lv_iconst (v := 0) hx hb dX10_swap_67 (by decide) ?_
        obtain ⟨rfl, rfl⟩ := rt_ok hf
        exact hp_iret cx hB hr hlk (Nat.le_of_ble_eq_true rfl) (Nat.le_of_ble_eq_true rfl) dX10_swap_68
end
set_option maxHeartbeats 4000000 in
set_option maxRecDepth 100000 in
theorem cX10_swap (l : Launch) (D : va_G) (cA : Nat → ClassId) (t0 : Nat) (v1 : Int32) (v2 : Int32) (v3 : Int32) (h : Hp) (r : Int32) (h9 : Hp) (hf : fX10_swap t0 v1 v2 v3 h = some (r, h9)) : hp_M l yX10_swap prog_1_method_9_code 7 (Option.some FieldType.int) rmX10_swap D cA h [.ref t0, .int v1, .int v2, .int v3] (hp_Qi D cA h h9 r) := by
  refine Met.ofW (cc := prog_1_method_9_code) (maxL := 7) (ret := (Option.some FieldType.int)) (by decide) rfl ?_
  intro p e s m args below meth c s₁ B hml hv
  obtain ⟨rfl, hU⟩ := hv
  have hts := atoms_spec (ws := Cond.code yX10_swap prog_1_method_9_code 7 (Option.some FieldType.int) :: tbG) B.pre
  have hl := lv_entry ([.ref t0, .int v1, .int v2, .int v3]) (n := 7) (Nat.le_of_ble_eq_true rfl)
  rw [lg_entry_eq]
  generalize (lg_sl ([.ref t0, .int v1, .int v2, .int v3]) ++ List.replicate (7 - (lg_sl ([.ref t0, .int v1, .int v2, .int v3])).length) Slot.unset).toArray = ls at hl ⊢
  exact tX10_swap_0 ⟨B.exec, B.bytes, hml, findClass_of_methodNamed B.named, fun w hw => hts w (List.mem_cons_of_mem _ hw)⟩ B.returns B.notSynchronized t0 v1 v2 v3 h _ _ _ (hp_B.entry hU) hl hf
section
variable {p : Program} {l : Launch} {e : Env} {R : Room} {s : State} {m : MethodId} {args : Array Value} {below : List Frame} {meth : Method} {c : Code} {H : Heap} {locs : List Loc} {cells slots : Nat} {Q : State → Prop}
variable {cc : ByteArray} {pc nL : Nat} {ls : Array Slot} {rest : List Value} {D : va_G} {cA : Nat → ClassId} {A : Nat → Prop} {a : Nat} {h : Hp}
theorem cl_X10_139 {As st0 : List Value} {b : Nat} {Qc : Array Value → State → Outcome → State → Prop} (cx : CallFix p m c cc nL s args tbG RX10) (hB : hp_B D cA A s h H locs) (hM : hp_M l yX2_at prog_4_method_4_code 2 (Option.some (FieldType.object "SpokenMenus$Place")) rmX2_at D cA h (.ref b :: As) Qc) (hkb : h.1 b = 3) (hR : rmX2_at.frames + 1 ≤ R.frames ∧ 8 + (2 + 11) + rmX2_at.locals ≤ R.locals) (hn : As.length = 1) (hls : ls.size = nL) (hst : st0 = As.reverse ++ .ref b :: rest) (hW : (rest.map fun v => v.category).sum ≤ 8) (hf : cells + rmX2_at.cells ≤ R.cells ∧ slots + rmX2_at.slots ≤ R.slots) (hdg : decode cc pc = .ok (.invokevirtual 139, 3)) :
    va_Run p l e R s m args below meth c H locs cells slots rmX2_at.cells rmX2_at.slots (F0 m pc ls st0) rest (Qc (Value.ref b :: As).toArray) (hp_A h) :=
  hp_runV cx hB hM (ci := 2) rfl (by decide) hkb qw_323 qw_402 qw_321 qw_322 qw_2 (by decide +kernel) hR hn hls hst hW hf hdg
theorem gf_X10_142 (cx : CallFix p m c cc nL s args tbG RX10) (hB : hp_B D cA A s h H locs) (hka : h.1 a = 6) (hdg : decode cc pc = .ok (.getfield 142, 3)) (kk : W p l e R s m args below meth c H locs cells slots Q (F0 m (pc + 3) ls (.int (h.2.2.1 a 0) :: rest))) : W p l e R s m args below meth c H locs cells slots Q (F0 m pc ls (.ref a :: rest)) :=
  hp_getI cx hB (ci := 5) 0 rfl inX5 (by decide) rfl (by decide) rfl qw_251 hka hdg kk
theorem gf_X10_145 (cx : CallFix p m c cc nL s args tbG RX10) (hB : hp_B D cA A s h H locs) (hka : h.1 a = 6) (hdg : decode cc pc = .ok (.getfield 145, 3)) (kk : W p l e R s m args below meth c H locs cells slots Q (F0 m (pc + 3) ls (.int (h.2.2.1 a 1) :: rest))) : W p l e R s m args below meth c H locs cells slots Q (F0 m pc ls (.ref a :: rest)) :=
  hp_getI cx hB (ci := 5) 1 rfl inX5 (by decide) rfl (by decide) rfl qw_255 hka hdg kk
theorem gf_X10_146 (cx : CallFix p m c cc nL s args tbG RX10) (hB : hp_B D cA A s h H locs) (hka : h.1 a = 6) (hdg : decode cc pc = .ok (.getfield 146, 3)) (kk : W p l e R s m args below meth c H locs cells slots Q (F0 m (pc + 3) ls (.int (h.2.2.1 a 3) :: rest))) : W p l e R s m args below meth c H locs cells slots Q (F0 m pc ls (.ref a :: rest)) :=
  hp_getI cx hB (ci := 5) 3 rfl inX5 (by decide) rfl (by decide) rfl qw_261 hka hdg kk
theorem gf_X10_147 (cx : CallFix p m c cc nL s args tbG RX10) (hB : hp_B D cA A s h H locs) (hka : h.1 a = 6) (hdg : decode cc pc = .ok (.getfield 147, 3)) (kk : W p l e R s m args below meth c H locs cells slots Q (F0 m (pc + 3) ls (.int (h.2.2.1 a 4) :: rest))) : W p l e R s m args below meth c H locs cells slots Q (F0 m pc ls (.ref a :: rest)) :=
  hp_getI cx hB (ci := 5) 4 rfl inX5 (by decide) rfl (by decide) rfl qw_263 hka hdg kk
theorem gf_X10_150 (cx : CallFix p m c cc nL s args tbG RX10) (hB : hp_B D cA A s h H locs) (hka : h.1 a = 6) (hdg : decode cc pc = .ok (.getfield 150, 3)) (kk : W p l e R s m args below meth c H locs cells slots Q (F0 m (pc + 3) ls (.int (h.2.2.1 a 2) :: rest))) : W p l e R s m args below meth c H locs cells slots Q (F0 m pc ls (.ref a :: rest)) :=
  hp_getI cx hB (ci := 5) 2 rfl inX5 (by decide) rfl (by decide) rfl qw_257 hka hdg kk
end
abbrev yX10_place : MethodName := ⟨"SpokenMenus", "place", "(II)I"⟩
theorem dX10_place_0 : decode prog_1_method_10_code 0 = .ok (.aload_n 0, 1) := by decide +kernel
theorem dX10_place_1 : decode prog_1_method_10_code 1 = .ok (.getfield 10, 3) := by decide +kernel
theorem dX10_place_4 : decode prog_1_method_10_code 4 = .ok (.iload_n 1, 1) := by decide +kernel
theorem dX10_place_5 : decode prog_1_method_10_code 5 = .ok (.invokevirtual 139, 3) := by decide +kernel
theorem dX10_place_8 : decode prog_1_method_10_code 8 = .ok (.astore_n 3, 1) := by decide +kernel
theorem dX10_place_9 : decode prog_1_method_10_code 9 = .ok (.aload_n 3, 1) := by decide +kernel
theorem dX10_place_10 : decode prog_1_method_10_code 10 = .ok (.ifnonnull 7, 3) := by decide +kernel
theorem dX10_place_13 : decode prog_1_method_10_code 13 = .ok (.sipush (-1000), 3) := by decide +kernel
theorem dX10_place_16 : decode prog_1_method_10_code 16 = .ok (.ireturn, 1) := by decide +kernel
theorem dX10_place_17 : decode prog_1_method_10_code 17 = .ok (.iload_n 2, 1) := by decide +kernel
theorem dX10_place_18 : decode prog_1_method_10_code 18 = .ok (.tableswitch 68 0 5 #[38, 43, 48, 53, 58, 63], 38) := by decide +kernel
theorem dX10_place_56 : decode prog_1_method_10_code 56 = .ok (.aload_n 3, 1) := by decide +kernel
theorem dX10_place_57 : decode prog_1_method_10_code 57 = .ok (.getfield 142, 3) := by decide +kernel
theorem dX10_place_60 : decode prog_1_method_10_code 60 = .ok (.ireturn, 1) := by decide +kernel
theorem dX10_place_61 : decode prog_1_method_10_code 61 = .ok (.aload_n 3, 1) := by decide +kernel
theorem dX10_place_62 : decode prog_1_method_10_code 62 = .ok (.getfield 145, 3) := by decide +kernel
theorem dX10_place_65 : decode prog_1_method_10_code 65 = .ok (.ireturn, 1) := by decide +kernel
theorem dX10_place_66 : decode prog_1_method_10_code 66 = .ok (.aload_n 3, 1) := by decide +kernel
theorem dX10_place_67 : decode prog_1_method_10_code 67 = .ok (.getfield 94, 3) := by decide +kernel
theorem dX10_place_70 : decode prog_1_method_10_code 70 = .ok (.ireturn, 1) := by decide +kernel
theorem dX10_place_71 : decode prog_1_method_10_code 71 = .ok (.aload_n 3, 1) := by decide +kernel
theorem dX10_place_72 : decode prog_1_method_10_code 72 = .ok (.getfield 146, 3) := by decide +kernel
theorem dX10_place_75 : decode prog_1_method_10_code 75 = .ok (.ireturn, 1) := by decide +kernel
theorem dX10_place_76 : decode prog_1_method_10_code 76 = .ok (.aload_n 3, 1) := by decide +kernel
theorem dX10_place_77 : decode prog_1_method_10_code 77 = .ok (.getfield 147, 3) := by decide +kernel
theorem dX10_place_80 : decode prog_1_method_10_code 80 = .ok (.ireturn, 1) := by decide +kernel
theorem dX10_place_81 : decode prog_1_method_10_code 81 = .ok (.aload_n 3, 1) := by decide +kernel
theorem dX10_place_82 : decode prog_1_method_10_code 82 = .ok (.getfield 150, 3) := by decide +kernel
theorem dX10_place_85 : decode prog_1_method_10_code 85 = .ok (.ireturn, 1) := by decide +kernel
theorem dX10_place_86 : decode prog_1_method_10_code 86 = .ok (.sipush (-1000), 3) := by decide +kernel
theorem dX10_place_89 : decode prog_1_method_10_code 89 = .ok (.ireturn, 1) := by decide +kernel
abbrev rmX10_place : Room := { frames := 1, cells := 0, slots := 0, locals := 21 }
def fX10_place  (t0 : Nat) (v1 : Int32) (v2 : Int32) (h : Hp) : Option (Int32 × Hp) :=
  gk (h.1 t0) 11 <|
  bd (h.2.2.2.1 t0 0) fun a2 =>
  gk (h.1 a2) 3 <|
  b2 (fX2_at a2 v1 h) fun o8 g5 =>
  rn o8
  (some ((-1000), g5))
  (fun a9 =>
  if v2 = 0 then
  (gk (g5.1 a9) 6 <|
  some (g5.2.2.1 a9 0, g5))
  else
  if v2 = 1 then
  (gk (g5.1 a9) 6 <|
  some (g5.2.2.1 a9 1, g5))
  else
  if v2 = 2 then
  (gk (g5.1 a9) 6 <|
  some (g5.2.2.1 a9 6, g5))
  else
  if v2 = 3 then
  (gk (g5.1 a9) 6 <|
  some (g5.2.2.1 a9 3, g5))
  else
  if v2 = 4 then
  (gk (g5.1 a9) 6 <|
  some (g5.2.2.1 a9 4, g5))
  else
  if v2 = 5 then
  (gk (g5.1 a9) 6 <|
  some (g5.2.2.1 a9 2, g5))
  else
  (some ((-1000), g5)))
section
variable {p : Program} {l : Launch} {e : Env} {s : State} {m : MethodId} {args : Array Value} {below : List Frame} {meth : Method} {c : Code} {D : va_G} {cA : Nat → ClassId} {h0 h9 : Hp}
set_option maxHeartbeats 4000000 in
set_option maxRecDepth 100000 in
theorem tX10_place_0  {r : Int32} (cx : CallFix p m c prog_1_method_10_code 4 s args tbG RX10) (hr : meth.sig.returnType = (Option.some FieldType.int)) (hlk : meth.locks = false)  (t0 : Nat) (v1 : Int32) (v2 : Int32) (h : Hp) (H : Heap) (locs : List Loc) (ls : Array Slot) (hB : hp_B D cA (hp_A h0) s h H locs) (hl : lv_has ls 4 [(0, .ref t0), (1, .int v1), (2, .int v2)]) (hf : fX10_place  t0 v1 v2 h = some (r, h9)) : W p l e rmX10_place s m args below meth c H locs 0 0 (MQ below (hp_Qi D cA h0 h9 r) args s 0 0 (hp_A h0)) (F0 m 0 ls []) := by
  obtain ⟨hx, hb, -⟩ := id cx
  unfold fX10_place at hf
  refine lv_aload_n hx hb dX10_place_0 rfl (lv_at hl 0 rfl) ?_
  obtain ⟨k1, hf⟩ := gk_ok hf
  obtain ⟨a2, q3, hf⟩ := bd_ok hf
  refine gf_X10_10 cx hB k1 q3 dX10_place_1 ?_
  refine lv_iload_n hx hb dX10_place_4 rfl (lv_at hl 1 rfl) ?_
  obtain ⟨k4, hf⟩ := gk_ok hf
  obtain ⟨o8, g5, m6, hf⟩ := b2_ok hf
  refine hp_cR0 (cl_X10_139 cx hB (cX2_at l D cA a2 v1 h _ g5 m6) k4 ⟨Nat.le_of_ble_eq_true rfl, Nat.le_of_ble_eq_true rfl⟩ rfl hl.1 rfl (Nat.le_of_ble_eq_true rfl) ⟨Nat.le_of_ble_eq_true rfl, Nat.le_of_ble_eq_true rfl⟩ dX10_place_5) rfl rfl hB (fun H locs hB => ?_)
  refine lq_astore_n (lv' := [(3, va_rf o8), (0, .ref t0), (1, .int v1), (2, .int v2)]) hx hb dX10_place_8 rfl hl (by decide) rfl (fun ls hl => ?_)
  refine lq_aload_n hx hb dX10_place_9 rfl (lv_at hl 0 rfl) ?_
  refine lq_ifnonnull (tgt := 17) hx hb dX10_place_10 (by decide) (fun eo => ?_) (fun a9 eo => ?_)
  · subst eo
    replace hf := rn_n hf
    refine lv_sipush (v := (-1000)) hx hb dX10_place_13 (by decide) ?_
    obtain ⟨rfl, rfl⟩ := rt_ok hf
    exact hp_iret cx hB hr hlk (Nat.le_of_ble_eq_true rfl) (Nat.le_of_ble_eq_true rfl) dX10_place_16
  · subst eo
    replace hf := rn_s hf
    refine lv_iload_n hx hb dX10_place_17 rfl (lv_at hl 3 rfl) ?_
    by_cases c10 : v2 = 0
    · replace hf := it_t c10 hf
      refine lv_tableIn (off := 38) (tgt := 56) hx hb dX10_place_18 (by rw [c10]; decide) (by rw [c10]; decide) (by rw [c10]; rfl) (by decide) ?_
      refine lv_aload_n hx hb dX10_place_56 rfl (lv_at hl 0 rfl) ?_
      obtain ⟨k11, hf⟩ := gk_ok hf
      refine gf_X10_142 cx hB k11 dX10_place_57 ?_
      obtain ⟨rfl, rfl⟩ := rt_ok hf
      exact hp_iret cx hB hr hlk (Nat.le_of_ble_eq_true rfl) (Nat.le_of_ble_eq_true rfl) dX10_place_60
    · replace hf := it_f c10 hf
      by_cases c12 : v2 = 1
      · replace hf := it_t c12 hf
        refine lv_tableIn (off := 43) (tgt := 61) hx hb dX10_place_18 (by rw [c12]; decide) (by rw [c12]; decide) (by rw [c12]; rfl) (by decide) ?_
        refine lv_aload_n hx hb dX10_place_61 rfl (lv_at hl 0 rfl) ?_
        obtain ⟨k13, hf⟩ := gk_ok hf
        refine gf_X10_145 cx hB k13 dX10_place_62 ?_
        obtain ⟨rfl, rfl⟩ := rt_ok hf
        exact hp_iret cx hB hr hlk (Nat.le_of_ble_eq_true rfl) (Nat.le_of_ble_eq_true rfl) dX10_place_65
      · replace hf := it_f c12 hf
        by_cases c14 : v2 = 2
        · replace hf := it_t c14 hf
          refine lv_tableIn (off := 48) (tgt := 66) hx hb dX10_place_18 (by rw [c14]; decide) (by rw [c14]; decide) (by rw [c14]; rfl) (by decide) ?_
          refine lv_aload_n hx hb dX10_place_66 rfl (lv_at hl 0 rfl) ?_
          obtain ⟨k15, hf⟩ := gk_ok hf
          refine gf_X10_94 cx hB k15 dX10_place_67 ?_
          obtain ⟨rfl, rfl⟩ := rt_ok hf
          exact hp_iret cx hB hr hlk (Nat.le_of_ble_eq_true rfl) (Nat.le_of_ble_eq_true rfl) dX10_place_70
        · replace hf := it_f c14 hf
          by_cases c16 : v2 = 3
          · replace hf := it_t c16 hf
            refine lv_tableIn (off := 53) (tgt := 71) hx hb dX10_place_18 (by rw [c16]; decide) (by rw [c16]; decide) (by rw [c16]; rfl) (by decide) ?_
            refine lv_aload_n hx hb dX10_place_71 rfl (lv_at hl 0 rfl) ?_
            obtain ⟨k17, hf⟩ := gk_ok hf
            refine gf_X10_146 cx hB k17 dX10_place_72 ?_
            obtain ⟨rfl, rfl⟩ := rt_ok hf
            exact hp_iret cx hB hr hlk (Nat.le_of_ble_eq_true rfl) (Nat.le_of_ble_eq_true rfl) dX10_place_75
          · replace hf := it_f c16 hf
            by_cases c18 : v2 = 4
            · replace hf := it_t c18 hf
              refine lv_tableIn (off := 58) (tgt := 76) hx hb dX10_place_18 (by rw [c18]; decide) (by rw [c18]; decide) (by rw [c18]; rfl) (by decide) ?_
              refine lv_aload_n hx hb dX10_place_76 rfl (lv_at hl 0 rfl) ?_
              obtain ⟨k19, hf⟩ := gk_ok hf
              refine gf_X10_147 cx hB k19 dX10_place_77 ?_
              obtain ⟨rfl, rfl⟩ := rt_ok hf
              exact hp_iret cx hB hr hlk (Nat.le_of_ble_eq_true rfl) (Nat.le_of_ble_eq_true rfl) dX10_place_80
            · replace hf := it_f c18 hf
              by_cases c20 : v2 = 5
              · replace hf := it_t c20 hf
                refine lv_tableIn (off := 63) (tgt := 81) hx hb dX10_place_18 (by rw [c20]; decide) (by rw [c20]; decide) (by rw [c20]; rfl) (by decide) ?_
                refine lv_aload_n hx hb dX10_place_81 rfl (lv_at hl 0 rfl) ?_
                obtain ⟨k21, hf⟩ := gk_ok hf
                refine gf_X10_150 cx hB k21 dX10_place_82 ?_
                obtain ⟨rfl, rfl⟩ := rt_ok hf
                exact hp_iret cx hB hr hlk (Nat.le_of_ble_eq_true rfl) (Nat.le_of_ble_eq_true rfl) dX10_place_85
              · replace hf := it_f c20 hf
                refine lv_tableOut (tgt := 86) hx hb dX10_place_18 (by have nc10 := lv_neT c10 (a := 0) rfl; have nc12 := lv_neT c12 (a := 1) rfl; have nc14 := lv_neT c14 (a := 2) rfl; have nc16 := lv_neT c16 (a := 3) rfl; have nc18 := lv_neT c18 (a := 4) rfl; have nc20 := lv_neT c20 (a := 5) rfl; omega) (by decide) ?_
                refine lv_sipush (v := (-1000)) hx hb dX10_place_86 (by decide) ?_
                obtain ⟨rfl, rfl⟩ := rt_ok hf
                exact hp_iret cx hB hr hlk (Nat.le_of_ble_eq_true rfl) (Nat.le_of_ble_eq_true rfl) dX10_place_89
end
set_option maxHeartbeats 4000000 in
set_option maxRecDepth 100000 in
theorem cX10_place (l : Launch) (D : va_G) (cA : Nat → ClassId) (t0 : Nat) (v1 : Int32) (v2 : Int32) (h : Hp) (r : Int32) (h9 : Hp) (hf : fX10_place t0 v1 v2 h = some (r, h9)) : hp_M l yX10_place prog_1_method_10_code 4 (Option.some FieldType.int) rmX10_place D cA h [.ref t0, .int v1, .int v2] (hp_Qi D cA h h9 r) := by
  refine Met.ofW (cc := prog_1_method_10_code) (maxL := 4) (ret := (Option.some FieldType.int)) (by decide) rfl ?_
  intro p e s m args below meth c s₁ B hml hv
  obtain ⟨rfl, hU⟩ := hv
  have hts := atoms_spec (ws := Cond.code yX10_place prog_1_method_10_code 4 (Option.some FieldType.int) :: tbG) B.pre
  have hl := lv_entry ([.ref t0, .int v1, .int v2]) (n := 4) (Nat.le_of_ble_eq_true rfl)
  rw [lg_entry_eq]
  generalize (lg_sl ([.ref t0, .int v1, .int v2]) ++ List.replicate (4 - (lg_sl ([.ref t0, .int v1, .int v2])).length) Slot.unset).toArray = ls at hl ⊢
  exact tX10_place_0 ⟨B.exec, B.bytes, hml, findClass_of_methodNamed B.named, fun w hw => hts w (List.mem_cons_of_mem _ hw)⟩ B.returns B.notSynchronized t0 v1 v2 h _ _ _ (hp_B.entry hU) hl hf
section
variable {p : Program} {l : Launch} {e : Env} {R : Room} {s : State} {m : MethodId} {args : Array Value} {below : List Frame} {meth : Method} {c : Code} {H : Heap} {locs : List Loc} {cells slots : Nat} {Q : State → Prop}
variable {cc : ByteArray} {pc nL : Nat} {ls : Array Slot} {rest : List Value} {D : va_G} {cA : Nat → ClassId} {A : Nat → Prop} {a : Nat} {h : Hp}
theorem gf_X10_153 (cx : CallFix p m c cc nL s args tbG RX10) (hB : hp_B D cA A s h H locs) (hka : h.1 a = 4) (hdg : decode cc pc = .ok (.getfield 153, 3)) (kk : W p l e R s m args below meth c H locs cells slots Q (F0 m (pc + 3) ls (.int (h.2.2.1 a 1) :: rest))) : W p l e R s m args below meth c H locs cells slots Q (F0 m pc ls (.ref a :: rest)) :=
  hp_getI cx hB (ci := 3) 1 rfl inX3 (by decide) rfl (by decide) rfl qw_342 hka hdg kk
end
abbrev yX10_lineOf : MethodName := ⟨"SpokenMenus", "lineOf", "(III)I"⟩
theorem dX10_lineOf_0 : decode prog_1_method_11_code 0 = .ok (.aload_n 0, 1) := by decide +kernel
theorem dX10_lineOf_1 : decode prog_1_method_11_code 1 = .ok (.getfield 10, 3) := by decide +kernel
theorem dX10_lineOf_4 : decode prog_1_method_11_code 4 = .ok (.iload_n 1, 1) := by decide +kernel
theorem dX10_lineOf_5 : decode prog_1_method_11_code 5 = .ok (.iload_n 2, 1) := by decide +kernel
theorem dX10_lineOf_6 : decode prog_1_method_11_code 6 = .ok (.invokevirtual 118, 3) := by decide +kernel
theorem dX10_lineOf_9 : decode prog_1_method_11_code 9 = .ok (.astore 4, 2) := by decide +kernel
theorem dX10_lineOf_11 : decode prog_1_method_11_code 11 = .ok (.aload 4, 2) := by decide +kernel
theorem dX10_lineOf_13 : decode prog_1_method_11_code 13 = .ok (.ifnonnull 7, 3) := by decide +kernel
theorem dX10_lineOf_16 : decode prog_1_method_11_code 16 = .ok (.sipush (-1000), 3) := by decide +kernel
theorem dX10_lineOf_19 : decode prog_1_method_11_code 19 = .ok (.ireturn, 1) := by decide +kernel
theorem dX10_lineOf_20 : decode prog_1_method_11_code 20 = .ok (.iload_n 3, 1) := by decide +kernel
theorem dX10_lineOf_21 : decode prog_1_method_11_code 21 = .ok (.tableswitch 55 0 3 #[31, 37, 43, 49], 31) := by decide +kernel
theorem dX10_lineOf_52 : decode prog_1_method_11_code 52 = .ok (.aload 4, 2) := by decide +kernel
theorem dX10_lineOf_54 : decode prog_1_method_11_code 54 = .ok (.getfield 126, 3) := by decide +kernel
theorem dX10_lineOf_57 : decode prog_1_method_11_code 57 = .ok (.ireturn, 1) := by decide +kernel
theorem dX10_lineOf_58 : decode prog_1_method_11_code 58 = .ok (.aload 4, 2) := by decide +kernel
theorem dX10_lineOf_60 : decode prog_1_method_11_code 60 = .ok (.getfield 153, 3) := by decide +kernel
theorem dX10_lineOf_63 : decode prog_1_method_11_code 63 = .ok (.ireturn, 1) := by decide +kernel
theorem dX10_lineOf_64 : decode prog_1_method_11_code 64 = .ok (.aload 4, 2) := by decide +kernel
theorem dX10_lineOf_66 : decode prog_1_method_11_code 66 = .ok (.getfield 129, 3) := by decide +kernel
theorem dX10_lineOf_69 : decode prog_1_method_11_code 69 = .ok (.ireturn, 1) := by decide +kernel
theorem dX10_lineOf_70 : decode prog_1_method_11_code 70 = .ok (.aload 4, 2) := by decide +kernel
theorem dX10_lineOf_72 : decode prog_1_method_11_code 72 = .ok (.getfield 132, 3) := by decide +kernel
theorem dX10_lineOf_75 : decode prog_1_method_11_code 75 = .ok (.ireturn, 1) := by decide +kernel
theorem dX10_lineOf_76 : decode prog_1_method_11_code 76 = .ok (.sipush (-1000), 3) := by decide +kernel
theorem dX10_lineOf_79 : decode prog_1_method_11_code 79 = .ok (.ireturn, 1) := by decide +kernel
abbrev rmX10_lineOf : Room := { frames := 3, cells := 0, slots := 0, locals := 66 }
def fX10_lineOf  (t0 : Nat) (v1 : Int32) (v2 : Int32) (v3 : Int32) (h : Hp) : Option (Int32 × Hp) :=
  gk (h.1 t0) 11 <|
  bd (h.2.2.2.1 t0 0) fun a2 =>
  gk (h.1 a2) 3 <|
  b2 (fX2_lineAt a2 v1 v2 h) fun o8 g5 =>
  rn o8
  (some ((-1000), g5))
  (fun a9 =>
  if v3 = 0 then
  (gk (g5.1 a9) 4 <|
  some (g5.2.2.1 a9 0, g5))
  else
  if v3 = 1 then
  (gk (g5.1 a9) 4 <|
  some (g5.2.2.1 a9 1, g5))
  else
  if v3 = 2 then
  (gk (g5.1 a9) 4 <|
  some (g5.2.2.1 a9 2, g5))
  else
  if v3 = 3 then
  (gk (g5.1 a9) 4 <|
  some (g5.2.2.1 a9 3, g5))
  else
  (some ((-1000), g5)))
section
variable {p : Program} {l : Launch} {e : Env} {s : State} {m : MethodId} {args : Array Value} {below : List Frame} {meth : Method} {c : Code} {D : va_G} {cA : Nat → ClassId} {h0 h9 : Hp}
set_option maxHeartbeats 4000000 in
set_option maxRecDepth 100000 in
theorem tX10_lineOf_0  {r : Int32} (cx : CallFix p m c prog_1_method_11_code 5 s args tbG RX10) (hr : meth.sig.returnType = (Option.some FieldType.int)) (hlk : meth.locks = false)  (t0 : Nat) (v1 : Int32) (v2 : Int32) (v3 : Int32) (h : Hp) (H : Heap) (locs : List Loc) (ls : Array Slot) (hB : hp_B D cA (hp_A h0) s h H locs) (hl : lv_has ls 5 [(0, .ref t0), (1, .int v1), (2, .int v2), (3, .int v3)]) (hf : fX10_lineOf  t0 v1 v2 v3 h = some (r, h9)) : W p l e rmX10_lineOf s m args below meth c H locs 0 0 (MQ below (hp_Qi D cA h0 h9 r) args s 0 0 (hp_A h0)) (F0 m 0 ls []) := by
  obtain ⟨hx, hb, -⟩ := id cx
  unfold fX10_lineOf at hf
  refine lv_aload_n hx hb dX10_lineOf_0 rfl (lv_at hl 0 rfl) ?_
  obtain ⟨k1, hf⟩ := gk_ok hf
  obtain ⟨a2, q3, hf⟩ := bd_ok hf
  refine gf_X10_10 cx hB k1 q3 dX10_lineOf_1 ?_
  refine lv_iload_n hx hb dX10_lineOf_4 rfl (lv_at hl 1 rfl) ?_
  refine lv_iload_n hx hb dX10_lineOf_5 rfl (lv_at hl 2 rfl) ?_
  obtain ⟨k4, hf⟩ := gk_ok hf
  obtain ⟨o8, g5, m6, hf⟩ := b2_ok hf
  refine hp_cR0 (cl_X10_118 cx hB (cX2_lineAt l D cA a2 v1 v2 h _ g5 m6) k4 ⟨Nat.le_of_ble_eq_true rfl, Nat.le_of_ble_eq_true rfl⟩ rfl hl.1 rfl (Nat.le_of_ble_eq_true rfl) ⟨Nat.le_of_ble_eq_true rfl, Nat.le_of_ble_eq_true rfl⟩ dX10_lineOf_6) rfl rfl hB (fun H locs hB => ?_)
  refine lq_astore (lv' := [(4, va_rf o8), (0, .ref t0), (1, .int v1), (2, .int v2), (3, .int v3)]) hx hb dX10_lineOf_9 hl (by decide) rfl (fun ls hl => ?_)
  refine lq_aload hx hb dX10_lineOf_11 (lv_at hl 0 rfl) ?_
  refine lq_ifnonnull (tgt := 20) hx hb dX10_lineOf_13 (by decide) (fun eo => ?_) (fun a9 eo => ?_)
  · subst eo
    replace hf := rn_n hf
    refine lv_sipush (v := (-1000)) hx hb dX10_lineOf_16 (by decide) ?_
    obtain ⟨rfl, rfl⟩ := rt_ok hf
    exact hp_iret cx hB hr hlk (Nat.le_of_ble_eq_true rfl) (Nat.le_of_ble_eq_true rfl) dX10_lineOf_19
  · subst eo
    replace hf := rn_s hf
    refine lv_iload_n hx hb dX10_lineOf_20 rfl (lv_at hl 4 rfl) ?_
    by_cases c10 : v3 = 0
    · replace hf := it_t c10 hf
      refine lv_tableIn (off := 31) (tgt := 52) hx hb dX10_lineOf_21 (by rw [c10]; decide) (by rw [c10]; decide) (by rw [c10]; rfl) (by decide) ?_
      refine lv_aload hx hb dX10_lineOf_52 (lv_at hl 0 rfl) ?_
      obtain ⟨k11, hf⟩ := gk_ok hf
      refine gf_X10_126 cx hB k11 dX10_lineOf_54 ?_
      obtain ⟨rfl, rfl⟩ := rt_ok hf
      exact hp_iret cx hB hr hlk (Nat.le_of_ble_eq_true rfl) (Nat.le_of_ble_eq_true rfl) dX10_lineOf_57
    · replace hf := it_f c10 hf
      by_cases c12 : v3 = 1
      · replace hf := it_t c12 hf
        refine lv_tableIn (off := 37) (tgt := 58) hx hb dX10_lineOf_21 (by rw [c12]; decide) (by rw [c12]; decide) (by rw [c12]; rfl) (by decide) ?_
        refine lv_aload hx hb dX10_lineOf_58 (lv_at hl 0 rfl) ?_
        obtain ⟨k13, hf⟩ := gk_ok hf
        refine gf_X10_153 cx hB k13 dX10_lineOf_60 ?_
        obtain ⟨rfl, rfl⟩ := rt_ok hf
        exact hp_iret cx hB hr hlk (Nat.le_of_ble_eq_true rfl) (Nat.le_of_ble_eq_true rfl) dX10_lineOf_63
      · replace hf := it_f c12 hf
        by_cases c14 : v3 = 2
        · replace hf := it_t c14 hf
          refine lv_tableIn (off := 43) (tgt := 64) hx hb dX10_lineOf_21 (by rw [c14]; decide) (by rw [c14]; decide) (by rw [c14]; rfl) (by decide) ?_
          refine lv_aload hx hb dX10_lineOf_64 (lv_at hl 0 rfl) ?_
          obtain ⟨k15, hf⟩ := gk_ok hf
          refine gf_X10_129 cx hB k15 dX10_lineOf_66 ?_
          obtain ⟨rfl, rfl⟩ := rt_ok hf
          exact hp_iret cx hB hr hlk (Nat.le_of_ble_eq_true rfl) (Nat.le_of_ble_eq_true rfl) dX10_lineOf_69
        · replace hf := it_f c14 hf
          by_cases c16 : v3 = 3
          · replace hf := it_t c16 hf
            refine lv_tableIn (off := 49) (tgt := 70) hx hb dX10_lineOf_21 (by rw [c16]; decide) (by rw [c16]; decide) (by rw [c16]; rfl) (by decide) ?_
            refine lv_aload hx hb dX10_lineOf_70 (lv_at hl 0 rfl) ?_
            obtain ⟨k17, hf⟩ := gk_ok hf
            refine gf_X10_132 cx hB k17 dX10_lineOf_72 ?_
            obtain ⟨rfl, rfl⟩ := rt_ok hf
            exact hp_iret cx hB hr hlk (Nat.le_of_ble_eq_true rfl) (Nat.le_of_ble_eq_true rfl) dX10_lineOf_75
          · replace hf := it_f c16 hf
            refine lv_tableOut (tgt := 76) hx hb dX10_lineOf_21 (by have nc10 := lv_neT c10 (a := 0) rfl; have nc12 := lv_neT c12 (a := 1) rfl; have nc14 := lv_neT c14 (a := 2) rfl; have nc16 := lv_neT c16 (a := 3) rfl; omega) (by decide) ?_
            refine lv_sipush (v := (-1000)) hx hb dX10_lineOf_76 (by decide) ?_
            obtain ⟨rfl, rfl⟩ := rt_ok hf
            exact hp_iret cx hB hr hlk (Nat.le_of_ble_eq_true rfl) (Nat.le_of_ble_eq_true rfl) dX10_lineOf_79
end
set_option maxHeartbeats 4000000 in
set_option maxRecDepth 100000 in
theorem cX10_lineOf (l : Launch) (D : va_G) (cA : Nat → ClassId) (t0 : Nat) (v1 : Int32) (v2 : Int32) (v3 : Int32) (h : Hp) (r : Int32) (h9 : Hp) (hf : fX10_lineOf t0 v1 v2 v3 h = some (r, h9)) : hp_M l yX10_lineOf prog_1_method_11_code 5 (Option.some FieldType.int) rmX10_lineOf D cA h [.ref t0, .int v1, .int v2, .int v3] (hp_Qi D cA h h9 r) := by
  refine Met.ofW (cc := prog_1_method_11_code) (maxL := 5) (ret := (Option.some FieldType.int)) (by decide) rfl ?_
  intro p e s m args below meth c s₁ B hml hv
  obtain ⟨rfl, hU⟩ := hv
  have hts := atoms_spec (ws := Cond.code yX10_lineOf prog_1_method_11_code 5 (Option.some FieldType.int) :: tbG) B.pre
  have hl := lv_entry ([.ref t0, .int v1, .int v2, .int v3]) (n := 5) (Nat.le_of_ble_eq_true rfl)
  rw [lg_entry_eq]
  generalize (lg_sl ([.ref t0, .int v1, .int v2, .int v3]) ++ List.replicate (5 - (lg_sl ([.ref t0, .int v1, .int v2, .int v3])).length) Slot.unset).toArray = ls at hl ⊢
  exact tX10_lineOf_0 ⟨B.exec, B.bytes, hml, findClass_of_methodNamed B.named, fun w hw => hts w (List.mem_cons_of_mem _ hw)⟩ B.returns B.notSynchronized t0 v1 v2 v3 h _ _ _ (hp_B.entry hU) hl hf
