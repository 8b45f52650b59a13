section
variable {p : Program} {l : Launch} {e : Env} {R : Room} {s : State} {m : MethodId} {args : Array Value} {below : List Frame} {meth : Method} {c : Code} {H : Heap} {locs : List Loc} {cells slots : Nat} {Q : State → Prop}
variable {cc : ByteArray} {pc nL : Nat} {ls : Array Slot} {rest : List Value} {D : va_G} {cA : Nat → ClassId} {A : Nat → Prop} {a : Nat} {h : Hp}
theorem gf_X5_9 (cx : CallFix p m c cc nL s args tbG RX5) (hB : hp_B D cA A s h H locs) (hka : h.1 a = 6) (hdg : decode cc pc = .ok (.getfield 9, 3)) (kk : W p l e R s m args below meth c H locs cells slots Q (F0 m (pc + 3) ls (.int (h.2.2.1 a 6) :: rest))) : W p l e R s m args below meth c H locs cells slots Q (F0 m pc ls (.ref a :: rest)) :=
  hp_getI cx hB (ci := 5) 6 rfl inX5 (by decide) rfl (by decide) rfl qw_270 hka hdg kk
theorem gf_X5_44 (cx : CallFix p m c cc nL s args tbG RX5) (hB : hp_B D cA A s h H locs) (hka : h.1 a = 6) {b : Nat} (ho : h.2.2.2.1 a 5 = some b) (hdg : decode cc pc = .ok (.getfield 44, 3)) (kk : W p l e R s m args below meth c H locs cells slots Q (F0 m (pc + 3) ls (.ref b :: rest))) : W p l e R s m args below meth c H locs cells slots Q (F0 m pc ls (.ref a :: rest)) :=
  hp_getR cx hB (ci := 5) 5 rfl inX5 (by decide) rfl (by decide) rfl qw_264 hka (o := some b) ho.symm hdg kk
end
abbrev yX5_addLine : MethodName := ⟨"SpokenMenus$Place", "addLine", "(LSpokenMenus$Line;)V"⟩
theorem dX5_addLine_0 : decode prog_7_method_2_code 0 = .ok (.aload_n 0, 1) := by decide +kernel
theorem dX5_addLine_1 : decode prog_7_method_2_code 1 = .ok (.getfield 9, 3) := by decide +kernel
theorem dX5_addLine_4 : decode prog_7_method_2_code 4 = .ok (.aload_n 0, 1) := by decide +kernel
theorem dX5_addLine_5 : decode prog_7_method_2_code 5 = .ok (.getfield 44, 3) := by decide +kernel
theorem dX5_addLine_8 : decode prog_7_method_2_code 8 = .ok (.arraylength, 1) := by decide +kernel
theorem dX5_addLine_9 : decode prog_7_method_2_code 9 = .ok (.if_icmp .ge 23, 3) := by decide +kernel
theorem dX5_addLine_12 : decode prog_7_method_2_code 12 = .ok (.aload_n 0, 1) := by decide +kernel
theorem dX5_addLine_13 : decode prog_7_method_2_code 13 = .ok (.getfield 44, 3) := by decide +kernel
theorem dX5_addLine_16 : decode prog_7_method_2_code 16 = .ok (.aload_n 0, 1) := by decide +kernel
theorem dX5_addLine_17 : decode prog_7_method_2_code 17 = .ok (.getfield 9, 3) := by decide +kernel
theorem dX5_addLine_20 : decode prog_7_method_2_code 20 = .ok (.aload_n 1, 1) := by decide +kernel
theorem dX5_addLine_21 : decode prog_7_method_2_code 21 = .ok (.aastore, 1) := by decide +kernel
theorem dX5_addLine_22 : decode prog_7_method_2_code 22 = .ok (.aload_n 0, 1) := by decide +kernel
theorem dX5_addLine_23 : decode prog_7_method_2_code 23 = .ok (.dup, 1) := by decide +kernel
theorem dX5_addLine_24 : decode prog_7_method_2_code 24 = .ok (.getfield 9, 3) := by decide +kernel
theorem dX5_addLine_27 : decode prog_7_method_2_code 27 = .ok (.iconst 1, 1) := by decide +kernel
theorem dX5_addLine_28 : decode prog_7_method_2_code 28 = .ok (.iadd, 1) := by decide +kernel
theorem dX5_addLine_29 : decode prog_7_method_2_code 29 = .ok (.putfield 9, 3) := by decide +kernel
theorem dX5_addLine_32 : decode prog_7_method_2_code 32 = .ok (.return_, 1) := by decide +kernel
abbrev rmX5_addLine : Room := { frames := 0, cells := 0, slots := 0, locals := 0 }
def fX5_addLine  (t0 : Nat) (w1 : Option Nat) (h : Hp) : Option (Unit × Hp) :=
  gk (h.1 t0) 6 <|
  bd (h.2.2.2.1 t0 5) fun a2 =>
  gk (h.1 a2) 16 <|
  if (Int32.ofNat (h.2.1 a2)) ≤ (h.2.2.1 t0 6) then
  (some ((), h))
  else
  (bd w1 fun a6 =>
  gk (h.1 a6) 4 <|
  gd (ix (h.2.2.1 t0 6) (h.2.1 a2)) <|
  nm (hp_sr h a2 (Int32.toNatClampNeg (h.2.2.1 t0 6)) (some a6)) fun g9 =>
  nm (hp_si g9 t0 6 ((g9.2.2.1 t0 6) + 1)) fun g11 =>
  some ((), g11))
section
variable {p : Program} {l : Launch} {e : Env} {s : State} {m : MethodId} {args : Array Value} {below : List Frame} {meth : Method} {c : Code} {D : va_G} {cA : Nat → ClassId} {h0 h9 : Hp}
set_option maxHeartbeats 4000000 in
set_option maxRecDepth 100000 in
theorem tX5_addLine_0  (cx : CallFix p m c prog_7_method_2_code 2 s args tbG RX5) (hr : meth.sig.returnType = none) (hlk : meth.locks = false)  (t0 : Nat) (w1 : Option Nat) (h : Hp) (H : Heap) (locs : List Loc) (ls : Array Slot) (hB : hp_B D cA (hp_A h0) s h H locs) (hl : lv_has ls 2 [(0, .ref t0), (1, va_rf w1)]) (hf : fX5_addLine  t0 w1 h = some ((), h9)) : W p l e rmX5_addLine s m args below meth c H locs 0 0 (MQ below (hp_Qv D cA h0 h9) args s 0 0 (hp_A h0)) (F0 m 0 ls []) := by
  obtain ⟨hx, hb, -⟩ := id cx
  unfold fX5_addLine at hf
  refine lv_aload_n hx hb dX5_addLine_0 rfl (lv_at hl 0 rfl) ?_
  obtain ⟨k1, hf⟩ := gk_ok hf
  refine gf_X5_9 cx hB k1 dX5_addLine_1 ?_
  refine lv_aload_n hx hb dX5_addLine_4 rfl (lv_at hl 0 rfl) ?_
  obtain ⟨a2, q3, hf⟩ := bd_ok hf
  refine gf_X5_44 cx hB k1 q3 dX5_addLine_5 ?_
  obtain ⟨k4, hf⟩ := gk_ok hf
  refine hp_alen cx hB 16 (.object RX3) (by decide) rfl k4 dX5_addLine_8 ?_
  refine lv_icmp_ge (tgt := 32) hx hb dX5_addLine_9 (by decide) (fun c5 => ?_) (fun c5 => ?_)
  · replace hf := it_t c5 hf
    obtain ⟨-, rfl⟩ := rt_ok hf
    exact hp_vret cx hB hr hlk (Nat.le_of_ble_eq_true rfl) (Nat.le_of_ble_eq_true rfl) dX5_addLine_32
  · replace hf := it_f c5 hf
    refine lv_aload_n hx hb dX5_addLine_12 rfl (lv_at hl 0 rfl) ?_
    refine gf_X5_44 cx hB k1 q3 dX5_addLine_13 ?_
    refine lv_aload_n hx hb dX5_addLine_16 rfl (lv_at hl 0 rfl) ?_
    refine gf_X5_9 cx hB k1 dX5_addLine_17 ?_
    refine lq_aload_n hx hb dX5_addLine_20 rfl (lv_at hl 1 rfl) ?_
    obtain ⟨a6, eo, hf⟩ := bd_ok hf
    subst eo
    obtain ⟨k7, hf⟩ := gk_ok hf
    obtain ⟨j8, hf⟩ := gd_ok hf
    obtain ⟨g9, eg9, hf⟩ := nm_ok hf
    refine hp_aast cx hB 16 3 (by decide) rfl rfl (by decide) k4 k7 j8 dX5_addLine_21 (fun H locs hB => ?_)
    rw [← eg9] at hB
    refine lv_aload_n hx hb dX5_addLine_22 rfl (lv_at hl 0 rfl) ?_
    refine lv_dup hx hb dX5_addLine_23 rfl ?_
    have k10 : g9.1 t0 = 6 := by rw [eg9]; exact k1
    refine gf_X5_9 cx hB k10 dX5_addLine_24 ?_
    refine lv_iconst (v := 1) hx hb dX5_addLine_27 (by decide) ?_
    refine lv_iadd hx hb dX5_addLine_28 ?_
    obtain ⟨g11, eg11, hf⟩ := nm_ok hf
    refine pf_X5_9 cx hB k10 dX5_addLine_29 (fun H locs hB => ?_)
    rw [← eg11] at hB
    obtain ⟨-, rfl⟩ := rt_ok hf
    exact hp_vret cx hB hr hlk (Nat.le_of_ble_eq_true rfl) (Nat.le_of_ble_eq_true rfl) dX5_addLine_32
end
set_option maxHeartbeats 4000000 in
set_option maxRecDepth 100000 in
theorem cX5_addLine (l : Launch) (D : va_G) (cA : Nat → ClassId) (t0 : Nat) (w1 : Option Nat) (h : Hp) (_u : Unit) (h9 : Hp) (hf : fX5_addLine t0 w1 h = some (_u, h9)) : hp_M l yX5_addLine prog_7_method_2_code 2 none rmX5_addLine D cA h [.ref t0, va_rf w1] (hp_Qv D cA h h9) := by
  refine Met.ofW (cc := prog_7_method_2_code) (maxL := 2) (ret := none) (by decide) rfl ?_
  intro p e s m args below meth c s₁ B hml hv
  obtain ⟨rfl, hU⟩ := hv
  have hts := atoms_spec (ws := Cond.code yX5_addLine prog_7_method_2_code 2 none :: tbG) B.pre
  have hl := lv_entry ([.ref t0, va_rf w1]) (n := 2) (by simp [lg_sl, va_rf_cat, cat_i, cat_r, cat_n])
  rw [show lv_args 0 ([.ref t0, va_rf w1]) = [(0, .ref t0), (1, va_rf w1)] by simp [lv_args, va_rf_cat, cat_i, cat_r, cat_n]] at hl
  rw [lg_entry_eq]
  generalize (lg_sl ([.ref t0, va_rf w1]) ++ List.replicate (2 - (lg_sl ([.ref t0, va_rf w1])).length) Slot.unset).toArray = ls at hl ⊢
  exact tX5_addLine_0 ⟨B.exec, B.bytes, hml, findClass_of_methodNamed B.named, fun w hw => hts w (List.mem_cons_of_mem _ hw)⟩ B.returns B.notSynchronized t0 w1 h _ _ _ (hp_B.entry hU) hl hf
section
variable {p : Program} {l : Launch} {e : Env} {R : Room} {s : State} {m : MethodId} {args : Array Value} {below : List Frame} {meth : Method} {c : Code} {H : Heap} {locs : List Loc} {cells slots : Nat} {Q : State → Prop}
variable {cc : ByteArray} {pc nL : Nat} {ls : Array Slot} {rest : List Value} {D : va_G} {cA : Nat → ClassId} {A : Nat → Prop} {a : Nat} {h : Hp}
theorem gf_X5_48 (cx : CallFix p m c cc nL s args tbG RX5) (hB : hp_B D cA A s h H locs) (hka : h.1 a = 4) (hdg : decode cc pc = .ok (.getfield 48, 3)) (kk : W p l e R s m args below meth c H locs cells slots Q (F0 m (pc + 3) ls (.int (h.2.2.1 a 1) :: rest))) : W p l e R s m args below meth c H locs cells slots Q (F0 m pc ls (.ref a :: rest)) :=
  hp_getI cx hB (ci := 3) 1 rfl inX3 (by decide) rfl (by decide) rfl qw_340 hka hdg kk
end
abbrev yX5_hasKey : MethodName := ⟨"SpokenMenus$Place", "hasKey", "(I)Z"⟩
theorem dX5_hasKey_0 : decode prog_7_method_3_code 0 = .ok (.iconst 0, 1) := by decide +kernel
theorem dX5_hasKey_1 : decode prog_7_method_3_code 1 = .ok (.istore_n 2, 1) := by decide +kernel
theorem dX5_hasKey_2 : decode prog_7_method_3_code 2 = .ok (.iload_n 2, 1) := by decide +kernel
theorem dX5_hasKey_3 : decode prog_7_method_3_code 3 = .ok (.aload_n 0, 1) := by decide +kernel
theorem dX5_hasKey_4 : decode prog_7_method_3_code 4 = .ok (.getfield 9, 3) := by decide +kernel
theorem dX5_hasKey_7 : decode prog_7_method_3_code 7 = .ok (.if_icmp .ge 24, 3) := by decide +kernel
theorem dX5_hasKey_10 : decode prog_7_method_3_code 10 = .ok (.aload_n 0, 1) := by decide +kernel
theorem dX5_hasKey_11 : decode prog_7_method_3_code 11 = .ok (.getfield 44, 3) := by decide +kernel
theorem dX5_hasKey_14 : decode prog_7_method_3_code 14 = .ok (.iload_n 2, 1) := by decide +kernel
theorem dX5_hasKey_15 : decode prog_7_method_3_code 15 = .ok (.aaload, 1) := by decide +kernel
theorem dX5_hasKey_16 : decode prog_7_method_3_code 16 = .ok (.getfield 48, 3) := by decide +kernel
theorem dX5_hasKey_19 : decode prog_7_method_3_code 19 = .ok (.iload_n 1, 1) := by decide +kernel
theorem dX5_hasKey_20 : decode prog_7_method_3_code 20 = .ok (.if_icmp .ne 5, 3) := by decide +kernel
theorem dX5_hasKey_23 : decode prog_7_method_3_code 23 = .ok (.iconst 1, 1) := by decide +kernel
theorem dX5_hasKey_24 : decode prog_7_method_3_code 24 = .ok (.ireturn, 1) := by decide +kernel
theorem dX5_hasKey_25 : decode prog_7_method_3_code 25 = .ok (.iinc 2 1, 3) := by decide +kernel
theorem dX5_hasKey_28 : decode prog_7_method_3_code 28 = .ok (.goto (-26), 3) := by decide +kernel
theorem dX5_hasKey_31 : decode prog_7_method_3_code 31 = .ok (.iconst 0, 1) := by decide +kernel
theorem dX5_hasKey_32 : decode prog_7_method_3_code 32 = .ok (.ireturn, 1) := by decide +kernel
abbrev rmX5_hasKey : Room := { frames := 0, cells := 0, slots := 0, locals := 0 }
def bX5_hasKey_2  (rc : Nat → Int32 → Int32 → Hp → Option (Int32 × Hp)) (t0 : Nat) (v1 : Int32) (v2 : Int32) (h : Hp) : Option (Int32 × Hp) :=
  gk (h.1 t0) 6 <|
  if (h.2.2.1 t0 6) ≤ v2 then
  (some (0, h))
  else
  (bd (h.2.2.2.1 t0 5) fun a3 =>
  gk (h.1 a3) 16 <|
  gd (ix v2 (h.2.1 a3)) <|
  bd (h.2.2.2.1 a3 (Int32.toNatClampNeg v2)) fun a7 =>
  gk (h.1 a7) 4 <|
  if (h.2.2.1 a7 1) = v1 then
  (some (1, h))
  else
  (nm (v2 + 1) fun x11 =>
  rc t0 v1 x11 h))
def fX5_hasKey_2  : Nat → Int32 → Int32 → Hp → Option (Int32 × Hp) := fx (bX5_hasKey_2 ) (fun _ _ _ _ => none) NF
def fX5_hasKey  (t0 : Nat) (v1 : Int32) (h : Hp) : Option (Int32 × Hp) :=
  fX5_hasKey_2  t0 v1 0 h
section
variable {p : Program} {l : Launch} {e : Env} {s : State} {m : MethodId} {args : Array Value} {below : List Frame} {meth : Method} {c : Code} {D : va_G} {cA : Nat → ClassId} {h0 h9 : Hp}
set_option maxHeartbeats 4000000 in
set_option maxRecDepth 100000 in
theorem tX5_hasKey_2  {r : Int32} (cx : CallFix p m c prog_7_method_3_code 3 s args tbG RX5) (hr : meth.sig.returnType = (Option.some FieldType.boolean)) (hlk : meth.locks = false)  (n : Nat) : ∀ (t0 : Nat) (v1 : Int32) (v2 : Int32) (h : Hp) (H : Heap) (locs : List Loc) (ls : Array Slot), hp_B D cA (hp_A h0) s h H locs → lv_has ls 3 [(0, .ref t0), (1, .int v1), (2, .int v2)] → fx (bX5_hasKey_2 ) (fun _ _ _ _ => none) n t0 v1 v2 h = some (r, h9) → W p l e rmX5_hasKey s m args below meth c H locs 0 0 (MQ below (hp_Qi D cA h0 h9 r) args s 0 0 (hp_A h0)) (F0 m 2 ls []) := by
  obtain ⟨hx, hb, -⟩ := id cx
  induction n with
  | zero => intro t0 v1 v2 h H locs ls hB hl hf; cases hf
  | succ n ih =>
    intro t0 v1 v2 h H locs ls hB hl hf
    replace hf : bX5_hasKey_2  (fx (bX5_hasKey_2 ) (fun _ _ _ _ => none) n) t0 v1 v2 h = some (r, h9) := hf
    unfold bX5_hasKey_2 at hf
    refine lv_iload_n hx hb dX5_hasKey_2 rfl (lv_at hl 2 rfl) ?_
    refine lv_aload_n hx hb dX5_hasKey_3 rfl (lv_at hl 0 rfl) ?_
    obtain ⟨k1, hf⟩ := gk_ok hf
    refine gf_X5_9 cx hB k1 dX5_hasKey_4 ?_
    refine lv_icmp_ge (tgt := 31) hx hb dX5_hasKey_7 (by decide) (fun c2 => ?_) (fun c2 => ?_)
    · replace hf := it_t c2 hf
      refine lv_iconst (v := 0) hx hb dX5_hasKey_31 (by decide) ?_
      obtain ⟨rfl, rfl⟩ := rt_ok hf
      exact hp_zret cx hB hr hlk (Nat.le_of_ble_eq_true rfl) (Nat.le_of_ble_eq_true rfl) rfl dX5_hasKey_32
    · replace hf := it_f c2 hf
      refine lv_aload_n hx hb dX5_hasKey_10 rfl (lv_at hl 0 rfl) ?_
      obtain ⟨a3, q4, hf⟩ := bd_ok hf
      refine gf_X5_44 cx hB k1 q4 dX5_hasKey_11 ?_
      refine lv_iload_n hx hb dX5_hasKey_14 rfl (lv_at hl 2 rfl) ?_
      obtain ⟨k5, hf⟩ := gk_ok hf
      obtain ⟨j6, hf⟩ := gd_ok hf
      obtain ⟨a7, q8, hf⟩ := bd_ok hf
      refine hp_aald cx hB 16 (.object RX3) (by decide) rfl rfl k5 j6 (o := some a7) q8.symm dX5_hasKey_15 ?_
      obtain ⟨k9, hf⟩ := gk_ok hf
      refine gf_X5_48 cx hB k9 dX5_hasKey_16 ?_
      refine lv_iload_n hx hb dX5_hasKey_19 rfl (lv_at hl 1 rfl) ?_
      refine lv_icmp_ne (tgt := 25) hx hb dX5_hasKey_20 (by decide) (fun c10 => ?_) (fun c10 => ?_)
      · replace hf := it_f c10 hf
        obtain ⟨x11, ex11, hf⟩ := nm_ok hf
        refine lv_iinc (v := x11) (lv' := [(2, .int x11), (0, .ref t0), (1, .int v1)]) hx hb dX5_hasKey_25 hl (k := 2) rfl (by rw [ex11]; rfl) (by decide) rfl (fun ls hl => ?_)
        refine lv_goto (tgt := 2) hx hb dX5_hasKey_28 (by decide) ?_
        exact ih t0 v1 x11 h _ _ _ hB (lv_sub hl [1, 2, 0] rfl) hf
      · replace hf := it_t c10 hf
        refine lv_iconst (v := 1) hx hb dX5_hasKey_23 (by decide) ?_
        obtain ⟨rfl, rfl⟩ := rt_ok hf
        exact hp_zret cx hB hr hlk (Nat.le_of_ble_eq_true rfl) (Nat.le_of_ble_eq_true rfl) rfl dX5_hasKey_24
set_option maxHeartbeats 4000000 in
set_option maxRecDepth 100000 in
theorem tX5_hasKey_0  {r : Int32} (cx : CallFix p m c prog_7_method_3_code 3 s args tbG RX5) (hr : meth.sig.returnType = (Option.some FieldType.boolean)) (hlk : meth.locks = false)  (t0 : Nat) (v1 : Int32) (h : Hp) (H : Heap) (locs : List Loc) (ls : Array Slot) (hB : hp_B D cA (hp_A h0) s h H locs) (hl : lv_has ls 3 [(0, .ref t0), (1, .int v1)]) (hf : fX5_hasKey  t0 v1 h = some (r, h9)) : W p l e rmX5_hasKey s m args below meth c H locs 0 0 (MQ below (hp_Qi D cA h0 h9 r) args s 0 0 (hp_A h0)) (F0 m 0 ls []) := by
  obtain ⟨hx, hb, -⟩ := id cx
  unfold fX5_hasKey at hf
  refine lv_iconst (v := 0) hx hb dX5_hasKey_0 (by decide) ?_
  refine lv_istore_n (lv' := [(2, .int 0), (0, .ref t0), (1, .int v1)]) hx hb dX5_hasKey_1 rfl hl (by decide) rfl (fun ls hl => ?_)
  exact tX5_hasKey_2 cx hr hlk  NF t0 v1 0 h _ _ _ hB (lv_sub hl [1, 2, 0] rfl) hf
end
set_option maxHeartbeats 4000000 in
set_option maxRecDepth 100000 in
theorem cX5_hasKey (l : Launch) (D : va_G) (cA : Nat → ClassId) (t0 : Nat) (v1 : Int32) (h : Hp) (r : Int32) (h9 : Hp) (hf : fX5_hasKey t0 v1 h = some (r, h9)) : hp_M l yX5_hasKey prog_7_method_3_code 3 (Option.some FieldType.boolean) rmX5_hasKey D cA h [.ref t0, .int v1] (hp_Qi D cA h h9 r) := by
  refine Met.ofW (cc := prog_7_method_3_code) (maxL := 3) (ret := (Option.some FieldType.boolean)) (by decide) rfl ?_
  intro p e s m args below meth c s₁ B hml hv
  obtain ⟨rfl, hU⟩ := hv
  have hts := atoms_spec (ws := Cond.code yX5_hasKey prog_7_method_3_code 3 (Option.some FieldType.boolean) :: tbG) B.pre
  have hl := lv_entry ([.ref t0, .int v1]) (n := 3) (Nat.le_of_ble_eq_true rfl)
  rw [lg_entry_eq]
  generalize (lg_sl ([.ref t0, .int v1]) ++ List.replicate (3 - (lg_sl ([.ref t0, .int v1])).length) Slot.unset).toArray = ls at hl ⊢
  exact tX5_hasKey_0 ⟨B.exec, B.bytes, hml, findClass_of_methodNamed B.named, fun w hw => hts w (List.mem_cons_of_mem _ hw)⟩ B.returns B.notSynchronized t0 v1 h _ _ _ (hp_B.entry hU) hl hf
section
variable {p : Program} {l : Launch} {e : Env} {R : Room} {s : State} {m : MethodId} {args : Array Value} {below : List Frame} {meth : Method} {c : Code} {H : Heap} {locs : List Loc} {cells slots : Nat} {Q : State → Prop}
variable {cc : ByteArray} {pc nL : Nat} {ls : Array Slot} {rest : List Value} {D : va_G} {cA : Nat → ClassId} {A : Nat → Prop} {a : Nat} {h : Hp}
theorem cl_X5_51 {As st0 : List Value} {b : Nat} {Qc : Array Value → State → Outcome → State → Prop} (cx : CallFix p m c cc nL s args tbG RX5) (hB : hp_B D cA A s h H locs) (hM : hp_M l yX3_speaksOf prog_5_method_2_code 2 (Option.some FieldType.boolean) rmX3_speaksOf D cA h (.ref b :: As) Qc) (hkb : h.1 b = 4) (hR : rmX3_speaksOf.frames + 1 ≤ R.frames ∧ 8 + (2 + 11) + rmX3_speaksOf.locals ≤ R.locals) (hn : As.length = 1) (hls : ls.size = nL) (hst : st0 = As.reverse ++ .ref b :: rest) (hW : (rest.map fun v => v.category).sum ≤ 8) (hf : cells + rmX3_speaksOf.cells ≤ R.cells ∧ slots + rmX3_speaksOf.slots ≤ R.slots) (hdg : decode cc pc = .ok (.invokevirtual 51, 3)) :
    va_Run p l e R s m args below meth c H locs cells slots rmX3_speaksOf.cells rmX3_speaksOf.slots (F0 m pc ls st0) rest (Qc (Value.ref b :: As).toArray) (hp_A h) :=
  hp_runV cx hB hM (ci := 3) rfl (by decide) hkb qw_537 qw_534 qw_535 qw_536 qw_12 (by decide +kernel) hR hn hls hst hW hf hdg
end
abbrev yX5_firstLineFor : MethodName := ⟨"SpokenMenus$Place", "firstLineFor", "(I)I"⟩
theorem dX5_firstLineFor_0 : decode prog_7_method_4_code 0 = .ok (.iconst 0, 1) := by decide +kernel
theorem dX5_firstLineFor_1 : decode prog_7_method_4_code 1 = .ok (.istore_n 2, 1) := by decide +kernel
theorem dX5_firstLineFor_2 : decode prog_7_method_4_code 2 = .ok (.iload_n 2, 1) := by decide +kernel
theorem dX5_firstLineFor_3 : decode prog_7_method_4_code 3 = .ok (.aload_n 0, 1) := by decide +kernel
theorem dX5_firstLineFor_4 : decode prog_7_method_4_code 4 = .ok (.getfield 9, 3) := by decide +kernel
theorem dX5_firstLineFor_7 : decode prog_7_method_4_code 7 = .ok (.if_icmp .ge 24, 3) := by decide +kernel
theorem dX5_firstLineFor_10 : decode prog_7_method_4_code 10 = .ok (.aload_n 0, 1) := by decide +kernel
theorem dX5_firstLineFor_11 : decode prog_7_method_4_code 11 = .ok (.getfield 44, 3) := by decide +kernel
theorem dX5_firstLineFor_14 : decode prog_7_method_4_code 14 = .ok (.iload_n 2, 1) := by decide +kernel
theorem dX5_firstLineFor_15 : decode prog_7_method_4_code 15 = .ok (.aaload, 1) := by decide +kernel
theorem dX5_firstLineFor_16 : decode prog_7_method_4_code 16 = .ok (.iload_n 1, 1) := by decide +kernel
theorem dX5_firstLineFor_17 : decode prog_7_method_4_code 17 = .ok (.invokevirtual 51, 3) := by decide +kernel
theorem dX5_firstLineFor_20 : decode prog_7_method_4_code 20 = .ok (.ifCond .eq 5, 3) := by decide +kernel
theorem dX5_firstLineFor_23 : decode prog_7_method_4_code 23 = .ok (.iload_n 2, 1) := by decide +kernel
theorem dX5_firstLineFor_24 : decode prog_7_method_4_code 24 = .ok (.ireturn, 1) := by decide +kernel
theorem dX5_firstLineFor_25 : decode prog_7_method_4_code 25 = .ok (.iinc 2 1, 3) := by decide +kernel
theorem dX5_firstLineFor_28 : decode prog_7_method_4_code 28 = .ok (.goto (-26), 3) := by decide +kernel
theorem dX5_firstLineFor_31 : decode prog_7_method_4_code 31 = .ok (.iconst (-1), 1) := by decide +kernel
theorem dX5_firstLineFor_32 : decode prog_7_method_4_code 32 = .ok (.ireturn, 1) := by decide +kernel
abbrev rmX5_firstLineFor : Room := { frames := 1, cells := 0, slots := 0, locals := 21 }
def bX5_firstLineFor_2  (rc : Nat → Int32 → Int32 → Hp → Option (Int32 × Hp)) (t0 : Nat) (v1 : Int32) (v2 : Int32) (h : Hp) : Option (Int32 × Hp) :=
  gk (h.1 t0) 6 <|
  if (h.2.2.1 t0 6) ≤ v2 then
  (some ((-1), h))
  else
  (bd (h.2.2.2.1 t0 5) fun a3 =>
  gk (h.1 a3) 16 <|
  gd (ix v2 (h.2.1 a3)) <|
  bd (h.2.2.2.1 a3 (Int32.toNatClampNeg v2)) fun a7 =>
  gk (h.1 a7) 4 <|
  b2 (fX3_speaksOf a7 v1 h) fun r12 g10 =>
  if r12 = 0 then
  (nm (v2 + 1) fun x15 =>
  rc t0 v1 x15 g10)
  else
  (some (v2, g10)))
def fX5_firstLineFor_2  : Nat → Int32 → Int32 → Hp → Option (Int32 × Hp) := fx (bX5_firstLineFor_2 ) (fun _ _ _ _ => none) NF
def fX5_firstLineFor  (t0 : Nat) (v1 : Int32) (h : Hp) : Option (Int32 × Hp) :=
  fX5_firstLineFor_2  t0 v1 0 h
section
variable {p : Program} {l : Launch} {e : Env} {s : State} {m : MethodId} {args : Array Value} {below : List Frame} {meth : Method} {c : Code} {D : va_G} {cA : Nat → ClassId} {h0 h9 : Hp}
set_option maxHeartbeats 4000000 in
set_option maxRecDepth 100000 in
theorem tX5_firstLineFor_2  {r : Int32} (cx : CallFix p m c prog_7_method_4_code 3 s args tbG RX5) (hr : meth.sig.returnType = (Option.some FieldType.int)) (hlk : meth.locks = false)  (n : Nat) : ∀ (t0 : Nat) (v1 : Int32) (v2 : Int32) (h : Hp) (H : Heap) (locs : List Loc) (ls : Array Slot), hp_B D cA (hp_A h0) s h H locs → lv_has ls 3 [(0, .ref t0), (1, .int v1), (2, .int v2)] → fx (bX5_firstLineFor_2 ) (fun _ _ _ _ => none) n t0 v1 v2 h = some (r, h9) → W p l e rmX5_firstLineFor s m args below meth c H locs 0 0 (MQ below (hp_Qi D cA h0 h9 r) args s 0 0 (hp_A h0)) (F0 m 2 ls []) := by
  obtain ⟨hx, hb, -⟩ := id cx
  induction n with
  | zero => intro t0 v1 v2 h H locs ls hB hl hf; cases hf
  | succ n ih =>
    intro t0 v1 v2 h H locs ls hB hl hf
    replace hf : bX5_firstLineFor_2  (fx (bX5_firstLineFor_2 ) (fun _ _ _ _ => none) n) t0 v1 v2 h = some (r, h9) := hf
    unfold bX5_firstLineFor_2 at hf
    refine lv_iload_n hx hb dX5_firstLineFor_2 rfl (lv_at hl 2 rfl) ?_
    refine lv_aload_n hx hb dX5_firstLineFor_3 rfl (lv_at hl 0 rfl) ?_
    obtain ⟨k1, hf⟩ := gk_ok hf
    refine gf_X5_9 cx hB k1 dX5_firstLineFor_4 ?_
    refine lv_icmp_ge (tgt := 31) hx hb dX5_firstLineFor_7 (by decide) (fun c2 => ?_) (fun c2 => ?_)
    · replace hf := it_t c2 hf
      refine lv_iconst (v := (-1)) hx hb dX5_firstLineFor_31 (by decide) ?_
      obtain ⟨rfl, rfl⟩ := rt_ok hf
      exact hp_iret cx hB hr hlk (Nat.le_of_ble_eq_true rfl) (Nat.le_of_ble_eq_true rfl) dX5_firstLineFor_32
    · replace hf := it_f c2 hf
      refine lv_aload_n hx hb dX5_firstLineFor_10 rfl (lv_at hl 0 rfl) ?_
      obtain ⟨a3, q4, hf⟩ := bd_ok hf
      refine gf_X5_44 cx hB k1 q4 dX5_firstLineFor_11 ?_
      refine lv_iload_n hx hb dX5_firstLineFor_14 rfl (lv_at hl 2 rfl) ?_
      obtain ⟨k5, hf⟩ := gk_ok hf
      obtain ⟨j6, hf⟩ := gd_ok hf
      obtain ⟨a7, q8, hf⟩ := bd_ok hf
      refine hp_aald cx hB 16 (.object RX3) (by decide) rfl rfl k5 j6 (o := some a7) q8.symm dX5_firstLineFor_15 ?_
      refine lv_iload_n hx hb dX5_firstLineFor_16 rfl (lv_at hl 1 rfl) ?_
      obtain ⟨k9, hf⟩ := gk_ok hf
      obtain ⟨r12, g10, m11, hf⟩ := b2_ok hf
      refine hp_cI0 (cl_X5_51 cx hB (cX3_speaksOf l D cA a7 v1 h _ g10 m11) k9 ⟨Nat.le_of_ble_eq_true rfl, Nat.le_of_ble_eq_true rfl⟩ rfl hl.1 rfl (Nat.le_of_ble_eq_true rfl) ⟨Nat.le_of_ble_eq_true rfl, Nat.le_of_ble_eq_true rfl⟩ dX5_firstLineFor_17) rfl rfl hB (fun H locs hB => ?_)
      refine lv_if_eq (tgt := 25) hx hb dX5_firstLineFor_20 (by decide) (fun c14 => ?_) (fun c14 => ?_)
      · replace hf := it_t c14 hf
        obtain ⟨x15, ex15, hf⟩ := nm_ok hf
        refine lv_iinc (v := x15) (lv' := [(2, .int x15), (0, .ref t0), (1, .int v1)]) hx hb dX5_firstLineFor_25 hl (k := 2) rfl (by rw [ex15]; rfl) (by decide) rfl (fun ls hl => ?_)
        refine lv_goto (tgt := 2) hx hb dX5_firstLineFor_28 (by decide) ?_
        exact ih t0 v1 x15 g10 _ _ _ hB (lv_sub hl [1, 2, 0] rfl) hf
      · replace hf := it_f c14 hf
        refine lv_iload_n hx hb dX5_firstLineFor_23 rfl (lv_at hl 2 rfl) ?_
        obtain ⟨rfl, rfl⟩ := rt_ok hf
        exact hp_iret cx hB hr hlk (Nat.le_of_ble_eq_true rfl) (Nat.le_of_ble_eq_true rfl) dX5_firstLineFor_24
set_option maxHeartbeats 4000000 in
set_option maxRecDepth 100000 in
theorem tX5_firstLineFor_0  {r : Int32} (cx : CallFix p m c prog_7_method_4_code 3 s args tbG RX5) (hr : meth.sig.returnType = (Option.some FieldType.int)) (hlk : meth.locks = false)  (t0 : Nat) (v1 : Int32) (h : Hp) (H : Heap) (locs : List Loc) (ls : Array Slot) (hB : hp_B D cA (hp_A h0) s h H locs) (hl : lv_has ls 3 [(0, .ref t0), (1, .int v1)]) (hf : fX5_firstLineFor  t0 v1 h = some (r, h9)) : W p l e rmX5_firstLineFor s m args below meth c H locs 0 0 (MQ below (hp_Qi D cA h0 h9 r) args s 0 0 (hp_A h0)) (F0 m 0 ls []) := by
  obtain ⟨hx, hb, -⟩ := id cx
  unfold fX5_firstLineFor at hf
  refine lv_iconst (v := 0) hx hb dX5_firstLineFor_0 (by decide) ?_
  refine lv_istore_n (lv' := [(2, .int 0), (0, .ref t0), (1, .int v1)]) hx hb dX5_firstLineFor_1 rfl hl (by decide) rfl (fun ls hl => ?_)
  exact tX5_firstLineFor_2 cx hr hlk  NF t0 v1 0 h _ _ _ hB (lv_sub hl [1, 2, 0] rfl) hf
end
set_option maxHeartbeats 4000000 in
set_option maxRecDepth 100000 in
theorem cX5_firstLineFor (l : Launch) (D : va_G) (cA : Nat → ClassId) (t0 : Nat) (v1 : Int32) (h : Hp) (r : Int32) (h9 : Hp) (hf : fX5_firstLineFor t0 v1 h = some (r, h9)) : hp_M l yX5_firstLineFor prog_7_method_4_code 3 (Option.some FieldType.int) rmX5_firstLineFor D cA h [.ref t0, .int v1] (hp_Qi D cA h h9 r) := by
  refine Met.ofW (cc := prog_7_method_4_code) (maxL := 3) (ret := (Option.some FieldType.int)) (by decide) rfl ?_
  intro p e s m args below meth c s₁ B hml hv
  obtain ⟨rfl, hU⟩ := hv
  have hts := atoms_spec (ws := Cond.code yX5_firstLineFor prog_7_method_4_code 3 (Option.some FieldType.int) :: tbG) B.pre
  have hl := lv_entry ([.ref t0, .int v1]) (n := 3) (Nat.le_of_ble_eq_true rfl)
  rw [lg_entry_eq]
  generalize (lg_sl ([.ref t0, .int v1]) ++ List.replicate (3 - (lg_sl ([.ref t0, .int v1])).length) Slot.unset).toArray = ls at hl ⊢
  exact tX5_firstLineFor_0 ⟨B.exec, B.bytes, hml, findClass_of_methodNamed B.named, fun w hw => hts w (List.mem_cons_of_mem _ hw)⟩ B.returns B.notSynchronized t0 v1 h _ _ _ (hp_B.entry hU) hl hf
section
variable {p : Program} {l : Launch} {e : Env} {R : Room} {s : State} {m : MethodId} {args : Array Value} {below : List Frame} {meth : Method} {c : Code} {H : Heap} {locs : List Loc} {cells slots : Nat} {Q : State → Prop}
variable {cc : ByteArray} {pc nL : Nat} {ls : Array Slot} {rest : List Value} {D : va_G} {cA : Nat → ClassId} {A : Nat → Prop} {a : Nat} {h : Hp}
theorem gf_X5_55 (cx : CallFix p m c cc nL s args tbG RX5) (hB : hp_B D cA A s h H locs) (hka : h.1 a = 4) (hdg : decode cc pc = .ok (.getfield 55, 3)) (kk : W p l e R s m args below meth c H locs cells slots Q (F0 m (pc + 3) ls (.int (h.2.2.1 a 0) :: rest))) : W p l e R s m args below meth c H locs cells slots Q (F0 m pc ls (.ref a :: rest)) :=
  hp_getI cx hB (ci := 3) 0 rfl inX3 (by decide) rfl (by decide) rfl qw_336 hka hdg kk
end
abbrev yX5_ticksOfLines : MethodName := ⟨"SpokenMenus$Place", "ticksOfLines", "(I)I"⟩
theorem dX5_ticksOfLines_0 : decode prog_7_method_5_code 0 = .ok (.iconst 0, 1) := by decide +kernel
theorem dX5_ticksOfLines_1 : decode prog_7_method_5_code 1 = .ok (.istore_n 2, 1) := by decide +kernel
theorem dX5_ticksOfLines_2 : decode prog_7_method_5_code 2 = .ok (.iconst 0, 1) := by decide +kernel
theorem dX5_ticksOfLines_3 : decode prog_7_method_5_code 3 = .ok (.istore_n 3, 1) := by decide +kernel
theorem dX5_ticksOfLines_4 : decode prog_7_method_5_code 4 = .ok (.iload_n 3, 1) := by decide +kernel
theorem dX5_ticksOfLines_5 : decode prog_7_method_5_code 5 = .ok (.iload_n 1, 1) := by decide +kernel
theorem dX5_ticksOfLines_6 : decode prog_7_method_5_code 6 = .ok (.if_icmp .ge 29, 3) := by decide +kernel
theorem dX5_ticksOfLines_9 : decode prog_7_method_5_code 9 = .ok (.iload_n 3, 1) := by decide +kernel
theorem dX5_ticksOfLines_10 : decode prog_7_method_5_code 10 = .ok (.aload_n 0, 1) := by decide +kernel
theorem dX5_ticksOfLines_11 : decode prog_7_method_5_code 11 = .ok (.getfield 9, 3) := by decide +kernel
theorem dX5_ticksOfLines_14 : decode prog_7_method_5_code 14 = .ok (.if_icmp .ge 21, 3) := by decide +kernel
theorem dX5_ticksOfLines_17 : decode prog_7_method_5_code 17 = .ok (.iload_n 2, 1) := by decide +kernel
theorem dX5_ticksOfLines_18 : decode prog_7_method_5_code 18 = .ok (.aload_n 0, 1) := by decide +kernel
theorem dX5_ticksOfLines_19 : decode prog_7_method_5_code 19 = .ok (.getfield 44, 3) := by decide +kernel
theorem dX5_ticksOfLines_22 : decode prog_7_method_5_code 22 = .ok (.iload_n 3, 1) := by decide +kernel
theorem dX5_ticksOfLines_23 : decode prog_7_method_5_code 23 = .ok (.aaload, 1) := by decide +kernel
theorem dX5_ticksOfLines_24 : decode prog_7_method_5_code 24 = .ok (.getfield 55, 3) := by decide +kernel
theorem dX5_ticksOfLines_27 : decode prog_7_method_5_code 27 = .ok (.iadd, 1) := by decide +kernel
theorem dX5_ticksOfLines_28 : decode prog_7_method_5_code 28 = .ok (.istore_n 2, 1) := by decide +kernel
theorem dX5_ticksOfLines_29 : decode prog_7_method_5_code 29 = .ok (.iinc 3 1, 3) := by decide +kernel
theorem dX5_ticksOfLines_32 : decode prog_7_method_5_code 32 = .ok (.goto (-28), 3) := by decide +kernel
theorem dX5_ticksOfLines_35 : decode prog_7_method_5_code 35 = .ok (.iload_n 2, 1) := by decide +kernel
theorem dX5_ticksOfLines_36 : decode prog_7_method_5_code 36 = .ok (.ireturn, 1) := by decide +kernel
abbrev rmX5_ticksOfLines : Room := { frames := 0, cells := 0, slots := 0, locals := 0 }
def bX5_ticksOfLines_4  (rc : Nat → Int32 → Int32 → Int32 → Hp → Option (Int32 × Hp)) (t0 : Nat) (v1 : Int32) (v2 : Int32) (v3 : Int32) (h : Hp) : Option (Int32 × Hp) :=
  if v1 ≤ v3 then
  (some (v2, h))
  else
  (gk (h.1 t0) 6 <|
  if (h.2.2.1 t0 6) ≤ v3 then
  (some (v2, h))
  else
  (bd (h.2.2.2.1 t0 5) fun a4 =>
  gk (h.1 a4) 16 <|
  gd (ix v3 (h.2.1 a4)) <|
  bd (h.2.2.2.1 a4 (Int32.toNatClampNeg v3)) fun a8 =>
  gk (h.1 a8) 4 <|
  nm (v2 + (h.2.2.1 a8 0)) fun x11 =>
  nm (v3 + 1) fun x12 =>
  rc t0 v1 x11 x12 h))
def fX5_ticksOfLines_4  : Nat → Int32 → Int32 → Int32 → Hp → Option (Int32 × Hp) := fx (bX5_ticksOfLines_4 ) (fun _ _ _ _ _ => none) NF
def fX5_ticksOfLines  (t0 : Nat) (v1 : Int32) (h : Hp) : Option (Int32 × Hp) :=
  fX5_ticksOfLines_4  t0 v1 0 0 h
section
variable {p : Program} {l : Launch} {e : Env} {s : State} {m : MethodId} {args : Array Value} {below : List Frame} {meth : Method} {c : Code} {D : va_G} {cA : Nat → ClassId} {h0 h9 : Hp}
set_option maxHeartbeats 4000000 in
set_option maxRecDepth 100000 in
theorem tX5_ticksOfLines_4  {r : Int32} (cx : CallFix p m c prog_7_method_5_code 4 s args tbG RX5) (hr : meth.sig.returnType = (Option.some FieldType.int)) (hlk : meth.locks = false)  (n : Nat) : ∀ (t0 : Nat) (v1 : Int32) (v2 : Int32) (v3 : Int32) (h : Hp) (H : Heap) (locs : List Loc) (ls : Array Slot), hp_B D cA (hp_A h0) s h H locs → lv_has ls 4 [(0, .ref t0), (1, .int v1), (2, .int v2), (3, .int v3)] → fx (bX5_ticksOfLines_4 ) (fun _ _ _ _ _ => none) n t0 v1 v2 v3 h = some (r, h9) → W p l e rmX5_ticksOfLines s m args below meth c H locs 0 0 (MQ below (hp_Qi D cA h0 h9 r) args s 0 0 (hp_A h0)) (F0 m 4 ls []) := by
  obtain ⟨hx, hb, -⟩ := id cx
  induction n with
  | zero => intro t0 v1 v2 v3 h H locs ls hB hl hf; cases hf
  | succ n ih =>
    intro t0 v1 v2 v3 h H locs ls hB hl hf
    replace hf : bX5_ticksOfLines_4  (fx (bX5_ticksOfLines_4 ) (fun _ _ _ _ _ => none) n) t0 v1 v2 v3 h = some (r, h9) := hf
    unfold bX5_ticksOfLines_4 at hf
    refine lv_iload_n hx hb dX5_ticksOfLines_4 rfl (lv_at hl 3 rfl) ?_
    refine lv_iload_n hx hb dX5_ticksOfLines_5 rfl (lv_at hl 1 rfl) ?_
    refine lv_icmp_ge (tgt := 35) hx hb dX5_ticksOfLines_6 (by decide) (fun c1 => ?_) (fun c1 => ?_)
    · replace hf := it_t c1 hf
      refine lv_iload_n hx hb dX5_ticksOfLines_35 rfl (lv_at hl 2 rfl) ?_
      obtain ⟨rfl, rfl⟩ := rt_ok hf
      exact hp_iret cx hB hr hlk (Nat.le_of_ble_eq_true rfl) (Nat.le_of_ble_eq_true rfl) dX5_ticksOfLines_36
    · replace hf := it_f c1 hf
      refine lv_iload_n hx hb dX5_ticksOfLines_9 rfl (lv_at hl 3 rfl) ?_
      refine lv_aload_n hx hb dX5_ticksOfLines_10 rfl (lv_at hl 0 rfl) ?_
      obtain ⟨k2, hf⟩ := gk_ok hf
      refine gf_X5_9 cx hB k2 dX5_ticksOfLines_11 ?_
      refine lv_icmp_ge (tgt := 35) hx hb dX5_ticksOfLines_14 (by decide) (fun c3 => ?_) (fun c3 => ?_)
      · replace hf := it_t c3 hf
        refine lv_iload_n hx hb dX5_ticksOfLines_35 rfl (lv_at hl 2 rfl) ?_
        obtain ⟨rfl, rfl⟩ := rt_ok hf
        exact hp_iret cx hB hr hlk (Nat.le_of_ble_eq_true rfl) (Nat.le_of_ble_eq_true rfl) dX5_ticksOfLines_36
      · replace hf := it_f c3 hf
        refine lv_iload_n hx hb dX5_ticksOfLines_17 rfl (lv_at hl 2 rfl) ?_
        refine lv_aload_n hx hb dX5_ticksOfLines_18 rfl (lv_at hl 0 rfl) ?_
        obtain ⟨a4, q5, hf⟩ := bd_ok hf
        refine gf_X5_44 cx hB k2 q5 dX5_ticksOfLines_19 ?_
        refine lv_iload_n hx hb dX5_ticksOfLines_22 rfl (lv_at hl 3 rfl) ?_
        obtain ⟨k6, hf⟩ := gk_ok hf
        obtain ⟨j7, hf⟩ := gd_ok hf
        obtain ⟨a8, q9, hf⟩ := bd_ok hf
        refine hp_aald cx hB 16 (.object RX3) (by decide) rfl rfl k6 j7 (o := some a8) q9.symm dX5_ticksOfLines_23 ?_
        obtain ⟨k10, hf⟩ := gk_ok hf
        refine gf_X5_55 cx hB k10 dX5_ticksOfLines_24 ?_
        refine lv_iadd hx hb dX5_ticksOfLines_27 ?_
        obtain ⟨x11, ex11, hf⟩ := nm_ok hf
        refine lv_ren ex11 ?_
        refine lv_istore_n (lv' := [(2, .int x11), (0, .ref t0), (1, .int v1), (3, .int v3)]) hx hb dX5_ticksOfLines_28 rfl hl (by decide) rfl (fun ls hl => ?_)
        obtain ⟨x12, ex12, hf⟩ := nm_ok hf
        refine lv_iinc (v := x12) (lv' := [(3, .int x12), (2, .int x11), (0, .ref t0), (1, .int v1)]) hx hb dX5_ticksOfLines_29 hl (k := 3) rfl (by rw [ex12]; rfl) (by decide) rfl (fun ls hl => ?_)
        refine lv_goto (tgt := 4) hx hb dX5_ticksOfLines_32 (by decide) ?_
        exact ih t0 v1 x11 x12 h _ _ _ hB (lv_sub hl [2, 3, 1, 0] rfl) hf
set_option maxHeartbeats 4000000 in
set_option maxRecDepth 100000 in
theorem tX5_ticksOfLines_0  {r : Int32} (cx : CallFix p m c prog_7_method_5_code 4 s args tbG RX5) (hr : meth.sig.returnType = (Option.some FieldType.int)) (hlk : meth.locks = false)  (t0 : Nat) (v1 : Int32) (h : Hp) (H : Heap) (locs : List Loc) (ls : Array Slot) (hB : hp_B D cA (hp_A h0) s h H locs) (hl : lv_has ls 4 [(0, .ref t0), (1, .int v1)]) (hf : fX5_ticksOfLines  t0 v1 h = some (r, h9)) : W p l e rmX5_ticksOfLines s m args below meth c H locs 0 0 (MQ below (hp_Qi D cA h0 h9 r) args s 0 0 (hp_A h0)) (F0 m 0 ls []) := by
  obtain ⟨hx, hb, -⟩ := id cx
  unfold fX5_ticksOfLines at hf
  refine lv_iconst (v := 0) hx hb dX5_ticksOfLines_0 (by decide) ?_
  refine lv_istore_n (lv' := [(2, .int 0), (0, .ref t0), (1, .int v1)]) hx hb dX5_ticksOfLines_1 rfl hl (by decide) rfl (fun ls hl => ?_)
  refine lv_iconst (v := 0) hx hb dX5_ticksOfLines_2 (by decide) ?_
  refine lv_istore_n (lv' := [(3, .int 0), (2, .int 0), (0, .ref t0), (1, .int v1)]) hx hb dX5_ticksOfLines_3 rfl hl (by decide) rfl (fun ls hl => ?_)
  exact tX5_ticksOfLines_4 cx hr hlk  NF t0 v1 0 0 h _ _ _ hB (lv_sub hl [2, 3, 1, 0] rfl) hf
end
set_option maxHeartbeats 4000000 in
set_option maxRecDepth 100000 in
theorem cX5_ticksOfLines (l : Launch) (D : va_G) (cA : Nat → ClassId) (t0 : Nat) (v1 : Int32) (h : Hp) (r : Int32) (h9 : Hp) (hf : fX5_ticksOfLines t0 v1 h = some (r, h9)) : hp_M l yX5_ticksOfLines prog_7_method_5_code 4 (Option.some FieldType.int) rmX5_ticksOfLines D cA h [.ref t0, .int v1] (hp_Qi D cA h h9 r) := by
  refine Met.ofW (cc := prog_7_method_5_code) (maxL := 4) (ret := (Option.some FieldType.int)) (by decide) rfl ?_
  intro p e s m args below meth c s₁ B hml hv
  obtain ⟨rfl, hU⟩ := hv
  have hts := atoms_spec (ws := Cond.code yX5_ticksOfLines prog_7_method_5_code 4 (Option.some FieldType.int) :: tbG) B.pre
  have hl := lv_entry ([.ref t0, .int v1]) (n := 4) (Nat.le_of_ble_eq_true rfl)
  rw [lg_entry_eq]
  generalize (lg_sl ([.ref t0, .int v1]) ++ List.replicate (4 - (lg_sl ([.ref t0, .int v1])).length) Slot.unset).toArray = ls at hl ⊢
  exact tX5_ticksOfLines_0 ⟨B.exec, B.bytes, hml, findClass_of_methodNamed B.named, fun w hw => hts w (List.mem_cons_of_mem _ hw)⟩ B.returns B.notSynchronized t0 v1 h _ _ _ (hp_B.entry hU) hl hf
section
variable {p : Program} {l : Launch} {e : Env} {R : Room} {s : State} {m : MethodId} {args : Array Value} {below : List Frame} {meth : Method} {c : Code} {H : Heap} {locs : List Loc} {cells slots : Nat} {Q : State → Prop}
variable {cc : ByteArray} {pc nL : Nat} {ls : Array Slot} {rest : List Value} {D : va_G} {cA : Nat → ClassId} {A : Nat → Prop} {a : Nat} {h : Hp}
theorem gf_X5_15 (cx : CallFix p m c cc nL s args tbG RX5) (hB : hp_B D cA A s h H locs) (hka : h.1 a = 6) (hdg : decode cc pc = .ok (.getfield 15, 3)) (kk : W p l e R s m args below meth c H locs cells slots Q (F0 m (pc + 3) ls (.int (h.2.2.1 a 7) :: rest))) : W p l e R s m args below meth c H locs cells slots Q (F0 m pc ls (.ref a :: rest)) :=
  hp_getI cx hB (ci := 5) 7 rfl inX5 (by decide) rfl (by decide) rfl qw_276 hka hdg kk
theorem cl_X5_56 {As st0 : List Value} {b : Nat} {Qc : Array Value → State → Outcome → State → Prop} (cx : CallFix p m c cc nL s args tbG RX5) (hB : hp_B D cA A s h H locs) (hM : hp_M l yX5_ticksOfLines prog_7_method_5_code 4 (Option.some FieldType.int) rmX5_ticksOfLines D cA h (.ref b :: As) Qc) (hkb : h.1 b = 6) (hR : rmX5_ticksOfLines.frames + 1 ≤ R.frames ∧ 8 + (4 + 11) + rmX5_ticksOfLines.locals ≤ R.locals) (hn : As.length = 1) (hls : ls.size = nL) (hst : st0 = As.reverse ++ .ref b :: rest) (hW : (rest.map fun v => v.category).sum ≤ 8) (hf : cells + rmX5_ticksOfLines.cells ≤ R.cells ∧ slots + rmX5_ticksOfLines.slots ≤ R.slots) (hdg : decode cc pc = .ok (.invokevirtual 56, 3)) :
    va_Run p l e R s m args below meth c H locs cells slots rmX5_ticksOfLines.cells rmX5_ticksOfLines.slots (F0 m pc ls st0) rest (Qc (Value.ref b :: As).toArray) (hp_A h) :=
  hp_runV cx hB hM (ci := 5) rfl (by decide) hkb qw_472 qw_469 qw_470 qw_471 qw_11 (by decide +kernel) hR hn hls hst hW hf hdg
theorem gf_X5_30 (cx : CallFix p m c cc nL s args tbG RX5) (hB : hp_B D cA A s h H locs) (hka : h.1 a = 6) (hdg : decode cc pc = .ok (.getfield 30, 3)) (kk : W p l e R s m args below meth c H locs cells slots Q (F0 m (pc + 3) ls (.int (h.2.2.1 a 1) :: rest))) : W p l e R s m args below meth c H locs cells slots Q (F0 m pc ls (.ref a :: rest)) :=
  hp_getI cx hB (ci := 5) 1 rfl inX5 (by decide) rfl (by decide) rfl qw_252 hka hdg kk
end
abbrev yX5_ticksOfHearingAll : MethodName := ⟨"SpokenMenus$Place", "ticksOfHearingAll", "()I"⟩
theorem dX5_ticksOfHearingAll_0 : decode prog_7_method_6_code 0 = .ok (.aload_n 0, 1) := by decide +kernel
theorem dX5_ticksOfHearingAll_1 : decode prog_7_method_6_code 1 = .ok (.getfield 15, 3) := by decide +kernel
theorem dX5_ticksOfHearingAll_4 : decode prog_7_method_6_code 4 = .ok (.aload_n 0, 1) := by decide +kernel
theorem dX5_ticksOfHearingAll_5 : decode prog_7_method_6_code 5 = .ok (.aload_n 0, 1) := by decide +kernel
theorem dX5_ticksOfHearingAll_6 : decode prog_7_method_6_code 6 = .ok (.getfield 9, 3) := by decide +kernel
theorem dX5_ticksOfHearingAll_9 : decode prog_7_method_6_code 9 = .ok (.invokevirtual 56, 3) := by decide +kernel
theorem dX5_ticksOfHearingAll_12 : decode prog_7_method_6_code 12 = .ok (.aload_n 0, 1) := by decide +kernel
theorem dX5_ticksOfHearingAll_13 : decode prog_7_method_6_code 13 = .ok (.getfield 30, 3) := by decide +kernel
theorem dX5_ticksOfHearingAll_16 : decode prog_7_method_6_code 16 = .ok (.iadd, 1) := by decide +kernel
theorem dX5_ticksOfHearingAll_17 : decode prog_7_method_6_code 17 = .ok (.imul, 1) := by decide +kernel
theorem dX5_ticksOfHearingAll_18 : decode prog_7_method_6_code 18 = .ok (.ireturn, 1) := by decide +kernel
abbrev rmX5_ticksOfHearingAll : Room := { frames := 1, cells := 0, slots := 0, locals := 23 }
def fX5_ticksOfHearingAll  (t0 : Nat) (h : Hp) : Option (Int32 × Hp) :=
  gk (h.1 t0) 6 <|
  b2 (fX5_ticksOfLines t0 (h.2.2.1 t0 6) h) fun r4 g2 =>
  gk (g2.1 t0) 6 <|
  some ((h.2.2.1 t0 7) * (r4 + (g2.2.2.1 t0 1)), g2)
section
variable {p : Program} {l : Launch} {e : Env} {s : State} {m : MethodId} {args : Array Value} {below : List Frame} {meth : Method} {c : Code} {D : va_G} {cA : Nat → ClassId} {h0 h9 : Hp}
set_option maxHeartbeats 4000000 in
set_option maxRecDepth 100000 in
theorem tX5_ticksOfHearingAll_0  {r : Int32} (cx : CallFix p m c prog_7_method_6_code 1 s args tbG RX5) (hr : meth.sig.returnType = (Option.some FieldType.int)) (hlk : meth.locks = false)  (t0 : Nat) (h : Hp) (H : Heap) (locs : List Loc) (ls : Array Slot) (hB : hp_B D cA (hp_A h0) s h H locs) (hl : lv_has ls 1 [(0, .ref t0)]) (hf : fX5_ticksOfHearingAll  t0 h = some (r, h9)) : W p l e rmX5_ticksOfHearingAll s m args below meth c H locs 0 0 (MQ below (hp_Qi D cA h0 h9 r) args s 0 0 (hp_A h0)) (F0 m 0 ls []) := by
  obtain ⟨hx, hb, -⟩ := id cx
  unfold fX5_ticksOfHearingAll at hf
  refine lv_aload_n hx hb dX5_ticksOfHearingAll_0 rfl (lv_at hl 0 rfl) ?_
  obtain ⟨k1, hf⟩ := gk_ok hf
  refine gf_X5_15 cx hB k1 dX5_ticksOfHearingAll_1 ?_
  refine lv_aload_n hx hb dX5_ticksOfHearingAll_4 rfl (lv_at hl 0 rfl) ?_
  refine lv_aload_n hx hb dX5_ticksOfHearingAll_5 rfl (lv_at hl 0 rfl) ?_
  refine gf_X5_9 cx hB k1 dX5_ticksOfHearingAll_6 ?_
  obtain ⟨r4, g2, m3, hf⟩ := b2_ok hf
  refine hp_cI0 (cl_X5_56 cx hB (cX5_ticksOfLines l D cA t0 (h.2.2.1 t0 6) h _ g2 m3) k1 ⟨Nat.le_of_ble_eq_true rfl, Nat.le_of_ble_eq_true rfl⟩ rfl hl.1 rfl (Nat.le_of_ble_eq_true rfl) ⟨Nat.le_of_ble_eq_true rfl, Nat.le_of_ble_eq_true rfl⟩ dX5_ticksOfHearingAll_9) rfl rfl hB (fun H locs hB => ?_)
  refine lv_aload_n hx hb dX5_ticksOfHearingAll_12 rfl (lv_at hl 0 rfl) ?_
  obtain ⟨k6, hf⟩ := gk_ok hf
  refine gf_X5_30 cx hB k6 dX5_ticksOfHearingAll_13 ?_
  refine lv_iadd hx hb dX5_ticksOfHearingAll_16 ?_
  refine lv_imul hx hb dX5_ticksOfHearingAll_17 ?_
  obtain ⟨rfl, rfl⟩ := rt_ok hf
  exact hp_iret cx hB hr hlk (Nat.le_of_ble_eq_true rfl) (Nat.le_of_ble_eq_true rfl) dX5_ticksOfHearingAll_18
end
set_option maxHeartbeats 4000000 in
set_option maxRecDepth 100000 in
theorem cX5_ticksOfHearingAll (l : Launch) (D : va_G) (cA : Nat → ClassId) (t0 : Nat) (h : Hp) (r : Int32) (h9 : Hp) (hf : fX5_ticksOfHearingAll t0 h = some (r, h9)) : hp_M l yX5_ticksOfHearingAll prog_7_method_6_code 1 (Option.some FieldType.int) rmX5_ticksOfHearingAll D cA h [.ref t0] (hp_Qi D cA h h9 r) := by
  refine Met.ofW (cc := prog_7_method_6_code) (maxL := 1) (ret := (Option.some FieldType.int)) (by decide) rfl ?_
  intro p e s m args below meth c s₁ B hml hv
  obtain ⟨rfl, hU⟩ := hv
  have hts := atoms_spec (ws := Cond.code yX5_ticksOfHearingAll prog_7_method_6_code 1 (Option.some FieldType.int) :: tbG) B.pre
  have hl := lv_entry ([.ref t0]) (n := 1) (Nat.le_of_ble_eq_true rfl)
  rw [lg_entry_eq]
  generalize (lg_sl ([.ref t0]) ++ List.replicate (1 - (lg_sl ([.ref t0])).length) Slot.unset).toArray = ls at hl ⊢
  exact tX5_ticksOfHearingAll_0 ⟨B.exec, B.bytes, hml, findClass_of_methodNamed B.named, fun w hw => hts w (List.mem_cons_of_mem _ hw)⟩ B.returns B.notSynchronized t0 h _ _ _ (hp_B.entry hU) hl hf
section
variable {p : Program} {l : Launch} {e : Env} {R : Room} {s : State} {m : MethodId} {args : Array Value} {below : List Frame} {meth : Method} {c : Code} {H : Heap} {locs : List Loc} {cells slots : Nat} {Q : State → Prop}
variable {cc : ByteArray} {pc nL : Nat} {ls : Array Slot} {rest : List Value} {D : va_G} {cA : Nat → ClassId} {A : Nat → Prop} {a : Nat} {h : Hp}
theorem gf_X5_33 (cx : CallFix p m c cc nL s args tbG RX5) (hB : hp_B D cA A s h H locs) (hka : h.1 a = 6) (hdg : decode cc pc = .ok (.getfield 33, 3)) (kk : W p l e R s m args below meth c H locs cells slots Q (F0 m (pc + 3) ls (.int (h.2.2.1 a 2) :: rest))) : W p l e R s m args below meth c H locs cells slots Q (F0 m pc ls (.ref a :: rest)) :=
  hp_getI cx hB (ci := 5) 2 rfl inX5 (by decide) rfl (by decide) rfl qw_256 hka hdg kk
end
abbrev yX5_serves : MethodName := ⟨"SpokenMenus$Place", "serves", "(I)Z"⟩
theorem dX5_serves_0 : decode prog_7_method_7_code 0 = .ok (.aload_n 0, 1) := by decide +kernel
theorem dX5_serves_1 : decode prog_7_method_7_code 1 = .ok (.getfield 33, 3) := by decide +kernel
theorem dX5_serves_4 : decode prog_7_method_7_code 4 = .ok (.iload_n 1, 1) := by decide +kernel
theorem dX5_serves_5 : decode prog_7_method_7_code 5 = .ok (.ishr, 1) := by decide +kernel
theorem dX5_serves_6 : decode prog_7_method_7_code 6 = .ok (.iconst 1, 1) := by decide +kernel
theorem dX5_serves_7 : decode prog_7_method_7_code 7 = .ok (.iand, 1) := by decide +kernel
theorem dX5_serves_8 : decode prog_7_method_7_code 8 = .ok (.ifCond .eq 7, 3) := by decide +kernel
theorem dX5_serves_11 : decode prog_7_method_7_code 11 = .ok (.iconst 1, 1) := by decide +kernel
theorem dX5_serves_12 : decode prog_7_method_7_code 12 = .ok (.goto 4, 3) := by decide +kernel
theorem dX5_serves_15 : decode prog_7_method_7_code 15 = .ok (.iconst 0, 1) := by decide +kernel
theorem dX5_serves_16 : decode prog_7_method_7_code 16 = .ok (.ireturn, 1) := by decide +kernel
abbrev rmX5_serves : Room := { frames := 0, cells := 0, slots := 0, locals := 0 }
def fX5_serves  (t0 : Nat) (v1 : Int32) (h : Hp) : Option (Int32 × Hp) :=
  gk (h.1 t0) 6 <|
  if (((h.2.2.1 t0 2) >>> (v1 &&& 31)) &&& 1) = 0 then
  (some (0, h))
  else
  (some (1, h))
section
variable {p : Program} {l : Launch} {e : Env} {s : State} {m : MethodId} {args : Array Value} {below : List Frame} {meth : Method} {c : Code} {D : va_G} {cA : Nat → ClassId} {h0 h9 : Hp}
set_option maxHeartbeats 4000000 in
set_option maxRecDepth 100000 in
theorem tX5_serves_0  {r : Int32} (cx : CallFix p m c prog_7_method_7_code 2 s args tbG RX5) (hr : meth.sig.returnType = (Option.some FieldType.boolean)) (hlk : meth.locks = false)  (t0 : Nat) (v1 : Int32) (h : Hp) (H : Heap) (locs : List Loc) (ls : Array Slot) (hB : hp_B D cA (hp_A h0) s h H locs) (hl : lv_has ls 2 [(0, .ref t0), (1, .int v1)]) (hf : fX5_serves  t0 v1 h = some (r, h9)) : W p l e rmX5_serves s m args below meth c H locs 0 0 (MQ below (hp_Qi D cA h0 h9 r) args s 0 0 (hp_A h0)) (F0 m 0 ls []) := by
  obtain ⟨hx, hb, -⟩ := id cx
  unfold fX5_serves at hf
  refine lv_aload_n hx hb dX5_serves_0 rfl (lv_at hl 0 rfl) ?_
  obtain ⟨k1, hf⟩ := gk_ok hf
  refine gf_X5_33 cx hB k1 dX5_serves_1 ?_
  refine lv_iload_n hx hb dX5_serves_4 rfl (lv_at hl 1 rfl) ?_
  refine lv_ishr hx hb dX5_serves_5 ?_
  refine lv_iconst (v := 1) hx hb dX5_serves_6 (by decide) ?_
  refine lv_iand hx hb dX5_serves_7 ?_
  refine lv_if_eq (tgt := 15) hx hb dX5_serves_8 (by decide) (fun c2 => ?_) (fun c2 => ?_)
  · replace hf := it_t c2 hf
    refine lv_iconst (v := 0) hx hb dX5_serves_15 (by decide) ?_
    obtain ⟨rfl, rfl⟩ := rt_ok hf
    exact hp_zret cx hB hr hlk (Nat.le_of_ble_eq_true rfl) (Nat.le_of_ble_eq_true rfl) rfl dX5_serves_16
  · replace hf := it_f c2 hf
    refine lv_iconst (v := 1) hx hb dX5_serves_11 (by decide) ?_
    refine lv_goto (tgt := 16) hx hb dX5_serves_12 (by decide) ?_
    obtain ⟨rfl, rfl⟩ := rt_ok hf
    exact hp_zret cx hB hr hlk (Nat.le_of_ble_eq_true rfl) (Nat.le_of_ble_eq_true rfl) rfl dX5_serves_16
end
set_option maxHeartbeats 4000000 in
set_option maxRecDepth 100000 in
theorem cX5_serves (l : Launch) (D : va_G) (cA : Nat → ClassId) (t0 : Nat) (v1 : Int32) (h : Hp) (r : Int32) (h9 : Hp) (hf : fX5_serves t0 v1 h = some (r, h9)) : hp_M l yX5_serves prog_7_method_7_code 2 (Option.some FieldType.boolean) rmX5_serves D cA h [.ref t0, .int v1] (hp_Qi D cA h h9 r) := by
  refine Met.ofW (cc := prog_7_method_7_code) (maxL := 2) (ret := (Option.some FieldType.boolean)) (by decide) rfl ?_
  intro p e s m args below meth c s₁ B hml hv
  obtain ⟨rfl, hU⟩ := hv
  have hts := atoms_spec (ws := Cond.code yX5_serves prog_7_method_7_code 2 (Option.some FieldType.boolean) :: tbG) B.pre
  have hl := lv_entry ([.ref t0, .int v1]) (n := 2) (Nat.le_of_ble_eq_true rfl)
  rw [lg_entry_eq]
  generalize (lg_sl ([.ref t0, .int v1]) ++ List.replicate (2 - (lg_sl ([.ref t0, .int v1])).length) Slot.unset).toArray = ls at hl ⊢
  exact tX5_serves_0 ⟨B.exec, B.bytes, hml, findClass_of_methodNamed B.named, fun w hw => hts w (List.mem_cons_of_mem _ hw)⟩ B.returns B.notSynchronized t0 v1 h _ _ _ (hp_B.entry hU) hl hf
section
variable {p : Program} {l : Launch} {e : Env} {R : Room} {s : State} {m : MethodId} {args : Array Value} {below : List Frame} {meth : Method} {c : Code} {H : Heap} {locs : List Loc} {cells slots : Nat} {Q : State → Prop}
variable {cc : ByteArray} {pc nL : Nat} {ls : Array Slot} {rest : List Value} {D : va_G} {cA : Nat → ClassId} {A : Nat → Prop} {a : Nat} {h : Hp}
theorem gf_X5_21 (cx : CallFix p m c cc nL s args tbG RX5) (hB : hp_B D cA A s h H locs) (hka : h.1 a = 6) (hdg : decode cc pc = .ok (.getfield 21, 3)) (kk : W p l e R s m args below meth c H locs cells slots Q (F0 m (pc + 3) ls (.int (h.2.2.1 a 9) :: rest))) : W p l e R s m args below meth c H locs cells slots Q (F0 m pc ls (.ref a :: rest)) :=
  hp_getI cx hB (ci := 5) 9 rfl inX5 (by decide) rfl (by decide) rfl qw_280 hka hdg kk
theorem gf_X5_24 (cx : CallFix p m c cc nL s args tbG RX5) (hB : hp_B D cA A s h H locs) (hka : h.1 a = 6) (hdg : decode cc pc = .ok (.getfield 24, 3)) (kk : W p l e R s m args below meth c H locs cells slots Q (F0 m (pc + 3) ls (.int (h.2.2.1 a 10) :: rest))) : W p l e R s m args below meth c H locs cells slots Q (F0 m pc ls (.ref a :: rest)) :=
  hp_getI cx hB (ci := 5) 10 rfl inX5 (by decide) rfl (by decide) rfl qw_282 hka hdg kk
theorem gf_X5_36 (cx : CallFix p m c cc nL s args tbG RX5) (hB : hp_B D cA A s h H locs) (hka : h.1 a = 6) (hdg : decode cc pc = .ok (.getfield 36, 3)) (kk : W p l e R s m args below meth c H locs cells slots Q (F0 m (pc + 3) ls (.int (h.2.2.1 a 3) :: rest))) : W p l e R s m args below meth c H locs cells slots Q (F0 m pc ls (.ref a :: rest)) :=
  hp_getI cx hB (ci := 5) 3 rfl inX5 (by decide) rfl (by decide) rfl qw_258 hka hdg kk
theorem gf_X5_39 (cx : CallFix p m c cc nL s args tbG RX5) (hB : hp_B D cA A s h H locs) (hka : h.1 a = 6) (hdg : decode cc pc = .ok (.getfield 39, 3)) (kk : W p l e R s m args below meth c H locs cells slots Q (F0 m (pc + 3) ls (.int (h.2.2.1 a 4) :: rest))) : W p l e R s m args below meth c H locs cells slots Q (F0 m pc ls (.ref a :: rest)) :=
  hp_getI cx hB (ci := 5) 4 rfl inX5 (by decide) rfl (by decide) rfl qw_262 hka hdg kk
end
abbrev yX5_nextAtHour : MethodName := ⟨"SpokenMenus$Place", "nextAtHour", "(I)I"⟩
theorem dX5_nextAtHour_0 : decode prog_7_method_8_code 0 = .ok (.aload_n 0, 1) := by decide +kernel
theorem dX5_nextAtHour_1 : decode prog_7_method_8_code 1 = .ok (.getfield 21, 3) := by decide +kernel
theorem dX5_nextAtHour_4 : decode prog_7_method_8_code 4 = .ok (.aload_n 0, 1) := by decide +kernel
theorem dX5_nextAtHour_5 : decode prog_7_method_8_code 5 = .ok (.getfield 24, 3) := by decide +kernel
theorem dX5_nextAtHour_8 : decode prog_7_method_8_code 8 = .ok (.if_icmp .ge 27, 3) := by decide +kernel
theorem dX5_nextAtHour_11 : decode prog_7_method_8_code 11 = .ok (.iload_n 1, 1) := by decide +kernel
theorem dX5_nextAtHour_12 : decode prog_7_method_8_code 12 = .ok (.aload_n 0, 1) := by decide +kernel
theorem dX5_nextAtHour_13 : decode prog_7_method_8_code 13 = .ok (.getfield 21, 3) := by decide +kernel
theorem dX5_nextAtHour_16 : decode prog_7_method_8_code 16 = .ok (.if_icmp .lt 15, 3) := by decide +kernel
theorem dX5_nextAtHour_19 : decode prog_7_method_8_code 19 = .ok (.iload_n 1, 1) := by decide +kernel
theorem dX5_nextAtHour_20 : decode prog_7_method_8_code 20 = .ok (.aload_n 0, 1) := by decide +kernel
theorem dX5_nextAtHour_21 : decode prog_7_method_8_code 21 = .ok (.getfield 24, 3) := by decide +kernel
theorem dX5_nextAtHour_24 : decode prog_7_method_8_code 24 = .ok (.if_icmp .ge 7, 3) := by decide +kernel
theorem dX5_nextAtHour_27 : decode prog_7_method_8_code 27 = .ok (.iconst 1, 1) := by decide +kernel
theorem dX5_nextAtHour_28 : decode prog_7_method_8_code 28 = .ok (.goto 39, 3) := by decide +kernel
theorem dX5_nextAtHour_31 : decode prog_7_method_8_code 31 = .ok (.iconst 0, 1) := by decide +kernel
theorem dX5_nextAtHour_32 : decode prog_7_method_8_code 32 = .ok (.goto 35, 3) := by decide +kernel
theorem dX5_nextAtHour_35 : decode prog_7_method_8_code 35 = .ok (.aload_n 0, 1) := by decide +kernel
theorem dX5_nextAtHour_36 : decode prog_7_method_8_code 36 = .ok (.getfield 21, 3) := by decide +kernel
theorem dX5_nextAtHour_39 : decode prog_7_method_8_code 39 = .ok (.aload_n 0, 1) := by decide +kernel
theorem dX5_nextAtHour_40 : decode prog_7_method_8_code 40 = .ok (.getfield 24, 3) := by decide +kernel
theorem dX5_nextAtHour_43 : decode prog_7_method_8_code 43 = .ok (.if_icmp .eq 19, 3) := by decide +kernel
theorem dX5_nextAtHour_46 : decode prog_7_method_8_code 46 = .ok (.iload_n 1, 1) := by decide +kernel
theorem dX5_nextAtHour_47 : decode prog_7_method_8_code 47 = .ok (.aload_n 0, 1) := by decide +kernel
theorem dX5_nextAtHour_48 : decode prog_7_method_8_code 48 = .ok (.getfield 21, 3) := by decide +kernel
theorem dX5_nextAtHour_51 : decode prog_7_method_8_code 51 = .ok (.if_icmp .ge 11, 3) := by decide +kernel
theorem dX5_nextAtHour_54 : decode prog_7_method_8_code 54 = .ok (.iload_n 1, 1) := by decide +kernel
theorem dX5_nextAtHour_55 : decode prog_7_method_8_code 55 = .ok (.aload_n 0, 1) := by decide +kernel
theorem dX5_nextAtHour_56 : decode prog_7_method_8_code 56 = .ok (.getfield 24, 3) := by decide +kernel
theorem dX5_nextAtHour_59 : decode prog_7_method_8_code 59 = .ok (.if_icmp .ge 7, 3) := by decide +kernel
theorem dX5_nextAtHour_62 : decode prog_7_method_8_code 62 = .ok (.iconst 1, 1) := by decide +kernel
theorem dX5_nextAtHour_63 : decode prog_7_method_8_code 63 = .ok (.goto 4, 3) := by decide +kernel
theorem dX5_nextAtHour_66 : decode prog_7_method_8_code 66 = .ok (.iconst 0, 1) := by decide +kernel
theorem dX5_nextAtHour_67 : decode prog_7_method_8_code 67 = .ok (.istore_n 2, 1) := by decide +kernel
theorem dX5_nextAtHour_68 : decode prog_7_method_8_code 68 = .ok (.iload_n 2, 1) := by decide +kernel
theorem dX5_nextAtHour_69 : decode prog_7_method_8_code 69 = .ok (.ifCond .eq 10, 3) := by decide +kernel
theorem dX5_nextAtHour_72 : decode prog_7_method_8_code 72 = .ok (.aload_n 0, 1) := by decide +kernel
theorem dX5_nextAtHour_73 : decode prog_7_method_8_code 73 = .ok (.getfield 36, 3) := by decide +kernel
theorem dX5_nextAtHour_76 : decode prog_7_method_8_code 76 = .ok (.goto 7, 3) := by decide +kernel
theorem dX5_nextAtHour_79 : decode prog_7_method_8_code 79 = .ok (.aload_n 0, 1) := by decide +kernel
theorem dX5_nextAtHour_80 : decode prog_7_method_8_code 80 = .ok (.getfield 39, 3) := by decide +kernel
theorem dX5_nextAtHour_83 : decode prog_7_method_8_code 83 = .ok (.ireturn, 1) := by decide +kernel
abbrev rmX5_nextAtHour : Room := { frames := 0, cells := 0, slots := 0, locals := 0 }
def fX5_nextAtHour  (t0 : Nat) (v1 : Int32) (h : Hp) : Option (Int32 × Hp) :=
  gk (h.1 t0) 6 <|
  if (h.2.2.1 t0 10) ≤ (h.2.2.1 t0 9) then
  (if (h.2.2.1 t0 9) = (h.2.2.1 t0 10) then
  (some (h.2.2.1 t0 3, h))
  else
  (if (h.2.2.1 t0 9) ≤ v1 then
  (some (h.2.2.1 t0 3, h))
  else
  (if (h.2.2.1 t0 10) ≤ v1 then
  (some (h.2.2.1 t0 4, h))
  else
  (some (h.2.2.1 t0 3, h)))))
  else
  (if v1 < (h.2.2.1 t0 9) then
  (some (h.2.2.1 t0 4, h))
  else
  (if (h.2.2.1 t0 10) ≤ v1 then
  (some (h.2.2.1 t0 4, h))
  else
  (some (h.2.2.1 t0 3, h))))
section
variable {p : Program} {l : Launch} {e : Env} {s : State} {m : MethodId} {args : Array Value} {below : List Frame} {meth : Method} {c : Code} {D : va_G} {cA : Nat → ClassId} {h0 h9 : Hp}
set_option maxHeartbeats 4000000 in
set_option maxRecDepth 100000 in
theorem tX5_nextAtHour_0  {r : Int32} (cx : CallFix p m c prog_7_method_8_code 3 s args tbG RX5) (hr : meth.sig.returnType = (Option.some FieldType.int)) (hlk : meth.locks = false)  (t0 : Nat) (v1 : Int32) (h : Hp) (H : Heap) (locs : List Loc) (ls : Array Slot) (hB : hp_B D cA (hp_A h0) s h H locs) (hl : lv_has ls 3 [(0, .ref t0), (1, .int v1)]) (hf : fX5_nextAtHour  t0 v1 h = some (r, h9)) : W p l e rmX5_nextAtHour s m args below meth c H locs 0 0 (MQ below (hp_Qi D cA h0 h9 r) args s 0 0 (hp_A h0)) (F0 m 0 ls []) := by
  obtain ⟨hx, hb, -⟩ := id cx
  unfold fX5_nextAtHour at hf
  refine lv_aload_n hx hb dX5_nextAtHour_0 rfl (lv_at hl 0 rfl) ?_
  obtain ⟨k1, hf⟩ := gk_ok hf
  refine gf_X5_21 cx hB k1 dX5_nextAtHour_1 ?_
  refine lv_aload_n hx hb dX5_nextAtHour_4 rfl (lv_at hl 0 rfl) ?_
  refine gf_X5_24 cx hB k1 dX5_nextAtHour_5 ?_
  refine lv_icmp_ge (tgt := 35) hx hb dX5_nextAtHour_8 (by decide) (fun c2 => ?_) (fun c2 => ?_)
  · replace hf := it_t c2 hf
    refine lv_aload_n hx hb dX5_nextAtHour_35 rfl (lv_at hl 0 rfl) ?_
    refine gf_X5_21 cx hB k1 dX5_nextAtHour_36 ?_
    refine lv_aload_n hx hb dX5_nextAtHour_39 rfl (lv_at hl 0 rfl) ?_
    refine gf_X5_24 cx hB k1 dX5_nextAtHour_40 ?_
    refine lv_icmp_eq (tgt := 62) hx hb dX5_nextAtHour_43 (by decide) (fun c3 => ?_) (fun c3 => ?_)
    · replace hf := it_t c3 hf
      refine lv_iconst (v := 1) hx hb dX5_nextAtHour_62 (by decide) ?_
      refine lv_goto (tgt := 67) hx hb dX5_nextAtHour_63 (by decide) ?_
      refine lv_istore_n (lv' := [(2, .int 1), (0, .ref t0), (1, .int v1)]) hx hb dX5_nextAtHour_67 rfl hl (by decide) rfl (fun ls hl => ?_)
      refine lv_iload_n hx hb dX5_nextAtHour_68 rfl (lv_at hl 0 rfl) ?_
      refine lv_if_eq (tgt := 79) hx hb dX5_nextAtHour_69 (by decide) (fun c4 => ?_) (fun c4 => ?_)
      · exact absurd c4 (by decide)
      · refine lv_aload_n hx hb dX5_nextAtHour_72 rfl (lv_at hl 1 rfl) ?_
        refine gf_X5_36 cx hB k1 dX5_nextAtHour_73 ?_
        refine lv_goto (tgt := 83) hx hb dX5_nextAtHour_76 (by decide) ?_
        obtain ⟨rfl, rfl⟩ := rt_ok hf
        exact hp_iret cx hB hr hlk (Nat.le_of_ble_eq_true rfl) (Nat.le_of_ble_eq_true rfl) dX5_nextAtHour_83
    · replace hf := it_f c3 hf
      refine lv_iload_n hx hb dX5_nextAtHour_46 rfl (lv_at hl 1 rfl) ?_
      refine lv_aload_n hx hb dX5_nextAtHour_47 rfl (lv_at hl 0 rfl) ?_
      refine gf_X5_21 cx hB k1 dX5_nextAtHour_48 ?_
      refine lv_icmp_ge (tgt := 62) hx hb dX5_nextAtHour_51 (by decide) (fun c5 => ?_) (fun c5 => ?_)
      · replace hf := it_t c5 hf
        refine lv_iconst (v := 1) hx hb dX5_nextAtHour_62 (by decide) ?_
        refine lv_goto (tgt := 67) hx hb dX5_nextAtHour_63 (by decide) ?_
        refine lv_istore_n (lv' := [(2, .int 1), (0, .ref t0), (1, .int v1)]) hx hb dX5_nextAtHour_67 rfl hl (by decide) rfl (fun ls hl => ?_)
        refine lv_iload_n hx hb dX5_nextAtHour_68 rfl (lv_at hl 0 rfl) ?_
        refine lv_if_eq (tgt := 79) hx hb dX5_nextAtHour_69 (by decide) (fun c6 => ?_) (fun c6 => ?_)
        · exact absurd c6 (by decide)
        · refine lv_aload_n hx hb dX5_nextAtHour_72 rfl (lv_at hl 1 rfl) ?_
          refine gf_X5_36 cx hB k1 dX5_nextAtHour_73 ?_
          refine lv_goto (tgt := 83) hx hb dX5_nextAtHour_76 (by decide) ?_
          obtain ⟨rfl, rfl⟩ := rt_ok hf
          exact hp_iret cx hB hr hlk (Nat.le_of_ble_eq_true rfl) (Nat.le_of_ble_eq_true rfl) dX5_nextAtHour_83
      · replace hf := it_f c5 hf
        refine lv_iload_n hx hb dX5_nextAtHour_54 rfl (lv_at hl 1 rfl) ?_
        refine lv_aload_n hx hb dX5_nextAtHour_55 rfl (lv_at hl 0 rfl) ?_
        refine gf_X5_24 cx hB k1 dX5_nextAtHour_56 ?_
        refine lv_icmp_ge (tgt := 66) hx hb dX5_nextAtHour_59 (by decide) (fun c7 => ?_) (fun c7 => ?_)
        · replace hf := it_t c7 hf
          refine lv_iconst (v := 0) hx hb dX5_nextAtHour_66 (by decide) ?_
          refine lv_istore_n (lv' := [(2, .int 0), (0, .ref t0), (1, .int v1)]) hx hb dX5_nextAtHour_67 rfl hl (by decide) rfl (fun ls hl => ?_)
          refine lv_iload_n hx hb dX5_nextAtHour_68 rfl (lv_at hl 0 rfl) ?_
          refine lv_if_eq (tgt := 79) hx hb dX5_nextAtHour_69 (by decide) (fun c8 => ?_) (fun c8 => ?_)
          · refine lv_aload_n hx hb dX5_nextAtHour_79 rfl (lv_at hl 1 rfl) ?_
            refine gf_X5_39 cx hB k1 dX5_nextAtHour_80 ?_
            obtain ⟨rfl, rfl⟩ := rt_ok hf
            exact hp_iret cx hB hr hlk (Nat.le_of_ble_eq_true rfl) (Nat.le_of_ble_eq_true rfl) dX5_nextAtHour_83
          · exact absurd c8 (by decide)
        · replace hf := it_f c7 hf
          refine lv_iconst (v := 1) hx hb dX5_nextAtHour_62 (by decide) ?_
          refine lv_goto (tgt := 67) hx hb dX5_nextAtHour_63 (by decide) ?_
          refine lv_istore_n (lv' := [(2, .int 1), (0, .ref t0), (1, .int v1)]) hx hb dX5_nextAtHour_67 rfl hl (by decide) rfl (fun ls hl => ?_)
          refine lv_iload_n hx hb dX5_nextAtHour_68 rfl (lv_at hl 0 rfl) ?_
          refine lv_if_eq (tgt := 79) hx hb dX5_nextAtHour_69 (by decide) (fun c9 => ?_) (fun c9 => ?_)
          · exact absurd c9 (by decide)
          · refine lv_aload_n hx hb dX5_nextAtHour_72 rfl (lv_at hl 1 rfl) ?_
            refine gf_X5_36 cx hB k1 dX5_nextAtHour_73 ?_
            refine lv_goto (tgt := 83) hx hb dX5_nextAtHour_76 (by decide) ?_
            obtain ⟨rfl, rfl⟩ := rt_ok hf
            exact hp_iret cx hB hr hlk (Nat.le_of_ble_eq_true rfl) (Nat.le_of_ble_eq_true rfl) dX5_nextAtHour_83
  · replace hf := it_f c2 hf
    refine lv_iload_n hx hb dX5_nextAtHour_11 rfl (lv_at hl 1 rfl) ?_
    refine lv_aload_n hx hb dX5_nextAtHour_12 rfl (lv_at hl 0 rfl) ?_
    refine gf_X5_21 cx hB k1 dX5_nextAtHour_13 ?_
    refine lv_icmp_lt (tgt := 31) hx hb dX5_nextAtHour_16 (by decide) (fun c10 => ?_) (fun c10 => ?_)
    · replace hf := it_t c10 hf
      refine lv_iconst (v := 0) hx hb dX5_nextAtHour_31 (by decide) ?_
      refine lv_goto (tgt := 67) hx hb dX5_nextAtHour_32 (by decide) ?_
      refine lv_istore_n (lv' := [(2, .int 0), (0, .ref t0), (1, .int v1)]) hx hb dX5_nextAtHour_67 rfl hl (by decide) rfl (fun ls hl => ?_)
      refine lv_iload_n hx hb dX5_nextAtHour_68 rfl (lv_at hl 0 rfl) ?_
      refine lv_if_eq (tgt := 79) hx hb dX5_nextAtHour_69 (by decide) (fun c11 => ?_) (fun c11 => ?_)
      · refine lv_aload_n hx hb dX5_nextAtHour_79 rfl (lv_at hl 1 rfl) ?_
        refine gf_X5_39 cx hB k1 dX5_nextAtHour_80 ?_
        obtain ⟨rfl, rfl⟩ := rt_ok hf
        exact hp_iret cx hB hr hlk (Nat.le_of_ble_eq_true rfl) (Nat.le_of_ble_eq_true rfl) dX5_nextAtHour_83
      · exact absurd c11 (by decide)
    · replace hf := it_f c10 hf
      refine lv_iload_n hx hb dX5_nextAtHour_19 rfl (lv_at hl 1 rfl) ?_
      refine lv_aload_n hx hb dX5_nextAtHour_20 rfl (lv_at hl 0 rfl) ?_
      refine gf_X5_24 cx hB k1 dX5_nextAtHour_21 ?_
      refine lv_icmp_ge (tgt := 31) hx hb dX5_nextAtHour_24 (by decide) (fun c12 => ?_) (fun c12 => ?_)
      · replace hf := it_t c12 hf
        refine lv_iconst (v := 0) hx hb dX5_nextAtHour_31 (by decide) ?_
        refine lv_goto (tgt := 67) hx hb dX5_nextAtHour_32 (by decide) ?_
        refine lv_istore_n (lv' := [(2, .int 0), (0, .ref t0), (1, .int v1)]) hx hb dX5_nextAtHour_67 rfl hl (by decide) rfl (fun ls hl => ?_)
        refine lv_iload_n hx hb dX5_nextAtHour_68 rfl (lv_at hl 0 rfl) ?_
        refine lv_if_eq (tgt := 79) hx hb dX5_nextAtHour_69 (by decide) (fun c13 => ?_) (fun c13 => ?_)
        · refine lv_aload_n hx hb dX5_nextAtHour_79 rfl (lv_at hl 1 rfl) ?_
          refine gf_X5_39 cx hB k1 dX5_nextAtHour_80 ?_
          obtain ⟨rfl, rfl⟩ := rt_ok hf
          exact hp_iret cx hB hr hlk (Nat.le_of_ble_eq_true rfl) (Nat.le_of_ble_eq_true rfl) dX5_nextAtHour_83
        · exact absurd c13 (by decide)
      · replace hf := it_f c12 hf
        refine lv_iconst (v := 1) hx hb dX5_nextAtHour_27 (by decide) ?_
        refine lv_goto (tgt := 67) hx hb dX5_nextAtHour_28 (by decide) ?_
        refine lv_istore_n (lv' := [(2, .int 1), (0, .ref t0), (1, .int v1)]) hx hb dX5_nextAtHour_67 rfl hl (by decide) rfl (fun ls hl => ?_)
        refine lv_iload_n hx hb dX5_nextAtHour_68 rfl (lv_at hl 0 rfl) ?_
        refine lv_if_eq (tgt := 79) hx hb dX5_nextAtHour_69 (by decide) (fun c14 => ?_) (fun c14 => ?_)
        · exact absurd c14 (by decide)
        · refine lv_aload_n hx hb dX5_nextAtHour_72 rfl (lv_at hl 1 rfl) ?_
          refine gf_X5_36 cx hB k1 dX5_nextAtHour_73 ?_
          refine lv_goto (tgt := 83) hx hb dX5_nextAtHour_76 (by decide) ?_
          obtain ⟨rfl, rfl⟩ := rt_ok hf
          exact hp_iret cx hB hr hlk (Nat.le_of_ble_eq_true rfl) (Nat.le_of_ble_eq_true rfl) dX5_nextAtHour_83
end
set_option maxHeartbeats 4000000 in
set_option maxRecDepth 100000 in
theorem cX5_nextAtHour (l : Launch) (D : va_G) (cA : Nat → ClassId) (t0 : Nat) (v1 : Int32) (h : Hp) (r : Int32) (h9 : Hp) (hf : fX5_nextAtHour t0 v1 h = some (r, h9)) : hp_M l yX5_nextAtHour prog_7_method_8_code 3 (Option.some FieldType.int) rmX5_nextAtHour D cA h [.ref t0, .int v1] (hp_Qi D cA h h9 r) := by
  refine Met.ofW (cc := prog_7_method_8_code) (maxL := 3) (ret := (Option.some FieldType.int)) (by decide) rfl ?_
  intro p e s m args below meth c s₁ B hml hv
  obtain ⟨rfl, hU⟩ := hv
  have hts := atoms_spec (ws := Cond.code yX5_nextAtHour prog_7_method_8_code 3 (Option.some FieldType.int) :: tbG) B.pre
  have hl := lv_entry ([.ref t0, .int v1]) (n := 3) (Nat.le_of_ble_eq_true rfl)
  rw [lg_entry_eq]
  generalize (lg_sl ([.ref t0, .int v1]) ++ List.replicate (3 - (lg_sl ([.ref t0, .int v1])).length) Slot.unset).toArray = ls at hl ⊢
  exact tX5_nextAtHour_0 ⟨B.exec, B.bytes, hml, findClass_of_methodNamed B.named, fun w hw => hts w (List.mem_cons_of_mem _ hw)⟩ B.returns B.notSynchronized t0 v1 h _ _ _ (hp_B.entry hU) hl hf
section
variable {p : Program} {l : Launch} {e : Env} {R : Room} {s : State} {m : MethodId} {args : Array Value} {below : List Frame} {meth : Method} {c : Code} {H : Heap} {locs : List Loc} {cells slots : Nat} {Q : State → Prop}
variable {cc : ByteArray} {pc nL : Nat} {ls : Array Slot} {rest : List Value} {D : va_G} {cA : Nat → ClassId} {A : Nat → Prop} {a : Nat} {h : Hp}
theorem gf_X5_18 (cx : CallFix p m c cc nL s args tbG RX5) (hB : hp_B D cA A s h H locs) (hka : h.1 a = 6) (hdg : decode cc pc = .ok (.getfield 18, 3)) (kk : W p l e R s m args below meth c H locs cells slots Q (F0 m (pc + 3) ls (.int (h.2.2.1 a 8) :: rest))) : W p l e R s m args below meth c H locs cells slots Q (F0 m pc ls (.ref a :: rest)) :=
  hp_getI cx hB (ci := 5) 8 rfl inX5 (by decide) rfl (by decide) rfl qw_278 hka hdg kk
end
abbrev yX5_isRight : MethodName := ⟨"SpokenMenus$Place", "isRight", "(I)Z"⟩
theorem dX5_isRight_0 : decode prog_7_method_9_code 0 = .ok (.iload_n 1, 1) := by decide +kernel
theorem dX5_isRight_1 : decode prog_7_method_9_code 1 = .ok (.istore_n 2, 1) := by decide +kernel
theorem dX5_isRight_2 : decode prog_7_method_9_code 2 = .ok (.iconst 0, 1) := by decide +kernel
theorem dX5_isRight_3 : decode prog_7_method_9_code 3 = .ok (.istore_n 3, 1) := by decide +kernel
theorem dX5_isRight_4 : decode prog_7_method_9_code 4 = .ok (.iconst 1, 1) := by decide +kernel
theorem dX5_isRight_5 : decode prog_7_method_9_code 5 = .ok (.istore 4, 2) := by decide +kernel
theorem dX5_isRight_7 : decode prog_7_method_9_code 7 = .ok (.iconst 0, 1) := by decide +kernel
theorem dX5_isRight_8 : decode prog_7_method_9_code 8 = .ok (.istore 5, 2) := by decide +kernel
theorem dX5_isRight_10 : decode prog_7_method_9_code 10 = .ok (.iload 5, 2) := by decide +kernel
theorem dX5_isRight_12 : decode prog_7_method_9_code 12 = .ok (.aload_n 0, 1) := by decide +kernel
theorem dX5_isRight_13 : decode prog_7_method_9_code 13 = .ok (.getfield 18, 3) := by decide +kernel
theorem dX5_isRight_16 : decode prog_7_method_9_code 16 = .ok (.if_icmp .ge 30, 3) := by decide +kernel
theorem dX5_isRight_19 : decode prog_7_method_9_code 19 = .ok (.iload_n 3, 1) := by decide +kernel
theorem dX5_isRight_20 : decode prog_7_method_9_code 20 = .ok (.iload_n 2, 1) := by decide +kernel
theorem dX5_isRight_21 : decode prog_7_method_9_code 21 = .ok (.bipush 10, 2) := by decide +kernel
theorem dX5_isRight_23 : decode prog_7_method_9_code 23 = .ok (.irem, 1) := by decide +kernel
theorem dX5_isRight_24 : decode prog_7_method_9_code 24 = .ok (.iload 4, 2) := by decide +kernel
theorem dX5_isRight_26 : decode prog_7_method_9_code 26 = .ok (.imul, 1) := by decide +kernel
theorem dX5_isRight_27 : decode prog_7_method_9_code 27 = .ok (.iadd, 1) := by decide +kernel
theorem dX5_isRight_28 : decode prog_7_method_9_code 28 = .ok (.istore_n 3, 1) := by decide +kernel
theorem dX5_isRight_29 : decode prog_7_method_9_code 29 = .ok (.iload_n 2, 1) := by decide +kernel
theorem dX5_isRight_30 : decode prog_7_method_9_code 30 = .ok (.bipush 10, 2) := by decide +kernel
theorem dX5_isRight_32 : decode prog_7_method_9_code 32 = .ok (.idiv, 1) := by decide +kernel
theorem dX5_isRight_33 : decode prog_7_method_9_code 33 = .ok (.istore_n 2, 1) := by decide +kernel
theorem dX5_isRight_34 : decode prog_7_method_9_code 34 = .ok (.iconst 4, 1) := by decide +kernel
theorem dX5_isRight_35 : decode prog_7_method_9_code 35 = .ok (.iload 4, 2) := by decide +kernel
theorem dX5_isRight_37 : decode prog_7_method_9_code 37 = .ok (.isub, 1) := by decide +kernel
theorem dX5_isRight_38 : decode prog_7_method_9_code 38 = .ok (.istore 4, 2) := by decide +kernel
theorem dX5_isRight_40 : decode prog_7_method_9_code 40 = .ok (.iinc 5 1, 3) := by decide +kernel
theorem dX5_isRight_43 : decode prog_7_method_9_code 43 = .ok (.goto (-33), 3) := by decide +kernel
theorem dX5_isRight_46 : decode prog_7_method_9_code 46 = .ok (.iload_n 2, 1) := by decide +kernel
theorem dX5_isRight_47 : decode prog_7_method_9_code 47 = .ok (.ifCond .ne 14, 3) := by decide +kernel
theorem dX5_isRight_50 : decode prog_7_method_9_code 50 = .ok (.iload_n 3, 1) := by decide +kernel
theorem dX5_isRight_51 : decode prog_7_method_9_code 51 = .ok (.bipush 10, 2) := by decide +kernel
theorem dX5_isRight_53 : decode prog_7_method_9_code 53 = .ok (.irem, 1) := by decide +kernel
theorem dX5_isRight_54 : decode prog_7_method_9_code 54 = .ok (.ifCond .ne 7, 3) := by decide +kernel
theorem dX5_isRight_57 : decode prog_7_method_9_code 57 = .ok (.iconst 1, 1) := by decide +kernel
theorem dX5_isRight_58 : decode prog_7_method_9_code 58 = .ok (.goto 4, 3) := by decide +kernel
theorem dX5_isRight_61 : decode prog_7_method_9_code 61 = .ok (.iconst 0, 1) := by decide +kernel
theorem dX5_isRight_62 : decode prog_7_method_9_code 62 = .ok (.ireturn, 1) := by decide +kernel
abbrev rmX5_isRight : Room := { frames := 0, cells := 0, slots := 0, locals := 0 }
def bX5_isRight_10  (rc : Nat → Int32 → Int32 → Int32 → Int32 → Hp → Option (Int32 × Hp)) (t0 : Nat) (v2 : Int32) (v3 : Int32) (v4 : Int32) (v5 : Int32) (h : Hp) : Option (Int32 × Hp) :=
  gk (h.1 t0) 6 <|
  if (h.2.2.1 t0 8) ≤ v5 then
  (if v2 = 0 then
  (if (v3 - v3 / 10 * 10) = 0 then
  (some (1, h))
  else
  (some (0, h)))
  else
  (some (0, h)))
  else
  (nm (v3 + ((v2 - v2 / 10 * 10) * v4)) fun x5 =>
  nm (v2 / 10) fun x6 =>
  nm (4 - v4) fun x7 =>
  nm (v5 + 1) fun x8 =>
  rc t0 x6 x5 x7 x8 h)
def fX5_isRight_10  : Nat → Int32 → Int32 → Int32 → Int32 → Hp → Option (Int32 × Hp) := fx (bX5_isRight_10 ) (fun _ _ _ _ _ _ => none) NF
def fX5_isRight  (t0 : Nat) (v1 : Int32) (h : Hp) : Option (Int32 × Hp) :=
  fX5_isRight_10  t0 v1 0 1 0 h
section
variable {p : Program} {l : Launch} {e : Env} {s : State} {m : MethodId} {args : Array Value} {below : List Frame} {meth : Method} {c : Code} {D : va_G} {cA : Nat → ClassId} {h0 h9 : Hp}
set_option maxHeartbeats 4000000 in
set_option maxRecDepth 100000 in
theorem tX5_isRight_10  {r : Int32} (cx : CallFix p m c prog_7_method_9_code 6 s args tbG RX5) (hr : meth.sig.returnType = (Option.some FieldType.boolean)) (hlk : meth.locks = false)  (n : Nat) : ∀ (t0 : Nat) (v2 : Int32) (v3 : Int32) (v4 : Int32) (v5 : Int32) (h : Hp) (H : Heap) (locs : List Loc) (ls : Array Slot), hp_B D cA (hp_A h0) s h H locs → lv_has ls 6 [(0, .ref t0), (2, .int v2), (3, .int v3), (4, .int v4), (5, .int v5)] → fx (bX5_isRight_10 ) (fun _ _ _ _ _ _ => none) n t0 v2 v3 v4 v5 h = some (r, h9) → W p l e rmX5_isRight s m args below meth c H locs 0 0 (MQ below (hp_Qi D cA h0 h9 r) args s 0 0 (hp_A h0)) (F0 m 10 ls []) := by
  obtain ⟨hx, hb, -⟩ := id cx
  induction n with
  | zero => intro t0 v2 v3 v4 v5 h H locs ls hB hl hf; cases hf
  | succ n ih =>
    intro t0 v2 v3 v4 v5 h H locs ls hB hl hf
    replace hf : bX5_isRight_10  (fx (bX5_isRight_10 ) (fun _ _ _ _ _ _ => none) n) t0 v2 v3 v4 v5 h = some (r, h9) := hf
    unfold bX5_isRight_10 at hf
    refine lv_iload hx hb dX5_isRight_10 (lv_at hl 4 rfl) ?_
    refine lv_aload_n hx hb dX5_isRight_12 rfl (lv_at hl 0 rfl) ?_
    obtain ⟨k1, hf⟩ := gk_ok hf
    refine gf_X5_18 cx hB k1 dX5_isRight_13 ?_
    refine lv_icmp_ge (tgt := 46) hx hb dX5_isRight_16 (by decide) (fun c2 => ?_) (fun c2 => ?_)
    · replace hf := it_t c2 hf
      refine lv_iload_n hx hb dX5_isRight_46 rfl (lv_at hl 1 rfl) ?_
      refine lv_if_ne (tgt := 61) hx hb dX5_isRight_47 (by decide) (fun c3 => ?_) (fun c3 => ?_)
      · replace hf := it_f c3 hf
        refine lv_iconst (v := 0) hx hb dX5_isRight_61 (by decide) ?_
        obtain ⟨rfl, rfl⟩ := rt_ok hf
        exact hp_zret cx hB hr hlk (Nat.le_of_ble_eq_true rfl) (Nat.le_of_ble_eq_true rfl) rfl dX5_isRight_62
      · replace hf := it_t c3 hf
        refine lv_iload_n hx hb dX5_isRight_50 rfl (lv_at hl 2 rfl) ?_
        refine lv_bipush (v := 10) hx hb dX5_isRight_51 (by decide) ?_
        refine lv_irem hx hb dX5_isRight_53 (by decide) ?_
        refine lv_if_ne (tgt := 61) hx hb dX5_isRight_54 (by decide) (fun c4 => ?_) (fun c4 => ?_)
        · replace hf := it_f c4 hf
          refine lv_iconst (v := 0) hx hb dX5_isRight_61 (by decide) ?_
          obtain ⟨rfl, rfl⟩ := rt_ok hf
          exact hp_zret cx hB hr hlk (Nat.le_of_ble_eq_true rfl) (Nat.le_of_ble_eq_true rfl) rfl dX5_isRight_62
        · replace hf := it_t c4 hf
          refine lv_iconst (v := 1) hx hb dX5_isRight_57 (by decide) ?_
          refine lv_goto (tgt := 62) hx hb dX5_isRight_58 (by decide) ?_
          obtain ⟨rfl, rfl⟩ := rt_ok hf
          exact hp_zret cx hB hr hlk (Nat.le_of_ble_eq_true rfl) (Nat.le_of_ble_eq_true rfl) rfl dX5_isRight_62
    · replace hf := it_f c2 hf
      refine lv_iload_n hx hb dX5_isRight_19 rfl (lv_at hl 2 rfl) ?_
      refine lv_iload_n hx hb dX5_isRight_20 rfl (lv_at hl 1 rfl) ?_
      refine lv_bipush (v := 10) hx hb dX5_isRight_21 (by decide) ?_
      refine lv_irem hx hb dX5_isRight_23 (by decide) ?_
      refine lv_iload hx hb dX5_isRight_24 (lv_at hl 3 rfl) ?_
      refine lv_imul hx hb dX5_isRight_26 ?_
      refine lv_iadd hx hb dX5_isRight_27 ?_
      obtain ⟨x5, ex5, hf⟩ := nm_ok hf
      refine lv_ren ex5 ?_
      refine lv_istore_n (lv' := [(3, .int x5), (0, .ref t0), (2, .int v2), (4, .int v4), (5, .int v5)]) hx hb dX5_isRight_28 rfl hl (by decide) rfl (fun ls hl => ?_)
      refine lv_iload_n hx hb dX5_isRight_29 rfl (lv_at hl 2 rfl) ?_
      refine lv_bipush (v := 10) hx hb dX5_isRight_30 (by decide) ?_
      refine lv_idiv hx hb dX5_isRight_32 (by decide) ?_
      obtain ⟨x6, ex6, hf⟩ := nm_ok hf
      refine lv_ren ex6 ?_
      refine lv_istore_n (lv' := [(2, .int x6), (3, .int x5), (0, .ref t0), (4, .int v4), (5, .int v5)]) hx hb dX5_isRight_33 rfl hl (by decide) rfl (fun ls hl => ?_)
      refine lv_iconst (v := 4) hx hb dX5_isRight_34 (by decide) ?_
      refine lv_iload hx hb dX5_isRight_35 (lv_at hl 3 rfl) ?_
      refine lv_isub hx hb dX5_isRight_37 ?_
      obtain ⟨x7, ex7, hf⟩ := nm_ok hf
      refine lv_ren ex7 ?_
      refine lv_istore (lv' := [(4, .int x7), (2, .int x6), (3, .int x5), (0, .ref t0), (5, .int v5)]) hx hb dX5_isRight_38 hl (by decide) rfl (fun ls hl => ?_)
      obtain ⟨x8, ex8, hf⟩ := nm_ok hf
      refine lv_iinc (v := x8) (lv' := [(5, .int x8), (4, .int x7), (2, .int x6), (3, .int x5), (0, .ref t0)]) hx hb dX5_isRight_40 hl (k := 4) rfl (by rw [ex8]; rfl) (by decide) rfl (fun ls hl => ?_)
      refine lv_goto (tgt := 10) hx hb dX5_isRight_43 (by decide) ?_
      exact ih t0 x6 x5 x7 x8 h _ _ _ hB (lv_sub hl [4, 2, 3, 1, 0] rfl) hf
set_option maxHeartbeats 4000000 in
set_option maxRecDepth 100000 in
theorem tX5_isRight_0  {r : Int32} (cx : CallFix p m c prog_7_method_9_code 6 s args tbG RX5) (hr : meth.sig.returnType = (Option.some FieldType.boolean)) (hlk : meth.locks = false)  (t0 : Nat) (v1 : Int32) (h : Hp) (H : Heap) (locs : List Loc) (ls : Array Slot) (hB : hp_B D cA (hp_A h0) s h H locs) (hl : lv_has ls 6 [(0, .ref t0), (1, .int v1)]) (hf : fX5_isRight  t0 v1 h = some (r, h9)) : W p l e rmX5_isRight s m args below meth c H locs 0 0 (MQ below (hp_Qi D cA h0 h9 r) args s 0 0 (hp_A h0)) (F0 m 0 ls []) := by
  obtain ⟨hx, hb, -⟩ := id cx
  unfold fX5_isRight at hf
  refine lv_iload_n hx hb dX5_isRight_0 rfl (lv_at hl 1 rfl) ?_
  refine lv_istore_n (lv' := [(2, .int v1), (0, .ref t0), (1, .int v1)]) hx hb dX5_isRight_1 rfl hl (by decide) rfl (fun ls hl => ?_)
  refine lv_iconst (v := 0) hx hb dX5_isRight_2 (by decide) ?_
  refine lv_istore_n (lv' := [(3, .int 0), (2, .int v1), (0, .ref t0), (1, .int v1)]) hx hb dX5_isRight_3 rfl hl (by decide) rfl (fun ls hl => ?_)
  refine lv_iconst (v := 1) hx hb dX5_isRight_4 (by decide) ?_
  refine lv_istore (lv' := [(4, .int 1), (3, .int 0), (2, .int v1), (0, .ref t0), (1, .int v1)]) hx hb dX5_isRight_5 hl (by decide) rfl (fun ls hl => ?_)
  refine lv_iconst (v := 0) hx hb dX5_isRight_7 (by decide) ?_
  refine lv_istore (lv' := [(5, .int 0), (4, .int 1), (3, .int 0), (2, .int v1), (0, .ref t0), (1, .int v1)]) hx hb dX5_isRight_8 hl (by decide) rfl (fun ls hl => ?_)
  exact tX5_isRight_10 cx hr hlk  NF t0 v1 0 1 0 h _ _ _ hB (lv_sub hl [4, 3, 2, 1, 0] rfl) hf
end
set_option maxHeartbeats 4000000 in
set_option maxRecDepth 100000 in
theorem cX5_isRight (l : Launch) (D : va_G) (cA : Nat → ClassId) (t0 : Nat) (v1 : Int32) (h : Hp) (r : Int32) (h9 : Hp) (hf : fX5_isRight t0 v1 h = some (r, h9)) : hp_M l yX5_isRight prog_7_method_9_code 6 (Option.some FieldType.boolean) rmX5_isRight D cA h [.ref t0, .int v1] (hp_Qi D cA h h9 r) := by
  refine Met.ofW (cc := prog_7_method_9_code) (maxL := 6) (ret := (Option.some FieldType.boolean)) (by decide) rfl ?_
  intro p e s m args below meth c s₁ B hml hv
  obtain ⟨rfl, hU⟩ := hv
  have hts := atoms_spec (ws := Cond.code yX5_isRight prog_7_method_9_code 6 (Option.some FieldType.boolean) :: tbG) B.pre
  have hl := lv_entry ([.ref t0, .int v1]) (n := 6) (Nat.le_of_ble_eq_true rfl)
  rw [lg_entry_eq]
  generalize (lg_sl ([.ref t0, .int v1]) ++ List.replicate (6 - (lg_sl ([.ref t0, .int v1])).length) Slot.unset).toArray = ls at hl ⊢
  exact tX5_isRight_0 ⟨B.exec, B.bytes, hml, findClass_of_methodNamed B.named, fun w hw => hts w (List.mem_cons_of_mem _ hw)⟩ B.returns B.notSynchronized t0 v1 h _ _ _ (hp_B.entry hU) hl hf
section
variable {p : Program} {l : Launch} {e : Env} {R : Room} {s : State} {m : MethodId} {args : Array Value} {below : List Frame} {meth : Method} {c : Code} {H : Heap} {locs : List Loc} {cells slots : Nat} {Q : State → Prop}
variable {cc : ByteArray} {pc nL : Nat} {ls : Array Slot} {rest : List Value} {D : va_G} {cA : Nat → ClassId} {A : Nat → Prop} {a : Nat} {h : Hp}
theorem cl_X5_60 {As st0 : List Value} {b : Nat} {Qc : Array Value → State → Outcome → State → Prop} (cx : CallFix p m c cc nL s args tbG RX5) (hB : hp_B D cA A s h H locs) (hM : hp_M l yX5_isRight prog_7_method_9_code 6 (Option.some FieldType.boolean) rmX5_isRight D cA h (.ref b :: As) Qc) (hkb : h.1 b = 6) (hR : rmX5_isRight.frames + 1 ≤ R.frames ∧ 8 + (6 + 11) + rmX5_isRight.locals ≤ R.locals) (hn : As.length = 1) (hls : ls.size = nL) (hst : st0 = As.reverse ++ .ref b :: rest) (hW : (rest.map fun v => v.category).sum ≤ 8) (hf : cells + rmX5_isRight.cells ≤ R.cells ∧ slots + rmX5_isRight.slots ≤ R.slots) (hdg : decode cc pc = .ok (.invokevirtual 60, 3)) :
    va_Run p l e R s m args below meth c H locs cells slots rmX5_isRight.cells rmX5_isRight.slots (F0 m pc ls st0) rest (Qc (Value.ref b :: As).toArray) (hp_A h) :=
  hp_runV cx hB hM (ci := 5) rfl (by decide) hkb qw_495 qw_492 qw_493 qw_494 qw_11 (by decide +kernel) hR hn hls hst hW hf hdg
end
abbrev yX5_nextForNumber : MethodName := ⟨"SpokenMenus$Place", "nextForNumber", "(I)I"⟩
theorem dX5_nextForNumber_0 : decode prog_7_method_10_code 0 = .ok (.aload_n 0, 1) := by decide +kernel
theorem dX5_nextForNumber_1 : decode prog_7_method_10_code 1 = .ok (.iload_n 1, 1) := by decide +kernel
theorem dX5_nextForNumber_2 : decode prog_7_method_10_code 2 = .ok (.invokevirtual 60, 3) := by decide +kernel
theorem dX5_nextForNumber_5 : decode prog_7_method_10_code 5 = .ok (.ifCond .eq 10, 3) := by decide +kernel
theorem dX5_nextForNumber_8 : decode prog_7_method_10_code 8 = .ok (.aload_n 0, 1) := by decide +kernel
theorem dX5_nextForNumber_9 : decode prog_7_method_10_code 9 = .ok (.getfield 36, 3) := by decide +kernel
theorem dX5_nextForNumber_12 : decode prog_7_method_10_code 12 = .ok (.goto 7, 3) := by decide +kernel
theorem dX5_nextForNumber_15 : decode prog_7_method_10_code 15 = .ok (.aload_n 0, 1) := by decide +kernel
theorem dX5_nextForNumber_16 : decode prog_7_method_10_code 16 = .ok (.getfield 39, 3) := by decide +kernel
theorem dX5_nextForNumber_19 : decode prog_7_method_10_code 19 = .ok (.ireturn, 1) := by decide +kernel
abbrev rmX5_nextForNumber : Room := { frames := 1, cells := 0, slots := 0, locals := 25 }
def fX5_nextForNumber  (t0 : Nat) (v1 : Int32) (h : Hp) : Option (Int32 × Hp) :=
  gk (h.1 t0) 6 <|
  b2 (fX5_isRight t0 v1 h) fun r4 g2 =>
  if r4 = 0 then
  (gk (g2.1 t0) 6 <|
  some (g2.2.2.1 t0 4, g2))
  else
  (gk (g2.1 t0) 6 <|
  some (g2.2.2.1 t0 3, g2))
section
variable {p : Program} {l : Launch} {e : Env} {s : State} {m : MethodId} {args : Array Value} {below : List Frame} {meth : Method} {c : Code} {D : va_G} {cA : Nat → ClassId} {h0 h9 : Hp}
set_option maxHeartbeats 4000000 in
set_option maxRecDepth 100000 in
theorem tX5_nextForNumber_0  {r : Int32} (cx : CallFix p m c prog_7_method_10_code 2 s args tbG RX5) (hr : meth.sig.returnType = (Option.some FieldType.int)) (hlk : meth.locks = false)  (t0 : Nat) (v1 : Int32) (h : Hp) (H : Heap) (locs : List Loc) (ls : Array Slot) (hB : hp_B D cA (hp_A h0) s h H locs) (hl : lv_has ls 2 [(0, .ref t0), (1, .int v1)]) (hf : fX5_nextForNumber  t0 v1 h = some (r, h9)) : W p l e rmX5_nextForNumber s m args below meth c H locs 0 0 (MQ below (hp_Qi D cA h0 h9 r) args s 0 0 (hp_A h0)) (F0 m 0 ls []) := by
  obtain ⟨hx, hb, -⟩ := id cx
  unfold fX5_nextForNumber at hf
  refine lv_aload_n hx hb dX5_nextForNumber_0 rfl (lv_at hl 0 rfl) ?_
  refine lv_iload_n hx hb dX5_nextForNumber_1 rfl (lv_at hl 1 rfl) ?_
  obtain ⟨k1, hf⟩ := gk_ok hf
  obtain ⟨r4, g2, m3, hf⟩ := b2_ok hf
  refine hp_cI0 (cl_X5_60 cx hB (cX5_isRight l D cA t0 v1 h _ g2 m3) k1 ⟨Nat.le_of_ble_eq_true rfl, Nat.le_of_ble_eq_true rfl⟩ rfl hl.1 rfl (Nat.le_of_ble_eq_true rfl) ⟨Nat.le_of_ble_eq_true rfl, Nat.le_of_ble_eq_true rfl⟩ dX5_nextForNumber_2) rfl rfl hB (fun H locs hB => ?_)
  refine lv_if_eq (tgt := 15) hx hb dX5_nextForNumber_5 (by decide) (fun c6 => ?_) (fun c6 => ?_)
  · replace hf := it_t c6 hf
    refine lv_aload_n hx hb dX5_nextForNumber_15 rfl (lv_at hl 0 rfl) ?_
    obtain ⟨k7, hf⟩ := gk_ok hf
    refine gf_X5_39 cx hB k7 dX5_nextForNumber_16 ?_
    obtain ⟨rfl, rfl⟩ := rt_ok hf
    exact hp_iret cx hB hr hlk (Nat.le_of_ble_eq_true rfl) (Nat.le_of_ble_eq_true rfl) dX5_nextForNumber_19
  · replace hf := it_f c6 hf
    refine lv_aload_n hx hb dX5_nextForNumber_8 rfl (lv_at hl 0 rfl) ?_
    obtain ⟨k8, hf⟩ := gk_ok hf
    refine gf_X5_36 cx hB k8 dX5_nextForNumber_9 ?_
    refine lv_goto (tgt := 19) hx hb dX5_nextForNumber_12 (by decide) ?_
    obtain ⟨rfl, rfl⟩ := rt_ok hf
    exact hp_iret cx hB hr hlk (Nat.le_of_ble_eq_true rfl) (Nat.le_of_ble_eq_true rfl) dX5_nextForNumber_19
end
set_option maxHeartbeats 4000000 in
set_option maxRecDepth 100000 in
theorem cX5_nextForNumber (l : Launch) (D : va_G) (cA : Nat → ClassId) (t0 : Nat) (v1 : Int32) (h : Hp) (r : Int32) (h9 : Hp) (hf : fX5_nextForNumber t0 v1 h = some (r, h9)) : hp_M l yX5_nextForNumber prog_7_method_10_code 2 (Option.some FieldType.int) rmX5_nextForNumber D cA h [.ref t0, .int v1] (hp_Qi D cA h h9 r) := by
  refine Met.ofW (cc := prog_7_method_10_code) (maxL := 2) (ret := (Option.some FieldType.int)) (by decide) rfl ?_
  intro p e s m args below meth c s₁ B hml hv
  obtain ⟨rfl, hU⟩ := hv
  have hts := atoms_spec (ws := Cond.code yX5_nextForNumber prog_7_method_10_code 2 (Option.some FieldType.int) :: tbG) B.pre
  have hl := lv_entry ([.ref t0, .int v1]) (n := 2) (Nat.le_of_ble_eq_true rfl)
  rw [lg_entry_eq]
  generalize (lg_sl ([.ref t0, .int v1]) ++ List.replicate (2 - (lg_sl ([.ref t0, .int v1])).length) Slot.unset).toArray = ls at hl ⊢
  exact tX5_nextForNumber_0 ⟨B.exec, B.bytes, hml, findClass_of_methodNamed B.named, fun w hw => hts w (List.mem_cons_of_mem _ hw)⟩ B.returns B.notSynchronized t0 v1 h _ _ _ (hp_B.entry hU) hl hf
abbrev yX5_ticksOfTries : MethodName := ⟨"SpokenMenus$Place", "ticksOfTries", "(IZ)I"⟩
theorem dX5_ticksOfTries_0 : decode prog_7_method_11_code 0 = .ok (.iload_n 2, 1) := by decide +kernel
theorem dX5_ticksOfTries_1 : decode prog_7_method_11_code 1 = .ok (.ifCond .eq 10, 3) := by decide +kernel
theorem dX5_ticksOfTries_4 : decode prog_7_method_11_code 4 = .ok (.aload_n 0, 1) := by decide +kernel
theorem dX5_ticksOfTries_5 : decode prog_7_method_11_code 5 = .ok (.getfield 18, 3) := by decide +kernel
theorem dX5_ticksOfTries_8 : decode prog_7_method_11_code 8 = .ok (.goto 12, 3) := by decide +kernel
theorem dX5_ticksOfTries_11 : decode prog_7_method_11_code 11 = .ok (.aload_n 0, 1) := by decide +kernel
theorem dX5_ticksOfTries_12 : decode prog_7_method_11_code 12 = .ok (.getfield 30, 3) := by decide +kernel
theorem dX5_ticksOfTries_15 : decode prog_7_method_11_code 15 = .ok (.aload_n 0, 1) := by decide +kernel
theorem dX5_ticksOfTries_16 : decode prog_7_method_11_code 16 = .ok (.getfield 18, 3) := by decide +kernel
theorem dX5_ticksOfTries_19 : decode prog_7_method_11_code 19 = .ok (.iadd, 1) := by decide +kernel
theorem dX5_ticksOfTries_20 : decode prog_7_method_11_code 20 = .ok (.istore_n 3, 1) := by decide +kernel
theorem dX5_ticksOfTries_21 : decode prog_7_method_11_code 21 = .ok (.aload_n 0, 1) := by decide +kernel
theorem dX5_ticksOfTries_22 : decode prog_7_method_11_code 22 = .ok (.iload_n 1, 1) := by decide +kernel
theorem dX5_ticksOfTries_23 : decode prog_7_method_11_code 23 = .ok (.invokevirtual 60, 3) := by decide +kernel
theorem dX5_ticksOfTries_26 : decode prog_7_method_11_code 26 = .ok (.ifCond .eq 7, 3) := by decide +kernel
theorem dX5_ticksOfTries_29 : decode prog_7_method_11_code 29 = .ok (.iload_n 3, 1) := by decide +kernel
theorem dX5_ticksOfTries_30 : decode prog_7_method_11_code 30 = .ok (.goto 9, 3) := by decide +kernel
theorem dX5_ticksOfTries_33 : decode prog_7_method_11_code 33 = .ok (.aload_n 0, 1) := by decide +kernel
theorem dX5_ticksOfTries_34 : decode prog_7_method_11_code 34 = .ok (.getfield 15, 3) := by decide +kernel
theorem dX5_ticksOfTries_37 : decode prog_7_method_11_code 37 = .ok (.iload_n 3, 1) := by decide +kernel
theorem dX5_ticksOfTries_38 : decode prog_7_method_11_code 38 = .ok (.imul, 1) := by decide +kernel
theorem dX5_ticksOfTries_39 : decode prog_7_method_11_code 39 = .ok (.ireturn, 1) := by decide +kernel
abbrev rmX5_ticksOfTries : Room := { frames := 1, cells := 0, slots := 0, locals := 25 }
def fX5_ticksOfTries_20  (t0 : Nat) (v1 : Int32) (s0 : Int32) (h : Hp) : Option (Int32 × Hp) :=
  gk (h.1 t0) 6 <|
  b2 (fX5_isRight t0 v1 h) fun r4 g2 =>
  if r4 = 0 then
  (gk (g2.1 t0) 6 <|
  some ((g2.2.2.1 t0 7) * s0, g2))
  else
  (some (s0, g2))
def fX5_ticksOfTries  (t0 : Nat) (v1 : Int32) (v2 : Int32) (h : Hp) : Option (Int32 × Hp) :=
  if v2 = 0 then
  (gk (h.1 t0) 6 <|
  fX5_ticksOfTries_20  t0 v1 ((h.2.2.1 t0 1) + (h.2.2.1 t0 8)) h)
  else
  (gk (h.1 t0) 6 <|
  fX5_ticksOfTries_20  t0 v1 (h.2.2.1 t0 8) h)
section
variable {p : Program} {l : Launch} {e : Env} {s : State} {m : MethodId} {args : Array Value} {below : List Frame} {meth : Method} {c : Code} {D : va_G} {cA : Nat → ClassId} {h0 h9 : Hp}
set_option maxHeartbeats 4000000 in
set_option maxRecDepth 100000 in
theorem tX5_ticksOfTries_20  {r : Int32} (cx : CallFix p m c prog_7_method_11_code 4 s args tbG RX5) (hr : meth.sig.returnType = (Option.some FieldType.int)) (hlk : meth.locks = false)  (t0 : Nat) (v1 : Int32) (s0 : Int32) (h : Hp) (H : Heap) (locs : List Loc) (ls : Array Slot) (hB : hp_B D cA (hp_A h0) s h H locs) (hl : lv_has ls 4 [(0, .ref t0), (1, .int v1)]) (hf : fX5_ticksOfTries_20  t0 v1 s0 h = some (r, h9)) : W p l e rmX5_ticksOfTries s m args below meth c H locs 0 0 (MQ below (hp_Qi D cA h0 h9 r) args s 0 0 (hp_A h0)) (F0 m 20 ls [.int s0]) := by
  obtain ⟨hx, hb, -⟩ := id cx
  unfold fX5_ticksOfTries_20 at hf
  refine lv_istore_n (lv' := [(3, .int s0), (0, .ref t0), (1, .int v1)]) hx hb dX5_ticksOfTries_20 rfl hl (by decide) rfl (fun ls hl => ?_)
  refine lv_aload_n hx hb dX5_ticksOfTries_21 rfl (lv_at hl 1 rfl) ?_
  refine lv_iload_n hx hb dX5_ticksOfTries_22 rfl (lv_at hl 2 rfl) ?_
  obtain ⟨k1, hf⟩ := gk_ok hf
  obtain ⟨r4, g2, m3, hf⟩ := b2_ok hf
  refine hp_cI0 (cl_X5_60 cx hB (cX5_isRight l D cA t0 v1 h _ g2 m3) k1 ⟨Nat.le_of_ble_eq_true rfl, Nat.le_of_ble_eq_true rfl⟩ rfl hl.1 rfl (Nat.le_of_ble_eq_true rfl) ⟨Nat.le_of_ble_eq_true rfl, Nat.le_of_ble_eq_true rfl⟩ dX5_ticksOfTries_23) rfl rfl hB (fun H locs hB => ?_)
  refine lv_if_eq (tgt := 33) hx hb dX5_ticksOfTries_26 (by decide) (fun c6 => ?_) (fun c6 => ?_)
  · replace hf := it_t c6 hf
    refine lv_aload_n hx hb dX5_ticksOfTries_33 rfl (lv_at hl 1 rfl) ?_
    obtain ⟨k7, hf⟩ := gk_ok hf
    refine gf_X5_15 cx hB k7 dX5_ticksOfTries_34 ?_
    refine lv_iload_n hx hb dX5_ticksOfTries_37 rfl (lv_at hl 0 rfl) ?_
    refine lv_imul hx hb dX5_ticksOfTries_38 ?_
    obtain ⟨rfl, rfl⟩ := rt_ok hf
    exact hp_iret cx hB hr hlk (Nat.le_of_ble_eq_true rfl) (Nat.le_of_ble_eq_true rfl) dX5_ticksOfTries_39
  · replace hf := it_f c6 hf
    refine lv_iload_n hx hb dX5_ticksOfTries_29 rfl (lv_at hl 0 rfl) ?_
    refine lv_goto (tgt := 39) hx hb dX5_ticksOfTries_30 (by decide) ?_
    obtain ⟨rfl, rfl⟩ := rt_ok hf
    exact hp_iret cx hB hr hlk (Nat.le_of_ble_eq_true rfl) (Nat.le_of_ble_eq_true rfl) dX5_ticksOfTries_39
set_option maxHeartbeats 4000000 in
set_option maxRecDepth 100000 in
theorem tX5_ticksOfTries_0  {r : Int32} (cx : CallFix p m c prog_7_method_11_code 4 s args tbG RX5) (hr : meth.sig.returnType = (Option.some FieldType.int)) (hlk : meth.locks = false)  (t0 : Nat) (v1 : Int32) (v2 : Int32) (h : Hp) (H : Heap) (locs : List Loc) (ls : Array Slot) (hB : hp_B D cA (hp_A h0) s h H locs) (hl : lv_has ls 4 [(0, .ref t0), (1, .int v1), (2, .int v2)]) (hf : fX5_ticksOfTries  t0 v1 v2 h = some (r, h9)) : W p l e rmX5_ticksOfTries s m args below meth c H locs 0 0 (MQ below (hp_Qi D cA h0 h9 r) args s 0 0 (hp_A h0)) (F0 m 0 ls []) := by
  obtain ⟨hx, hb, -⟩ := id cx
  unfold fX5_ticksOfTries at hf
  refine lv_iload_n hx hb dX5_ticksOfTries_0 rfl (lv_at hl 2 rfl) ?_
  refine lv_if_eq (tgt := 11) hx hb dX5_ticksOfTries_1 (by decide) (fun c1 => ?_) (fun c1 => ?_)
  · replace hf := it_t c1 hf
    refine lv_aload_n hx hb dX5_ticksOfTries_11 rfl (lv_at hl 0 rfl) ?_
    obtain ⟨k2, hf⟩ := gk_ok hf
    refine gf_X5_30 cx hB k2 dX5_ticksOfTries_12 ?_
    refine lv_aload_n hx hb dX5_ticksOfTries_15 rfl (lv_at hl 0 rfl) ?_
    refine gf_X5_18 cx hB k2 dX5_ticksOfTries_16 ?_
    refine lv_iadd hx hb dX5_ticksOfTries_19 ?_
    exact tX5_ticksOfTries_20 cx hr hlk  t0 v1 ((h.2.2.1 t0 1) + (h.2.2.1 t0 8)) h _ _ _ hB (lv_sub hl [0, 1] rfl) hf
  · replace hf := it_f c1 hf
    refine lv_aload_n hx hb dX5_ticksOfTries_4 rfl (lv_at hl 0 rfl) ?_
    obtain ⟨k3, hf⟩ := gk_ok hf
    refine gf_X5_18 cx hB k3 dX5_ticksOfTries_5 ?_
    refine lv_goto (tgt := 20) hx hb dX5_ticksOfTries_8 (by decide) ?_
    exact tX5_ticksOfTries_20 cx hr hlk  t0 v1 (h.2.2.1 t0 8) h _ _ _ hB (lv_sub hl [0, 1] rfl) hf
end
set_option maxHeartbeats 4000000 in
set_option maxRecDepth 100000 in
theorem cX5_ticksOfTries (l : Launch) (D : va_G) (cA : Nat → ClassId) (t0 : Nat) (v1 : Int32) (v2 : Int32) (h : Hp) (r : Int32) (h9 : Hp) (hf : fX5_ticksOfTries t0 v1 v2 h = some (r, h9)) : hp_M l yX5_ticksOfTries prog_7_method_11_code 4 (Option.some FieldType.int) rmX5_ticksOfTries D cA h [.ref t0, .int v1, .int v2] (hp_Qi D cA h h9 r) := by
  refine Met.ofW (cc := prog_7_method_11_code) (maxL := 4) (ret := (Option.some FieldType.int)) (by decide) rfl ?_
  intro p e s m args below meth c s₁ B hml hv
  obtain ⟨rfl, hU⟩ := hv
  have hts := atoms_spec (ws := Cond.code yX5_ticksOfTries prog_7_method_11_code 4 (Option.some FieldType.int) :: tbG) B.pre
  have hl := lv_entry ([.ref t0, .int v1, .int v2]) (n := 4) (Nat.le_of_ble_eq_true rfl)
  rw [lg_entry_eq]
  generalize (lg_sl ([.ref t0, .int v1, .int v2]) ++ List.replicate (4 - (lg_sl ([.ref t0, .int v1, .int v2])).length) Slot.unset).toArray = ls at hl ⊢
  exact tX5_ticksOfTries_0 ⟨B.exec, B.bytes, hml, findClass_of_methodNamed B.named, fun w hw => hts w (List.mem_cons_of_mem _ hw)⟩ B.returns B.notSynchronized t0 v1 v2 h _ _ _ (hp_B.entry hU) hl hf
section
variable {p : Program} {l : Launch} {e : Env} {R : Room} {s : State} {m : MethodId} {args : Array Value} {below : List Frame} {meth : Method} {c : Code} {H : Heap} {locs : List Loc} {cells slots : Nat} {Q : State → Prop}
variable {cc : ByteArray} {pc nL : Nat} {ls : Array Slot} {rest : List Value} {D : va_G} {cA : Nat → ClassId} {A : Nat → Prop} {a : Nat} {h : Hp}
theorem gf_X5_27 (cx : CallFix p m c cc nL s args tbG RX5) (hB : hp_B D cA A s h H locs) (hka : h.1 a = 6) (hdg : decode cc pc = .ok (.getfield 27, 3)) (kk : W p l e R s m args below meth c H locs cells slots Q (F0 m (pc + 3) ls (.int (h.2.2.1 a 0) :: rest))) : W p l e R s m args below meth c H locs cells slots Q (F0 m pc ls (.ref a :: rest)) :=
  hp_getI cx hB (ci := 5) 0 rfl inX5 (by decide) rfl (by decide) rfl qw_246 hka hdg kk
end
abbrev yX5_exits : MethodName := ⟨"SpokenMenus$Place", "exits", "()I"⟩
theorem dX5_exits_0 : decode prog_7_method_12_code 0 = .ok (.aload_n 0, 1) := by decide +kernel
theorem dX5_exits_1 : decode prog_7_method_12_code 1 = .ok (.getfield 27, 3) := by decide +kernel
theorem dX5_exits_4 : decode prog_7_method_12_code 4 = .ok (.tableswitch 47 0 4 #[36, 43, 47, 47, 45], 36) := by decide +kernel
theorem dX5_exits_40 : decode prog_7_method_12_code 40 = .ok (.aload_n 0, 1) := by decide +kernel
theorem dX5_exits_41 : decode prog_7_method_12_code 41 = .ok (.getfield 9, 3) := by decide +kernel
theorem dX5_exits_44 : decode prog_7_method_12_code 44 = .ok (.iconst 1, 1) := by decide +kernel
theorem dX5_exits_45 : decode prog_7_method_12_code 45 = .ok (.iadd, 1) := by decide +kernel
theorem dX5_exits_46 : decode prog_7_method_12_code 46 = .ok (.ireturn, 1) := by decide +kernel
theorem dX5_exits_47 : decode prog_7_method_12_code 47 = .ok (.iconst 0, 1) := by decide +kernel
theorem dX5_exits_48 : decode prog_7_method_12_code 48 = .ok (.ireturn, 1) := by decide +kernel
theorem dX5_exits_49 : decode prog_7_method_12_code 49 = .ok (.iconst 2, 1) := by decide +kernel
theorem dX5_exits_50 : decode prog_7_method_12_code 50 = .ok (.ireturn, 1) := by decide +kernel
theorem dX5_exits_51 : decode prog_7_method_12_code 51 = .ok (.iconst 1, 1) := by decide +kernel
theorem dX5_exits_52 : decode prog_7_method_12_code 52 = .ok (.ireturn, 1) := by decide +kernel
abbrev rmX5_exits : Room := { frames := 0, cells := 0, slots := 0, locals := 0 }
def fX5_exits  (t0 : Nat) (h : Hp) : Option (Int32 × Hp) :=
  gk (h.1 t0) 6 <|
  nm (h.2.2.1 t0 0) fun x2 =>
  if x2 = 0 then
  (some ((h.2.2.1 t0 6) + 1, h))
  else
  if x2 = 1 then
  (some (0, h))
  else
  if x2 = 2 then
  (some (1, h))
  else
  if x2 = 3 then
  (some (1, h))
  else
  if x2 = 4 then
  (some (2, h))
  else
  (some (1, h))
section
variable {p : Program} {l : Launch} {e : Env} {s : State} {m : MethodId} {args : Array Value} {below : List Frame} {meth : Method} {c : Code} {D : va_G} {cA : Nat → ClassId} {h0 h9 : Hp}
set_option maxHeartbeats 4000000 in
set_option maxRecDepth 100000 in
theorem tX5_exits_0  {r : Int32} (cx : CallFix p m c prog_7_method_12_code 1 s args tbG RX5) (hr : meth.sig.returnType = (Option.some FieldType.int)) (hlk : meth.locks = false)  (t0 : Nat) (h : Hp) (H : Heap) (locs : List Loc) (ls : Array Slot) (hB : hp_B D cA (hp_A h0) s h H locs) (hl : lv_has ls 1 [(0, .ref t0)]) (hf : fX5_exits  t0 h = some (r, h9)) : W p l e rmX5_exits s m args below meth c H locs 0 0 (MQ below (hp_Qi D cA h0 h9 r) args s 0 0 (hp_A h0)) (F0 m 0 ls []) := by
  obtain ⟨hx, hb, -⟩ := id cx
  unfold fX5_exits at hf
  refine lv_aload_n hx hb dX5_exits_0 rfl (lv_at hl 0 rfl) ?_
  obtain ⟨k1, hf⟩ := gk_ok hf
  refine gf_X5_27 cx hB k1 dX5_exits_1 ?_
  obtain ⟨x2, ex2, hf⟩ := nm_ok hf
  refine lv_ren ex2 ?_
  by_cases c3 : x2 = 0
  · replace hf := it_t c3 hf
    refine lv_tableIn (off := 36) (tgt := 40) hx hb dX5_exits_4 (by rw [c3]; decide) (by rw [c3]; decide) (by rw [c3]; rfl) (by decide) ?_
    refine lv_aload_n hx hb dX5_exits_40 rfl (lv_at hl 0 rfl) ?_
    refine gf_X5_9 cx hB k1 dX5_exits_41 ?_
    refine lv_iconst (v := 1) hx hb dX5_exits_44 (by decide) ?_
    refine lv_iadd hx hb dX5_exits_45 ?_
    obtain ⟨rfl, rfl⟩ := rt_ok hf
    exact hp_iret cx hB hr hlk (Nat.le_of_ble_eq_true rfl) (Nat.le_of_ble_eq_true rfl) dX5_exits_46
  · replace hf := it_f c3 hf
    by_cases c4 : x2 = 1
    · replace hf := it_t c4 hf
      refine lv_tableIn (off := 43) (tgt := 47) hx hb dX5_exits_4 (by rw [c4]; decide) (by rw [c4]; decide) (by rw [c4]; rfl) (by decide) ?_
      refine lv_iconst (v := 0) hx hb dX5_exits_47 (by decide) ?_
      obtain ⟨rfl, rfl⟩ := rt_ok hf
      exact hp_iret cx hB hr hlk (Nat.le_of_ble_eq_true rfl) (Nat.le_of_ble_eq_true rfl) dX5_exits_48
    · replace hf := it_f c4 hf
      by_cases c5 : x2 = 2
      · replace hf := it_t c5 hf
        refine lv_tableIn (off := 47) (tgt := 51) hx hb dX5_exits_4 (by rw [c5]; decide) (by rw [c5]; decide) (by rw [c5]; rfl) (by decide) ?_
        refine lv_iconst (v := 1) hx hb dX5_exits_51 (by decide) ?_
        obtain ⟨rfl, rfl⟩ := rt_ok hf
        exact hp_iret cx hB hr hlk (Nat.le_of_ble_eq_true rfl) (Nat.le_of_ble_eq_true rfl) dX5_exits_52
      · replace hf := it_f c5 hf
        by_cases c6 : x2 = 3
        · replace hf := it_t c6 hf
          refine lv_tableIn (off := 47) (tgt := 51) hx hb dX5_exits_4 (by rw [c6]; decide) (by rw [c6]; decide) (by rw [c6]; rfl) (by decide) ?_
          refine lv_iconst (v := 1) hx hb dX5_exits_51 (by decide) ?_
          obtain ⟨rfl, rfl⟩ := rt_ok hf
          exact hp_iret cx hB hr hlk (Nat.le_of_ble_eq_true rfl) (Nat.le_of_ble_eq_true rfl) dX5_exits_52
        · replace hf := it_f c6 hf
          by_cases c7 : x2 = 4
          · replace hf := it_t c7 hf
            refine lv_tableIn (off := 45) (tgt := 49) hx hb dX5_exits_4 (by rw [c7]; decide) (by rw [c7]; decide) (by rw [c7]; rfl) (by decide) ?_
            refine lv_iconst (v := 2) hx hb dX5_exits_49 (by decide) ?_
            obtain ⟨rfl, rfl⟩ := rt_ok hf
            exact hp_iret cx hB hr hlk (Nat.le_of_ble_eq_true rfl) (Nat.le_of_ble_eq_true rfl) dX5_exits_50
          · replace hf := it_f c7 hf
            refine lv_tableOut (tgt := 51) hx hb dX5_exits_4 (by have nc3 := lv_neT c3 (a := 0) rfl; have nc4 := lv_neT c4 (a := 1) rfl; have nc5 := lv_neT c5 (a := 2) rfl; have nc6 := lv_neT c6 (a := 3) rfl; have nc7 := lv_neT c7 (a := 4) rfl; omega) (by decide) ?_
            refine lv_iconst (v := 1) hx hb dX5_exits_51 (by decide) ?_
            obtain ⟨rfl, rfl⟩ := rt_ok hf
            exact hp_iret cx hB hr hlk (Nat.le_of_ble_eq_true rfl) (Nat.le_of_ble_eq_true rfl) dX5_exits_52
end
set_option maxHeartbeats 4000000 in
set_option maxRecDepth 100000 in
theorem cX5_exits (l : Launch) (D : va_G) (cA : Nat → ClassId) (t0 : Nat) (h : Hp) (r : Int32) (h9 : Hp) (hf : fX5_exits t0 h = some (r, h9)) : hp_M l yX5_exits prog_7_method_12_code 1 (Option.some FieldType.int) rmX5_exits D cA h [.ref t0] (hp_Qi D cA h h9 r) := by
  refine Met.ofW (cc := prog_7_method_12_code) (maxL := 1) (ret := (Option.some FieldType.int)) (by decide) rfl ?_
  intro p e s m args below meth c s₁ B hml hv
  obtain ⟨rfl, hU⟩ := hv
  have hts := atoms_spec (ws := Cond.code yX5_exits prog_7_method_12_code 1 (Option.some FieldType.int) :: tbG) B.pre
  have hl := lv_entry ([.ref t0]) (n := 1) (Nat.le_of_ble_eq_true rfl)
  rw [lg_entry_eq]
  generalize (lg_sl ([.ref t0]) ++ List.replicate (1 - (lg_sl ([.ref t0])).length) Slot.unset).toArray = ls at hl ⊢
  exact tX5_exits_0 ⟨B.exec, B.bytes, hml, findClass_of_methodNamed B.named, fun w hw => hts w (List.mem_cons_of_mem _ hw)⟩ B.returns B.notSynchronized t0 h _ _ _ (hp_B.entry hU) hl hf
section
variable {p : Program} {l : Launch} {e : Env} {R : Room} {s : State} {m : MethodId} {args : Array Value} {below : List Frame} {meth : Method} {c : Code} {H : Heap} {locs : List Loc} {cells slots : Nat} {Q : State → Prop}
variable {cc : ByteArray} {pc nL : Nat} {ls : Array Slot} {rest : List Value} {D : va_G} {cA : Nat → ClassId} {A : Nat → Prop} {a : Nat} {h : Hp}
theorem cl_X5_63 {As st0 : List Value} {b : Nat} {Qc : Array Value → State → Outcome → State → Prop} (cx : CallFix p m c cc nL s args tbG RX5) (hB : hp_B D cA A s h H locs) (hM : hp_M l yX5_nextAtHour prog_7_method_8_code 3 (Option.some FieldType.int) rmX5_nextAtHour D cA h (.ref b :: As) Qc) (hkb : h.1 b = 6) (hR : rmX5_nextAtHour.frames + 1 ≤ R.frames ∧ 8 + (3 + 11) + rmX5_nextAtHour.locals ≤ R.locals) (hn : As.length = 1) (hls : ls.size = nL) (hst : st0 = As.reverse ++ .ref b :: rest) (hW : (rest.map fun v => v.category).sum ≤ 8) (hf : cells + rmX5_nextAtHour.cells ≤ R.cells ∧ slots + rmX5_nextAtHour.slots ≤ R.slots) (hdg : decode cc pc = .ok (.invokevirtual 63, 3)) :
    va_Run p l e R s m args below meth c H locs cells slots rmX5_nextAtHour.cells rmX5_nextAtHour.slots (F0 m pc ls st0) rest (Qc (Value.ref b :: As).toArray) (hp_A h) :=
  hp_runV cx hB hM (ci := 5) rfl (by decide) hkb qw_487 qw_599 qw_485 qw_486 qw_11 (by decide +kernel) hR hn hls hst hW hf hdg
theorem gf_X5_66 (cx : CallFix p m c cc nL s args tbG RX5) (hB : hp_B D cA A s h H locs) (hka : h.1 a = 4) (hdg : decode cc pc = .ok (.getfield 66, 3)) (kk : W p l e R s m args below meth c H locs cells slots Q (F0 m (pc + 3) ls (.int (h.2.2.1 a 3) :: rest))) : W p l e R s m args below meth c H locs cells slots Q (F0 m pc ls (.ref a :: rest)) :=
  hp_getI cx hB (ci := 3) 3 rfl inX3 (by decide) rfl (by decide) rfl qw_349 hka hdg kk
end
abbrev yX5_exitAt : MethodName := ⟨"SpokenMenus$Place", "exitAt", "(II)I"⟩
theorem dX5_exitAt_0 : decode prog_7_method_13_code 0 = .ok (.aload_n 0, 1) := by decide +kernel
theorem dX5_exitAt_1 : decode prog_7_method_13_code 1 = .ok (.getfield 27, 3) := by decide +kernel
theorem dX5_exitAt_4 : decode prog_7_method_13_code 4 = .ok (.iconst 3, 1) := by decide +kernel
theorem dX5_exitAt_5 : decode prog_7_method_13_code 5 = .ok (.if_icmp .ne 9, 3) := by decide +kernel
theorem dX5_exitAt_8 : decode prog_7_method_13_code 8 = .ok (.aload_n 0, 1) := by decide +kernel
theorem dX5_exitAt_9 : decode prog_7_method_13_code 9 = .ok (.iload_n 2, 1) := by decide +kernel
theorem dX5_exitAt_10 : decode prog_7_method_13_code 10 = .ok (.invokevirtual 63, 3) := by decide +kernel
theorem dX5_exitAt_13 : decode prog_7_method_13_code 13 = .ok (.ireturn, 1) := by decide +kernel
theorem dX5_exitAt_14 : decode prog_7_method_13_code 14 = .ok (.aload_n 0, 1) := by decide +kernel
theorem dX5_exitAt_15 : decode prog_7_method_13_code 15 = .ok (.getfield 27, 3) := by decide +kernel
theorem dX5_exitAt_18 : decode prog_7_method_13_code 18 = .ok (.iconst 4, 1) := by decide +kernel
theorem dX5_exitAt_19 : decode prog_7_method_13_code 19 = .ok (.if_icmp .ne 13, 3) := by decide +kernel
theorem dX5_exitAt_22 : decode prog_7_method_13_code 22 = .ok (.iload_n 1, 1) := by decide +kernel
theorem dX5_exitAt_23 : decode prog_7_method_13_code 23 = .ok (.iconst 1, 1) := by decide +kernel
theorem dX5_exitAt_24 : decode prog_7_method_13_code 24 = .ok (.if_icmp .ne 8, 3) := by decide +kernel
theorem dX5_exitAt_27 : decode prog_7_method_13_code 27 = .ok (.aload_n 0, 1) := by decide +kernel
theorem dX5_exitAt_28 : decode prog_7_method_13_code 28 = .ok (.getfield 39, 3) := by decide +kernel
theorem dX5_exitAt_31 : decode prog_7_method_13_code 31 = .ok (.ireturn, 1) := by decide +kernel
theorem dX5_exitAt_32 : decode prog_7_method_13_code 32 = .ok (.iload_n 1, 1) := by decide +kernel
theorem dX5_exitAt_33 : decode prog_7_method_13_code 33 = .ok (.ifCond .lt 23, 3) := by decide +kernel
theorem dX5_exitAt_36 : decode prog_7_method_13_code 36 = .ok (.iload_n 1, 1) := by decide +kernel
theorem dX5_exitAt_37 : decode prog_7_method_13_code 37 = .ok (.aload_n 0, 1) := by decide +kernel
theorem dX5_exitAt_38 : decode prog_7_method_13_code 38 = .ok (.getfield 9, 3) := by decide +kernel
theorem dX5_exitAt_41 : decode prog_7_method_13_code 41 = .ok (.if_icmp .ge 15, 3) := by decide +kernel
theorem dX5_exitAt_44 : decode prog_7_method_13_code 44 = .ok (.aload_n 0, 1) := by decide +kernel
theorem dX5_exitAt_45 : decode prog_7_method_13_code 45 = .ok (.getfield 44, 3) := by decide +kernel
theorem dX5_exitAt_48 : decode prog_7_method_13_code 48 = .ok (.iload_n 1, 1) := by decide +kernel
theorem dX5_exitAt_49 : decode prog_7_method_13_code 49 = .ok (.aaload, 1) := by decide +kernel
theorem dX5_exitAt_50 : decode prog_7_method_13_code 50 = .ok (.getfield 66, 3) := by decide +kernel
theorem dX5_exitAt_53 : decode prog_7_method_13_code 53 = .ok (.goto 7, 3) := by decide +kernel
theorem dX5_exitAt_56 : decode prog_7_method_13_code 56 = .ok (.aload_n 0, 1) := by decide +kernel
theorem dX5_exitAt_57 : decode prog_7_method_13_code 57 = .ok (.getfield 36, 3) := by decide +kernel
theorem dX5_exitAt_60 : decode prog_7_method_13_code 60 = .ok (.ireturn, 1) := by decide +kernel
abbrev rmX5_exitAt : Room := { frames := 1, cells := 0, slots := 0, locals := 22 }
def fX5_exitAt_32  (t0 : Nat) (v1 : Int32) (h : Hp) : Option (Int32 × Hp) :=
  if v1 < 0 then
  (gk (h.1 t0) 6 <|
  some (h.2.2.1 t0 3, h))
  else
  (gk (h.1 t0) 6 <|
  if (h.2.2.1 t0 6) ≤ v1 then
  (some (h.2.2.1 t0 3, h))
  else
  (bd (h.2.2.2.1 t0 5) fun a5 =>
  gk (h.1 a5) 16 <|
  gd (ix v1 (h.2.1 a5)) <|
  bd (h.2.2.2.1 a5 (Int32.toNatClampNeg v1)) fun a9 =>
  gk (h.1 a9) 4 <|
  some (h.2.2.1 a9 3, h)))
def fX5_exitAt  (t0 : Nat) (v1 : Int32) (v2 : Int32) (h : Hp) : Option (Int32 × Hp) :=
  gk (h.1 t0) 6 <|
  if (h.2.2.1 t0 0) = 3 then
  (b2 (fX5_nextAtHour t0 v2 h) fun r7 g5 =>
  some (r7, g5))
  else
  (if (h.2.2.1 t0 0) = 4 then
  (if v1 = 1 then
  (some (h.2.2.1 t0 4, h))
  else
  (fX5_exitAt_32  t0 v1 h))
  else
  (fX5_exitAt_32  t0 v1 h))
section
variable {p : Program} {l : Launch} {e : Env} {s : State} {m : MethodId} {args : Array Value} {below : List Frame} {meth : Method} {c : Code} {D : va_G} {cA : Nat → ClassId} {h0 h9 : Hp}
set_option maxHeartbeats 4000000 in
set_option maxRecDepth 100000 in
theorem tX5_exitAt_32  {r : Int32} (cx : CallFix p m c prog_7_method_13_code 3 s args tbG RX5) (hr : meth.sig.returnType = (Option.some FieldType.int)) (hlk : meth.locks = false)  (t0 : Nat) (v1 : Int32) (h : Hp) (H : Heap) (locs : List Loc) (ls : Array Slot) (hB : hp_B D cA (hp_A h0) s h H locs) (hl : lv_has ls 3 [(0, .ref t0), (1, .int v1)]) (hf : fX5_exitAt_32  t0 v1 h = some (r, h9)) : W p l e rmX5_exitAt s m args below meth c H locs 0 0 (MQ below (hp_Qi D cA h0 h9 r) args s 0 0 (hp_A h0)) (F0 m 32 ls []) := by
  obtain ⟨hx, hb, -⟩ := id cx
  unfold fX5_exitAt_32 at hf
  refine lv_iload_n hx hb dX5_exitAt_32 rfl (lv_at hl 1 rfl) ?_
  refine lv_if_lt (tgt := 56) hx hb dX5_exitAt_33 (by decide) (fun c1 => ?_) (fun c1 => ?_)
  · replace hf := it_t c1 hf
    refine lv_aload_n hx hb dX5_exitAt_56 rfl (lv_at hl 0 rfl) ?_
    obtain ⟨k2, hf⟩ := gk_ok hf
    refine gf_X5_36 cx hB k2 dX5_exitAt_57 ?_
    obtain ⟨rfl, rfl⟩ := rt_ok hf
    exact hp_iret cx hB hr hlk (Nat.le_of_ble_eq_true rfl) (Nat.le_of_ble_eq_true rfl) dX5_exitAt_60
  · replace hf := it_f c1 hf
    refine lv_iload_n hx hb dX5_exitAt_36 rfl (lv_at hl 1 rfl) ?_
    refine lv_aload_n hx hb dX5_exitAt_37 rfl (lv_at hl 0 rfl) ?_
    obtain ⟨k3, hf⟩ := gk_ok hf
    refine gf_X5_9 cx hB k3 dX5_exitAt_38 ?_
    refine lv_icmp_ge (tgt := 56) hx hb dX5_exitAt_41 (by decide) (fun c4 => ?_) (fun c4 => ?_)
    · replace hf := it_t c4 hf
      refine lv_aload_n hx hb dX5_exitAt_56 rfl (lv_at hl 0 rfl) ?_
      refine gf_X5_36 cx hB k3 dX5_exitAt_57 ?_
      obtain ⟨rfl, rfl⟩ := rt_ok hf
      exact hp_iret cx hB hr hlk (Nat.le_of_ble_eq_true rfl) (Nat.le_of_ble_eq_true rfl) dX5_exitAt_60
    · replace hf := it_f c4 hf
      refine lv_aload_n hx hb dX5_exitAt_44 rfl (lv_at hl 0 rfl) ?_
      obtain ⟨a5, q6, hf⟩ := bd_ok hf
      refine gf_X5_44 cx hB k3 q6 dX5_exitAt_45 ?_
      refine lv_iload_n hx hb dX5_exitAt_48 rfl (lv_at hl 1 rfl) ?_
      obtain ⟨k7, hf⟩ := gk_ok hf
      obtain ⟨j8, hf⟩ := gd_ok hf
      obtain ⟨a9, q10, hf⟩ := bd_ok hf
      refine hp_aald cx hB 16 (.object RX3) (by decide) rfl rfl k7 j8 (o := some a9) q10.symm dX5_exitAt_49 ?_
      obtain ⟨k11, hf⟩ := gk_ok hf
      refine gf_X5_66 cx hB k11 dX5_exitAt_50 ?_
      refine lv_goto (tgt := 60) hx hb dX5_exitAt_53 (by decide) ?_
      obtain ⟨rfl, rfl⟩ := rt_ok hf
      exact hp_iret cx hB hr hlk (Nat.le_of_ble_eq_true rfl) (Nat.le_of_ble_eq_true rfl) dX5_exitAt_60
set_option maxHeartbeats 4000000 in
set_option maxRecDepth 100000 in
theorem tX5_exitAt_0  {r : Int32} (cx : CallFix p m c prog_7_method_13_code 3 s args tbG RX5) (hr : meth.sig.returnType = (Option.some FieldType.int)) (hlk : meth.locks = false)  (t0 : Nat) (v1 : Int32) (v2 : Int32) (h : Hp) (H : Heap) (locs : List Loc) (ls : Array Slot) (hB : hp_B D cA (hp_A h0) s h H locs) (hl : lv_has ls 3 [(0, .ref t0), (1, .int v1), (2, .int v2)]) (hf : fX5_exitAt  t0 v1 v2 h = some (r, h9)) : W p l e rmX5_exitAt s m args below meth c H locs 0 0 (MQ below (hp_Qi D cA h0 h9 r) args s 0 0 (hp_A h0)) (F0 m 0 ls []) := by
  obtain ⟨hx, hb, -⟩ := id cx
  unfold fX5_exitAt at hf
  refine lv_aload_n hx hb dX5_exitAt_0 rfl (lv_at hl 0 rfl) ?_
  obtain ⟨k1, hf⟩ := gk_ok hf
  refine gf_X5_27 cx hB k1 dX5_exitAt_1 ?_
  refine lv_iconst (v := 3) hx hb dX5_exitAt_4 (by decide) ?_
  refine lv_icmp_ne (tgt := 14) hx hb dX5_exitAt_5 (by decide) (fun c2 => ?_) (fun c2 => ?_)
  · replace hf := it_f c2 hf
    refine lv_aload_n hx hb dX5_exitAt_14 rfl (lv_at hl 0 rfl) ?_
    refine gf_X5_27 cx hB k1 dX5_exitAt_15 ?_
    refine lv_iconst (v := 4) hx hb dX5_exitAt_18 (by decide) ?_
    refine lv_icmp_ne (tgt := 32) hx hb dX5_exitAt_19 (by decide) (fun c3 => ?_) (fun c3 => ?_)
    · replace hf := it_f c3 hf
      exact tX5_exitAt_32 cx hr hlk  t0 v1 h _ _ _ hB (lv_sub hl [0, 1] rfl) hf
    · replace hf := it_t c3 hf
      refine lv_iload_n hx hb dX5_exitAt_22 rfl (lv_at hl 1 rfl) ?_
      refine lv_iconst (v := 1) hx hb dX5_exitAt_23 (by decide) ?_
      refine lv_icmp_ne (tgt := 32) hx hb dX5_exitAt_24 (by decide) (fun c4 => ?_) (fun c4 => ?_)
      · replace hf := it_f c4 hf
        exact tX5_exitAt_32 cx hr hlk  t0 v1 h _ _ _ hB (lv_sub hl [0, 1] rfl) hf
      · replace hf := it_t c4 hf
        refine lv_aload_n hx hb dX5_exitAt_27 rfl (lv_at hl 0 rfl) ?_
        refine gf_X5_39 cx hB k1 dX5_exitAt_28 ?_
        obtain ⟨rfl, rfl⟩ := rt_ok hf
        exact hp_iret cx hB hr hlk (Nat.le_of_ble_eq_true rfl) (Nat.le_of_ble_eq_true rfl) dX5_exitAt_31
  · replace hf := it_t c2 hf
    refine lv_aload_n hx hb dX5_exitAt_8 rfl (lv_at hl 0 rfl) ?_
    refine lv_iload_n hx hb dX5_exitAt_9 rfl (lv_at hl 2 rfl) ?_
    obtain ⟨r7, g5, m6, hf⟩ := b2_ok hf
    refine hp_cI0 (cl_X5_63 cx hB (cX5_nextAtHour l D cA t0 v2 h _ g5 m6) k1 ⟨Nat.le_of_ble_eq_true rfl, Nat.le_of_ble_eq_true rfl⟩ rfl hl.1 rfl (Nat.le_of_ble_eq_true rfl) ⟨Nat.le_of_ble_eq_true rfl, Nat.le_of_ble_eq_true rfl⟩ dX5_exitAt_10) rfl rfl hB (fun H locs hB => ?_)
    obtain ⟨rfl, rfl⟩ := rt_ok hf
    exact hp_iret cx hB hr hlk (Nat.le_of_ble_eq_true rfl) (Nat.le_of_ble_eq_true rfl) dX5_exitAt_13
end
set_option maxHeartbeats 4000000 in
set_option maxRecDepth 100000 in
theorem cX5_exitAt (l : Launch) (D : va_G) (cA : Nat → ClassId) (t0 : Nat) (v1 : Int32) (v2 : Int32) (h : Hp) (r : Int32) (h9 : Hp) (hf : fX5_exitAt t0 v1 v2 h = some (r, h9)) : hp_M l yX5_exitAt prog_7_method_13_code 3 (Option.some FieldType.int) rmX5_exitAt D cA h [.ref t0, .int v1, .int v2] (hp_Qi D cA h h9 r) := by
  refine Met.ofW (cc := prog_7_method_13_code) (maxL := 3) (ret := (Option.some FieldType.int)) (by decide) rfl ?_
  intro p e s m args below meth c s₁ B hml hv
  obtain ⟨rfl, hU⟩ := hv
  have hts := atoms_spec (ws := Cond.code yX5_exitAt prog_7_method_13_code 3 (Option.some FieldType.int) :: tbG) B.pre
  have hl := lv_entry ([.ref t0, .int v1, .int v2]) (n := 3) (Nat.le_of_ble_eq_true rfl)
  rw [lg_entry_eq]
  generalize (lg_sl ([.ref t0, .int v1, .int v2]) ++ List.replicate (3 - (lg_sl ([.ref t0, .int v1, .int v2])).length) Slot.unset).toArray = ls at hl ⊢
  exact tX5_exitAt_0 ⟨B.exec, B.bytes, hml, findClass_of_methodNamed B.named, fun w hw => hts w (List.mem_cons_of_mem _ hw)⟩ B.returns B.notSynchronized t0 v1 v2 h _ _ _ (hp_B.entry hU) hl hf
abbrev yJ6_numberOfTrailingZeros_0f7a4 : MethodName := ⟨"java/lang/Integer", "numberOfTrailingZeros", "(I)I"⟩
theorem dJ6_numberOfTrailingZeros_0f7a4_0 : decode prog_14_method_48_code 0 = .ok (.iload_n 0, 1) := by decide +kernel
theorem dJ6_numberOfTrailingZeros_0f7a4_1 : decode prog_14_method_48_code 1 = .ok (.iconst (-1), 1) := by decide +kernel
theorem dJ6_numberOfTrailingZeros_0f7a4_2 : decode prog_14_method_48_code 2 = .ok (.ixor, 1) := by decide +kernel
theorem dJ6_numberOfTrailingZeros_0f7a4_3 : decode prog_14_method_48_code 3 = .ok (.iload_n 0, 1) := by decide +kernel
theorem dJ6_numberOfTrailingZeros_0f7a4_4 : decode prog_14_method_48_code 4 = .ok (.iconst 1, 1) := by decide +kernel
theorem dJ6_numberOfTrailingZeros_0f7a4_5 : decode prog_14_method_48_code 5 = .ok (.isub, 1) := by decide +kernel
theorem dJ6_numberOfTrailingZeros_0f7a4_6 : decode prog_14_method_48_code 6 = .ok (.iand, 1) := by decide +kernel
theorem dJ6_numberOfTrailingZeros_0f7a4_7 : decode prog_14_method_48_code 7 = .ok (.istore_n 0, 1) := by decide +kernel
theorem dJ6_numberOfTrailingZeros_0f7a4_8 : decode prog_14_method_48_code 8 = .ok (.iload_n 0, 1) := by decide +kernel
theorem dJ6_numberOfTrailingZeros_0f7a4_9 : decode prog_14_method_48_code 9 = .ok (.ifCond .gt 8, 3) := by decide +kernel
theorem dJ6_numberOfTrailingZeros_0f7a4_12 : decode prog_14_method_48_code 12 = .ok (.iload_n 0, 1) := by decide +kernel
theorem dJ6_numberOfTrailingZeros_0f7a4_13 : decode prog_14_method_48_code 13 = .ok (.bipush 32, 2) := by decide +kernel
theorem dJ6_numberOfTrailingZeros_0f7a4_15 : decode prog_14_method_48_code 15 = .ok (.iand, 1) := by decide +kernel
theorem dJ6_numberOfTrailingZeros_0f7a4_16 : decode prog_14_method_48_code 16 = .ok (.ireturn, 1) := by decide +kernel
theorem dJ6_numberOfTrailingZeros_0f7a4_17 : decode prog_14_method_48_code 17 = .ok (.iconst 1, 1) := by decide +kernel
theorem dJ6_numberOfTrailingZeros_0f7a4_18 : decode prog_14_method_48_code 18 = .ok (.istore_n 1, 1) := by decide +kernel
theorem dJ6_numberOfTrailingZeros_0f7a4_19 : decode prog_14_method_48_code 19 = .ok (.iload_n 0, 1) := by decide +kernel
theorem dJ6_numberOfTrailingZeros_0f7a4_20 : decode prog_14_method_48_code 20 = .ok (.ldc_w 264, 3) := by decide +kernel
theorem dJ6_numberOfTrailingZeros_0f7a4_23 : decode prog_14_method_48_code 23 = .ok (.if_icmp .le 11, 3) := by decide +kernel
theorem dJ6_numberOfTrailingZeros_0f7a4_26 : decode prog_14_method_48_code 26 = .ok (.iinc 1 16, 3) := by decide +kernel
theorem dJ6_numberOfTrailingZeros_0f7a4_29 : decode prog_14_method_48_code 29 = .ok (.iload_n 0, 1) := by decide +kernel
theorem dJ6_numberOfTrailingZeros_0f7a4_30 : decode prog_14_method_48_code 30 = .ok (.bipush 16, 2) := by decide +kernel
theorem dJ6_numberOfTrailingZeros_0f7a4_32 : decode prog_14_method_48_code 32 = .ok (.iushr, 1) := by decide +kernel
theorem dJ6_numberOfTrailingZeros_0f7a4_33 : decode prog_14_method_48_code 33 = .ok (.istore_n 0, 1) := by decide +kernel
theorem dJ6_numberOfTrailingZeros_0f7a4_34 : decode prog_14_method_48_code 34 = .ok (.iload_n 0, 1) := by decide +kernel
theorem dJ6_numberOfTrailingZeros_0f7a4_35 : decode prog_14_method_48_code 35 = .ok (.sipush 256, 3) := by decide +kernel
theorem dJ6_numberOfTrailingZeros_0f7a4_38 : decode prog_14_method_48_code 38 = .ok (.if_icmp .le 11, 3) := by decide +kernel
theorem dJ6_numberOfTrailingZeros_0f7a4_41 : decode prog_14_method_48_code 41 = .ok (.iinc 1 8, 3) := by decide +kernel
theorem dJ6_numberOfTrailingZeros_0f7a4_44 : decode prog_14_method_48_code 44 = .ok (.iload_n 0, 1) := by decide +kernel
theorem dJ6_numberOfTrailingZeros_0f7a4_45 : decode prog_14_method_48_code 45 = .ok (.bipush 8, 2) := by decide +kernel
theorem dJ6_numberOfTrailingZeros_0f7a4_47 : decode prog_14_method_48_code 47 = .ok (.iushr, 1) := by decide +kernel
theorem dJ6_numberOfTrailingZeros_0f7a4_48 : decode prog_14_method_48_code 48 = .ok (.istore_n 0, 1) := by decide +kernel
theorem dJ6_numberOfTrailingZeros_0f7a4_49 : decode prog_14_method_48_code 49 = .ok (.iload_n 0, 1) := by decide +kernel
theorem dJ6_numberOfTrailingZeros_0f7a4_50 : decode prog_14_method_48_code 50 = .ok (.bipush 16, 2) := by decide +kernel
theorem dJ6_numberOfTrailingZeros_0f7a4_52 : decode prog_14_method_48_code 52 = .ok (.if_icmp .le 10, 3) := by decide +kernel
theorem dJ6_numberOfTrailingZeros_0f7a4_55 : decode prog_14_method_48_code 55 = .ok (.iinc 1 4, 3) := by decide +kernel
theorem dJ6_numberOfTrailingZeros_0f7a4_58 : decode prog_14_method_48_code 58 = .ok (.iload_n 0, 1) := by decide +kernel
theorem dJ6_numberOfTrailingZeros_0f7a4_59 : decode prog_14_method_48_code 59 = .ok (.iconst 4, 1) := by decide +kernel
theorem dJ6_numberOfTrailingZeros_0f7a4_60 : decode prog_14_method_48_code 60 = .ok (.iushr, 1) := by decide +kernel
theorem dJ6_numberOfTrailingZeros_0f7a4_61 : decode prog_14_method_48_code 61 = .ok (.istore_n 0, 1) := by decide +kernel
theorem dJ6_numberOfTrailingZeros_0f7a4_62 : decode prog_14_method_48_code 62 = .ok (.iload_n 0, 1) := by decide +kernel
theorem dJ6_numberOfTrailingZeros_0f7a4_63 : decode prog_14_method_48_code 63 = .ok (.iconst 4, 1) := by decide +kernel
theorem dJ6_numberOfTrailingZeros_0f7a4_64 : decode prog_14_method_48_code 64 = .ok (.if_icmp .le 10, 3) := by decide +kernel
theorem dJ6_numberOfTrailingZeros_0f7a4_67 : decode prog_14_method_48_code 67 = .ok (.iinc 1 2, 3) := by decide +kernel
theorem dJ6_numberOfTrailingZeros_0f7a4_70 : decode prog_14_method_48_code 70 = .ok (.iload_n 0, 1) := by decide +kernel
theorem dJ6_numberOfTrailingZeros_0f7a4_71 : decode prog_14_method_48_code 71 = .ok (.iconst 2, 1) := by decide +kernel
theorem dJ6_numberOfTrailingZeros_0f7a4_72 : decode prog_14_method_48_code 72 = .ok (.iushr, 1) := by decide +kernel
theorem dJ6_numberOfTrailingZeros_0f7a4_73 : decode prog_14_method_48_code 73 = .ok (.istore_n 0, 1) := by decide +kernel
theorem dJ6_numberOfTrailingZeros_0f7a4_74 : decode prog_14_method_48_code 74 = .ok (.iload_n 1, 1) := by decide +kernel
theorem dJ6_numberOfTrailingZeros_0f7a4_75 : decode prog_14_method_48_code 75 = .ok (.iload_n 0, 1) := by decide +kernel
theorem dJ6_numberOfTrailingZeros_0f7a4_76 : decode prog_14_method_48_code 76 = .ok (.iconst 1, 1) := by decide +kernel
theorem dJ6_numberOfTrailingZeros_0f7a4_77 : decode prog_14_method_48_code 77 = .ok (.iushr, 1) := by decide +kernel
theorem dJ6_numberOfTrailingZeros_0f7a4_78 : decode prog_14_method_48_code 78 = .ok (.iadd, 1) := by decide +kernel
theorem dJ6_numberOfTrailingZeros_0f7a4_79 : decode prog_14_method_48_code 79 = .ok (.ireturn, 1) := by decide +kernel
abbrev rmJ6_numberOfTrailingZeros_0f7a4 : Room := { frames := 0, cells := 0, slots := 0, locals := 0 }
def fJ6_numberOfTrailingZeros_0f7a4_62  (v0 : Int32) (v1 : Int32) (h : Hp) : Option (Int32 × Hp) :=
  if v0 ≤ 4 then
  (some (v1 + ((v0.toUInt32 >>> (Int32.toUInt32 1 &&& Int32.toUInt32 31)).toInt32), h))
  else
  (nm (v1 + 2) fun x2 =>
  nm ((v0.toUInt32 >>> (Int32.toUInt32 2 &&& Int32.toUInt32 31)).toInt32) fun x3 =>
  some (x2 + ((x3.toUInt32 >>> (Int32.toUInt32 1 &&& Int32.toUInt32 31)).toInt32), h))
def fJ6_numberOfTrailingZeros_0f7a4_34  (v0 : Int32) (v1 : Int32) (h : Hp) : Option (Int32 × Hp) :=
  if v0 ≤ 256 then
  (if v0 ≤ 16 then
  (fJ6_numberOfTrailingZeros_0f7a4_62  v0 v1 h)
  else
  (nm (v1 + 4) fun x3 =>
  nm ((v0.toUInt32 >>> (Int32.toUInt32 4 &&& Int32.toUInt32 31)).toInt32) fun x4 =>
  fJ6_numberOfTrailingZeros_0f7a4_62  x4 x3 h))
  else
  (nm (v1 + 8) fun x5 =>
  nm ((v0.toUInt32 >>> (Int32.toUInt32 8 &&& Int32.toUInt32 31)).toInt32) fun x6 =>
  if x6 ≤ 16 then
  (fJ6_numberOfTrailingZeros_0f7a4_62  x6 x5 h)
  else
  (nm (x5 + 4) fun x8 =>
  nm ((x6.toUInt32 >>> (Int32.toUInt32 4 &&& Int32.toUInt32 31)).toInt32) fun x9 =>
  fJ6_numberOfTrailingZeros_0f7a4_62  x9 x8 h))
def fJ6_numberOfTrailingZeros_0f7a4  (v0 : Int32) (h : Hp) : Option (Int32 × Hp) :=
  nm ((v0 ^^^ (-1)) &&& (v0 - 1)) fun x1 =>
  if 0 < x1 then
  (if x1 ≤ 65536 then
  (fJ6_numberOfTrailingZeros_0f7a4_34  x1 1 h)
  else
  (nm (1 + 16) fun x4 =>
  nm ((x1.toUInt32 >>> (Int32.toUInt32 16 &&& Int32.toUInt32 31)).toInt32) fun x5 =>
  fJ6_numberOfTrailingZeros_0f7a4_34  x5 x4 h))
  else
  (some (x1 &&& 32, h))
section
variable {p : Program} {l : Launch} {e : Env} {s : State} {m : MethodId} {args : Array Value} {below : List Frame} {meth : Method} {c : Code} {D : va_G} {cA : Nat → ClassId} {h0 h9 : Hp}
set_option maxHeartbeats 4000000 in
set_option maxRecDepth 100000 in
theorem tJ6_numberOfTrailingZeros_0f7a4_62  {r : Int32} (cx : CallFix p m c prog_14_method_48_code 2 s args tbG "java/lang/Integer") (hr : meth.sig.returnType = (Option.some FieldType.int)) (hlk : meth.locks = false)  (v0 : Int32) (v1 : Int32) (h : Hp) (H : Heap) (locs : List Loc) (ls : Array Slot) (hB : hp_B D cA (hp_A h0) s h H locs) (hl : lv_has ls 2 [(0, .int v0), (1, .int v1)]) (hf : fJ6_numberOfTrailingZeros_0f7a4_62  v0 v1 h = some (r, h9)) : W p l e rmJ6_numberOfTrailingZeros_0f7a4 s m args below meth c H locs 0 0 (MQ below (hp_Qi D cA h0 h9 r) args s 0 0 (hp_A h0)) (F0 m 62 ls []) := by
  obtain ⟨hx, hb, -⟩ := id cx
  unfold fJ6_numberOfTrailingZeros_0f7a4_62 at hf
  refine lv_iload_n hx hb dJ6_numberOfTrailingZeros_0f7a4_62 rfl (lv_at hl 0 rfl) ?_
  refine lv_iconst (v := 4) hx hb dJ6_numberOfTrailingZeros_0f7a4_63 (by decide) ?_
  refine lv_icmp_le (tgt := 74) hx hb dJ6_numberOfTrailingZeros_0f7a4_64 (by decide) (fun c1 => ?_) (fun c1 => ?_)
  · replace hf := it_t c1 hf
    refine lv_iload_n hx hb dJ6_numberOfTrailingZeros_0f7a4_74 rfl (lv_at hl 1 rfl) ?_
    refine lv_iload_n hx hb dJ6_numberOfTrailingZeros_0f7a4_75 rfl (lv_at hl 0 rfl) ?_
    refine lv_iconst (v := 1) hx hb dJ6_numberOfTrailingZeros_0f7a4_76 (by decide) ?_
    refine lv_iushr (v := (v0.toUInt32 >>> (Int32.toUInt32 1 &&& Int32.toUInt32 31)).toInt32) hx hb dJ6_numberOfTrailingZeros_0f7a4_77 rfl ?_
    refine lv_iadd hx hb dJ6_numberOfTrailingZeros_0f7a4_78 ?_
    obtain ⟨rfl, rfl⟩ := rt_ok hf
    exact hp_iret cx hB hr hlk (Nat.le_of_ble_eq_true rfl) (Nat.le_of_ble_eq_true rfl) dJ6_numberOfTrailingZeros_0f7a4_79
  · replace hf := it_f c1 hf
    obtain ⟨x2, ex2, hf⟩ := nm_ok hf
    refine lv_iinc (v := x2) (lv' := [(1, .int x2), (0, .int v0)]) hx hb dJ6_numberOfTrailingZeros_0f7a4_67 hl (k := 1) rfl (by rw [ex2]; rfl) (by decide) rfl (fun ls hl => ?_)
    refine lv_iload_n hx hb dJ6_numberOfTrailingZeros_0f7a4_70 rfl (lv_at hl 1 rfl) ?_
    refine lv_iconst (v := 2) hx hb dJ6_numberOfTrailingZeros_0f7a4_71 (by decide) ?_
    refine lv_iushr (v := (v0.toUInt32 >>> (Int32.toUInt32 2 &&& Int32.toUInt32 31)).toInt32) hx hb dJ6_numberOfTrailingZeros_0f7a4_72 rfl ?_
    obtain ⟨x3, ex3, hf⟩ := nm_ok hf
    refine lv_ren ex3 ?_
    refine lv_istore_n (lv' := [(0, .int x3), (1, .int x2)]) hx hb dJ6_numberOfTrailingZeros_0f7a4_73 rfl hl (by decide) rfl (fun ls hl => ?_)
    refine lv_iload_n hx hb dJ6_numberOfTrailingZeros_0f7a4_74 rfl (lv_at hl 1 rfl) ?_
    refine lv_iload_n hx hb dJ6_numberOfTrailingZeros_0f7a4_75 rfl (lv_at hl 0 rfl) ?_
    refine lv_iconst (v := 1) hx hb dJ6_numberOfTrailingZeros_0f7a4_76 (by decide) ?_
    refine lv_iushr (v := (x3.toUInt32 >>> (Int32.toUInt32 1 &&& Int32.toUInt32 31)).toInt32) hx hb dJ6_numberOfTrailingZeros_0f7a4_77 rfl ?_
    refine lv_iadd hx hb dJ6_numberOfTrailingZeros_0f7a4_78 ?_
    obtain ⟨rfl, rfl⟩ := rt_ok hf
    exact hp_iret cx hB hr hlk (Nat.le_of_ble_eq_true rfl) (Nat.le_of_ble_eq_true rfl) dJ6_numberOfTrailingZeros_0f7a4_79
set_option maxHeartbeats 4000000 in
set_option maxRecDepth 100000 in
theorem tJ6_numberOfTrailingZeros_0f7a4_34  {r : Int32} (cx : CallFix p m c prog_14_method_48_code 2 s args tbG "java/lang/Integer") (hr : meth.sig.returnType = (Option.some FieldType.int)) (hlk : meth.locks = false)  (v0 : Int32) (v1 : Int32) (h : Hp) (H : Heap) (locs : List Loc) (ls : Array Slot) (hB : hp_B D cA (hp_A h0) s h H locs) (hl : lv_has ls 2 [(0, .int v0), (1, .int v1)]) (hf : fJ6_numberOfTrailingZeros_0f7a4_34  v0 v1 h = some (r, h9)) : W p l e rmJ6_numberOfTrailingZeros_0f7a4 s m args below meth c H locs 0 0 (MQ below (hp_Qi D cA h0 h9 r) args s 0 0 (hp_A h0)) (F0 m 34 ls []) := by
  obtain ⟨hx, hb, -⟩ := id cx
  unfold fJ6_numberOfTrailingZeros_0f7a4_34 at hf
  refine lv_iload_n hx hb dJ6_numberOfTrailingZeros_0f7a4_34 rfl (lv_at hl 0 rfl) ?_
  refine lv_sipush (v := 256) hx hb dJ6_numberOfTrailingZeros_0f7a4_35 (by decide) ?_
  refine lv_icmp_le (tgt := 49) hx hb dJ6_numberOfTrailingZeros_0f7a4_38 (by decide) (fun c1 => ?_) (fun c1 => ?_)
  · replace hf := it_t c1 hf
    refine lv_iload_n hx hb dJ6_numberOfTrailingZeros_0f7a4_49 rfl (lv_at hl 0 rfl) ?_
    refine lv_bipush (v := 16) hx hb dJ6_numberOfTrailingZeros_0f7a4_50 (by decide) ?_
    refine lv_icmp_le (tgt := 62) hx hb dJ6_numberOfTrailingZeros_0f7a4_52 (by decide) (fun c2 => ?_) (fun c2 => ?_)
    · replace hf := it_t c2 hf
      exact tJ6_numberOfTrailingZeros_0f7a4_62 cx hr hlk  v0 v1 h _ _ _ hB (lv_sub hl [0, 1] rfl) hf
    · replace hf := it_f c2 hf
      obtain ⟨x3, ex3, hf⟩ := nm_ok hf
      refine lv_iinc (v := x3) (lv' := [(1, .int x3), (0, .int v0)]) hx hb dJ6_numberOfTrailingZeros_0f7a4_55 hl (k := 1) rfl (by rw [ex3]; rfl) (by decide) rfl (fun ls hl => ?_)
      refine lv_iload_n hx hb dJ6_numberOfTrailingZeros_0f7a4_58 rfl (lv_at hl 1 rfl) ?_
      refine lv_iconst (v := 4) hx hb dJ6_numberOfTrailingZeros_0f7a4_59 (by decide) ?_
      refine lv_iushr (v := (v0.toUInt32 >>> (Int32.toUInt32 4 &&& Int32.toUInt32 31)).toInt32) hx hb dJ6_numberOfTrailingZeros_0f7a4_60 rfl ?_
      obtain ⟨x4, ex4, hf⟩ := nm_ok hf
      refine lv_ren ex4 ?_
      refine lv_istore_n (lv' := [(0, .int x4), (1, .int x3)]) hx hb dJ6_numberOfTrailingZeros_0f7a4_61 rfl hl (by decide) rfl (fun ls hl => ?_)
      exact tJ6_numberOfTrailingZeros_0f7a4_62 cx hr hlk  x4 x3 h _ _ _ hB (lv_sub hl [0, 1] rfl) hf
  · replace hf := it_f c1 hf
    obtain ⟨x5, ex5, hf⟩ := nm_ok hf
    refine lv_iinc (v := x5) (lv' := [(1, .int x5), (0, .int v0)]) hx hb dJ6_numberOfTrailingZeros_0f7a4_41 hl (k := 1) rfl (by rw [ex5]; rfl) (by decide) rfl (fun ls hl => ?_)
    refine lv_iload_n hx hb dJ6_numberOfTrailingZeros_0f7a4_44 rfl (lv_at hl 1 rfl) ?_
    refine lv_bipush (v := 8) hx hb dJ6_numberOfTrailingZeros_0f7a4_45 (by decide) ?_
    refine lv_iushr (v := (v0.toUInt32 >>> (Int32.toUInt32 8 &&& Int32.toUInt32 31)).toInt32) hx hb dJ6_numberOfTrailingZeros_0f7a4_47 rfl ?_
    obtain ⟨x6, ex6, hf⟩ := nm_ok hf
    refine lv_ren ex6 ?_
    refine lv_istore_n (lv' := [(0, .int x6), (1, .int x5)]) hx hb dJ6_numberOfTrailingZeros_0f7a4_48 rfl hl (by decide) rfl (fun ls hl => ?_)
    refine lv_iload_n hx hb dJ6_numberOfTrailingZeros_0f7a4_49 rfl (lv_at hl 0 rfl) ?_
    refine lv_bipush (v := 16) hx hb dJ6_numberOfTrailingZeros_0f7a4_50 (by decide) ?_
    refine lv_icmp_le (tgt := 62) hx hb dJ6_numberOfTrailingZeros_0f7a4_52 (by decide) (fun c7 => ?_) (fun c7 => ?_)
    · replace hf := it_t c7 hf
      exact tJ6_numberOfTrailingZeros_0f7a4_62 cx hr hlk  x6 x5 h _ _ _ hB (lv_sub hl [0, 1] rfl) hf
    · replace hf := it_f c7 hf
      obtain ⟨x8, ex8, hf⟩ := nm_ok hf
      refine lv_iinc (v := x8) (lv' := [(1, .int x8), (0, .int x6)]) hx hb dJ6_numberOfTrailingZeros_0f7a4_55 hl (k := 1) rfl (by rw [ex8]; rfl) (by decide) rfl (fun ls hl => ?_)
      refine lv_iload_n hx hb dJ6_numberOfTrailingZeros_0f7a4_58 rfl (lv_at hl 1 rfl) ?_
      refine lv_iconst (v := 4) hx hb dJ6_numberOfTrailingZeros_0f7a4_59 (by decide) ?_
      refine lv_iushr (v := (x6.toUInt32 >>> (Int32.toUInt32 4 &&& Int32.toUInt32 31)).toInt32) hx hb dJ6_numberOfTrailingZeros_0f7a4_60 rfl ?_
      obtain ⟨x9, ex9, hf⟩ := nm_ok hf
      refine lv_ren ex9 ?_
      refine lv_istore_n (lv' := [(0, .int x9), (1, .int x8)]) hx hb dJ6_numberOfTrailingZeros_0f7a4_61 rfl hl (by decide) rfl (fun ls hl => ?_)
      exact tJ6_numberOfTrailingZeros_0f7a4_62 cx hr hlk  x9 x8 h _ _ _ hB (lv_sub hl [0, 1] rfl) hf
set_option maxHeartbeats 4000000 in
set_option maxRecDepth 100000 in
theorem tJ6_numberOfTrailingZeros_0f7a4_0  {r : Int32} (cx : CallFix p m c prog_14_method_48_code 2 s args tbG "java/lang/Integer") (hr : meth.sig.returnType = (Option.some FieldType.int)) (hlk : meth.locks = false)  (v0 : Int32) (h : Hp) (H : Heap) (locs : List Loc) (ls : Array Slot) (hB : hp_B D cA (hp_A h0) s h H locs) (hl : lv_has ls 2 [(0, .int v0)]) (hf : fJ6_numberOfTrailingZeros_0f7a4  v0 h = some (r, h9)) : W p l e rmJ6_numberOfTrailingZeros_0f7a4 s m args below meth c H locs 0 0 (MQ below (hp_Qi D cA h0 h9 r) args s 0 0 (hp_A h0)) (F0 m 0 ls []) := by
  obtain ⟨hx, hb, -⟩ := id cx
  unfold fJ6_numberOfTrailingZeros_0f7a4 at hf
  refine lv_iload_n hx hb dJ6_numberOfTrailingZeros_0f7a4_0 rfl (lv_at hl 0 rfl) ?_
  refine lv_iconst (v := (-1)) hx hb dJ6_numberOfTrailingZeros_0f7a4_1 (by decide) ?_
  refine lv_ixor hx hb dJ6_numberOfTrailingZeros_0f7a4_2 ?_
  refine lv_iload_n hx hb dJ6_numberOfTrailingZeros_0f7a4_3 rfl (lv_at hl 0 rfl) ?_
  refine lv_iconst (v := 1) hx hb dJ6_numberOfTrailingZeros_0f7a4_4 (by decide) ?_
  refine lv_isub hx hb dJ6_numberOfTrailingZeros_0f7a4_5 ?_
  refine lv_iand hx hb dJ6_numberOfTrailingZeros_0f7a4_6 ?_
  obtain ⟨x1, ex1, hf⟩ := nm_ok hf
  refine lv_ren ex1 ?_
  refine lv_istore_n (lv' := [(0, .int x1)]) hx hb dJ6_numberOfTrailingZeros_0f7a4_7 rfl hl (by decide) rfl (fun ls hl => ?_)
  refine lv_iload_n hx hb dJ6_numberOfTrailingZeros_0f7a4_8 rfl (lv_at hl 0 rfl) ?_
  refine lv_if_gt (tgt := 17) hx hb dJ6_numberOfTrailingZeros_0f7a4_9 (by decide) (fun c2 => ?_) (fun c2 => ?_)
  · replace hf := it_t c2 hf
    refine lv_iconst (v := 1) hx hb dJ6_numberOfTrailingZeros_0f7a4_17 (by decide) ?_
    refine lv_istore_n (lv' := [(1, .int 1), (0, .int x1)]) hx hb dJ6_numberOfTrailingZeros_0f7a4_18 rfl hl (by decide) rfl (fun ls hl => ?_)
    refine lv_iload_n hx hb dJ6_numberOfTrailingZeros_0f7a4_19 rfl (lv_at hl 1 rfl) ?_
    refine lv_ldcw (v := 65536) hx hb cx.2.2.2.1 (cx.2.2.2.2 _ (tb_in qw_694 rfl)) dJ6_numberOfTrailingZeros_0f7a4_20 ?_
    refine lv_icmp_le (tgt := 34) hx hb dJ6_numberOfTrailingZeros_0f7a4_23 (by decide) (fun c3 => ?_) (fun c3 => ?_)
    · replace hf := it_t c3 hf
      exact tJ6_numberOfTrailingZeros_0f7a4_34 cx hr hlk  x1 1 h _ _ _ hB (lv_sub hl [1, 0] rfl) hf
    · replace hf := it_f c3 hf
      obtain ⟨x4, ex4, hf⟩ := nm_ok hf
      refine lv_iinc (v := x4) (lv' := [(1, .int x4), (0, .int x1)]) hx hb dJ6_numberOfTrailingZeros_0f7a4_26 hl (k := 0) rfl (by rw [ex4]; rfl) (by decide) rfl (fun ls hl => ?_)
      refine lv_iload_n hx hb dJ6_numberOfTrailingZeros_0f7a4_29 rfl (lv_at hl 1 rfl) ?_
      refine lv_bipush (v := 16) hx hb dJ6_numberOfTrailingZeros_0f7a4_30 (by decide) ?_
      refine lv_iushr (v := (x1.toUInt32 >>> (Int32.toUInt32 16 &&& Int32.toUInt32 31)).toInt32) hx hb dJ6_numberOfTrailingZeros_0f7a4_32 rfl ?_
      obtain ⟨x5, ex5, hf⟩ := nm_ok hf
      refine lv_ren ex5 ?_
      refine lv_istore_n (lv' := [(0, .int x5), (1, .int x4)]) hx hb dJ6_numberOfTrailingZeros_0f7a4_33 rfl hl (by decide) rfl (fun ls hl => ?_)
      exact tJ6_numberOfTrailingZeros_0f7a4_34 cx hr hlk  x5 x4 h _ _ _ hB (lv_sub hl [0, 1] rfl) hf
  · replace hf := it_f c2 hf
    refine lv_iload_n hx hb dJ6_numberOfTrailingZeros_0f7a4_12 rfl (lv_at hl 0 rfl) ?_
    refine lv_bipush (v := 32) hx hb dJ6_numberOfTrailingZeros_0f7a4_13 (by decide) ?_
    refine lv_iand hx hb dJ6_numberOfTrailingZeros_0f7a4_15 ?_
    obtain ⟨rfl, rfl⟩ := rt_ok hf
    exact hp_iret cx hB hr hlk (Nat.le_of_ble_eq_true rfl) (Nat.le_of_ble_eq_true rfl) dJ6_numberOfTrailingZeros_0f7a4_16
end
set_option maxHeartbeats 4000000 in
set_option maxRecDepth 100000 in
theorem cJ6_numberOfTrailingZeros_0f7a4 (l : Launch) (D : va_G) (cA : Nat → ClassId) (v0 : Int32) (h : Hp) (r : Int32) (h9 : Hp) (hf : fJ6_numberOfTrailingZeros_0f7a4 v0 h = some (r, h9)) : hp_M l yJ6_numberOfTrailingZeros_0f7a4 prog_14_method_48_code 2 (Option.some FieldType.int) rmJ6_numberOfTrailingZeros_0f7a4 D cA h [.int v0] (hp_Qi D cA h h9 r) := by
  refine Met.ofW (cc := prog_14_method_48_code) (maxL := 2) (ret := (Option.some FieldType.int)) (by decide) rfl ?_
  intro p e s m args below meth c s₁ B hml hv
  obtain ⟨rfl, hU⟩ := hv
  have hts := atoms_spec (ws := Cond.code yJ6_numberOfTrailingZeros_0f7a4 prog_14_method_48_code 2 (Option.some FieldType.int) :: tbG) B.pre
  have hl := lv_entry ([.int v0]) (n := 2) (Nat.le_of_ble_eq_true rfl)
  rw [lg_entry_eq]
  generalize (lg_sl ([.int v0]) ++ List.replicate (2 - (lg_sl ([.int v0])).length) Slot.unset).toArray = ls at hl ⊢
  exact tJ6_numberOfTrailingZeros_0f7a4_0 ⟨B.exec, B.bytes, hml, findClass_of_methodNamed B.named, fun w hw => hts w (List.mem_cons_of_mem _ hw)⟩ B.returns B.notSynchronized v0 h _ _ _ (hp_B.entry hU) hl hf
abbrev yX6_isOne : MethodName := ⟨"SpokenMenus$Planner", "isOne", "(I)Z"⟩
theorem dX6_isOne_0 : decode prog_8_method_4_code 0 = .ok (.iload_n 0, 1) := by decide +kernel
theorem dX6_isOne_1 : decode prog_8_method_4_code 1 = .ok (.iload_n 0, 1) := by decide +kernel
theorem dX6_isOne_2 : decode prog_8_method_4_code 2 = .ok (.iconst 1, 1) := by decide +kernel
theorem dX6_isOne_3 : decode prog_8_method_4_code 3 = .ok (.isub, 1) := by decide +kernel
theorem dX6_isOne_4 : decode prog_8_method_4_code 4 = .ok (.iand, 1) := by decide +kernel
theorem dX6_isOne_5 : decode prog_8_method_4_code 5 = .ok (.ifCond .ne 7, 3) := by decide +kernel
theorem dX6_isOne_8 : decode prog_8_method_4_code 8 = .ok (.iconst 1, 1) := by decide +kernel
theorem dX6_isOne_9 : decode prog_8_method_4_code 9 = .ok (.goto 4, 3) := by decide +kernel
theorem dX6_isOne_12 : decode prog_8_method_4_code 12 = .ok (.iconst 0, 1) := by decide +kernel
theorem dX6_isOne_13 : decode prog_8_method_4_code 13 = .ok (.ireturn, 1) := by decide +kernel
abbrev rmX6_isOne : Room := { frames := 0, cells := 0, slots := 0, locals := 0 }
def fX6_isOne  (v0 : Int32) (h : Hp) : Option (Int32 × Hp) :=
  if (v0 &&& (v0 - 1)) = 0 then
  (some (1, h))
  else
  (some (0, h))
section
variable {p : Program} {l : Launch} {e : Env} {s : State} {m : MethodId} {args : Array Value} {below : List Frame} {meth : Method} {c : Code} {D : va_G} {cA : Nat → ClassId} {h0 h9 : Hp}
set_option maxHeartbeats 4000000 in
set_option maxRecDepth 100000 in
theorem tX6_isOne_0  {r : Int32} (cx : CallFix p m c prog_8_method_4_code 1 s args tbG RX6) (hr : meth.sig.returnType = (Option.some FieldType.boolean)) (hlk : meth.locks = false)  (v0 : Int32) (h : Hp) (H : Heap) (locs : List Loc) (ls : Array Slot) (hB : hp_B D cA (hp_A h0) s h H locs) (hl : lv_has ls 1 [(0, .int v0)]) (hf : fX6_isOne  v0 h = some (r, h9)) : W p l e rmX6_isOne s m args below meth c H locs 0 0 (MQ below (hp_Qi D cA h0 h9 r) args s 0 0 (hp_A h0)) (F0 m 0 ls []) := by
  obtain ⟨hx, hb, -⟩ := id cx
  unfold fX6_isOne at hf
  refine lv_iload_n hx hb dX6_isOne_0 rfl (lv_at hl 0 rfl) ?_
  refine lv_iload_n hx hb dX6_isOne_1 rfl (lv_at hl 0 rfl) ?_
  refine lv_iconst (v := 1) hx hb dX6_isOne_2 (by decide) ?_
  refine lv_isub hx hb dX6_isOne_3 ?_
  refine lv_iand hx hb dX6_isOne_4 ?_
  refine lv_if_ne (tgt := 12) hx hb dX6_isOne_5 (by decide) (fun c1 => ?_) (fun c1 => ?_)
  · replace hf := it_f c1 hf
    refine lv_iconst (v := 0) hx hb dX6_isOne_12 (by decide) ?_
    obtain ⟨rfl, rfl⟩ := rt_ok hf
    exact hp_zret cx hB hr hlk (Nat.le_of_ble_eq_true rfl) (Nat.le_of_ble_eq_true rfl) rfl dX6_isOne_13
  · replace hf := it_t c1 hf
    refine lv_iconst (v := 1) hx hb dX6_isOne_8 (by decide) ?_
    refine lv_goto (tgt := 13) hx hb dX6_isOne_9 (by decide) ?_
    obtain ⟨rfl, rfl⟩ := rt_ok hf
    exact hp_zret cx hB hr hlk (Nat.le_of_ble_eq_true rfl) (Nat.le_of_ble_eq_true rfl) rfl dX6_isOne_13
end
set_option maxHeartbeats 4000000 in
set_option maxRecDepth 100000 in
theorem cX6_isOne (l : Launch) (D : va_G) (cA : Nat → ClassId) (v0 : Int32) (h : Hp) (r : Int32) (h9 : Hp) (hf : fX6_isOne v0 h = some (r, h9)) : hp_M l yX6_isOne prog_8_method_4_code 1 (Option.some FieldType.boolean) rmX6_isOne D cA h [.int v0] (hp_Qi D cA h h9 r) := by
  refine Met.ofW (cc := prog_8_method_4_code) (maxL := 1) (ret := (Option.some FieldType.boolean)) (by decide) rfl ?_
  intro p e s m args below meth c s₁ B hml hv
  obtain ⟨rfl, hU⟩ := hv
  have hts := atoms_spec (ws := Cond.code yX6_isOne prog_8_method_4_code 1 (Option.some FieldType.boolean) :: tbG) B.pre
  have hl := lv_entry ([.int v0]) (n := 1) (Nat.le_of_ble_eq_true rfl)
  rw [lg_entry_eq]
  generalize (lg_sl ([.int v0]) ++ List.replicate (1 - (lg_sl ([.int v0])).length) Slot.unset).toArray = ls at hl ⊢
  exact tX6_isOne_0 ⟨B.exec, B.bytes, hml, findClass_of_methodNamed B.named, fun w hw => hts w (List.mem_cons_of_mem _ hw)⟩ B.returns B.notSynchronized v0 h _ _ _ (hp_B.entry hU) hl hf
section
variable {p : Program} {l : Launch} {e : Env} {R : Room} {s : State} {m : MethodId} {args : Array Value} {below : List Frame} {meth : Method} {c : Code} {H : Heap} {locs : List Loc} {cells slots : Nat} {Q : State → Prop}
variable {cc : ByteArray} {pc nL : Nat} {ls : Array Slot} {rest : List Value} {D : va_G} {cA : Nat → ClassId} {A : Nat → Prop} {a : Nat} {h : Hp}
theorem cl_X6_66 {As st0 : List Value} {Qc : Array Value → State → Outcome → State → Prop} (cx : CallFix p m c cc nL s args tbG RX6) (hB : hp_B D cA A s h H locs) (hM : hp_M l yX6_isOne prog_8_method_4_code 1 (Option.some FieldType.boolean) rmX6_isOne D cA h As Qc) (hR : rmX6_isOne.frames + 1 ≤ R.frames ∧ 8 + (1 + 11) + rmX6_isOne.locals ≤ R.locals) (hn : As.length = 1) (hls : ls.size = nL) (hst : st0 = As.reverse ++ rest) (hW : (rest.map fun v => v.category).sum ≤ 8) (hf : cells + rmX6_isOne.cells ≤ R.cells ∧ slots + rmX6_isOne.slots ≤ R.slots) (hdg : decode cc pc = .ok (.invokestatic 66, 3)) :
    va_Run p l e R s m args below meth c H locs cells slots rmX6_isOne.cells rmX6_isOne.slots (F0 m pc ls st0) rest (Qc As.toArray) (hp_A h) :=
  hp_runS cx hB hM qw_701 qw_699 qw_700 qw_7 (by decide +kernel) hR hn hls hst hW hf hdg
theorem gf_X6_25 (cx : CallFix p m c cc nL s args tbG RX6) (hB : hp_B D cA A s h H locs) (hka : h.1 a = 7) (hdg : decode cc pc = .ok (.getfield 25, 3)) (kk : W p l e R s m args below meth c H locs cells slots Q (F0 m (pc + 3) ls (.int (h.2.2.1 a 4) :: rest))) : W p l e R s m args below meth c H locs cells slots Q (F0 m pc ls (.ref a :: rest)) :=
  hp_getI cx hB (ci := 6) 4 rfl inX6 (by decide) rfl (by decide) rfl qw_128 hka hdg kk
theorem gf_X6_28 (cx : CallFix p m c cc nL s args tbG RX6) (hB : hp_B D cA A s h H locs) (hka : h.1 a = 7) {b : Nat} (ho : h.2.2.2.1 a 5 = some b) (hdg : decode cc pc = .ok (.getfield 28, 3)) (kk : W p l e R s m args below meth c H locs cells slots Q (F0 m (pc + 3) ls (.ref b :: rest))) : W p l e R s m args below meth c H locs cells slots Q (F0 m pc ls (.ref a :: rest)) :=
  hp_getR cx hB (ci := 6) 5 rfl inX6 (by decide) rfl (by decide) rfl qw_129 hka (o := some b) ho.symm hdg kk
theorem gf_X6_31 (cx : CallFix p m c cc nL s args tbG RX6) (hB : hp_B D cA A s h H locs) (hka : h.1 a = 7) {b : Nat} (ho : h.2.2.2.1 a 6 = some b) (hdg : decode cc pc = .ok (.getfield 31, 3)) (kk : W p l e R s m args below meth c H locs cells slots Q (F0 m (pc + 3) ls (.ref b :: rest))) : W p l e R s m args below meth c H locs cells slots Q (F0 m pc ls (.ref a :: rest)) :=
  hp_getR cx hB (ci := 6) 6 rfl inX6 (by decide) rfl (by decide) rfl qw_130 hka (o := some b) ho.symm hdg kk
theorem gf_X6_9 (cx : CallFix p m c cc nL s args tbG RX6) (hB : hp_B D cA A s h H locs) (hka : h.1 a = 7) {b : Nat} (ho : h.2.2.2.1 a 0 = some b) (hdg : decode cc pc = .ok (.getfield 9, 3)) (kk : W p l e R s m args below meth c H locs cells slots Q (F0 m (pc + 3) ls (.ref b :: rest))) : W p l e R s m args below meth c H locs cells slots Q (F0 m pc ls (.ref a :: rest)) :=
  hp_getR cx hB (ci := 6) 0 rfl inX6 (by decide) rfl (by decide) rfl qw_121 hka (o := some b) ho.symm hdg kk
theorem cl_X6_52 {As st0 : List Value} {Qc : Array Value → State → Outcome → State → Prop} (cx : CallFix p m c cc nL s args tbG RX6) (hB : hp_B D cA A s h H locs) (hM : hp_M l yJ6_numberOfTrailingZeros_0f7a4 prog_14_method_48_code 2 (Option.some FieldType.int) rmJ6_numberOfTrailingZeros_0f7a4 D cA h As Qc) (hR : rmJ6_numberOfTrailingZeros_0f7a4.frames + 1 ≤ R.frames ∧ 8 + (2 + 11) + rmJ6_numberOfTrailingZeros_0f7a4.locals ≤ R.locals) (hn : As.length = 1) (hls : ls.size = nL) (hst : st0 = As.reverse ++ rest) (hW : (rest.map fun v => v.category).sum ≤ 8) (hf : cells + rmJ6_numberOfTrailingZeros_0f7a4.cells ≤ R.cells ∧ slots + rmJ6_numberOfTrailingZeros_0f7a4.slots ≤ R.slots) (hdg : decode cc pc = .ok (.invokestatic 52, 3)) :
    va_Run p l e R s m args below meth c H locs cells slots rmJ6_numberOfTrailingZeros_0f7a4.cells rmJ6_numberOfTrailingZeros_0f7a4.slots (F0 m pc ls st0) rest (Qc As.toArray) (hp_A h) :=
  hp_runS cx hB hM qw_693 qw_691 qw_692 qw_15 (by decide +kernel) hR hn hls hst hW hf hdg
end
abbrev yX6_costOfLine : MethodName := ⟨"SpokenMenus$Planner", "costOfLine", "(II)I"⟩
theorem dX6_costOfLine_0 : decode prog_8_method_7_code 0 = .ok (.iload_n 1, 1) := by decide +kernel
theorem dX6_costOfLine_1 : decode prog_8_method_7_code 1 = .ok (.invokestatic 66, 3) := by decide +kernel
theorem dX6_costOfLine_4 : decode prog_8_method_7_code 4 = .ok (.ifCond .eq 20, 3) := by decide +kernel
theorem dX6_costOfLine_7 : decode prog_8_method_7_code 7 = .ok (.aload_n 0, 1) := by decide +kernel
theorem dX6_costOfLine_8 : decode prog_8_method_7_code 8 = .ok (.getfield 9, 3) := by decide +kernel
theorem dX6_costOfLine_11 : decode prog_8_method_7_code 11 = .ok (.iload_n 1, 1) := by decide +kernel
theorem dX6_costOfLine_12 : decode prog_8_method_7_code 12 = .ok (.invokestatic 52, 3) := by decide +kernel
theorem dX6_costOfLine_15 : decode prog_8_method_7_code 15 = .ok (.iaload, 1) := by decide +kernel
theorem dX6_costOfLine_16 : decode prog_8_method_7_code 16 = .ok (.aload_n 0, 1) := by decide +kernel
theorem dX6_costOfLine_17 : decode prog_8_method_7_code 17 = .ok (.getfield 28, 3) := by decide +kernel
theorem dX6_costOfLine_20 : decode prog_8_method_7_code 20 = .ok (.iload_n 2, 1) := by decide +kernel
theorem dX6_costOfLine_21 : decode prog_8_method_7_code 21 = .ok (.iaload, 1) := by decide +kernel
theorem dX6_costOfLine_22 : decode prog_8_method_7_code 22 = .ok (.imul, 1) := by decide +kernel
theorem dX6_costOfLine_23 : decode prog_8_method_7_code 23 = .ok (.ireturn, 1) := by decide +kernel
theorem dX6_costOfLine_24 : decode prog_8_method_7_code 24 = .ok (.aload_n 0, 1) := by decide +kernel
theorem dX6_costOfLine_25 : decode prog_8_method_7_code 25 = .ok (.getfield 25, 3) := by decide +kernel
theorem dX6_costOfLine_28 : decode prog_8_method_7_code 28 = .ok (.aload_n 0, 1) := by decide +kernel
theorem dX6_costOfLine_29 : decode prog_8_method_7_code 29 = .ok (.getfield 28, 3) := by decide +kernel
theorem dX6_costOfLine_32 : decode prog_8_method_7_code 32 = .ok (.iload_n 2, 1) := by decide +kernel
theorem dX6_costOfLine_33 : decode prog_8_method_7_code 33 = .ok (.iaload, 1) := by decide +kernel
theorem dX6_costOfLine_34 : decode prog_8_method_7_code 34 = .ok (.imul, 1) := by decide +kernel
theorem dX6_costOfLine_35 : decode prog_8_method_7_code 35 = .ok (.aload_n 0, 1) := by decide +kernel
theorem dX6_costOfLine_36 : decode prog_8_method_7_code 36 = .ok (.getfield 31, 3) := by decide +kernel
theorem dX6_costOfLine_39 : decode prog_8_method_7_code 39 = .ok (.iload_n 1, 1) := by decide +kernel
theorem dX6_costOfLine_40 : decode prog_8_method_7_code 40 = .ok (.iaload, 1) := by decide +kernel
theorem dX6_costOfLine_41 : decode prog_8_method_7_code 41 = .ok (.iadd, 1) := by decide +kernel
theorem dX6_costOfLine_42 : decode prog_8_method_7_code 42 = .ok (.ireturn, 1) := by decide +kernel
abbrev rmX6_costOfLine : Room := { frames := 1, cells := 0, slots := 0, locals := 21 }
def fX6_costOfLine  (t0 : Nat) (v1 : Int32) (v2 : Int32) (h : Hp) : Option (Int32 × Hp) :=
  b2 (fX6_isOne v1 h) fun r3 g1 =>
  if r3 = 0 then
  (gk (g1.1 t0) 7 <|
  bd (g1.2.2.2.1 t0 5) fun a7 =>
  gk (g1.1 a7) 13 <|
  gd (ix v2 (g1.2.1 a7)) <|
  bd (g1.2.2.2.1 t0 6) fun a11 =>
  gk (g1.1 a11) 13 <|
  gd (ix v1 (g1.2.1 a11)) <|
  some (((g1.2.2.1 t0 4) * (g1.2.2.1 a7 (Int32.toNatClampNeg v2))) + (g1.2.2.1 a11 (Int32.toNatClampNeg v1)), g1))
  else
  (gk (g1.1 t0) 7 <|
  bd (g1.2.2.2.1 t0 0) fun a16 =>
  b2 (fJ6_numberOfTrailingZeros_0f7a4 v1 g1) fun r20 g18 =>
  gk (g18.1 a16) 13 <|
  gd (ix r20 (g18.2.1 a16)) <|
  gk (g18.1 t0) 7 <|
  bd (g18.2.2.2.1 t0 5) fun a25 =>
  gk (g18.1 a25) 13 <|
  gd (ix v2 (g18.2.1 a25)) <|
  some ((g18.2.2.1 a16 (Int32.toNatClampNeg r20)) * (g18.2.2.1 a25 (Int32.toNatClampNeg v2)), g18))
section
variable {p : Program} {l : Launch} {e : Env} {s : State} {m : MethodId} {args : Array Value} {below : List Frame} {meth : Method} {c : Code} {D : va_G} {cA : Nat → ClassId} {h0 h9 : Hp}
set_option maxHeartbeats 4000000 in
set_option maxRecDepth 100000 in
theorem tX6_costOfLine_0  {r : Int32} (cx : CallFix p m c prog_8_method_7_code 3 s args tbG RX6) (hr : meth.sig.returnType = (Option.some FieldType.int)) (hlk : meth.locks = false)  (t0 : Nat) (v1 : Int32) (v2 : Int32) (h : Hp) (H : Heap) (locs : List Loc) (ls : Array Slot) (hB : hp_B D cA (hp_A h0) s h H locs) (hl : lv_has ls 3 [(0, .ref t0), (1, .int v1), (2, .int v2)]) (hf : fX6_costOfLine  t0 v1 v2 h = some (r, h9)) : W p l e rmX6_costOfLine s m args below meth c H locs 0 0 (MQ below (hp_Qi D cA h0 h9 r) args s 0 0 (hp_A h0)) (F0 m 0 ls []) := by
  obtain ⟨hx, hb, -⟩ := id cx
  unfold fX6_costOfLine at hf
  refine lv_iload_n hx hb dX6_costOfLine_0 rfl (lv_at hl 1 rfl) ?_
  obtain ⟨r3, g1, m2, hf⟩ := b2_ok hf
  refine hp_cI0 (cl_X6_66 cx hB (cX6_isOne l D cA v1 h _ g1 m2) ⟨Nat.le_of_ble_eq_true rfl, Nat.le_of_ble_eq_true rfl⟩ rfl hl.1 rfl (Nat.le_of_ble_eq_true rfl) ⟨Nat.le_of_ble_eq_true rfl, Nat.le_of_ble_eq_true rfl⟩ dX6_costOfLine_1) rfl rfl hB (fun H locs hB => ?_)
  refine lv_if_eq (tgt := 24) hx hb dX6_costOfLine_4 (by decide) (fun c5 => ?_) (fun c5 => ?_)
  · replace hf := it_t c5 hf
    refine lv_aload_n hx hb dX6_costOfLine_24 rfl (lv_at hl 0 rfl) ?_
    obtain ⟨k6, hf⟩ := gk_ok hf
    refine gf_X6_25 cx hB k6 dX6_costOfLine_25 ?_
    refine lv_aload_n hx hb dX6_costOfLine_28 rfl (lv_at hl 0 rfl) ?_
    obtain ⟨a7, q8, hf⟩ := bd_ok hf
    refine gf_X6_28 cx hB k6 q8 dX6_costOfLine_29 ?_
    refine lv_iload_n hx hb dX6_costOfLine_32 rfl (lv_at hl 2 rfl) ?_
    obtain ⟨k9, hf⟩ := gk_ok hf
    obtain ⟨j10, hf⟩ := gd_ok hf
    refine hp_iald cx hB k9 j10 dX6_costOfLine_33 ?_
    refine lv_imul hx hb dX6_costOfLine_34 ?_
    refine lv_aload_n hx hb dX6_costOfLine_35 rfl (lv_at hl 0 rfl) ?_
    obtain ⟨a11, q12, hf⟩ := bd_ok hf
    refine gf_X6_31 cx hB k6 q12 dX6_costOfLine_36 ?_
    refine lv_iload_n hx hb dX6_costOfLine_39 rfl (lv_at hl 1 rfl) ?_
    obtain ⟨k13, hf⟩ := gk_ok hf
    obtain ⟨j14, hf⟩ := gd_ok hf
    refine hp_iald cx hB k13 j14 dX6_costOfLine_40 ?_
    refine lv_iadd hx hb dX6_costOfLine_41 ?_
    obtain ⟨rfl, rfl⟩ := rt_ok hf
    exact hp_iret cx hB hr hlk (Nat.le_of_ble_eq_true rfl) (Nat.le_of_ble_eq_true rfl) dX6_costOfLine_42
  · replace hf := it_f c5 hf
    refine lv_aload_n hx hb dX6_costOfLine_7 rfl (lv_at hl 0 rfl) ?_
    obtain ⟨k15, hf⟩ := gk_ok hf
    obtain ⟨a16, q17, hf⟩ := bd_ok hf
    refine gf_X6_9 cx hB k15 q17 dX6_costOfLine_8 ?_
    refine lv_iload_n hx hb dX6_costOfLine_11 rfl (lv_at hl 1 rfl) ?_
    obtain ⟨r20, g18, m19, hf⟩ := b2_ok hf
    refine hp_cI0 (cl_X6_52 cx hB (cJ6_numberOfTrailingZeros_0f7a4 l D cA v1 g1 _ g18 m19) ⟨Nat.le_of_ble_eq_true rfl, Nat.le_of_ble_eq_true rfl⟩ rfl hl.1 rfl (Nat.le_of_ble_eq_true rfl) ⟨Nat.le_of_ble_eq_true rfl, Nat.le_of_ble_eq_true rfl⟩ dX6_costOfLine_12) rfl rfl hB (fun H locs hB => ?_)
    obtain ⟨k22, hf⟩ := gk_ok hf
    obtain ⟨j23, hf⟩ := gd_ok hf
    refine hp_iald cx hB k22 j23 dX6_costOfLine_15 ?_
    refine lv_aload_n hx hb dX6_costOfLine_16 rfl (lv_at hl 0 rfl) ?_
    obtain ⟨k24, hf⟩ := gk_ok hf
    obtain ⟨a25, q26, hf⟩ := bd_ok hf
    refine gf_X6_28 cx hB k24 q26 dX6_costOfLine_17 ?_
    refine lv_iload_n hx hb dX6_costOfLine_20 rfl (lv_at hl 2 rfl) ?_
    obtain ⟨k27, hf⟩ := gk_ok hf
    obtain ⟨j28, hf⟩ := gd_ok hf
    refine hp_iald cx hB k27 j28 dX6_costOfLine_21 ?_
    refine lv_imul hx hb dX6_costOfLine_22 ?_
    obtain ⟨rfl, rfl⟩ := rt_ok hf
    exact hp_iret cx hB hr hlk (Nat.le_of_ble_eq_true rfl) (Nat.le_of_ble_eq_true rfl) dX6_costOfLine_23
end
set_option maxHeartbeats 4000000 in
set_option maxRecDepth 100000 in
theorem cX6_costOfLine (l : Launch) (D : va_G) (cA : Nat → ClassId) (t0 : Nat) (v1 : Int32) (v2 : Int32) (h : Hp) (r : Int32) (h9 : Hp) (hf : fX6_costOfLine t0 v1 v2 h = some (r, h9)) : hp_M l yX6_costOfLine prog_8_method_7_code 3 (Option.some FieldType.int) rmX6_costOfLine D cA h [.ref t0, .int v1, .int v2] (hp_Qi D cA h h9 r) := by
  refine Met.ofW (cc := prog_8_method_7_code) (maxL := 3) (ret := (Option.some FieldType.int)) (by decide) rfl ?_
  intro p e s m args below meth c s₁ B hml hv
  obtain ⟨rfl, hU⟩ := hv
  have hts := atoms_spec (ws := Cond.code yX6_costOfLine prog_8_method_7_code 3 (Option.some FieldType.int) :: tbG) B.pre
  have hl := lv_entry ([.ref t0, .int v1, .int v2]) (n := 3) (Nat.le_of_ble_eq_true rfl)
  rw [lg_entry_eq]
  generalize (lg_sl ([.ref t0, .int v1, .int v2]) ++ List.replicate (3 - (lg_sl ([.ref t0, .int v1, .int v2])).length) Slot.unset).toArray = ls at hl ⊢
  exact tX6_costOfLine_0 ⟨B.exec, B.bytes, hml, findClass_of_methodNamed B.named, fun w hw => hts w (List.mem_cons_of_mem _ hw)⟩ B.returns B.notSynchronized t0 v1 v2 h _ _ _ (hp_B.entry hU) hl hf
section
variable {p : Program} {l : Launch} {e : Env} {R : Room} {s : State} {m : MethodId} {args : Array Value} {below : List Frame} {meth : Method} {c : Code} {H : Heap} {locs : List Loc} {cells slots : Nat} {Q : State → Prop}
variable {cc : ByteArray} {pc nL : Nat} {ls : Array Slot} {rest : List Value} {D : va_G} {cA : Nat → ClassId} {A : Nat → Prop} {a : Nat} {h : Hp}
theorem gf_X6_34 (cx : CallFix p m c cc nL s args tbG RX6) (hB : hp_B D cA A s h H locs) (hka : h.1 a = 7) {b : Nat} (ho : h.2.2.2.1 a 7 = some b) (hdg : decode cc pc = .ok (.getfield 34, 3)) (kk : W p l e R s m args below meth c H locs cells slots Q (F0 m (pc + 3) ls (.ref b :: rest))) : W p l e R s m args below meth c H locs cells slots Q (F0 m pc ls (.ref a :: rest)) :=
  hp_getR cx hB (ci := 6) 7 rfl inX6 (by decide) rfl (by decide) rfl qw_131 hka (o := some b) ho.symm hdg kk
theorem cl_X6_70 {As st0 : List Value} {b : Nat} {Qc : Array Value → State → Outcome → State → Prop} (cx : CallFix p m c cc nL s args tbG RX6) (hB : hp_B D cA A s h H locs) (hM : hp_M l yX6_costOfLine prog_8_method_7_code 3 (Option.some FieldType.int) rmX6_costOfLine D cA h (.ref b :: As) Qc) (hkb : h.1 b = 7) (hR : rmX6_costOfLine.frames + 1 ≤ R.frames ∧ 8 + (3 + 11) + rmX6_costOfLine.locals ≤ R.locals) (hn : As.length = 2) (hls : ls.size = nL) (hst : st0 = As.reverse ++ .ref b :: rest) (hW : (rest.map fun v => v.category).sum ≤ 8) (hf : cells + rmX6_costOfLine.cells ≤ R.cells ∧ slots + rmX6_costOfLine.slots ≤ R.slots) (hdg : decode cc pc = .ok (.invokevirtual 70, 3)) :
    va_Run p l e R s m args below meth c H locs cells slots rmX6_costOfLine.cells rmX6_costOfLine.slots (F0 m pc ls st0) rest (Qc (Value.ref b :: As).toArray) (hp_A h) :=
  hp_runV cx hB hM (ci := 6) rfl (by decide) hkb qw_705 qw_702 qw_704 qp_14 qw_7 (by decide +kernel) hR hn hls hst hW hf hdg
theorem gf_X6_39 (cx : CallFix p m c cc nL s args tbG RX6) (hB : hp_B D cA A s h H locs) (hka : h.1 a = 7) {b : Nat} (ho : h.2.2.2.1 a 8 = some b) (hdg : decode cc pc = .ok (.getfield 39, 3)) (kk : W p l e R s m args below meth c H locs cells slots Q (F0 m (pc + 3) ls (.ref b :: rest))) : W p l e R s m args below meth c H locs cells slots Q (F0 m pc ls (.ref a :: rest)) :=
  hp_getR cx hB (ci := 6) 8 rfl inX6 (by decide) rfl (by decide) rfl qw_132 hka (o := some b) ho.symm hdg kk
theorem gf_X6_22 (cx : CallFix p m c cc nL s args tbG RX6) (hB : hp_B D cA A s h H locs) (hka : h.1 a = 7) (hdg : decode cc pc = .ok (.getfield 22, 3)) (kk : W p l e R s m args below meth c H locs cells slots Q (F0 m (pc + 3) ls (.int (h.2.2.1 a 3) :: rest))) : W p l e R s m args below meth c H locs cells slots Q (F0 m pc ls (.ref a :: rest)) :=
  hp_getI cx hB (ci := 6) 3 rfl inX6 (by decide) rfl (by decide) rfl qw_127 hka hdg kk
end
abbrev yX6_planMenu : MethodName := ⟨"SpokenMenus$Planner", "planMenu", "(I)V"⟩
theorem dX6_planMenu_0 : decode prog_8_method_5_code 0 = .ok (.aload_n 0, 1) := by decide +kernel
theorem dX6_planMenu_1 : decode prog_8_method_5_code 1 = .ok (.getfield 34, 3) := by decide +kernel
theorem dX6_planMenu_4 : decode prog_8_method_5_code 4 = .ok (.iload_n 1, 1) := by decide +kernel
theorem dX6_planMenu_5 : decode prog_8_method_5_code 5 = .ok (.iload_n 1, 1) := by decide +kernel
theorem dX6_planMenu_6 : decode prog_8_method_5_code 6 = .ok (.iastore, 1) := by decide +kernel
theorem dX6_planMenu_7 : decode prog_8_method_5_code 7 = .ok (.aload_n 0, 1) := by decide +kernel
theorem dX6_planMenu_8 : decode prog_8_method_5_code 8 = .ok (.getfield 31, 3) := by decide +kernel
theorem dX6_planMenu_11 : decode prog_8_method_5_code 11 = .ok (.iload_n 1, 1) := by decide +kernel
theorem dX6_planMenu_12 : decode prog_8_method_5_code 12 = .ok (.iload_n 1, 1) := by decide +kernel
theorem dX6_planMenu_13 : decode prog_8_method_5_code 13 = .ok (.invokestatic 66, 3) := by decide +kernel
theorem dX6_planMenu_16 : decode prog_8_method_5_code 16 = .ok (.ifCond .eq 12, 3) := by decide +kernel
theorem dX6_planMenu_19 : decode prog_8_method_5_code 19 = .ok (.aload_n 0, 1) := by decide +kernel
theorem dX6_planMenu_20 : decode prog_8_method_5_code 20 = .ok (.iload_n 1, 1) := by decide +kernel
theorem dX6_planMenu_21 : decode prog_8_method_5_code 21 = .ok (.iload_n 1, 1) := by decide +kernel
theorem dX6_planMenu_22 : decode prog_8_method_5_code 22 = .ok (.invokevirtual 70, 3) := by decide +kernel
theorem dX6_planMenu_25 : decode prog_8_method_5_code 25 = .ok (.goto 5, 3) := by decide +kernel
theorem dX6_planMenu_28 : decode prog_8_method_5_code 28 = .ok (.ldc 51, 2) := by decide +kernel
theorem dX6_planMenu_30 : decode prog_8_method_5_code 30 = .ok (.iastore, 1) := by decide +kernel
theorem dX6_planMenu_31 : decode prog_8_method_5_code 31 = .ok (.iload_n 1, 1) := by decide +kernel
theorem dX6_planMenu_32 : decode prog_8_method_5_code 32 = .ok (.iconst 1, 1) := by decide +kernel
theorem dX6_planMenu_33 : decode prog_8_method_5_code 33 = .ok (.isub, 1) := by decide +kernel
theorem dX6_planMenu_34 : decode prog_8_method_5_code 34 = .ok (.iload_n 1, 1) := by decide +kernel
theorem dX6_planMenu_35 : decode prog_8_method_5_code 35 = .ok (.iand, 1) := by decide +kernel
theorem dX6_planMenu_36 : decode prog_8_method_5_code 36 = .ok (.istore_n 2, 1) := by decide +kernel
theorem dX6_planMenu_37 : decode prog_8_method_5_code 37 = .ok (.iload_n 2, 1) := by decide +kernel
theorem dX6_planMenu_38 : decode prog_8_method_5_code 38 = .ok (.ifCond .le 61, 3) := by decide +kernel
theorem dX6_planMenu_41 : decode prog_8_method_5_code 41 = .ok (.aload_n 0, 1) := by decide +kernel
theorem dX6_planMenu_42 : decode prog_8_method_5_code 42 = .ok (.iload_n 2, 1) := by decide +kernel
theorem dX6_planMenu_43 : decode prog_8_method_5_code 43 = .ok (.iload_n 1, 1) := by decide +kernel
theorem dX6_planMenu_44 : decode prog_8_method_5_code 44 = .ok (.invokevirtual 70, 3) := by decide +kernel
theorem dX6_planMenu_47 : decode prog_8_method_5_code 47 = .ok (.aload_n 0, 1) := by decide +kernel
theorem dX6_planMenu_48 : decode prog_8_method_5_code 48 = .ok (.getfield 39, 3) := by decide +kernel
theorem dX6_planMenu_51 : decode prog_8_method_5_code 51 = .ok (.aload_n 0, 1) := by decide +kernel
theorem dX6_planMenu_52 : decode prog_8_method_5_code 52 = .ok (.getfield 22, 3) := by decide +kernel
theorem dX6_planMenu_55 : decode prog_8_method_5_code 55 = .ok (.iconst 1, 1) := by decide +kernel
theorem dX6_planMenu_56 : decode prog_8_method_5_code 56 = .ok (.isub, 1) := by decide +kernel
theorem dX6_planMenu_57 : decode prog_8_method_5_code 57 = .ok (.aaload, 1) := by decide +kernel
theorem dX6_planMenu_58 : decode prog_8_method_5_code 58 = .ok (.iload_n 1, 1) := by decide +kernel
theorem dX6_planMenu_59 : decode prog_8_method_5_code 59 = .ok (.iload_n 2, 1) := by decide +kernel
theorem dX6_planMenu_60 : decode prog_8_method_5_code 60 = .ok (.iconst (-1), 1) := by decide +kernel
theorem dX6_planMenu_61 : decode prog_8_method_5_code 61 = .ok (.ixor, 1) := by decide +kernel
theorem dX6_planMenu_62 : decode prog_8_method_5_code 62 = .ok (.iand, 1) := by decide +kernel
theorem dX6_planMenu_63 : decode prog_8_method_5_code 63 = .ok (.iaload, 1) := by decide +kernel
theorem dX6_planMenu_64 : decode prog_8_method_5_code 64 = .ok (.iadd, 1) := by decide +kernel
theorem dX6_planMenu_65 : decode prog_8_method_5_code 65 = .ok (.istore_n 3, 1) := by decide +kernel
theorem dX6_planMenu_66 : decode prog_8_method_5_code 66 = .ok (.iload_n 3, 1) := by decide +kernel
theorem dX6_planMenu_67 : decode prog_8_method_5_code 67 = .ok (.aload_n 0, 1) := by decide +kernel
theorem dX6_planMenu_68 : decode prog_8_method_5_code 68 = .ok (.getfield 31, 3) := by decide +kernel
theorem dX6_planMenu_71 : decode prog_8_method_5_code 71 = .ok (.iload_n 1, 1) := by decide +kernel
theorem dX6_planMenu_72 : decode prog_8_method_5_code 72 = .ok (.iaload, 1) := by decide +kernel
theorem dX6_planMenu_73 : decode prog_8_method_5_code 73 = .ok (.if_icmp .gt 17, 3) := by decide +kernel
theorem dX6_planMenu_76 : decode prog_8_method_5_code 76 = .ok (.aload_n 0, 1) := by decide +kernel
theorem dX6_planMenu_77 : decode prog_8_method_5_code 77 = .ok (.getfield 31, 3) := by decide +kernel
theorem dX6_planMenu_80 : decode prog_8_method_5_code 80 = .ok (.iload_n 1, 1) := by decide +kernel
theorem dX6_planMenu_81 : decode prog_8_method_5_code 81 = .ok (.iload_n 3, 1) := by decide +kernel
theorem dX6_planMenu_82 : decode prog_8_method_5_code 82 = .ok (.iastore, 1) := by decide +kernel
theorem dX6_planMenu_83 : decode prog_8_method_5_code 83 = .ok (.aload_n 0, 1) := by decide +kernel
theorem dX6_planMenu_84 : decode prog_8_method_5_code 84 = .ok (.getfield 34, 3) := by decide +kernel
theorem dX6_planMenu_87 : decode prog_8_method_5_code 87 = .ok (.iload_n 1, 1) := by decide +kernel
theorem dX6_planMenu_88 : decode prog_8_method_5_code 88 = .ok (.iload_n 2, 1) := by decide +kernel
theorem dX6_planMenu_89 : decode prog_8_method_5_code 89 = .ok (.iastore, 1) := by decide +kernel
theorem dX6_planMenu_90 : decode prog_8_method_5_code 90 = .ok (.iload_n 2, 1) := by decide +kernel
theorem dX6_planMenu_91 : decode prog_8_method_5_code 91 = .ok (.iconst 1, 1) := by decide +kernel
theorem dX6_planMenu_92 : decode prog_8_method_5_code 92 = .ok (.isub, 1) := by decide +kernel
theorem dX6_planMenu_93 : decode prog_8_method_5_code 93 = .ok (.iload_n 1, 1) := by decide +kernel
theorem dX6_planMenu_94 : decode prog_8_method_5_code 94 = .ok (.iand, 1) := by decide +kernel
theorem dX6_planMenu_95 : decode prog_8_method_5_code 95 = .ok (.istore_n 2, 1) := by decide +kernel
theorem dX6_planMenu_96 : decode prog_8_method_5_code 96 = .ok (.goto (-59), 3) := by decide +kernel
theorem dX6_planMenu_99 : decode prog_8_method_5_code 99 = .ok (.return_, 1) := by decide +kernel
abbrev rmX6_planMenu : Room := { frames := 2, cells := 0, slots := 0, locals := 43 }
def bX6_planMenu_37  (rc : Nat → Int32 → Int32 → Hp → Option (Unit × Hp)) (t0 : Nat) (v1 : Int32) (v2 : Int32) (h : Hp) : Option (Unit × Hp) :=
  if v2 ≤ 0 then
  (some ((), h))
  else
  (gk (h.1 t0) 7 <|
  b2 (fX6_costOfLine t0 v2 v1 h) fun r5 g3 =>
  gk (g3.1 t0) 7 <|
  bd (g3.2.2.2.1 t0 8) fun a8 =>
  gk (g3.1 a8) 18 <|
  gd (ix ((g3.2.2.1 t0 3) - 1) (g3.2.1 a8)) <|
  bd (g3.2.2.2.1 a8 (Int32.toNatClampNeg ((g3.2.2.1 t0 3) - 1))) fun a12 =>
  gk (g3.1 a12) 13 <|
  gd (ix (v1 &&& (v2 ^^^ (-1))) (g3.2.1 a12)) <|
  nm (r5 + (g3.2.2.1 a12 (Int32.toNatClampNeg (v1 &&& (v2 ^^^ (-1)))))) fun x16 =>
  bd (g3.2.2.2.1 t0 6) fun a17 =>
  gk (g3.1 a17) 13 <|
  gd (ix v1 (g3.2.1 a17)) <|
  if (g3.2.2.1 a17 (Int32.toNatClampNeg v1)) < x16 then
  (nm ((v2 - 1) &&& v1) fun x22 =>
  rc t0 v1 x22 g3)
  else
  (gd (ix v1 (g3.2.1 a17)) <|
  nm (hp_si g3 a17 (Int32.toNatClampNeg v1) x16) fun g24 =>
  bd (g24.2.2.2.1 t0 7) fun a26 =>
  gk (g24.1 a26) 13 <|
  gd (ix v1 (g24.2.1 a26)) <|
  nm (hp_si g24 a26 (Int32.toNatClampNeg v1) v2) fun g30 =>
  nm ((v2 - 1) &&& v1) fun x31 =>
  rc t0 v1 x31 g30))
def fX6_planMenu_37  : Nat → Int32 → Int32 → Hp → Option (Unit × Hp) := fx (bX6_planMenu_37 ) (fun _ _ _ _ => none) NF
def fX6_planMenu  (t0 : Nat) (v1 : Int32) (h : Hp) : Option (Unit × Hp) :=
  gk (h.1 t0) 7 <|
  bd (h.2.2.2.1 t0 7) fun a2 =>
  gk (h.1 a2) 13 <|
  gd (ix v1 (h.2.1 a2)) <|
  nm (hp_si h a2 (Int32.toNatClampNeg v1) v1) fun g6 =>
  bd (g6.2.2.2.1 t0 6) fun a8 =>
  b2 (fX6_isOne v1 g6) fun r12 g10 =>
  if r12 = 0 then
  (gk (g10.1 a8) 13 <|
  gd (ix v1 (g10.2.1 a8)) <|
  nm (hp_si g10 a8 (Int32.toNatClampNeg v1) 500000000) fun g17 =>
  nm ((v1 - 1) &&& v1) fun x18 =>
  fX6_planMenu_37  t0 v1 x18 g17)
  else
  (gk (g10.1 t0) 7 <|
  b2 (fX6_costOfLine t0 v1 v1 g10) fun r22 g20 =>
  gk (g20.1 a8) 13 <|
  gd (ix v1 (g20.2.1 a8)) <|
  nm (hp_si g20 a8 (Int32.toNatClampNeg v1) r22) fun g26 =>
  nm ((v1 - 1) &&& v1) fun x27 =>
  fX6_planMenu_37  t0 v1 x27 g26)
section
variable {p : Program} {l : Launch} {e : Env} {s : State} {m : MethodId} {args : Array Value} {below : List Frame} {meth : Method} {c : Code} {D : va_G} {cA : Nat → ClassId} {h0 h9 : Hp}
set_option maxHeartbeats 4000000 in
set_option maxRecDepth 100000 in
theorem tX6_planMenu_37  (cx : CallFix p m c prog_8_method_5_code 4 s args tbG RX6) (hr : meth.sig.returnType = none) (hlk : meth.locks = false)  (n : Nat) : ∀ (t0 : Nat) (v1 : Int32) (v2 : Int32) (h : Hp) (H : Heap) (locs : List Loc) (ls : Array Slot), hp_B D cA (hp_A h0) s h H locs → lv_has ls 4 [(0, .ref t0), (1, .int v1), (2, .int v2)] → fx (bX6_planMenu_37 ) (fun _ _ _ _ => none) n t0 v1 v2 h = some ((), h9) → W p l e rmX6_planMenu s m args below meth c H locs 0 0 (MQ below (hp_Qv D cA h0 h9) args s 0 0 (hp_A h0)) (F0 m 37 ls []) := by
  obtain ⟨hx, hb, -⟩ := id cx
  induction n with
  | zero => intro t0 v1 v2 h H locs ls hB hl hf; cases hf
  | succ n ih =>
    intro t0 v1 v2 h H locs ls hB hl hf
    replace hf : bX6_planMenu_37  (fx (bX6_planMenu_37 ) (fun _ _ _ _ => none) n) t0 v1 v2 h = some ((), h9) := hf
    unfold bX6_planMenu_37 at hf
    refine lv_iload_n hx hb dX6_planMenu_37 rfl (lv_at hl 2 rfl) ?_
    refine lv_if_le (tgt := 99) hx hb dX6_planMenu_38 (by decide) (fun c1 => ?_) (fun c1 => ?_)
    · replace hf := it_t c1 hf
      obtain ⟨-, rfl⟩ := rt_ok hf
      exact hp_vret cx hB hr hlk (Nat.le_of_ble_eq_true rfl) (Nat.le_of_ble_eq_true rfl) dX6_planMenu_99
    · replace hf := it_f c1 hf
      refine lv_aload_n hx hb dX6_planMenu_41 rfl (lv_at hl 0 rfl) ?_
      refine lv_iload_n hx hb dX6_planMenu_42 rfl (lv_at hl 2 rfl) ?_
      refine lv_iload_n hx hb dX6_planMenu_43 rfl (lv_at hl 1 rfl) ?_
      obtain ⟨k2, hf⟩ := gk_ok hf
      obtain ⟨r5, g3, m4, hf⟩ := b2_ok hf
      refine hp_cI0 (cl_X6_70 cx hB (cX6_costOfLine l D cA t0 v2 v1 h _ g3 m4) k2 ⟨Nat.le_of_ble_eq_true rfl, Nat.le_of_ble_eq_true rfl⟩ rfl hl.1 rfl (Nat.le_of_ble_eq_true rfl) ⟨Nat.le_of_ble_eq_true rfl, Nat.le_of_ble_eq_true rfl⟩ dX6_planMenu_44) rfl rfl hB (fun H locs hB => ?_)
      refine lv_aload_n hx hb dX6_planMenu_47 rfl (lv_at hl 0 rfl) ?_
      obtain ⟨k7, hf⟩ := gk_ok hf
      obtain ⟨a8, q9, hf⟩ := bd_ok hf
      refine gf_X6_39 cx hB k7 q9 dX6_planMenu_48 ?_
      refine lv_aload_n hx hb dX6_planMenu_51 rfl (lv_at hl 0 rfl) ?_
      refine gf_X6_22 cx hB k7 dX6_planMenu_52 ?_
      refine lv_iconst (v := 1) hx hb dX6_planMenu_55 (by decide) ?_
      refine lv_isub hx hb dX6_planMenu_56 ?_
      obtain ⟨k10, hf⟩ := gk_ok hf
      obtain ⟨j11, hf⟩ := gd_ok hf
      obtain ⟨a12, q13, hf⟩ := bd_ok hf
      refine hp_aald cx hB 18 (.array .int) (by decide) rfl rfl k10 j11 (o := some a12) q13.symm dX6_planMenu_57 ?_
      refine lv_iload_n hx hb dX6_planMenu_58 rfl (lv_at hl 1 rfl) ?_
      refine lv_iload_n hx hb dX6_planMenu_59 rfl (lv_at hl 2 rfl) ?_
      refine lv_iconst (v := (-1)) hx hb dX6_planMenu_60 (by decide) ?_
      refine lv_ixor hx hb dX6_planMenu_61 ?_
      refine lv_iand hx hb dX6_planMenu_62 ?_
      obtain ⟨k14, hf⟩ := gk_ok hf
      obtain ⟨j15, hf⟩ := gd_ok hf
      refine hp_iald cx hB k14 j15 dX6_planMenu_63 ?_
      refine lv_iadd hx hb dX6_planMenu_64 ?_
      obtain ⟨x16, ex16, hf⟩ := nm_ok hf
      refine lv_ren ex16 ?_
      refine lv_istore_n (lv' := [(3, .int x16), (0, .ref t0), (1, .int v1), (2, .int v2)]) hx hb dX6_planMenu_65 rfl hl (by decide) rfl (fun ls hl => ?_)
      refine lv_iload_n hx hb dX6_planMenu_66 rfl (lv_at hl 0 rfl) ?_
      refine lv_aload_n hx hb dX6_planMenu_67 rfl (lv_at hl 1 rfl) ?_
      obtain ⟨a17, q18, hf⟩ := bd_ok hf
      refine gf_X6_31 cx hB k7 q18 dX6_planMenu_68 ?_
      refine lv_iload_n hx hb dX6_planMenu_71 rfl (lv_at hl 2 rfl) ?_
      obtain ⟨k19, hf⟩ := gk_ok hf
      obtain ⟨j20, hf⟩ := gd_ok hf
      refine hp_iald cx hB k19 j20 dX6_planMenu_72 ?_
      refine lv_icmp_gt (tgt := 90) hx hb dX6_planMenu_73 (by decide) (fun c21 => ?_) (fun c21 => ?_)
      · replace hf := it_t c21 hf
        refine lv_iload_n hx hb dX6_planMenu_90 rfl (lv_at hl 3 rfl) ?_
        refine lv_iconst (v := 1) hx hb dX6_planMenu_91 (by decide) ?_
        refine lv_isub hx hb dX6_planMenu_92 ?_
        refine lv_iload_n hx hb dX6_planMenu_93 rfl (lv_at hl 2 rfl) ?_
        refine lv_iand hx hb dX6_planMenu_94 ?_
        obtain ⟨x22, ex22, hf⟩ := nm_ok hf
        refine lv_ren ex22 ?_
        refine lv_istore_n (lv' := [(2, .int x22), (3, .int x16), (0, .ref t0), (1, .int v1)]) hx hb dX6_planMenu_95 rfl hl (by decide) rfl (fun ls hl => ?_)
        refine lv_goto (tgt := 37) hx hb dX6_planMenu_96 (by decide) ?_
        exact ih t0 v1 x22 g3 _ _ _ hB (lv_sub hl [2, 3, 0] rfl) hf
      · replace hf := it_f c21 hf
        refine lv_aload_n hx hb dX6_planMenu_76 rfl (lv_at hl 1 rfl) ?_
        refine gf_X6_31 cx hB k7 q18 dX6_planMenu_77 ?_
        refine lv_iload_n hx hb dX6_planMenu_80 rfl (lv_at hl 2 rfl) ?_
        refine lv_iload_n hx hb dX6_planMenu_81 rfl (lv_at hl 0 rfl) ?_
        obtain ⟨j23, hf⟩ := gd_ok hf
        obtain ⟨g24, eg24, hf⟩ := nm_ok hf
        refine hp_iast cx hB k19 j23 dX6_planMenu_82 (fun H locs hB => ?_)
        rw [← eg24] at hB
        refine lv_aload_n hx hb dX6_planMenu_83 rfl (lv_at hl 1 rfl) ?_
        have k25 : g24.1 t0 = 7 := by rw [eg24]; exact k7
        obtain ⟨a26, q27, hf⟩ := bd_ok hf
        refine gf_X6_34 cx hB k25 q27 dX6_planMenu_84 ?_
        refine lv_iload_n hx hb dX6_planMenu_87 rfl (lv_at hl 2 rfl) ?_
        refine lv_iload_n hx hb dX6_planMenu_88 rfl (lv_at hl 3 rfl) ?_
        obtain ⟨k28, hf⟩ := gk_ok hf
        obtain ⟨j29, hf⟩ := gd_ok hf
        obtain ⟨g30, eg30, hf⟩ := nm_ok hf
        refine hp_iast cx hB k28 j29 dX6_planMenu_89 (fun H locs hB => ?_)
        rw [← eg30] at hB
        refine lv_iload_n hx hb dX6_planMenu_90 rfl (lv_at hl 3 rfl) ?_
        refine lv_iconst (v := 1) hx hb dX6_planMenu_91 (by decide) ?_
        refine lv_isub hx hb dX6_planMenu_92 ?_
        refine lv_iload_n hx hb dX6_planMenu_93 rfl (lv_at hl 2 rfl) ?_
        refine lv_iand hx hb dX6_planMenu_94 ?_
        obtain ⟨x31, ex31, hf⟩ := nm_ok hf
        refine lv_ren ex31 ?_
        refine lv_istore_n (lv' := [(2, .int x31), (3, .int x16), (0, .ref t0), (1, .int v1)]) hx hb dX6_planMenu_95 rfl hl (by decide) rfl (fun ls hl => ?_)
        refine lv_goto (tgt := 37) hx hb dX6_planMenu_96 (by decide) ?_
        exact ih t0 v1 x31 g30 _ _ _ hB (lv_sub hl [2, 3, 0] rfl) hf
set_option maxHeartbeats 4000000 in
set_option maxRecDepth 100000 in
theorem tX6_planMenu_0  (cx : CallFix p m c prog_8_method_5_code 4 s args tbG RX6) (hr : meth.sig.returnType = none) (hlk : meth.locks = false)  (t0 : Nat) (v1 : Int32) (h : Hp) (H : Heap) (locs : List Loc) (ls : Array Slot) (hB : hp_B D cA (hp_A h0) s h H locs) (hl : lv_has ls 4 [(0, .ref t0), (1, .int v1)]) (hf : fX6_planMenu  t0 v1 h = some ((), h9)) : W p l e rmX6_planMenu s m args below meth c H locs 0 0 (MQ below (hp_Qv D cA h0 h9) args s 0 0 (hp_A h0)) (F0 m 0 ls []) := by
  obtain ⟨hx, hb, -⟩ := id cx
  unfold fX6_planMenu at hf
  refine lv_aload_n hx hb dX6_planMenu_0 rfl (lv_at hl 0 rfl) ?_
  obtain ⟨k1, hf⟩ := gk_ok hf
  obtain ⟨a2, q3, hf⟩ := bd_ok hf
  refine gf_X6_34 cx hB k1 q3 dX6_planMenu_1 ?_
  refine lv_iload_n hx hb dX6_planMenu_4 rfl (lv_at hl 1 rfl) ?_
  refine lv_iload_n hx hb dX6_planMenu_5 rfl (lv_at hl 1 rfl) ?_
  obtain ⟨k4, hf⟩ := gk_ok hf
  obtain ⟨j5, hf⟩ := gd_ok hf
  obtain ⟨g6, eg6, hf⟩ := nm_ok hf
  refine hp_iast cx hB k4 j5 dX6_planMenu_6 (fun H locs hB => ?_)
  rw [← eg6] at hB
  refine lv_aload_n hx hb dX6_planMenu_7 rfl (lv_at hl 0 rfl) ?_
  have k7 : g6.1 t0 = 7 := by rw [eg6]; exact k1
  obtain ⟨a8, q9, hf⟩ := bd_ok hf
  refine gf_X6_31 cx hB k7 q9 dX6_planMenu_8 ?_
  refine lv_iload_n hx hb dX6_planMenu_11 rfl (lv_at hl 1 rfl) ?_
  refine lv_iload_n hx hb dX6_planMenu_12 rfl (lv_at hl 1 rfl) ?_
  obtain ⟨r12, g10, m11, hf⟩ := b2_ok hf
  refine hp_cI0 (cl_X6_66 cx hB (cX6_isOne l D cA v1 g6 _ g10 m11) ⟨Nat.le_of_ble_eq_true rfl, Nat.le_of_ble_eq_true rfl⟩ rfl hl.1 rfl (Nat.le_of_ble_eq_true rfl) ⟨Nat.le_of_ble_eq_true rfl, Nat.le_of_ble_eq_true rfl⟩ dX6_planMenu_13) rfl rfl hB (fun H locs hB => ?_)
  refine lv_if_eq (tgt := 28) hx hb dX6_planMenu_16 (by decide) (fun c14 => ?_) (fun c14 => ?_)
  · replace hf := it_t c14 hf
    refine lv_ldc (v := 500000000) hx hb cx.2.2.2.1 (cx.2.2.2.2 _ (tb_in qw_120 rfl)) dX6_planMenu_28 ?_
    obtain ⟨k15, hf⟩ := gk_ok hf
    obtain ⟨j16, hf⟩ := gd_ok hf
    obtain ⟨g17, eg17, hf⟩ := nm_ok hf
    refine hp_iast cx hB k15 j16 dX6_planMenu_30 (fun H locs hB => ?_)
    rw [← eg17] at hB
    refine lv_iload_n hx hb dX6_planMenu_31 rfl (lv_at hl 1 rfl) ?_
    refine lv_iconst (v := 1) hx hb dX6_planMenu_32 (by decide) ?_
    refine lv_isub hx hb dX6_planMenu_33 ?_
    refine lv_iload_n hx hb dX6_planMenu_34 rfl (lv_at hl 1 rfl) ?_
    refine lv_iand hx hb dX6_planMenu_35 ?_
    obtain ⟨x18, ex18, hf⟩ := nm_ok hf
    refine lv_ren ex18 ?_
    refine lv_istore_n (lv' := [(2, .int x18), (0, .ref t0), (1, .int v1)]) hx hb dX6_planMenu_36 rfl hl (by decide) rfl (fun ls hl => ?_)
    exact tX6_planMenu_37 cx hr hlk  NF t0 v1 x18 g17 _ _ _ hB (lv_sub hl [1, 2, 0] rfl) hf
  · replace hf := it_f c14 hf
    refine lv_aload_n hx hb dX6_planMenu_19 rfl (lv_at hl 0 rfl) ?_
    refine lv_iload_n hx hb dX6_planMenu_20 rfl (lv_at hl 1 rfl) ?_
    refine lv_iload_n hx hb dX6_planMenu_21 rfl (lv_at hl 1 rfl) ?_
    obtain ⟨k19, hf⟩ := gk_ok hf
    obtain ⟨r22, g20, m21, hf⟩ := b2_ok hf
    refine hp_cI0 (cl_X6_70 cx hB (cX6_costOfLine l D cA t0 v1 v1 g10 _ g20 m21) k19 ⟨Nat.le_of_ble_eq_true rfl, Nat.le_of_ble_eq_true rfl⟩ rfl hl.1 rfl (Nat.le_of_ble_eq_true rfl) ⟨Nat.le_of_ble_eq_true rfl, Nat.le_of_ble_eq_true rfl⟩ dX6_planMenu_22) rfl rfl hB (fun H locs hB => ?_)
    refine lv_goto (tgt := 30) hx hb dX6_planMenu_25 (by decide) ?_
    obtain ⟨k24, hf⟩ := gk_ok hf
    obtain ⟨j25, hf⟩ := gd_ok hf
    obtain ⟨g26, eg26, hf⟩ := nm_ok hf
    refine hp_iast cx hB k24 j25 dX6_planMenu_30 (fun H locs hB => ?_)
    rw [← eg26] at hB
    refine lv_iload_n hx hb dX6_planMenu_31 rfl (lv_at hl 1 rfl) ?_
    refine lv_iconst (v := 1) hx hb dX6_planMenu_32 (by decide) ?_
    refine lv_isub hx hb dX6_planMenu_33 ?_
    refine lv_iload_n hx hb dX6_planMenu_34 rfl (lv_at hl 1 rfl) ?_
    refine lv_iand hx hb dX6_planMenu_35 ?_
    obtain ⟨x27, ex27, hf⟩ := nm_ok hf
    refine lv_ren ex27 ?_
    refine lv_istore_n (lv' := [(2, .int x27), (0, .ref t0), (1, .int v1)]) hx hb dX6_planMenu_36 rfl hl (by decide) rfl (fun ls hl => ?_)
    exact tX6_planMenu_37 cx hr hlk  NF t0 v1 x27 g26 _ _ _ hB (lv_sub hl [1, 2, 0] rfl) hf
end
set_option maxHeartbeats 4000000 in
set_option maxRecDepth 100000 in
theorem cX6_planMenu (l : Launch) (D : va_G) (cA : Nat → ClassId) (t0 : Nat) (v1 : Int32) (h : Hp) (_u : Unit) (h9 : Hp) (hf : fX6_planMenu t0 v1 h = some (_u, h9)) : hp_M l yX6_planMenu prog_8_method_5_code 4 none rmX6_planMenu D cA h [.ref t0, .int v1] (hp_Qv D cA h h9) := by
  refine Met.ofW (cc := prog_8_method_5_code) (maxL := 4) (ret := none) (by decide) rfl ?_
  intro p e s m args below meth c s₁ B hml hv
  obtain ⟨rfl, hU⟩ := hv
  have hts := atoms_spec (ws := Cond.code yX6_planMenu prog_8_method_5_code 4 none :: tbG) B.pre
  have hl := lv_entry ([.ref t0, .int v1]) (n := 4) (Nat.le_of_ble_eq_true rfl)
  rw [lg_entry_eq]
  generalize (lg_sl ([.ref t0, .int v1]) ++ List.replicate (4 - (lg_sl ([.ref t0, .int v1])).length) Slot.unset).toArray = ls at hl ⊢
  exact tX6_planMenu_0 ⟨B.exec, B.bytes, hml, findClass_of_methodNamed B.named, fun w hw => hts w (List.mem_cons_of_mem _ hw)⟩ B.returns B.notSynchronized t0 v1 h _ _ _ (hp_B.entry hU) hl hf
