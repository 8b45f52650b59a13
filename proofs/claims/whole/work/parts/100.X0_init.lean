section
variable {p : Program} {l : Launch} {e : Env} {R : Room} {s : State} {m : MethodId} {args : Array Value} {below : List Frame} {meth : Method} {c : Code} {H : Heap} {locs : List Loc} {cells slots : Nat} {Q : State → Prop}
variable {cc : ByteArray} {pc nL : Nat} {ls : Array Slot} {rest : List Value} {D : va_G} {cA : Nat → ClassId} {A : Nat → Prop} {a : Nat} {h : Hp}
theorem pf_X0_7 (cx : CallFix p m c cc nL s args tbG RX0) (hB : hp_B D cA A s h H locs) (hnm : meth.name = "<init>") (hka : h.1 a = 1) {x : Int32} (hdg : decode cc pc = .ok (.putfield 7, 3)) (kk : ∀ (H1 : Heap) (locs1 : List Loc), hp_B D cA A s (hp_si h a 0 x) H1 locs1 → W p l e R s m args below meth c H1 locs1 cells slots Q (F0 m (pc + 3) ls rest)) : W p l e R s m args below meth c H locs cells slots Q (F0 m pc ls (.int x :: .ref a :: rest)) :=
  hp_putX cx hB (ci := 0) 0 tyX0 tyX0_ok nmX0 rfl inX0 (by decide) rfl (by decide) (Or.inr ⟨rfl, hnm, rfl⟩) qw_421 hka (v := .int x) (hp_like_si h a 0 x) (hp_fs_si (by decide) rfl) rfl rfl hdg kk
theorem pf_X0_13 (cx : CallFix p m c cc nL s args tbG RX0) (hB : hp_B D cA A s h H locs) (hnm : meth.name = "<init>") (hka : h.1 a = 1) {x : Int32} (hdg : decode cc pc = .ok (.putfield 13, 3)) (kk : ∀ (H1 : Heap) (locs1 : List Loc), hp_B D cA A s (hp_si h a 1 x) H1 locs1 → W p l e R s m args below meth c H1 locs1 cells slots Q (F0 m (pc + 3) ls rest)) : W p l e R s m args below meth c H locs cells slots Q (F0 m pc ls (.int x :: .ref a :: rest)) :=
  hp_putX cx hB (ci := 0) 1 tyX0 tyX0_ok nmX0 rfl inX0 (by decide) rfl (by decide) (Or.inr ⟨rfl, hnm, rfl⟩) qw_425 hka (v := .int x) (hp_like_si h a 1 x) (hp_fs_si (by decide) rfl) rfl rfl hdg kk
theorem pf_X0_16 (cx : CallFix p m c cc nL s args tbG RX0) (hB : hp_B D cA A s h H locs) (hnm : meth.name = "<init>") (hka : h.1 a = 1) {x : Int32} (hdg : decode cc pc = .ok (.putfield 16, 3)) (kk : ∀ (H1 : Heap) (locs1 : List Loc), hp_B D cA A s (hp_si h a 2 x) H1 locs1 → W p l e R s m args below meth c H1 locs1 cells slots Q (F0 m (pc + 3) ls rest)) : W p l e R s m args below meth c H locs cells slots Q (F0 m pc ls (.int x :: .ref a :: rest)) :=
  hp_putX cx hB (ci := 0) 2 tyX0 tyX0_ok nmX0 rfl inX0 (by decide) rfl (by decide) (Or.inr ⟨rfl, hnm, rfl⟩) qw_428 hka (v := .int x) (hp_like_si h a 2 x) (hp_fs_si (by decide) rfl) rfl rfl hdg kk
theorem pf_X0_19 (cx : CallFix p m c cc nL s args tbG RX0) (hB : hp_B D cA A s h H locs) (hnm : meth.name = "<init>") (hka : h.1 a = 1) {x : Int32} (hdg : decode cc pc = .ok (.putfield 19, 3)) (kk : ∀ (H1 : Heap) (locs1 : List Loc), hp_B D cA A s (hp_si h a 3 x) H1 locs1 → W p l e R s m args below meth c H1 locs1 cells slots Q (F0 m (pc + 3) ls rest)) : W p l e R s m args below meth c H locs cells slots Q (F0 m pc ls (.int x :: .ref a :: rest)) :=
  hp_putX cx hB (ci := 0) 3 tyX0 tyX0_ok nmX0 rfl inX0 (by decide) rfl (by decide) (Or.inr ⟨rfl, hnm, rfl⟩) qw_430 hka (v := .int x) (hp_like_si h a 3 x) (hp_fs_si (by decide) rfl) rfl rfl hdg kk
theorem pf_X0_22 (cx : CallFix p m c cc nL s args tbG RX0) (hB : hp_B D cA A s h H locs) (hnm : meth.name = "<init>") (hka : h.1 a = 1) {x : Int32} (hz : zb x = true) (hdg : decode cc pc = .ok (.putfield 22, 3)) (kk : ∀ (H1 : Heap) (locs1 : List Loc), hp_B D cA A s (hp_si h a 4 x) H1 locs1 → W p l e R s m args below meth c H1 locs1 cells slots Q (F0 m (pc + 3) ls rest)) : W p l e R s m args below meth c H locs cells slots Q (F0 m pc ls (.int x :: .ref a :: rest)) :=
  hp_putX cx hB (ci := 0) 4 tyX0 tyX0_ok nmX0 rfl inX0 (by decide) rfl (by decide) (Or.inr ⟨rfl, hnm, rfl⟩) qw_433 hka (v := .int x) (hp_like_si h a 4 x) (hp_fs_si (by decide) rfl) (zb_nar hz) (zb_fit hz) hdg kk
end
abbrev yX0_init : MethodName := ⟨"SpokenMenus$Caller", "<init>", "(IIIIZ)V"⟩
theorem dX0_init_0 : decode prog_2_method_1_code 0 = .ok (.aload_n 0, 1) := by decide +kernel
theorem dX0_init_1 : decode prog_2_method_1_code 1 = .ok (.invokespecial 1, 3) := by decide +kernel
theorem dX0_init_4 : decode prog_2_method_1_code 4 = .ok (.aload_n 0, 1) := by decide +kernel
theorem dX0_init_5 : decode prog_2_method_1_code 5 = .ok (.iload_n 1, 1) := by decide +kernel
theorem dX0_init_6 : decode prog_2_method_1_code 6 = .ok (.putfield 7, 3) := by decide +kernel
theorem dX0_init_9 : decode prog_2_method_1_code 9 = .ok (.aload_n 0, 1) := by decide +kernel
theorem dX0_init_10 : decode prog_2_method_1_code 10 = .ok (.iload_n 2, 1) := by decide +kernel
theorem dX0_init_11 : decode prog_2_method_1_code 11 = .ok (.putfield 13, 3) := by decide +kernel
theorem dX0_init_14 : decode prog_2_method_1_code 14 = .ok (.aload_n 0, 1) := by decide +kernel
theorem dX0_init_15 : decode prog_2_method_1_code 15 = .ok (.iload_n 3, 1) := by decide +kernel
theorem dX0_init_16 : decode prog_2_method_1_code 16 = .ok (.putfield 16, 3) := by decide +kernel
theorem dX0_init_19 : decode prog_2_method_1_code 19 = .ok (.aload_n 0, 1) := by decide +kernel
theorem dX0_init_20 : decode prog_2_method_1_code 20 = .ok (.iload 4, 2) := by decide +kernel
theorem dX0_init_22 : decode prog_2_method_1_code 22 = .ok (.putfield 19, 3) := by decide +kernel
theorem dX0_init_25 : decode prog_2_method_1_code 25 = .ok (.aload_n 0, 1) := by decide +kernel
theorem dX0_init_26 : decode prog_2_method_1_code 26 = .ok (.iload 5, 2) := by decide +kernel
theorem dX0_init_28 : decode prog_2_method_1_code 28 = .ok (.putfield 22, 3) := by decide +kernel
theorem dX0_init_31 : decode prog_2_method_1_code 31 = .ok (.return_, 1) := by decide +kernel
abbrev rmX0_init : Room := { frames := 1, cells := 0, slots := 0, locals := 20 }
def fX0_init  (t0 : Nat) (v1 : Int32) (v2 : Int32) (v3 : Int32) (v4 : Int32) (v5 : Int32) (h : Hp) : Option (Unit × Hp) :=
  gk (h.1 t0) 1 <|
  nm (hp_si h t0 0 v1) fun g2 =>
  nm (hp_si g2 t0 1 v2) fun g4 =>
  nm (hp_si g4 t0 2 v3) fun g6 =>
  nm (hp_si g6 t0 3 v4) fun g8 =>
  gd (zb v5) <|
  nm (hp_si g8 t0 4 v5) fun g11 =>
  some ((), g11)
section
variable {p : Program} {l : Launch} {e : Env} {s : State} {m : MethodId} {args : Array Value} {below : List Frame} {meth : Method} {c : Code} {D : va_G} {cA : Nat → ClassId} {h0 h9 : Hp}
set_option maxHeartbeats 4000000 in
set_option maxRecDepth 100000 in
theorem tX0_init_0  (cx : CallFix p m c prog_2_method_1_code 6 s args tbG RX0) (hr : meth.sig.returnType = none) (hlk : meth.locks = false) (hnm : meth.name = "<init>")  (t0 : Nat) (v1 : Int32) (v2 : Int32) (v3 : Int32) (v4 : Int32) (v5 : Int32) (h : Hp) (H : Heap) (locs : List Loc) (ls : Array Slot) (hB : hp_B D cA (hp_A h0) s h H locs) (hl : lv_has ls 6 [(0, .ref t0), (1, .int v1), (2, .int v2), (3, .int v3), (4, .int v4), (5, .int v5)]) (hf : fX0_init  t0 v1 v2 v3 v4 v5 h = some ((), h9)) : W p l e rmX0_init s m args below meth c H locs 0 0 (MQ below (hp_Qv D cA h0 h9) args s 0 0 (hp_A h0)) (F0 m 0 ls []) := by
  obtain ⟨hx, hb, -⟩ := id cx
  unfold fX0_init at hf
  refine lv_aload_n hx hb dX0_init_0 rfl (lv_at hl 0 rfl) ?_
  refine W.objInit hx hb cx.2.2.2.1 (cx.2.2.2.2 _ (tb_in qw_420 rfl)) (cx.2.2.2.2 _ (tb_in qw_22 rfl)) (cx.2.2.2.2 _ (tb_in qw_23 rfl)) rfl (by rw [cx.2.2.1]; exact hl.1) rfl dX0_init_1 (Nat.le_of_ble_eq_true rfl) (Nat.le_of_ble_eq_true rfl) ?_
  refine W.eq (g2 := F0 m 4 ls []) rfl ?_
  refine lv_aload_n hx hb dX0_init_4 rfl (lv_at hl 0 rfl) ?_
  refine lv_iload_n hx hb dX0_init_5 rfl (lv_at hl 1 rfl) ?_
  obtain ⟨k1, hf⟩ := gk_ok hf
  obtain ⟨g2, eg2, hf⟩ := nm_ok hf
  refine pf_X0_7 cx hB hnm k1 dX0_init_6 (fun H locs hB => ?_)
  rw [← eg2] at hB
  refine lv_aload_n hx hb dX0_init_9 rfl (lv_at hl 0 rfl) ?_
  refine lv_iload_n hx hb dX0_init_10 rfl (lv_at hl 2 rfl) ?_
  have k3 : g2.1 t0 = 1 := by rw [eg2]; exact k1
  obtain ⟨g4, eg4, hf⟩ := nm_ok hf
  refine pf_X0_13 cx hB hnm k3 dX0_init_11 (fun H locs hB => ?_)
  rw [← eg4] at hB
  refine lv_aload_n hx hb dX0_init_14 rfl (lv_at hl 0 rfl) ?_
  refine lv_iload_n hx hb dX0_init_15 rfl (lv_at hl 3 rfl) ?_
  have k5 : g4.1 t0 = 1 := by rw [eg4]; exact k3
  obtain ⟨g6, eg6, hf⟩ := nm_ok hf
  refine pf_X0_16 cx hB hnm k5 dX0_init_16 (fun H locs hB => ?_)
  rw [← eg6] at hB
  refine lv_aload_n hx hb dX0_init_19 rfl (lv_at hl 0 rfl) ?_
  refine lv_iload hx hb dX0_init_20 (lv_at hl 4 rfl) ?_
  have k7 : g6.1 t0 = 1 := by rw [eg6]; exact k5
  obtain ⟨g8, eg8, hf⟩ := nm_ok hf
  refine pf_X0_19 cx hB hnm k7 dX0_init_22 (fun H locs hB => ?_)
  rw [← eg8] at hB
  refine lv_aload_n hx hb dX0_init_25 rfl (lv_at hl 0 rfl) ?_
  refine lv_iload hx hb dX0_init_26 (lv_at hl 5 rfl) ?_
  have k9 : g8.1 t0 = 1 := by rw [eg8]; exact k7
  obtain ⟨c10, hf⟩ := gd_ok hf
  obtain ⟨g11, eg11, hf⟩ := nm_ok hf
  refine pf_X0_22 cx hB hnm k9 c10 dX0_init_28 (fun H locs hB => ?_)
  rw [← eg11] at hB
  obtain ⟨-, rfl⟩ := rt_ok hf
  exact hp_vret cx hB hr hlk (Nat.le_of_ble_eq_true rfl) (Nat.le_of_ble_eq_true rfl) dX0_init_31
end
set_option maxHeartbeats 4000000 in
set_option maxRecDepth 100000 in
theorem cX0_init (l : Launch) (D : va_G) (cA : Nat → ClassId) (t0 : Nat) (v1 : Int32) (v2 : Int32) (v3 : Int32) (v4 : Int32) (v5 : Int32) (h : Hp) (_u : Unit) (h9 : Hp) (hf : fX0_init t0 v1 v2 v3 v4 v5 h = some (_u, h9)) : hp_M l yX0_init prog_2_method_1_code 6 none rmX0_init D cA h [.ref t0, .int v1, .int v2, .int v3, .int v4, .int v5] (hp_Qv D cA h h9) := by
  refine Met.ofW (cc := prog_2_method_1_code) (maxL := 6) (ret := none) (by decide) rfl ?_
  intro p e s m args below meth c s₁ B hml hv
  obtain ⟨rfl, hU⟩ := hv
  have hts := atoms_spec (ws := Cond.code yX0_init prog_2_method_1_code 6 none :: tbG) B.pre
  have hl := lv_entry ([.ref t0, .int v1, .int v2, .int v3, .int v4, .int v5]) (n := 6) (Nat.le_of_ble_eq_true rfl)
  rw [lg_entry_eq]
  generalize (lg_sl ([.ref t0, .int v1, .int v2, .int v3, .int v4, .int v5]) ++ List.replicate (6 - (lg_sl ([.ref t0, .int v1, .int v2, .int v3, .int v4, .int v5])).length) Slot.unset).toArray = ls at hl ⊢
  exact tX0_init_0 ⟨B.exec, B.bytes, hml, findClass_of_methodNamed B.named, fun w hw => hts w (List.mem_cons_of_mem _ hw)⟩ B.returns B.notSynchronized ((name_of_methodNamed B.named B.method).1) t0 v1 v2 v3 v4 v5 h _ _ _ (hp_B.entry hU) hl hf
section
variable {p : Program} {l : Launch} {e : Env} {R : Room} {s : State} {m : MethodId} {args : Array Value} {below : List Frame} {meth : Method} {c : Code} {H : Heap} {locs : List Loc} {cells slots : Nat} {Q : State → Prop}
variable {cc : ByteArray} {pc nL : Nat} {ls : Array Slot} {rest : List Value} {D : va_G} {cA : Nat → ClassId} {A : Nat → Prop} {a : Nat} {h : Hp}
theorem pf_X1_11 (cx : CallFix p m c cc nL s args tbG RX1) (hB : hp_B D cA A s h H locs) (hnm : meth.name = "<init>") (hka : h.1 a = 2) {b : Nat} (hdg : decode cc pc = .ok (.putfield 11, 3)) (kk : ∀ (H1 : Heap) (locs1 : List Loc), hp_B D cA A s (hp_sr h a 0 (some b)) H1 locs1 → W p l e R s m args below meth c H1 locs1 cells slots Q (F0 m (pc + 3) ls rest)) : W p l e R s m args below meth c H locs cells slots Q (F0 m pc ls (.ref b :: .ref a :: rest)) :=
  hp_putX cx hB (ci := 1) 0 tyX1 tyX1_ok nmX1 rfl inX1 (by decide) rfl (by decide) (Or.inr ⟨rfl, hnm, rfl⟩) qw_77 hka (v := va_rf (some b)) (hp_like_sr h a 0 (some b)) (hp_fs_sr (by decide) rfl) rfl rfl hdg kk
theorem pf_X1_17 (cx : CallFix p m c cc nL s args tbG RX1) (hB : hp_B D cA A s h H locs) (hnm : meth.name = "<init>") (hka : h.1 a = 2) {b : Nat} (hdg : decode cc pc = .ok (.putfield 17, 3)) (kk : ∀ (H1 : Heap) (locs1 : List Loc), hp_B D cA A s (hp_sr h a 1 (some b)) H1 locs1 → W p l e R s m args below meth c H1 locs1 cells slots Q (F0 m (pc + 3) ls rest)) : W p l e R s m args below meth c H locs cells slots Q (F0 m pc ls (.ref b :: .ref a :: rest)) :=
  hp_putX cx hB (ci := 1) 1 tyX1 tyX1_ok nmX1 rfl inX1 (by decide) rfl (by decide) (Or.inr ⟨rfl, hnm, rfl⟩) qw_79 hka (v := va_rf (some b)) (hp_like_sr h a 1 (some b)) (hp_fs_sr (by decide) rfl) rfl rfl hdg kk
theorem pf_X1_21 (cx : CallFix p m c cc nL s args tbG RX1) (hB : hp_B D cA A s h H locs) (hka : h.1 a = 2) {x : Int32} (hdg : decode cc pc = .ok (.putfield 21, 3)) (kk : ∀ (H1 : Heap) (locs1 : List Loc), hp_B D cA A s (hp_si h a 2 x) H1 locs1 → W p l e R s m args below meth c H1 locs1 cells slots Q (F0 m (pc + 3) ls rest)) : W p l e R s m args below meth c H locs cells slots Q (F0 m pc ls (.int x :: .ref a :: rest)) :=
  hp_putX cx hB (ci := 1) 2 tyX1 tyX1_ok nmX1 rfl inX1 (by decide) rfl (by decide) (Or.inl rfl) qw_81 hka (v := .int x) (hp_like_si h a 2 x) (hp_fs_si (by decide) rfl) rfl rfl hdg kk
end
abbrev yX1_init : MethodName := ⟨"SpokenMenus$Groups", "<init>", "()V"⟩
theorem dX1_init_0 : decode prog_3_method_1_code 0 = .ok (.aload_n 0, 1) := by decide +kernel
theorem dX1_init_1 : decode prog_3_method_1_code 1 = .ok (.invokespecial 3, 3) := by decide +kernel
theorem dX1_init_4 : decode prog_3_method_1_code 4 = .ok (.aload_n 0, 1) := by decide +kernel
theorem dX1_init_5 : decode prog_3_method_1_code 5 = .ok (.bipush 12, 2) := by decide +kernel
theorem dX1_init_7 : decode prog_3_method_1_code 7 = .ok (.anewarray 9, 3) := by decide +kernel
theorem dX1_init_10 : decode prog_3_method_1_code 10 = .ok (.putfield 11, 3) := by decide +kernel
theorem dX1_init_13 : decode prog_3_method_1_code 13 = .ok (.aload_n 0, 1) := by decide +kernel
theorem dX1_init_14 : decode prog_3_method_1_code 14 = .ok (.bipush 12, 2) := by decide +kernel
theorem dX1_init_16 : decode prog_3_method_1_code 16 = .ok (.newarray .int, 2) := by decide +kernel
theorem dX1_init_18 : decode prog_3_method_1_code 18 = .ok (.putfield 17, 3) := by decide +kernel
theorem dX1_init_21 : decode prog_3_method_1_code 21 = .ok (.aload_n 0, 1) := by decide +kernel
theorem dX1_init_22 : decode prog_3_method_1_code 22 = .ok (.iconst 0, 1) := by decide +kernel
theorem dX1_init_23 : decode prog_3_method_1_code 23 = .ok (.putfield 21, 3) := by decide +kernel
theorem dX1_init_26 : decode prog_3_method_1_code 26 = .ok (.return_, 1) := by decide +kernel
abbrev rmX1_init : Room := { frames := 1, cells := 2, slots := 24, locals := 20 }
def fX1_init  (t0 : Nat) (h : Hp) : Option (Unit × Hp) :=
  nm h.2.2.2.2 fun a1 =>
  nm (hp_nw h 15 12) fun g2 =>
  gk (g2.1 t0) 2 <|
  nm (hp_sr g2 t0 0 (some a1)) fun g5 =>
  nm g5.2.2.2.2 fun a6 =>
  nm (hp_nw g5 13 12) fun g7 =>
  gk (g7.1 t0) 2 <|
  nm (hp_sr g7 t0 1 (some a6)) fun g10 =>
  nm (hp_si g10 t0 2 0) fun g12 =>
  some ((), g12)
section
variable {p : Program} {l : Launch} {e : Env} {s : State} {m : MethodId} {args : Array Value} {below : List Frame} {meth : Method} {c : Code} {D : va_G} {cA : Nat → ClassId} {h0 h9 : Hp}
set_option maxHeartbeats 4000000 in
set_option maxRecDepth 100000 in
theorem tX1_init_0  (cx : CallFix p m c prog_3_method_1_code 1 s args tbG RX1) (hr : meth.sig.returnType = none) (hlk : meth.locks = false) (hnm : meth.name = "<init>")  (t0 : Nat) (h : Hp) (H : Heap) (locs : List Loc) (ls : Array Slot) (hB : hp_B D cA (hp_A h0) s h H locs) (hl : lv_has ls 1 [(0, .ref t0)]) (hf : fX1_init  t0 h = some ((), h9)) : W p l e rmX1_init s m args below meth c H locs 0 0 (MQ below (hp_Qv D cA h0 h9) args s 2 24 (hp_A h0)) (F0 m 0 ls []) := by
  obtain ⟨hx, hb, -⟩ := id cx
  unfold fX1_init at hf
  refine lv_aload_n hx hb dX1_init_0 rfl (lv_at hl 0 rfl) ?_
  refine W.objInit hx hb cx.2.2.2.1 (cx.2.2.2.2 _ (tb_in qw_74 rfl)) (cx.2.2.2.2 _ (tb_in qw_22 rfl)) (cx.2.2.2.2 _ (tb_in qw_23 rfl)) rfl (by rw [cx.2.2.1]; exact hl.1) rfl dX1_init_1 (Nat.le_of_ble_eq_true rfl) (Nat.le_of_ble_eq_true rfl) ?_
  refine W.eq (g2 := F0 m 4 ls []) rfl ?_
  refine lv_aload_n hx hb dX1_init_4 rfl (lv_at hl 0 rfl) ?_
  refine lv_bipush (v := 12) hx hb dX1_init_5 (by decide) ?_
  obtain ⟨a1, ea1, hf⟩ := nm_ok hf
  obtain ⟨g2, eg2, hf⟩ := nm_ok hf
  refine hp_newq cx hB 15 (N' := 12) (by decide) rfl qw_75 (fun h9 => h9.2.1) ea1 (by decide) (by decide) (by decide) (Nat.le_of_ble_eq_true rfl) (Nat.le_of_ble_eq_true rfl) dX1_init_7 (fun H hB => ?_)
  rw [← eg2] at hB
  have k3 : g2.1 a1 = 15 := by rw [eg2, ea1]; exact va_up_self _ _ _
  obtain ⟨k4, hf⟩ := gk_ok hf
  obtain ⟨g5, eg5, hf⟩ := nm_ok hf
  refine pf_X1_11 cx hB hnm k4 dX1_init_10 (fun H locs hB => ?_)
  rw [← eg5] at hB
  refine lv_aload_n hx hb dX1_init_13 rfl (lv_at hl 0 rfl) ?_
  refine lv_bipush (v := 12) hx hb dX1_init_14 (by decide) ?_
  obtain ⟨a6, ea6, hf⟩ := nm_ok hf
  obtain ⟨g7, eg7, hf⟩ := nm_ok hf
  refine hp_newa cx hB 13 (N' := 12) (ty := .int) rfl (by decide) rfl (fun h9 => h9) rfl qw_54 ea6 (by decide) (by decide) (by decide) (Nat.le_of_ble_eq_true rfl) (Nat.le_of_ble_eq_true rfl) dX1_init_16 (fun H hB => ?_)
  rw [← eg7] at hB
  have k8 : g7.1 a6 = 13 := by rw [eg7, ea6]; exact va_up_self _ _ _
  obtain ⟨k9, hf⟩ := gk_ok hf
  obtain ⟨g10, eg10, hf⟩ := nm_ok hf
  refine pf_X1_17 cx hB hnm k9 dX1_init_18 (fun H locs hB => ?_)
  rw [← eg10] at hB
  refine lv_aload_n hx hb dX1_init_21 rfl (lv_at hl 0 rfl) ?_
  refine lv_iconst (v := 0) hx hb dX1_init_22 (by decide) ?_
  have k11 : g10.1 t0 = 2 := by rw [eg10]; exact k9
  obtain ⟨g12, eg12, hf⟩ := nm_ok hf
  refine pf_X1_21 cx hB k11 dX1_init_23 (fun H locs hB => ?_)
  rw [← eg12] at hB
  obtain ⟨-, rfl⟩ := rt_ok hf
  exact hp_vret cx hB hr hlk (Nat.le_of_ble_eq_true rfl) (Nat.le_of_ble_eq_true rfl) dX1_init_26
end
set_option maxHeartbeats 4000000 in
set_option maxRecDepth 100000 in
theorem cX1_init (l : Launch) (D : va_G) (cA : Nat → ClassId) (t0 : Nat) (h : Hp) (_u : Unit) (h9 : Hp) (hf : fX1_init t0 h = some (_u, h9)) : hp_M l yX1_init prog_3_method_1_code 1 none rmX1_init D cA h [.ref t0] (hp_Qv D cA h h9) := by
  refine Met.ofW (cc := prog_3_method_1_code) (maxL := 1) (ret := none) (by decide) rfl ?_
  intro p e s m args below meth c s₁ B hml hv
  obtain ⟨rfl, hU⟩ := hv
  have hts := atoms_spec (ws := Cond.code yX1_init prog_3_method_1_code 1 none :: tbG) B.pre
  have hl := lv_entry ([.ref t0]) (n := 1) (Nat.le_of_ble_eq_true rfl)
  rw [lg_entry_eq]
  generalize (lg_sl ([.ref t0]) ++ List.replicate (1 - (lg_sl ([.ref t0])).length) Slot.unset).toArray = ls at hl ⊢
  exact tX1_init_0 ⟨B.exec, B.bytes, hml, findClass_of_methodNamed B.named, fun w hw => hts w (List.mem_cons_of_mem _ hw)⟩ B.returns B.notSynchronized ((name_of_methodNamed B.named B.method).1) t0 h _ _ _ (hp_B.entry hU) hl hf
section
variable {p : Program} {l : Launch} {e : Env} {R : Room} {s : State} {m : MethodId} {args : Array Value} {below : List Frame} {meth : Method} {c : Code} {H : Heap} {locs : List Loc} {cells slots : Nat} {Q : State → Prop}
variable {cc : ByteArray} {pc nL : Nat} {ls : Array Slot} {rest : List Value} {D : va_G} {cA : Nat → ClassId} {A : Nat → Prop} {a : Nat} {h : Hp}
theorem gf_X1_21 (cx : CallFix p m c cc nL s args tbG RX1) (hB : hp_B D cA A s h H locs) (hka : h.1 a = 2) (hdg : decode cc pc = .ok (.getfield 21, 3)) (kk : W p l e R s m args below meth c H locs cells slots Q (F0 m (pc + 3) ls (.int (h.2.2.1 a 2) :: rest))) : W p l e R s m args below meth c H locs cells slots Q (F0 m pc ls (.ref a :: rest)) :=
  hp_getI cx hB (ci := 1) 2 rfl inX1 (by decide) rfl (by decide) rfl qw_81 hka hdg kk
theorem gf_X1_11 (cx : CallFix p m c cc nL s args tbG RX1) (hB : hp_B D cA A s h H locs) (hka : h.1 a = 2) {b : Nat} (ho : h.2.2.2.1 a 0 = some b) (hdg : decode cc pc = .ok (.getfield 11, 3)) (kk : W p l e R s m args below meth c H locs cells slots Q (F0 m (pc + 3) ls (.ref b :: rest))) : W p l e R s m args below meth c H locs cells slots Q (F0 m pc ls (.ref a :: rest)) :=
  hp_getR cx hB (ci := 1) 0 rfl inX1 (by decide) rfl (by decide) rfl qw_77 hka (o := some b) ho.symm hdg kk
theorem gf_X1_17 (cx : CallFix p m c cc nL s args tbG RX1) (hB : hp_B D cA A s h H locs) (hka : h.1 a = 2) {b : Nat} (ho : h.2.2.2.1 a 1 = some b) (hdg : decode cc pc = .ok (.getfield 17, 3)) (kk : W p l e R s m args below meth c H locs cells slots Q (F0 m (pc + 3) ls (.ref b :: rest))) : W p l e R s m args below meth c H locs cells slots Q (F0 m pc ls (.ref a :: rest)) :=
  hp_getR cx hB (ci := 1) 1 rfl inX1 (by decide) rfl (by decide) rfl qw_79 hka (o := some b) ho.symm hdg kk
end
abbrev yX1_add : MethodName := ⟨"SpokenMenus$Groups", "add", "(ILSpokenMenus$Caller;)V"⟩
theorem dX1_add_0 : decode prog_3_method_2_code 0 = .ok (.aload_n 0, 1) := by decide +kernel
theorem dX1_add_1 : decode prog_3_method_2_code 1 = .ok (.getfield 21, 3) := by decide +kernel
theorem dX1_add_4 : decode prog_3_method_2_code 4 = .ok (.bipush 12, 2) := by decide +kernel
theorem dX1_add_6 : decode prog_3_method_2_code 6 = .ok (.if_icmp .ge 33, 3) := by decide +kernel
theorem dX1_add_9 : decode prog_3_method_2_code 9 = .ok (.aload_n 0, 1) := by decide +kernel
theorem dX1_add_10 : decode prog_3_method_2_code 10 = .ok (.getfield 11, 3) := by decide +kernel
theorem dX1_add_13 : decode prog_3_method_2_code 13 = .ok (.aload_n 0, 1) := by decide +kernel
theorem dX1_add_14 : decode prog_3_method_2_code 14 = .ok (.getfield 21, 3) := by decide +kernel
theorem dX1_add_17 : decode prog_3_method_2_code 17 = .ok (.aload_n 2, 1) := by decide +kernel
theorem dX1_add_18 : decode prog_3_method_2_code 18 = .ok (.aastore, 1) := by decide +kernel
theorem dX1_add_19 : decode prog_3_method_2_code 19 = .ok (.aload_n 0, 1) := by decide +kernel
theorem dX1_add_20 : decode prog_3_method_2_code 20 = .ok (.getfield 17, 3) := by decide +kernel
theorem dX1_add_23 : decode prog_3_method_2_code 23 = .ok (.aload_n 0, 1) := by decide +kernel
theorem dX1_add_24 : decode prog_3_method_2_code 24 = .ok (.getfield 21, 3) := by decide +kernel
theorem dX1_add_27 : decode prog_3_method_2_code 27 = .ok (.iload_n 1, 1) := by decide +kernel
theorem dX1_add_28 : decode prog_3_method_2_code 28 = .ok (.iastore, 1) := by decide +kernel
theorem dX1_add_29 : decode prog_3_method_2_code 29 = .ok (.aload_n 0, 1) := by decide +kernel
theorem dX1_add_30 : decode prog_3_method_2_code 30 = .ok (.dup, 1) := by decide +kernel
theorem dX1_add_31 : decode prog_3_method_2_code 31 = .ok (.getfield 21, 3) := by decide +kernel
theorem dX1_add_34 : decode prog_3_method_2_code 34 = .ok (.iconst 1, 1) := by decide +kernel
theorem dX1_add_35 : decode prog_3_method_2_code 35 = .ok (.iadd, 1) := by decide +kernel
theorem dX1_add_36 : decode prog_3_method_2_code 36 = .ok (.putfield 21, 3) := by decide +kernel
theorem dX1_add_39 : decode prog_3_method_2_code 39 = .ok (.return_, 1) := by decide +kernel
abbrev rmX1_add : Room := { frames := 0, cells := 0, slots := 0, locals := 0 }
def fX1_add  (t0 : Nat) (v1 : Int32) (w2 : Option Nat) (h : Hp) : Option (Unit × Hp) :=
  gk (h.1 t0) 2 <|
  if 12 ≤ (h.2.2.1 t0 2) then
  (some ((), h))
  else
  (bd (h.2.2.2.1 t0 0) fun a3 =>
  bd w2 fun a5 =>
  gk (h.1 a3) 15 <|
  gk (h.1 a5) 1 <|
  gd (ix (h.2.2.1 t0 2) (h.2.1 a3)) <|
  nm (hp_sr h a3 (Int32.toNatClampNeg (h.2.2.1 t0 2)) (some a5)) fun g9 =>
  bd (g9.2.2.2.1 t0 1) fun a11 =>
  gk (g9.1 a11) 13 <|
  gd (ix (g9.2.2.1 t0 2) (g9.2.1 a11)) <|
  nm (hp_si g9 a11 (Int32.toNatClampNeg (g9.2.2.1 t0 2)) v1) fun g15 =>
  nm (hp_si g15 t0 2 ((g15.2.2.1 t0 2) + 1)) fun g17 =>
  some ((), g17))
section
variable {p : Program} {l : Launch} {e : Env} {s : State} {m : MethodId} {args : Array Value} {below : List Frame} {meth : Method} {c : Code} {D : va_G} {cA : Nat → ClassId} {h0 h9 : Hp}
set_option maxHeartbeats 4000000 in
set_option maxRecDepth 100000 in
theorem tX1_add_0  (cx : CallFix p m c prog_3_method_2_code 3 s args tbG RX1) (hr : meth.sig.returnType = none) (hlk : meth.locks = false)  (t0 : Nat) (v1 : Int32) (w2 : Option Nat) (h : Hp) (H : Heap) (locs : List Loc) (ls : Array Slot) (hB : hp_B D cA (hp_A h0) s h H locs) (hl : lv_has ls 3 [(0, .ref t0), (1, .int v1), (2, va_rf w2)]) (hf : fX1_add  t0 v1 w2 h = some ((), h9)) : W p l e rmX1_add s m args below meth c H locs 0 0 (MQ below (hp_Qv D cA h0 h9) args s 0 0 (hp_A h0)) (F0 m 0 ls []) := by
  obtain ⟨hx, hb, -⟩ := id cx
  unfold fX1_add at hf
  refine lv_aload_n hx hb dX1_add_0 rfl (lv_at hl 0 rfl) ?_
  obtain ⟨k1, hf⟩ := gk_ok hf
  refine gf_X1_21 cx hB k1 dX1_add_1 ?_
  refine lv_bipush (v := 12) hx hb dX1_add_4 (by decide) ?_
  refine lv_icmp_ge (tgt := 39) hx hb dX1_add_6 (by decide) (fun c2 => ?_) (fun c2 => ?_)
  · replace hf := it_t c2 hf
    obtain ⟨-, rfl⟩ := rt_ok hf
    exact hp_vret cx hB hr hlk (Nat.le_of_ble_eq_true rfl) (Nat.le_of_ble_eq_true rfl) dX1_add_39
  · replace hf := it_f c2 hf
    refine lv_aload_n hx hb dX1_add_9 rfl (lv_at hl 0 rfl) ?_
    obtain ⟨a3, q4, hf⟩ := bd_ok hf
    refine gf_X1_11 cx hB k1 q4 dX1_add_10 ?_
    refine lv_aload_n hx hb dX1_add_13 rfl (lv_at hl 0 rfl) ?_
    refine gf_X1_21 cx hB k1 dX1_add_14 ?_
    refine lq_aload_n hx hb dX1_add_17 rfl (lv_at hl 2 rfl) ?_
    obtain ⟨a5, eo, hf⟩ := bd_ok hf
    subst eo
    obtain ⟨k6, hf⟩ := gk_ok hf
    obtain ⟨k7, hf⟩ := gk_ok hf
    obtain ⟨j8, hf⟩ := gd_ok hf
    obtain ⟨g9, eg9, hf⟩ := nm_ok hf
    refine hp_aast cx hB 15 0 (by decide) rfl rfl (by decide) k6 k7 j8 dX1_add_18 (fun H locs hB => ?_)
    rw [← eg9] at hB
    refine lv_aload_n hx hb dX1_add_19 rfl (lv_at hl 0 rfl) ?_
    have k10 : g9.1 t0 = 2 := by rw [eg9]; exact k1
    obtain ⟨a11, q12, hf⟩ := bd_ok hf
    refine gf_X1_17 cx hB k10 q12 dX1_add_20 ?_
    refine lv_aload_n hx hb dX1_add_23 rfl (lv_at hl 0 rfl) ?_
    refine gf_X1_21 cx hB k10 dX1_add_24 ?_
    refine lv_iload_n hx hb dX1_add_27 rfl (lv_at hl 1 rfl) ?_
    obtain ⟨k13, hf⟩ := gk_ok hf
    obtain ⟨j14, hf⟩ := gd_ok hf
    obtain ⟨g15, eg15, hf⟩ := nm_ok hf
    refine hp_iast cx hB k13 j14 dX1_add_28 (fun H locs hB => ?_)
    rw [← eg15] at hB
    refine lv_aload_n hx hb dX1_add_29 rfl (lv_at hl 0 rfl) ?_
    refine lv_dup hx hb dX1_add_30 rfl ?_
    have k16 : g15.1 t0 = 2 := by rw [eg15]; exact k10
    refine gf_X1_21 cx hB k16 dX1_add_31 ?_
    refine lv_iconst (v := 1) hx hb dX1_add_34 (by decide) ?_
    refine lv_iadd hx hb dX1_add_35 ?_
    obtain ⟨g17, eg17, hf⟩ := nm_ok hf
    refine pf_X1_21 cx hB k16 dX1_add_36 (fun H locs hB => ?_)
    rw [← eg17] at hB
    obtain ⟨-, rfl⟩ := rt_ok hf
    exact hp_vret cx hB hr hlk (Nat.le_of_ble_eq_true rfl) (Nat.le_of_ble_eq_true rfl) dX1_add_39
end
set_option maxHeartbeats 4000000 in
set_option maxRecDepth 100000 in
theorem cX1_add (l : Launch) (D : va_G) (cA : Nat → ClassId) (t0 : Nat) (v1 : Int32) (w2 : Option Nat) (h : Hp) (_u : Unit) (h9 : Hp) (hf : fX1_add t0 v1 w2 h = some (_u, h9)) : hp_M l yX1_add prog_3_method_2_code 3 none rmX1_add D cA h [.ref t0, .int v1, va_rf w2] (hp_Qv D cA h h9) := by
  refine Met.ofW (cc := prog_3_method_2_code) (maxL := 3) (ret := none) (by decide) rfl ?_
  intro p e s m args below meth c s₁ B hml hv
  obtain ⟨rfl, hU⟩ := hv
  have hts := atoms_spec (ws := Cond.code yX1_add prog_3_method_2_code 3 none :: tbG) B.pre
  have hl := lv_entry ([.ref t0, .int v1, va_rf w2]) (n := 3) (by simp [lg_sl, va_rf_cat, cat_i, cat_r, cat_n])
  rw [show lv_args 0 ([.ref t0, .int v1, va_rf w2]) = [(0, .ref t0), (1, .int v1), (2, va_rf w2)] by simp [lv_args, va_rf_cat, cat_i, cat_r, cat_n]] at hl
  rw [lg_entry_eq]
  generalize (lg_sl ([.ref t0, .int v1, va_rf w2]) ++ List.replicate (3 - (lg_sl ([.ref t0, .int v1, va_rf w2])).length) Slot.unset).toArray = ls at hl ⊢
  exact tX1_add_0 ⟨B.exec, B.bytes, hml, findClass_of_methodNamed B.named, fun w hw => hts w (List.mem_cons_of_mem _ hw)⟩ B.returns B.notSynchronized t0 v1 w2 h _ _ _ (hp_B.entry hU) hl hf
abbrev yX1_howManyCallers : MethodName := ⟨"SpokenMenus$Groups", "howManyCallers", "()I"⟩
theorem dX1_howManyCallers_0 : decode prog_3_method_3_code 0 = .ok (.iconst 0, 1) := by decide +kernel
theorem dX1_howManyCallers_1 : decode prog_3_method_3_code 1 = .ok (.istore_n 1, 1) := by decide +kernel
theorem dX1_howManyCallers_2 : decode prog_3_method_3_code 2 = .ok (.iconst 0, 1) := by decide +kernel
theorem dX1_howManyCallers_3 : decode prog_3_method_3_code 3 = .ok (.istore_n 2, 1) := by decide +kernel
theorem dX1_howManyCallers_4 : decode prog_3_method_3_code 4 = .ok (.iload_n 2, 1) := by decide +kernel
theorem dX1_howManyCallers_5 : decode prog_3_method_3_code 5 = .ok (.aload_n 0, 1) := by decide +kernel
theorem dX1_howManyCallers_6 : decode prog_3_method_3_code 6 = .ok (.getfield 21, 3) := by decide +kernel
theorem dX1_howManyCallers_9 : decode prog_3_method_3_code 9 = .ok (.if_icmp .ge 18, 3) := by decide +kernel
theorem dX1_howManyCallers_12 : decode prog_3_method_3_code 12 = .ok (.iload_n 1, 1) := by decide +kernel
theorem dX1_howManyCallers_13 : decode prog_3_method_3_code 13 = .ok (.aload_n 0, 1) := by decide +kernel
theorem dX1_howManyCallers_14 : decode prog_3_method_3_code 14 = .ok (.getfield 17, 3) := by decide +kernel
theorem dX1_howManyCallers_17 : decode prog_3_method_3_code 17 = .ok (.iload_n 2, 1) := by decide +kernel
theorem dX1_howManyCallers_18 : decode prog_3_method_3_code 18 = .ok (.iaload, 1) := by decide +kernel
theorem dX1_howManyCallers_19 : decode prog_3_method_3_code 19 = .ok (.iadd, 1) := by decide +kernel
theorem dX1_howManyCallers_20 : decode prog_3_method_3_code 20 = .ok (.istore_n 1, 1) := by decide +kernel
theorem dX1_howManyCallers_21 : decode prog_3_method_3_code 21 = .ok (.iinc 2 1, 3) := by decide +kernel
theorem dX1_howManyCallers_24 : decode prog_3_method_3_code 24 = .ok (.goto (-20), 3) := by decide +kernel
theorem dX1_howManyCallers_27 : decode prog_3_method_3_code 27 = .ok (.iload_n 1, 1) := by decide +kernel
theorem dX1_howManyCallers_28 : decode prog_3_method_3_code 28 = .ok (.ireturn, 1) := by decide +kernel
abbrev rmX1_howManyCallers : Room := { frames := 0, cells := 0, slots := 0, locals := 0 }
def bX1_howManyCallers_4  (rc : Nat → Int32 → Int32 → Hp → Option (Int32 × Hp)) (t0 : Nat) (v1 : Int32) (v2 : Int32) (h : Hp) : Option (Int32 × Hp) :=
  gk (h.1 t0) 2 <|
  if (h.2.2.1 t0 2) ≤ v2 then
  (some (v1, h))
  else
  (bd (h.2.2.2.1 t0 1) fun a3 =>
  gk (h.1 a3) 13 <|
  gd (ix v2 (h.2.1 a3)) <|
  nm (v1 + (h.2.2.1 a3 (Int32.toNatClampNeg v2))) fun x7 =>
  nm (v2 + 1) fun x8 =>
  rc t0 x7 x8 h)
def fX1_howManyCallers_4  : Nat → Int32 → Int32 → Hp → Option (Int32 × Hp) := fx (bX1_howManyCallers_4 ) (fun _ _ _ _ => none) NF
def fX1_howManyCallers  (t0 : Nat) (h : Hp) : Option (Int32 × Hp) :=
  fX1_howManyCallers_4  t0 0 0 h
section
variable {p : Program} {l : Launch} {e : Env} {s : State} {m : MethodId} {args : Array Value} {below : List Frame} {meth : Method} {c : Code} {D : va_G} {cA : Nat → ClassId} {h0 h9 : Hp}
set_option maxHeartbeats 4000000 in
set_option maxRecDepth 100000 in
theorem tX1_howManyCallers_4  {r : Int32} (cx : CallFix p m c prog_3_method_3_code 3 s args tbG RX1) (hr : meth.sig.returnType = (Option.some FieldType.int)) (hlk : meth.locks = false)  (n : Nat) : ∀ (t0 : Nat) (v1 : Int32) (v2 : Int32) (h : Hp) (H : Heap) (locs : List Loc) (ls : Array Slot), hp_B D cA (hp_A h0) s h H locs → lv_has ls 3 [(0, .ref t0), (1, .int v1), (2, .int v2)] → fx (bX1_howManyCallers_4 ) (fun _ _ _ _ => none) n t0 v1 v2 h = some (r, h9) → W p l e rmX1_howManyCallers s m args below meth c H locs 0 0 (MQ below (hp_Qi D cA h0 h9 r) args s 0 0 (hp_A h0)) (F0 m 4 ls []) := by
  obtain ⟨hx, hb, -⟩ := id cx
  induction n with
  | zero => intro t0 v1 v2 h H locs ls hB hl hf; cases hf
  | succ n ih =>
    intro t0 v1 v2 h H locs ls hB hl hf
    replace hf : bX1_howManyCallers_4  (fx (bX1_howManyCallers_4 ) (fun _ _ _ _ => none) n) t0 v1 v2 h = some (r, h9) := hf
    unfold bX1_howManyCallers_4 at hf
    refine lv_iload_n hx hb dX1_howManyCallers_4 rfl (lv_at hl 2 rfl) ?_
    refine lv_aload_n hx hb dX1_howManyCallers_5 rfl (lv_at hl 0 rfl) ?_
    obtain ⟨k1, hf⟩ := gk_ok hf
    refine gf_X1_21 cx hB k1 dX1_howManyCallers_6 ?_
    refine lv_icmp_ge (tgt := 27) hx hb dX1_howManyCallers_9 (by decide) (fun c2 => ?_) (fun c2 => ?_)
    · replace hf := it_t c2 hf
      refine lv_iload_n hx hb dX1_howManyCallers_27 rfl (lv_at hl 1 rfl) ?_
      obtain ⟨rfl, rfl⟩ := rt_ok hf
      exact hp_iret cx hB hr hlk (Nat.le_of_ble_eq_true rfl) (Nat.le_of_ble_eq_true rfl) dX1_howManyCallers_28
    · replace hf := it_f c2 hf
      refine lv_iload_n hx hb dX1_howManyCallers_12 rfl (lv_at hl 1 rfl) ?_
      refine lv_aload_n hx hb dX1_howManyCallers_13 rfl (lv_at hl 0 rfl) ?_
      obtain ⟨a3, q4, hf⟩ := bd_ok hf
      refine gf_X1_17 cx hB k1 q4 dX1_howManyCallers_14 ?_
      refine lv_iload_n hx hb dX1_howManyCallers_17 rfl (lv_at hl 2 rfl) ?_
      obtain ⟨k5, hf⟩ := gk_ok hf
      obtain ⟨j6, hf⟩ := gd_ok hf
      refine hp_iald cx hB k5 j6 dX1_howManyCallers_18 ?_
      refine lv_iadd hx hb dX1_howManyCallers_19 ?_
      obtain ⟨x7, ex7, hf⟩ := nm_ok hf
      refine lv_ren ex7 ?_
      refine lv_istore_n (lv' := [(1, .int x7), (0, .ref t0), (2, .int v2)]) hx hb dX1_howManyCallers_20 rfl hl (by decide) rfl (fun ls hl => ?_)
      obtain ⟨x8, ex8, hf⟩ := nm_ok hf
      refine lv_iinc (v := x8) (lv' := [(2, .int x8), (1, .int x7), (0, .ref t0)]) hx hb dX1_howManyCallers_21 hl (k := 2) rfl (by rw [ex8]; rfl) (by decide) rfl (fun ls hl => ?_)
      refine lv_goto (tgt := 4) hx hb dX1_howManyCallers_24 (by decide) ?_
      exact ih t0 x7 x8 h _ _ _ hB (lv_sub hl [2, 1, 0] rfl) hf
set_option maxHeartbeats 4000000 in
set_option maxRecDepth 100000 in
theorem tX1_howManyCallers_0  {r : Int32} (cx : CallFix p m c prog_3_method_3_code 3 s args tbG RX1) (hr : meth.sig.returnType = (Option.some FieldType.int)) (hlk : meth.locks = false)  (t0 : Nat) (h : Hp) (H : Heap) (locs : List Loc) (ls : Array Slot) (hB : hp_B D cA (hp_A h0) s h H locs) (hl : lv_has ls 3 [(0, .ref t0)]) (hf : fX1_howManyCallers  t0 h = some (r, h9)) : W p l e rmX1_howManyCallers s m args below meth c H locs 0 0 (MQ below (hp_Qi D cA h0 h9 r) args s 0 0 (hp_A h0)) (F0 m 0 ls []) := by
  obtain ⟨hx, hb, -⟩ := id cx
  unfold fX1_howManyCallers at hf
  refine lv_iconst (v := 0) hx hb dX1_howManyCallers_0 (by decide) ?_
  refine lv_istore_n (lv' := [(1, .int 0), (0, .ref t0)]) hx hb dX1_howManyCallers_1 rfl hl (by decide) rfl (fun ls hl => ?_)
  refine lv_iconst (v := 0) hx hb dX1_howManyCallers_2 (by decide) ?_
  refine lv_istore_n (lv' := [(2, .int 0), (1, .int 0), (0, .ref t0)]) hx hb dX1_howManyCallers_3 rfl hl (by decide) rfl (fun ls hl => ?_)
  exact tX1_howManyCallers_4 cx hr hlk  NF t0 0 0 h _ _ _ hB (lv_sub hl [2, 1, 0] rfl) hf
end
set_option maxHeartbeats 4000000 in
set_option maxRecDepth 100000 in
theorem cX1_howManyCallers (l : Launch) (D : va_G) (cA : Nat → ClassId) (t0 : Nat) (h : Hp) (r : Int32) (h9 : Hp) (hf : fX1_howManyCallers t0 h = some (r, h9)) : hp_M l yX1_howManyCallers prog_3_method_3_code 3 (Option.some FieldType.int) rmX1_howManyCallers D cA h [.ref t0] (hp_Qi D cA h h9 r) := by
  refine Met.ofW (cc := prog_3_method_3_code) (maxL := 3) (ret := (Option.some FieldType.int)) (by decide) rfl ?_
  intro p e s m args below meth c s₁ B hml hv
  obtain ⟨rfl, hU⟩ := hv
  have hts := atoms_spec (ws := Cond.code yX1_howManyCallers prog_3_method_3_code 3 (Option.some FieldType.int) :: tbG) B.pre
  have hl := lv_entry ([.ref t0]) (n := 3) (Nat.le_of_ble_eq_true rfl)
  rw [lg_entry_eq]
  generalize (lg_sl ([.ref t0]) ++ List.replicate (3 - (lg_sl ([.ref t0])).length) Slot.unset).toArray = ls at hl ⊢
  exact tX1_howManyCallers_0 ⟨B.exec, B.bytes, hml, findClass_of_methodNamed B.named, fun w hw => hts w (List.mem_cons_of_mem _ hw)⟩ B.returns B.notSynchronized t0 h _ _ _ (hp_B.entry hU) hl hf
section
variable {p : Program} {l : Launch} {e : Env} {R : Room} {s : State} {m : MethodId} {args : Array Value} {below : List Frame} {meth : Method} {c : Code} {H : Heap} {locs : List Loc} {cells slots : Nat} {Q : State → Prop}
variable {cc : ByteArray} {pc nL : Nat} {ls : Array Slot} {rest : List Value} {D : va_G} {cA : Nat → ClassId} {A : Nat → Prop} {a : Nat} {h : Hp}
theorem pf_X2_11 (cx : CallFix p m c cc nL s args tbG RX2) (hB : hp_B D cA A s h H locs) (hnm : meth.name = "<init>") (hka : h.1 a = 3) {b : Nat} (hdg : decode cc pc = .ok (.putfield 11, 3)) (kk : ∀ (H1 : Heap) (locs1 : List Loc), hp_B D cA A s (hp_sr h a 0 (some b)) H1 locs1 → W p l e R s m args below meth c H1 locs1 cells slots Q (F0 m (pc + 3) ls rest)) : W p l e R s m args below meth c H locs cells slots Q (F0 m pc ls (.ref b :: .ref a :: rest)) :=
  hp_putX cx hB (ci := 2) 0 tyX2 tyX2_ok nmX2 rfl inX2 (by decide) rfl (by decide) (Or.inr ⟨rfl, hnm, rfl⟩) qw_32 hka (v := va_rf (some b)) (hp_like_sr h a 0 (some b)) (hp_fs_sr (by decide) rfl) rfl rfl hdg kk
theorem pf_X2_17 (cx : CallFix p m c cc nL s args tbG RX2) (hB : hp_B D cA A s h H locs) (hka : h.1 a = 3) {x : Int32} (hdg : decode cc pc = .ok (.putfield 17, 3)) (kk : ∀ (H1 : Heap) (locs1 : List Loc), hp_B D cA A s (hp_si h a 1 x) H1 locs1 → W p l e R s m args below meth c H1 locs1 cells slots Q (F0 m (pc + 3) ls rest)) : W p l e R s m args below meth c H locs cells slots Q (F0 m pc ls (.int x :: .ref a :: rest)) :=
  hp_putX cx hB (ci := 2) 1 tyX2 tyX2_ok nmX2 rfl inX2 (by decide) rfl (by decide) (Or.inl rfl) qw_35 hka (v := .int x) (hp_like_si h a 1 x) (hp_fs_si (by decide) rfl) rfl rfl hdg kk
end
abbrev yX2_init : MethodName := ⟨"SpokenMenus$House", "<init>", "()V"⟩
theorem dX2_init_0 : decode prog_4_method_1_code 0 = .ok (.aload_n 0, 1) := by decide +kernel
theorem dX2_init_1 : decode prog_4_method_1_code 1 = .ok (.invokespecial 3, 3) := by decide +kernel
theorem dX2_init_4 : decode prog_4_method_1_code 4 = .ok (.aload_n 0, 1) := by decide +kernel
theorem dX2_init_5 : decode prog_4_method_1_code 5 = .ok (.bipush 40, 2) := by decide +kernel
theorem dX2_init_7 : decode prog_4_method_1_code 7 = .ok (.anewarray 9, 3) := by decide +kernel
theorem dX2_init_10 : decode prog_4_method_1_code 10 = .ok (.putfield 11, 3) := by decide +kernel
theorem dX2_init_13 : decode prog_4_method_1_code 13 = .ok (.aload_n 0, 1) := by decide +kernel
theorem dX2_init_14 : decode prog_4_method_1_code 14 = .ok (.iconst 0, 1) := by decide +kernel
theorem dX2_init_15 : decode prog_4_method_1_code 15 = .ok (.putfield 17, 3) := by decide +kernel
theorem dX2_init_18 : decode prog_4_method_1_code 18 = .ok (.return_, 1) := by decide +kernel
abbrev rmX2_init : Room := { frames := 1, cells := 1, slots := 40, locals := 20 }
def fX2_init  (t0 : Nat) (h : Hp) : Option (Unit × Hp) :=
  nm h.2.2.2.2 fun a1 =>
  nm (hp_nw h 17 40) fun g2 =>
  gk (g2.1 t0) 3 <|
  nm (hp_sr g2 t0 0 (some a1)) fun g5 =>
  nm (hp_si g5 t0 1 0) fun g7 =>
  some ((), g7)
section
variable {p : Program} {l : Launch} {e : Env} {s : State} {m : MethodId} {args : Array Value} {below : List Frame} {meth : Method} {c : Code} {D : va_G} {cA : Nat → ClassId} {h0 h9 : Hp}
set_option maxHeartbeats 4000000 in
set_option maxRecDepth 100000 in
theorem tX2_init_0  (cx : CallFix p m c prog_4_method_1_code 1 s args tbG RX2) (hr : meth.sig.returnType = none) (hlk : meth.locks = false) (hnm : meth.name = "<init>")  (t0 : Nat) (h : Hp) (H : Heap) (locs : List Loc) (ls : Array Slot) (hB : hp_B D cA (hp_A h0) s h H locs) (hl : lv_has ls 1 [(0, .ref t0)]) (hf : fX2_init  t0 h = some ((), h9)) : W p l e rmX2_init s m args below meth c H locs 0 0 (MQ below (hp_Qv D cA h0 h9) args s 1 40 (hp_A h0)) (F0 m 0 ls []) := by
  obtain ⟨hx, hb, -⟩ := id cx
  unfold fX2_init at hf
  refine lv_aload_n hx hb dX2_init_0 rfl (lv_at hl 0 rfl) ?_
  refine W.objInit hx hb cx.2.2.2.1 (cx.2.2.2.2 _ (tb_in qw_29 rfl)) (cx.2.2.2.2 _ (tb_in qw_22 rfl)) (cx.2.2.2.2 _ (tb_in qw_23 rfl)) rfl (by rw [cx.2.2.1]; exact hl.1) rfl dX2_init_1 (Nat.le_of_ble_eq_true rfl) (Nat.le_of_ble_eq_true rfl) ?_
  refine W.eq (g2 := F0 m 4 ls []) rfl ?_
  refine lv_aload_n hx hb dX2_init_4 rfl (lv_at hl 0 rfl) ?_
  refine lv_bipush (v := 40) hx hb dX2_init_5 (by decide) ?_
  obtain ⟨a1, ea1, hf⟩ := nm_ok hf
  obtain ⟨g2, eg2, hf⟩ := nm_ok hf
  refine hp_newq cx hB 17 (N' := 40) (by decide) rfl qw_30 (fun h9 => h9.2.2.2.1) ea1 (by decide) (by decide) (by decide) (Nat.le_of_ble_eq_true rfl) (Nat.le_of_ble_eq_true rfl) dX2_init_7 (fun H hB => ?_)
  rw [← eg2] at hB
  have k3 : g2.1 a1 = 17 := by rw [eg2, ea1]; exact va_up_self _ _ _
  obtain ⟨k4, hf⟩ := gk_ok hf
  obtain ⟨g5, eg5, hf⟩ := nm_ok hf
  refine pf_X2_11 cx hB hnm k4 dX2_init_10 (fun H locs hB => ?_)
  rw [← eg5] at hB
  refine lv_aload_n hx hb dX2_init_13 rfl (lv_at hl 0 rfl) ?_
  refine lv_iconst (v := 0) hx hb dX2_init_14 (by decide) ?_
  have k6 : g5.1 t0 = 3 := by rw [eg5]; exact k4
  obtain ⟨g7, eg7, hf⟩ := nm_ok hf
  refine pf_X2_17 cx hB k6 dX2_init_15 (fun H locs hB => ?_)
  rw [← eg7] at hB
  obtain ⟨-, rfl⟩ := rt_ok hf
  exact hp_vret cx hB hr hlk (Nat.le_of_ble_eq_true rfl) (Nat.le_of_ble_eq_true rfl) dX2_init_18
end
set_option maxHeartbeats 4000000 in
set_option maxRecDepth 100000 in
theorem cX2_init (l : Launch) (D : va_G) (cA : Nat → ClassId) (t0 : Nat) (h : Hp) (_u : Unit) (h9 : Hp) (hf : fX2_init t0 h = some (_u, h9)) : hp_M l yX2_init prog_4_method_1_code 1 none rmX2_init D cA h [.ref t0] (hp_Qv D cA h h9) := by
  refine Met.ofW (cc := prog_4_method_1_code) (maxL := 1) (ret := none) (by decide) rfl ?_
  intro p e s m args below meth c s₁ B hml hv
  obtain ⟨rfl, hU⟩ := hv
  have hts := atoms_spec (ws := Cond.code yX2_init prog_4_method_1_code 1 none :: tbG) B.pre
  have hl := lv_entry ([.ref t0]) (n := 1) (Nat.le_of_ble_eq_true rfl)
  rw [lg_entry_eq]
  generalize (lg_sl ([.ref t0]) ++ List.replicate (1 - (lg_sl ([.ref t0])).length) Slot.unset).toArray = ls at hl ⊢
  exact tX2_init_0 ⟨B.exec, B.bytes, hml, findClass_of_methodNamed B.named, fun w hw => hts w (List.mem_cons_of_mem _ hw)⟩ B.returns B.notSynchronized ((name_of_methodNamed B.named B.method).1) t0 h _ _ _ (hp_B.entry hU) hl hf
section
variable {p : Program} {l : Launch} {e : Env} {R : Room} {s : State} {m : MethodId} {args : Array Value} {below : List Frame} {meth : Method} {c : Code} {H : Heap} {locs : List Loc} {cells slots : Nat} {Q : State → Prop}
variable {cc : ByteArray} {pc nL : Nat} {ls : Array Slot} {rest : List Value} {D : va_G} {cA : Nat → ClassId} {A : Nat → Prop} {a : Nat} {h : Hp}
theorem gf_X2_17 (cx : CallFix p m c cc nL s args tbG RX2) (hB : hp_B D cA A s h H locs) (hka : h.1 a = 3) (hdg : decode cc pc = .ok (.getfield 17, 3)) (kk : W p l e R s m args below meth c H locs cells slots Q (F0 m (pc + 3) ls (.int (h.2.2.1 a 1) :: rest))) : W p l e R s m args below meth c H locs cells slots Q (F0 m pc ls (.ref a :: rest)) :=
  hp_getI cx hB (ci := 2) 1 rfl inX2 (by decide) rfl (by decide) rfl qw_35 hka hdg kk
end
abbrev yX2_isFull : MethodName := ⟨"SpokenMenus$House", "isFull", "()Z"⟩
theorem dX2_isFull_0 : decode prog_4_method_2_code 0 = .ok (.aload_n 0, 1) := by decide +kernel
theorem dX2_isFull_1 : decode prog_4_method_2_code 1 = .ok (.getfield 17, 3) := by decide +kernel
theorem dX2_isFull_4 : decode prog_4_method_2_code 4 = .ok (.bipush 40, 2) := by decide +kernel
theorem dX2_isFull_6 : decode prog_4_method_2_code 6 = .ok (.if_icmp .lt 7, 3) := by decide +kernel
theorem dX2_isFull_9 : decode prog_4_method_2_code 9 = .ok (.iconst 1, 1) := by decide +kernel
theorem dX2_isFull_10 : decode prog_4_method_2_code 10 = .ok (.goto 4, 3) := by decide +kernel
theorem dX2_isFull_13 : decode prog_4_method_2_code 13 = .ok (.iconst 0, 1) := by decide +kernel
theorem dX2_isFull_14 : decode prog_4_method_2_code 14 = .ok (.ireturn, 1) := by decide +kernel
abbrev rmX2_isFull : Room := { frames := 0, cells := 0, slots := 0, locals := 0 }
def fX2_isFull  (t0 : Nat) (h : Hp) : Option (Int32 × Hp) :=
  gk (h.1 t0) 3 <|
  if (h.2.2.1 t0 1) < 40 then
  (some (0, h))
  else
  (some (1, h))
section
variable {p : Program} {l : Launch} {e : Env} {s : State} {m : MethodId} {args : Array Value} {below : List Frame} {meth : Method} {c : Code} {D : va_G} {cA : Nat → ClassId} {h0 h9 : Hp}
set_option maxHeartbeats 4000000 in
set_option maxRecDepth 100000 in
theorem tX2_isFull_0  {r : Int32} (cx : CallFix p m c prog_4_method_2_code 1 s args tbG RX2) (hr : meth.sig.returnType = (Option.some FieldType.boolean)) (hlk : meth.locks = false)  (t0 : Nat) (h : Hp) (H : Heap) (locs : List Loc) (ls : Array Slot) (hB : hp_B D cA (hp_A h0) s h H locs) (hl : lv_has ls 1 [(0, .ref t0)]) (hf : fX2_isFull  t0 h = some (r, h9)) : W p l e rmX2_isFull s m args below meth c H locs 0 0 (MQ below (hp_Qi D cA h0 h9 r) args s 0 0 (hp_A h0)) (F0 m 0 ls []) := by
  obtain ⟨hx, hb, -⟩ := id cx
  unfold fX2_isFull at hf
  refine lv_aload_n hx hb dX2_isFull_0 rfl (lv_at hl 0 rfl) ?_
  obtain ⟨k1, hf⟩ := gk_ok hf
  refine gf_X2_17 cx hB k1 dX2_isFull_1 ?_
  refine lv_bipush (v := 40) hx hb dX2_isFull_4 (by decide) ?_
  refine lv_icmp_lt (tgt := 13) hx hb dX2_isFull_6 (by decide) (fun c2 => ?_) (fun c2 => ?_)
  · replace hf := it_t c2 hf
    refine lv_iconst (v := 0) hx hb dX2_isFull_13 (by decide) ?_
    obtain ⟨rfl, rfl⟩ := rt_ok hf
    exact hp_zret cx hB hr hlk (Nat.le_of_ble_eq_true rfl) (Nat.le_of_ble_eq_true rfl) rfl dX2_isFull_14
  · replace hf := it_f c2 hf
    refine lv_iconst (v := 1) hx hb dX2_isFull_9 (by decide) ?_
    refine lv_goto (tgt := 14) hx hb dX2_isFull_10 (by decide) ?_
    obtain ⟨rfl, rfl⟩ := rt_ok hf
    exact hp_zret cx hB hr hlk (Nat.le_of_ble_eq_true rfl) (Nat.le_of_ble_eq_true rfl) rfl dX2_isFull_14
end
set_option maxHeartbeats 4000000 in
set_option maxRecDepth 100000 in
theorem cX2_isFull (l : Launch) (D : va_G) (cA : Nat → ClassId) (t0 : Nat) (h : Hp) (r : Int32) (h9 : Hp) (hf : fX2_isFull t0 h = some (r, h9)) : hp_M l yX2_isFull prog_4_method_2_code 1 (Option.some FieldType.boolean) rmX2_isFull D cA h [.ref t0] (hp_Qi D cA h h9 r) := by
  refine Met.ofW (cc := prog_4_method_2_code) (maxL := 1) (ret := (Option.some FieldType.boolean)) (by decide) rfl ?_
  intro p e s m args below meth c s₁ B hml hv
  obtain ⟨rfl, hU⟩ := hv
  have hts := atoms_spec (ws := Cond.code yX2_isFull prog_4_method_2_code 1 (Option.some FieldType.boolean) :: tbG) B.pre
  have hl := lv_entry ([.ref t0]) (n := 1) (Nat.le_of_ble_eq_true rfl)
  rw [lg_entry_eq]
  generalize (lg_sl ([.ref t0]) ++ List.replicate (1 - (lg_sl ([.ref t0])).length) Slot.unset).toArray = ls at hl ⊢
  exact tX2_isFull_0 ⟨B.exec, B.bytes, hml, findClass_of_methodNamed B.named, fun w hw => hts w (List.mem_cons_of_mem _ hw)⟩ B.returns B.notSynchronized t0 h _ _ _ (hp_B.entry hU) hl hf
section
variable {p : Program} {l : Launch} {e : Env} {R : Room} {s : State} {m : MethodId} {args : Array Value} {below : List Frame} {meth : Method} {c : Code} {H : Heap} {locs : List Loc} {cells slots : Nat} {Q : State → Prop}
variable {cc : ByteArray} {pc nL : Nat} {ls : Array Slot} {rest : List Value} {D : va_G} {cA : Nat → ClassId} {A : Nat → Prop} {a : Nat} {h : Hp}
theorem cl_X2_21 {As st0 : List Value} {b : Nat} {Qc : Array Value → State → Outcome → State → Prop} (cx : CallFix p m c cc nL s args tbG RX2) (hB : hp_B D cA A s h H locs) (hM : hp_M l yX2_isFull prog_4_method_2_code 1 (Option.some FieldType.boolean) rmX2_isFull D cA h (.ref b :: As) Qc) (hkb : h.1 b = 3) (hR : rmX2_isFull.frames + 1 ≤ R.frames ∧ 8 + (1 + 11) + rmX2_isFull.locals ≤ R.locals) (hn : As.length = 0) (hls : ls.size = nL) (hst : st0 = As.reverse ++ .ref b :: rest) (hW : (rest.map fun v => v.category).sum ≤ 8) (hf : cells + rmX2_isFull.cells ≤ R.cells ∧ slots + rmX2_isFull.slots ≤ R.slots) (hdg : decode cc pc = .ok (.invokevirtual 21, 3)) :
    va_Run p l e R s m args below meth c H locs cells slots rmX2_isFull.cells rmX2_isFull.slots (F0 m pc ls st0) rest (Qc (Value.ref b :: As).toArray) (hp_A h) :=
  hp_runV cx hB hM (ci := 2) rfl (by decide) hkb qw_238 qw_311 qw_236 qw_237 qw_2 (by decide +kernel) hR hn hls hst hW hf hdg
theorem gf_X2_11 (cx : CallFix p m c cc nL s args tbG RX2) (hB : hp_B D cA A s h H locs) (hka : h.1 a = 3) {b : Nat} (ho : h.2.2.2.1 a 0 = some b) (hdg : decode cc pc = .ok (.getfield 11, 3)) (kk : W p l e R s m args below meth c H locs cells slots Q (F0 m (pc + 3) ls (.ref b :: rest))) : W p l e R s m args below meth c H locs cells slots Q (F0 m pc ls (.ref a :: rest)) :=
  hp_getR cx hB (ci := 2) 0 rfl inX2 (by decide) rfl (by decide) rfl qw_32 hka (o := some b) ho.symm hdg kk
end
abbrev yX2_add : MethodName := ⟨"SpokenMenus$House", "add", "(LSpokenMenus$Place;)I"⟩
theorem dX2_add_0 : decode prog_4_method_3_code 0 = .ok (.aload_n 0, 1) := by decide +kernel
theorem dX2_add_1 : decode prog_4_method_3_code 1 = .ok (.invokevirtual 21, 3) := by decide +kernel
theorem dX2_add_4 : decode prog_4_method_3_code 4 = .ok (.ifCond .eq 6, 3) := by decide +kernel
theorem dX2_add_7 : decode prog_4_method_3_code 7 = .ok (.bipush (-3), 2) := by decide +kernel
theorem dX2_add_9 : decode prog_4_method_3_code 9 = .ok (.ireturn, 1) := by decide +kernel
theorem dX2_add_10 : decode prog_4_method_3_code 10 = .ok (.aload_n 0, 1) := by decide +kernel
theorem dX2_add_11 : decode prog_4_method_3_code 11 = .ok (.getfield 11, 3) := by decide +kernel
theorem dX2_add_14 : decode prog_4_method_3_code 14 = .ok (.aload_n 0, 1) := by decide +kernel
theorem dX2_add_15 : decode prog_4_method_3_code 15 = .ok (.getfield 17, 3) := by decide +kernel
theorem dX2_add_18 : decode prog_4_method_3_code 18 = .ok (.aload_n 1, 1) := by decide +kernel
theorem dX2_add_19 : decode prog_4_method_3_code 19 = .ok (.aastore, 1) := by decide +kernel
theorem dX2_add_20 : decode prog_4_method_3_code 20 = .ok (.aload_n 0, 1) := by decide +kernel
theorem dX2_add_21 : decode prog_4_method_3_code 21 = .ok (.dup, 1) := by decide +kernel
theorem dX2_add_22 : decode prog_4_method_3_code 22 = .ok (.getfield 17, 3) := by decide +kernel
theorem dX2_add_25 : decode prog_4_method_3_code 25 = .ok (.iconst 1, 1) := by decide +kernel
theorem dX2_add_26 : decode prog_4_method_3_code 26 = .ok (.iadd, 1) := by decide +kernel
theorem dX2_add_27 : decode prog_4_method_3_code 27 = .ok (.putfield 17, 3) := by decide +kernel
theorem dX2_add_30 : decode prog_4_method_3_code 30 = .ok (.aload_n 0, 1) := by decide +kernel
theorem dX2_add_31 : decode prog_4_method_3_code 31 = .ok (.getfield 17, 3) := by decide +kernel
theorem dX2_add_34 : decode prog_4_method_3_code 34 = .ok (.iconst 1, 1) := by decide +kernel
theorem dX2_add_35 : decode prog_4_method_3_code 35 = .ok (.isub, 1) := by decide +kernel
theorem dX2_add_36 : decode prog_4_method_3_code 36 = .ok (.ireturn, 1) := by decide +kernel
abbrev rmX2_add : Room := { frames := 1, cells := 0, slots := 0, locals := 20 }
def fX2_add  (t0 : Nat) (w1 : Option Nat) (h : Hp) : Option (Int32 × Hp) :=
  gk (h.1 t0) 3 <|
  b2 (fX2_isFull t0 h) fun r4 g2 =>
  if r4 = 0 then
  (gk (g2.1 t0) 3 <|
  bd (g2.2.2.2.1 t0 0) fun a8 =>
  bd w1 fun a10 =>
  gk (g2.1 a8) 17 <|
  gk (g2.1 a10) 6 <|
  gd (ix (g2.2.2.1 t0 1) (g2.2.1 a8)) <|
  nm (hp_sr g2 a8 (Int32.toNatClampNeg (g2.2.2.1 t0 1)) (some a10)) fun g14 =>
  nm (hp_si g14 t0 1 ((g14.2.2.1 t0 1) + 1)) fun g16 =>
  some ((g16.2.2.1 t0 1) - 1, g16))
  else
  (some ((-3), g2))
section
variable {p : Program} {l : Launch} {e : Env} {s : State} {m : MethodId} {args : Array Value} {below : List Frame} {meth : Method} {c : Code} {D : va_G} {cA : Nat → ClassId} {h0 h9 : Hp}
set_option maxHeartbeats 4000000 in
set_option maxRecDepth 100000 in
theorem tX2_add_0  {r : Int32} (cx : CallFix p m c prog_4_method_3_code 2 s args tbG RX2) (hr : meth.sig.returnType = (Option.some FieldType.int)) (hlk : meth.locks = false)  (t0 : Nat) (w1 : Option Nat) (h : Hp) (H : Heap) (locs : List Loc) (ls : Array Slot) (hB : hp_B D cA (hp_A h0) s h H locs) (hl : lv_has ls 2 [(0, .ref t0), (1, va_rf w1)]) (hf : fX2_add  t0 w1 h = some (r, h9)) : W p l e rmX2_add s m args below meth c H locs 0 0 (MQ below (hp_Qi D cA h0 h9 r) args s 0 0 (hp_A h0)) (F0 m 0 ls []) := by
  obtain ⟨hx, hb, -⟩ := id cx
  unfold fX2_add at hf
  refine lv_aload_n hx hb dX2_add_0 rfl (lv_at hl 0 rfl) ?_
  obtain ⟨k1, hf⟩ := gk_ok hf
  obtain ⟨r4, g2, m3, hf⟩ := b2_ok hf
  refine hp_cI0 (cl_X2_21 cx hB (cX2_isFull l D cA t0 h _ g2 m3) k1 ⟨Nat.le_of_ble_eq_true rfl, Nat.le_of_ble_eq_true rfl⟩ rfl hl.1 rfl (Nat.le_of_ble_eq_true rfl) ⟨Nat.le_of_ble_eq_true rfl, Nat.le_of_ble_eq_true rfl⟩ dX2_add_1) rfl rfl hB (fun H locs hB => ?_)
  refine lv_if_eq (tgt := 10) hx hb dX2_add_4 (by decide) (fun c6 => ?_) (fun c6 => ?_)
  · replace hf := it_t c6 hf
    refine lv_aload_n hx hb dX2_add_10 rfl (lv_at hl 0 rfl) ?_
    obtain ⟨k7, hf⟩ := gk_ok hf
    obtain ⟨a8, q9, hf⟩ := bd_ok hf
    refine gf_X2_11 cx hB k7 q9 dX2_add_11 ?_
    refine lv_aload_n hx hb dX2_add_14 rfl (lv_at hl 0 rfl) ?_
    refine gf_X2_17 cx hB k7 dX2_add_15 ?_
    refine lq_aload_n hx hb dX2_add_18 rfl (lv_at hl 1 rfl) ?_
    obtain ⟨a10, eo, hf⟩ := bd_ok hf
    subst eo
    obtain ⟨k11, hf⟩ := gk_ok hf
    obtain ⟨k12, hf⟩ := gk_ok hf
    obtain ⟨j13, hf⟩ := gd_ok hf
    obtain ⟨g14, eg14, hf⟩ := nm_ok hf
    refine hp_aast cx hB 17 5 (by decide) rfl rfl (by decide) k11 k12 j13 dX2_add_19 (fun H locs hB => ?_)
    rw [← eg14] at hB
    refine lv_aload_n hx hb dX2_add_20 rfl (lv_at hl 0 rfl) ?_
    refine lv_dup hx hb dX2_add_21 rfl ?_
    have k15 : g14.1 t0 = 3 := by rw [eg14]; exact k7
    refine gf_X2_17 cx hB k15 dX2_add_22 ?_
    refine lv_iconst (v := 1) hx hb dX2_add_25 (by decide) ?_
    refine lv_iadd hx hb dX2_add_26 ?_
    obtain ⟨g16, eg16, hf⟩ := nm_ok hf
    refine pf_X2_17 cx hB k15 dX2_add_27 (fun H locs hB => ?_)
    rw [← eg16] at hB
    refine lv_aload_n hx hb dX2_add_30 rfl (lv_at hl 0 rfl) ?_
    have k17 : g16.1 t0 = 3 := by rw [eg16]; exact k15
    refine gf_X2_17 cx hB k17 dX2_add_31 ?_
    refine lv_iconst (v := 1) hx hb dX2_add_34 (by decide) ?_
    refine lv_isub hx hb dX2_add_35 ?_
    obtain ⟨rfl, rfl⟩ := rt_ok hf
    exact hp_iret cx hB hr hlk (Nat.le_of_ble_eq_true rfl) (Nat.le_of_ble_eq_true rfl) dX2_add_36
  · replace hf := it_f c6 hf
    refine lv_bipush (v := (-3)) hx hb dX2_add_7 (by decide) ?_
    obtain ⟨rfl, rfl⟩ := rt_ok hf
    exact hp_iret cx hB hr hlk (Nat.le_of_ble_eq_true rfl) (Nat.le_of_ble_eq_true rfl) dX2_add_9
end
set_option maxHeartbeats 4000000 in
set_option maxRecDepth 100000 in
theorem cX2_add (l : Launch) (D : va_G) (cA : Nat → ClassId) (t0 : Nat) (w1 : Option Nat) (h : Hp) (r : Int32) (h9 : Hp) (hf : fX2_add t0 w1 h = some (r, h9)) : hp_M l yX2_add prog_4_method_3_code 2 (Option.some FieldType.int) rmX2_add D cA h [.ref t0, va_rf w1] (hp_Qi D cA h h9 r) := by
  refine Met.ofW (cc := prog_4_method_3_code) (maxL := 2) (ret := (Option.some FieldType.int)) (by decide) rfl ?_
  intro p e s m args below meth c s₁ B hml hv
  obtain ⟨rfl, hU⟩ := hv
  have hts := atoms_spec (ws := Cond.code yX2_add prog_4_method_3_code 2 (Option.some FieldType.int) :: tbG) B.pre
  have hl := lv_entry ([.ref t0, va_rf w1]) (n := 2) (by simp [lg_sl, va_rf_cat, cat_i, cat_r, cat_n])
  rw [show lv_args 0 ([.ref t0, va_rf w1]) = [(0, .ref t0), (1, va_rf w1)] by simp [lv_args, va_rf_cat, cat_i, cat_r, cat_n]] at hl
  rw [lg_entry_eq]
  generalize (lg_sl ([.ref t0, va_rf w1]) ++ List.replicate (2 - (lg_sl ([.ref t0, va_rf w1])).length) Slot.unset).toArray = ls at hl ⊢
  exact tX2_add_0 ⟨B.exec, B.bytes, hml, findClass_of_methodNamed B.named, fun w hw => hts w (List.mem_cons_of_mem _ hw)⟩ B.returns B.notSynchronized t0 w1 h _ _ _ (hp_B.entry hU) hl hf
abbrev yX2_at : MethodName := ⟨"SpokenMenus$House", "at", "(I)LSpokenMenus$Place;"⟩
theorem dX2_at_0 : decode prog_4_method_4_code 0 = .ok (.iload_n 1, 1) := by decide +kernel
theorem dX2_at_1 : decode prog_4_method_4_code 1 = .ok (.ifCond .lt 20, 3) := by decide +kernel
theorem dX2_at_4 : decode prog_4_method_4_code 4 = .ok (.iload_n 1, 1) := by decide +kernel
theorem dX2_at_5 : decode prog_4_method_4_code 5 = .ok (.aload_n 0, 1) := by decide +kernel
theorem dX2_at_6 : decode prog_4_method_4_code 6 = .ok (.getfield 17, 3) := by decide +kernel
theorem dX2_at_9 : decode prog_4_method_4_code 9 = .ok (.if_icmp .ge 12, 3) := by decide +kernel
theorem dX2_at_12 : decode prog_4_method_4_code 12 = .ok (.aload_n 0, 1) := by decide +kernel
theorem dX2_at_13 : decode prog_4_method_4_code 13 = .ok (.getfield 11, 3) := by decide +kernel
theorem dX2_at_16 : decode prog_4_method_4_code 16 = .ok (.iload_n 1, 1) := by decide +kernel
theorem dX2_at_17 : decode prog_4_method_4_code 17 = .ok (.aaload, 1) := by decide +kernel
theorem dX2_at_18 : decode prog_4_method_4_code 18 = .ok (.goto 4, 3) := by decide +kernel
theorem dX2_at_21 : decode prog_4_method_4_code 21 = .ok (.aconst_null, 1) := by decide +kernel
theorem dX2_at_22 : decode prog_4_method_4_code 22 = .ok (.areturn, 1) := by decide +kernel
abbrev rmX2_at : Room := { frames := 0, cells := 0, slots := 0, locals := 0 }
def fX2_at  (t0 : Nat) (v1 : Int32) (h : Hp) : Option (Option Nat × Hp) :=
  if v1 < 0 then
  (some (none, h))
  else
  (gk (h.1 t0) 3 <|
  if (h.2.2.1 t0 1) ≤ v1 then
  (some (none, h))
  else
  (bd (h.2.2.2.1 t0 0) fun a4 =>
  gk (h.1 a4) 17 <|
  gd (ix v1 (h.2.1 a4)) <|
  bd (h.2.2.2.1 a4 (Int32.toNatClampNeg v1)) fun a8 =>
  some ((some a8), h)))
section
variable {p : Program} {l : Launch} {e : Env} {s : State} {m : MethodId} {args : Array Value} {below : List Frame} {meth : Method} {c : Code} {D : va_G} {cA : Nat → ClassId} {h0 h9 : Hp}
set_option maxHeartbeats 4000000 in
set_option maxRecDepth 100000 in
theorem tX2_at_0  {r : Option Nat} (cx : CallFix p m c prog_4_method_4_code 2 s args tbG RX2) (hr : meth.sig.returnType = (Option.some (FieldType.object "SpokenMenus$Place"))) (hlk : meth.locks = false)  (t0 : Nat) (v1 : Int32) (h : Hp) (H : Heap) (locs : List Loc) (ls : Array Slot) (hB : hp_B D cA (hp_A h0) s h H locs) (hl : lv_has ls 2 [(0, .ref t0), (1, .int v1)]) (hf : fX2_at  t0 v1 h = some (r, h9)) : W p l e rmX2_at s m args below meth c H locs 0 0 (MQ below (hp_Qr D cA h0 h9 r) args s 0 0 (hp_A h0)) (F0 m 0 ls []) := by
  obtain ⟨hx, hb, -⟩ := id cx
  unfold fX2_at at hf
  refine lv_iload_n hx hb dX2_at_0 rfl (lv_at hl 1 rfl) ?_
  refine lv_if_lt (tgt := 21) hx hb dX2_at_1 (by decide) (fun c1 => ?_) (fun c1 => ?_)
  · replace hf := it_t c1 hf
    refine lv_null hx hb dX2_at_21 ?_
    obtain ⟨rfl, rfl⟩ := rt_ok hf
    exact hp_aret (r := none) cx hB hr (Or.inl ⟨_, rfl⟩) hlk (Nat.le_of_ble_eq_true rfl) (Nat.le_of_ble_eq_true rfl) dX2_at_22
  · replace hf := it_f c1 hf
    refine lv_iload_n hx hb dX2_at_4 rfl (lv_at hl 1 rfl) ?_
    refine lv_aload_n hx hb dX2_at_5 rfl (lv_at hl 0 rfl) ?_
    obtain ⟨k2, hf⟩ := gk_ok hf
    refine gf_X2_17 cx hB k2 dX2_at_6 ?_
    refine lv_icmp_ge (tgt := 21) hx hb dX2_at_9 (by decide) (fun c3 => ?_) (fun c3 => ?_)
    · replace hf := it_t c3 hf
      refine lv_null hx hb dX2_at_21 ?_
      obtain ⟨rfl, rfl⟩ := rt_ok hf
      exact hp_aret (r := none) cx hB hr (Or.inl ⟨_, rfl⟩) hlk (Nat.le_of_ble_eq_true rfl) (Nat.le_of_ble_eq_true rfl) dX2_at_22
    · replace hf := it_f c3 hf
      refine lv_aload_n hx hb dX2_at_12 rfl (lv_at hl 0 rfl) ?_
      obtain ⟨a4, q5, hf⟩ := bd_ok hf
      refine gf_X2_11 cx hB k2 q5 dX2_at_13 ?_
      refine lv_iload_n hx hb dX2_at_16 rfl (lv_at hl 1 rfl) ?_
      obtain ⟨k6, hf⟩ := gk_ok hf
      obtain ⟨j7, hf⟩ := gd_ok hf
      obtain ⟨a8, q9, hf⟩ := bd_ok hf
      refine hp_aald cx hB 17 (.object RX5) (by decide) rfl rfl k6 j7 (o := some a8) q9.symm dX2_at_17 ?_
      refine lv_goto (tgt := 22) hx hb dX2_at_18 (by decide) ?_
      obtain ⟨rfl, rfl⟩ := rt_ok hf
      exact hp_aret (r := (some a8)) cx hB hr (Or.inl ⟨_, rfl⟩) hlk (Nat.le_of_ble_eq_true rfl) (Nat.le_of_ble_eq_true rfl) dX2_at_22
end
set_option maxHeartbeats 4000000 in
set_option maxRecDepth 100000 in
theorem cX2_at (l : Launch) (D : va_G) (cA : Nat → ClassId) (t0 : Nat) (v1 : Int32) (h : Hp) (r : Option Nat) (h9 : Hp) (hf : fX2_at t0 v1 h = some (r, h9)) : hp_M l yX2_at prog_4_method_4_code 2 (Option.some (FieldType.object "SpokenMenus$Place")) rmX2_at D cA h [.ref t0, .int v1] (hp_Qr D cA h h9 r) := by
  refine Met.ofW (cc := prog_4_method_4_code) (maxL := 2) (ret := (Option.some (FieldType.object "SpokenMenus$Place"))) (by decide) rfl ?_
  intro p e s m args below meth c s₁ B hml hv
  obtain ⟨rfl, hU⟩ := hv
  have hts := atoms_spec (ws := Cond.code yX2_at prog_4_method_4_code 2 (Option.some (FieldType.object "SpokenMenus$Place")) :: tbG) B.pre
  have hl := lv_entry ([.ref t0, .int v1]) (n := 2) (Nat.le_of_ble_eq_true rfl)
  rw [lg_entry_eq]
  generalize (lg_sl ([.ref t0, .int v1]) ++ List.replicate (2 - (lg_sl ([.ref t0, .int v1])).length) Slot.unset).toArray = ls at hl ⊢
  exact tX2_at_0 ⟨B.exec, B.bytes, hml, findClass_of_methodNamed B.named, fun w hw => hts w (List.mem_cons_of_mem _ hw)⟩ B.returns B.notSynchronized t0 v1 h _ _ _ (hp_B.entry hU) hl hf
section
variable {p : Program} {l : Launch} {e : Env} {R : Room} {s : State} {m : MethodId} {args : Array Value} {below : List Frame} {meth : Method} {c : Code} {H : Heap} {locs : List Loc} {cells slots : Nat} {Q : State → Prop}
variable {cc : ByteArray} {pc nL : Nat} {ls : Array Slot} {rest : List Value} {D : va_G} {cA : Nat → ClassId} {A : Nat → Prop} {a : Nat} {h : Hp}
theorem cl_X2_25 {As st0 : List Value} {b : Nat} {Qc : Array Value → State → Outcome → State → Prop} (cx : CallFix p m c cc nL s args tbG RX2) (hB : hp_B D cA A s h H locs) (hM : hp_M l yX2_at prog_4_method_4_code 2 (Option.some (FieldType.object "SpokenMenus$Place")) rmX2_at D cA h (.ref b :: As) Qc) (hkb : h.1 b = 3) (hR : rmX2_at.frames + 1 ≤ R.frames ∧ 8 + (2 + 11) + rmX2_at.locals ≤ R.locals) (hn : As.length = 1) (hls : ls.size = nL) (hst : st0 = As.reverse ++ .ref b :: rest) (hW : (rest.map fun v => v.category).sum ≤ 8) (hf : cells + rmX2_at.cells ≤ R.cells ∧ slots + rmX2_at.slots ≤ R.slots) (hdg : decode cc pc = .ok (.invokevirtual 25, 3)) :
    va_Run p l e R s m args below meth c H locs cells slots rmX2_at.cells rmX2_at.slots (F0 m pc ls st0) rest (Qc (Value.ref b :: As).toArray) (hp_A h) :=
  hp_runV cx hB hM (ci := 2) rfl (by decide) hkb qw_323 qw_320 qw_321 qw_322 qw_2 (by decide +kernel) hR hn hls hst hW hf hdg
theorem gf_X2_29 (cx : CallFix p m c cc nL s args tbG RX2) (hB : hp_B D cA A s h H locs) (hka : h.1 a = 6) (hdg : decode cc pc = .ok (.getfield 29, 3)) (kk : W p l e R s m args below meth c H locs cells slots Q (F0 m (pc + 3) ls (.int (h.2.2.1 a 0) :: rest))) : W p l e R s m args below meth c H locs cells slots Q (F0 m pc ls (.ref a :: rest)) :=
  hp_getI cx hB (ci := 5) 0 rfl inX5 (by decide) rfl (by decide) rfl qw_249 hka hdg kk
end
abbrev yX2_menuAt : MethodName := ⟨"SpokenMenus$House", "menuAt", "(I)LSpokenMenus$Place;"⟩
theorem dX2_menuAt_0 : decode prog_4_method_5_code 0 = .ok (.aload_n 0, 1) := by decide +kernel
theorem dX2_menuAt_1 : decode prog_4_method_5_code 1 = .ok (.iload_n 1, 1) := by decide +kernel
theorem dX2_menuAt_2 : decode prog_4_method_5_code 2 = .ok (.invokevirtual 25, 3) := by decide +kernel
theorem dX2_menuAt_5 : decode prog_4_method_5_code 5 = .ok (.astore_n 2, 1) := by decide +kernel
theorem dX2_menuAt_6 : decode prog_4_method_5_code 6 = .ok (.aload_n 2, 1) := by decide +kernel
theorem dX2_menuAt_7 : decode prog_4_method_5_code 7 = .ok (.ifnull 14, 3) := by decide +kernel
theorem dX2_menuAt_10 : decode prog_4_method_5_code 10 = .ok (.aload_n 2, 1) := by decide +kernel
theorem dX2_menuAt_11 : decode prog_4_method_5_code 11 = .ok (.getfield 29, 3) := by decide +kernel
theorem dX2_menuAt_14 : decode prog_4_method_5_code 14 = .ok (.ifCond .ne 7, 3) := by decide +kernel
theorem dX2_menuAt_17 : decode prog_4_method_5_code 17 = .ok (.aload_n 2, 1) := by decide +kernel
theorem dX2_menuAt_18 : decode prog_4_method_5_code 18 = .ok (.goto 4, 3) := by decide +kernel
theorem dX2_menuAt_21 : decode prog_4_method_5_code 21 = .ok (.aconst_null, 1) := by decide +kernel
theorem dX2_menuAt_22 : decode prog_4_method_5_code 22 = .ok (.areturn, 1) := by decide +kernel
abbrev rmX2_menuAt : Room := { frames := 1, cells := 0, slots := 0, locals := 21 }
def fX2_menuAt  (t0 : Nat) (v1 : Int32) (h : Hp) : Option (Option Nat × Hp) :=
  gk (h.1 t0) 3 <|
  b2 (fX2_at t0 v1 h) fun o5 g2 =>
  rn o5
  (some (none, g2))
  (fun a6 =>
  gk (g2.1 a6) 6 <|
  if (g2.2.2.1 a6 0) = 0 then
  (some ((some a6), g2))
  else
  (some (none, g2)))
section
variable {p : Program} {l : Launch} {e : Env} {s : State} {m : MethodId} {args : Array Value} {below : List Frame} {meth : Method} {c : Code} {D : va_G} {cA : Nat → ClassId} {h0 h9 : Hp}
set_option maxHeartbeats 4000000 in
set_option maxRecDepth 100000 in
theorem tX2_menuAt_0  {r : Option Nat} (cx : CallFix p m c prog_4_method_5_code 3 s args tbG RX2) (hr : meth.sig.returnType = (Option.some (FieldType.object "SpokenMenus$Place"))) (hlk : meth.locks = false)  (t0 : Nat) (v1 : Int32) (h : Hp) (H : Heap) (locs : List Loc) (ls : Array Slot) (hB : hp_B D cA (hp_A h0) s h H locs) (hl : lv_has ls 3 [(0, .ref t0), (1, .int v1)]) (hf : fX2_menuAt  t0 v1 h = some (r, h9)) : W p l e rmX2_menuAt s m args below meth c H locs 0 0 (MQ below (hp_Qr D cA h0 h9 r) args s 0 0 (hp_A h0)) (F0 m 0 ls []) := by
  obtain ⟨hx, hb, -⟩ := id cx
  unfold fX2_menuAt at hf
  refine lv_aload_n hx hb dX2_menuAt_0 rfl (lv_at hl 0 rfl) ?_
  refine lv_iload_n hx hb dX2_menuAt_1 rfl (lv_at hl 1 rfl) ?_
  obtain ⟨k1, hf⟩ := gk_ok hf
  obtain ⟨o5, g2, m3, hf⟩ := b2_ok hf
  refine hp_cR0 (cl_X2_25 cx hB (cX2_at l D cA t0 v1 h _ g2 m3) k1 ⟨Nat.le_of_ble_eq_true rfl, Nat.le_of_ble_eq_true rfl⟩ rfl hl.1 rfl (Nat.le_of_ble_eq_true rfl) ⟨Nat.le_of_ble_eq_true rfl, Nat.le_of_ble_eq_true rfl⟩ dX2_menuAt_2) rfl rfl hB (fun H locs hB => ?_)
  refine lq_astore_n (lv' := [(2, va_rf o5), (0, .ref t0), (1, .int v1)]) hx hb dX2_menuAt_5 rfl hl (by decide) rfl (fun ls hl => ?_)
  refine lq_aload_n hx hb dX2_menuAt_6 rfl (lv_at hl 0 rfl) ?_
  refine lq_ifnull (tgt := 21) hx hb dX2_menuAt_7 (by decide) (fun eo => ?_) (fun a6 eo => ?_)
  · subst eo
    replace hf := rn_n hf
    refine lv_null hx hb dX2_menuAt_21 ?_
    obtain ⟨rfl, rfl⟩ := rt_ok hf
    exact hp_aret (r := none) cx hB hr (Or.inl ⟨_, rfl⟩) hlk (Nat.le_of_ble_eq_true rfl) (Nat.le_of_ble_eq_true rfl) dX2_menuAt_22
  · subst eo
    replace hf := rn_s hf
    refine lv_aload_n hx hb dX2_menuAt_10 rfl (lv_at hl 0 rfl) ?_
    obtain ⟨k7, hf⟩ := gk_ok hf
    refine gf_X2_29 cx hB k7 dX2_menuAt_11 ?_
    refine lv_if_ne (tgt := 21) hx hb dX2_menuAt_14 (by decide) (fun c8 => ?_) (fun c8 => ?_)
    · replace hf := it_f c8 hf
      refine lv_null hx hb dX2_menuAt_21 ?_
      obtain ⟨rfl, rfl⟩ := rt_ok hf
      exact hp_aret (r := none) cx hB hr (Or.inl ⟨_, rfl⟩) hlk (Nat.le_of_ble_eq_true rfl) (Nat.le_of_ble_eq_true rfl) dX2_menuAt_22
    · replace hf := it_t c8 hf
      refine lv_aload_n hx hb dX2_menuAt_17 rfl (lv_at hl 0 rfl) ?_
      refine lv_goto (tgt := 22) hx hb dX2_menuAt_18 (by decide) ?_
      obtain ⟨rfl, rfl⟩ := rt_ok hf
      exact hp_aret (r := (some a6)) cx hB hr (Or.inl ⟨_, rfl⟩) hlk (Nat.le_of_ble_eq_true rfl) (Nat.le_of_ble_eq_true rfl) dX2_menuAt_22
end
set_option maxHeartbeats 4000000 in
set_option maxRecDepth 100000 in
theorem cX2_menuAt (l : Launch) (D : va_G) (cA : Nat → ClassId) (t0 : Nat) (v1 : Int32) (h : Hp) (r : Option Nat) (h9 : Hp) (hf : fX2_menuAt t0 v1 h = some (r, h9)) : hp_M l yX2_menuAt prog_4_method_5_code 3 (Option.some (FieldType.object "SpokenMenus$Place")) rmX2_menuAt D cA h [.ref t0, .int v1] (hp_Qr D cA h h9 r) := by
  refine Met.ofW (cc := prog_4_method_5_code) (maxL := 3) (ret := (Option.some (FieldType.object "SpokenMenus$Place"))) (by decide) rfl ?_
  intro p e s m args below meth c s₁ B hml hv
  obtain ⟨rfl, hU⟩ := hv
  have hts := atoms_spec (ws := Cond.code yX2_menuAt prog_4_method_5_code 3 (Option.some (FieldType.object "SpokenMenus$Place")) :: tbG) B.pre
  have hl := lv_entry ([.ref t0, .int v1]) (n := 3) (Nat.le_of_ble_eq_true rfl)
  rw [lg_entry_eq]
  generalize (lg_sl ([.ref t0, .int v1]) ++ List.replicate (3 - (lg_sl ([.ref t0, .int v1])).length) Slot.unset).toArray = ls at hl ⊢
  exact tX2_menuAt_0 ⟨B.exec, B.bytes, hml, findClass_of_methodNamed B.named, fun w hw => hts w (List.mem_cons_of_mem _ hw)⟩ B.returns B.notSynchronized t0 v1 h _ _ _ (hp_B.entry hU) hl hf
section
variable {p : Program} {l : Launch} {e : Env} {R : Room} {s : State} {m : MethodId} {args : Array Value} {below : List Frame} {meth : Method} {c : Code} {H : Heap} {locs : List Loc} {cells slots : Nat} {Q : State → Prop}
variable {cc : ByteArray} {pc nL : Nat} {ls : Array Slot} {rest : List Value} {D : va_G} {cA : Nat → ClassId} {A : Nat → Prop} {a : Nat} {h : Hp}
theorem cl_X2_32 {As st0 : List Value} {b : Nat} {Qc : Array Value → State → Outcome → State → Prop} (cx : CallFix p m c cc nL s args tbG RX2) (hB : hp_B D cA A s h H locs) (hM : hp_M l yX2_menuAt prog_4_method_5_code 3 (Option.some (FieldType.object "SpokenMenus$Place")) rmX2_menuAt D cA h (.ref b :: As) Qc) (hkb : h.1 b = 3) (hR : rmX2_menuAt.frames + 1 ≤ R.frames ∧ 8 + (3 + 11) + rmX2_menuAt.locals ≤ R.locals) (hn : As.length = 1) (hls : ls.size = nL) (hst : st0 = As.reverse ++ .ref b :: rest) (hW : (rest.map fun v => v.category).sum ≤ 8) (hf : cells + rmX2_menuAt.cells ≤ R.cells ∧ slots + rmX2_menuAt.slots ≤ R.slots) (hdg : decode cc pc = .ok (.invokevirtual 32, 3)) :
    va_Run p l e R s m args below meth c H locs cells slots rmX2_menuAt.cells rmX2_menuAt.slots (F0 m pc ls st0) rest (Qc (Value.ref b :: As).toArray) (hp_A h) :=
  hp_runV cx hB hM (ci := 2) rfl (by decide) hkb qw_319 qw_390 qw_317 qw_318 qw_2 (by decide +kernel) hR hn hls hst hW hf hdg
theorem gf_X2_35 (cx : CallFix p m c cc nL s args tbG RX2) (hB : hp_B D cA A s h H locs) (hka : h.1 a = 6) (hdg : decode cc pc = .ok (.getfield 35, 3)) (kk : W p l e R s m args below meth c H locs cells slots Q (F0 m (pc + 3) ls (.int (h.2.2.1 a 6) :: rest))) : W p l e R s m args below meth c H locs cells slots Q (F0 m pc ls (.ref a :: rest)) :=
  hp_getI cx hB (ci := 5) 6 rfl inX5 (by decide) rfl (by decide) rfl qw_274 hka hdg kk
theorem gf_X2_36 (cx : CallFix p m c cc nL s args tbG RX2) (hB : hp_B D cA A s h H locs) (hka : h.1 a = 6) {b : Nat} (ho : h.2.2.2.1 a 5 = some b) (hdg : decode cc pc = .ok (.getfield 36, 3)) (kk : W p l e R s m args below meth c H locs cells slots Q (F0 m (pc + 3) ls (.ref b :: rest))) : W p l e R s m args below meth c H locs cells slots Q (F0 m pc ls (.ref a :: rest)) :=
  hp_getR cx hB (ci := 5) 5 rfl inX5 (by decide) rfl (by decide) rfl qw_267 hka (o := some b) ho.symm hdg kk
end
abbrev yX2_lineAt : MethodName := ⟨"SpokenMenus$House", "lineAt", "(II)LSpokenMenus$Line;"⟩
theorem dX2_lineAt_0 : decode prog_4_method_6_code 0 = .ok (.aload_n 0, 1) := by decide +kernel
theorem dX2_lineAt_1 : decode prog_4_method_6_code 1 = .ok (.iload_n 1, 1) := by decide +kernel
theorem dX2_lineAt_2 : decode prog_4_method_6_code 2 = .ok (.invokevirtual 32, 3) := by decide +kernel
theorem dX2_lineAt_5 : decode prog_4_method_6_code 5 = .ok (.astore_n 3, 1) := by decide +kernel
theorem dX2_lineAt_6 : decode prog_4_method_6_code 6 = .ok (.aload_n 3, 1) := by decide +kernel
theorem dX2_lineAt_7 : decode prog_4_method_6_code 7 = .ok (.ifnull 24, 3) := by decide +kernel
theorem dX2_lineAt_10 : decode prog_4_method_6_code 10 = .ok (.iload_n 2, 1) := by decide +kernel
theorem dX2_lineAt_11 : decode prog_4_method_6_code 11 = .ok (.ifCond .lt 20, 3) := by decide +kernel
theorem dX2_lineAt_14 : decode prog_4_method_6_code 14 = .ok (.iload_n 2, 1) := by decide +kernel
theorem dX2_lineAt_15 : decode prog_4_method_6_code 15 = .ok (.aload_n 3, 1) := by decide +kernel
theorem dX2_lineAt_16 : decode prog_4_method_6_code 16 = .ok (.getfield 35, 3) := by decide +kernel
theorem dX2_lineAt_19 : decode prog_4_method_6_code 19 = .ok (.if_icmp .ge 12, 3) := by decide +kernel
theorem dX2_lineAt_22 : decode prog_4_method_6_code 22 = .ok (.aload_n 3, 1) := by decide +kernel
theorem dX2_lineAt_23 : decode prog_4_method_6_code 23 = .ok (.getfield 36, 3) := by decide +kernel
theorem dX2_lineAt_26 : decode prog_4_method_6_code 26 = .ok (.iload_n 2, 1) := by decide +kernel
theorem dX2_lineAt_27 : decode prog_4_method_6_code 27 = .ok (.aaload, 1) := by decide +kernel
theorem dX2_lineAt_28 : decode prog_4_method_6_code 28 = .ok (.goto 4, 3) := by decide +kernel
theorem dX2_lineAt_31 : decode prog_4_method_6_code 31 = .ok (.aconst_null, 1) := by decide +kernel
theorem dX2_lineAt_32 : decode prog_4_method_6_code 32 = .ok (.areturn, 1) := by decide +kernel
abbrev rmX2_lineAt : Room := { frames := 2, cells := 0, slots := 0, locals := 43 }
def fX2_lineAt  (t0 : Nat) (v1 : Int32) (v2 : Int32) (h : Hp) : Option (Option Nat × Hp) :=
  gk (h.1 t0) 3 <|
  b2 (fX2_menuAt t0 v1 h) fun o5 g2 =>
  rn o5
  (some (none, g2))
  (fun a6 =>
  if v2 < 0 then
  (some (none, g2))
  else
  (gk (g2.1 a6) 6 <|
  if (g2.2.2.1 a6 6) ≤ v2 then
  (some (none, g2))
  else
  (bd (g2.2.2.2.1 a6 5) fun a10 =>
  gk (g2.1 a10) 16 <|
  gd (ix v2 (g2.2.1 a10)) <|
  bd (g2.2.2.2.1 a10 (Int32.toNatClampNeg v2)) fun a14 =>
  some ((some a14), g2))))
section
variable {p : Program} {l : Launch} {e : Env} {s : State} {m : MethodId} {args : Array Value} {below : List Frame} {meth : Method} {c : Code} {D : va_G} {cA : Nat → ClassId} {h0 h9 : Hp}
set_option maxHeartbeats 4000000 in
set_option maxRecDepth 100000 in
theorem tX2_lineAt_0  {r : Option Nat} (cx : CallFix p m c prog_4_method_6_code 4 s args tbG RX2) (hr : meth.sig.returnType = (Option.some (FieldType.object "SpokenMenus$Line"))) (hlk : meth.locks = false)  (t0 : Nat) (v1 : Int32) (v2 : Int32) (h : Hp) (H : Heap) (locs : List Loc) (ls : Array Slot) (hB : hp_B D cA (hp_A h0) s h H locs) (hl : lv_has ls 4 [(0, .ref t0), (1, .int v1), (2, .int v2)]) (hf : fX2_lineAt  t0 v1 v2 h = some (r, h9)) : W p l e rmX2_lineAt s m args below meth c H locs 0 0 (MQ below (hp_Qr D cA h0 h9 r) args s 0 0 (hp_A h0)) (F0 m 0 ls []) := by
  obtain ⟨hx, hb, -⟩ := id cx
  unfold fX2_lineAt at hf
  refine lv_aload_n hx hb dX2_lineAt_0 rfl (lv_at hl 0 rfl) ?_
  refine lv_iload_n hx hb dX2_lineAt_1 rfl (lv_at hl 1 rfl) ?_
  obtain ⟨k1, hf⟩ := gk_ok hf
  obtain ⟨o5, g2, m3, hf⟩ := b2_ok hf
  refine hp_cR0 (cl_X2_32 cx hB (cX2_menuAt l D cA t0 v1 h _ g2 m3) k1 ⟨Nat.le_of_ble_eq_true rfl, Nat.le_of_ble_eq_true rfl⟩ rfl hl.1 rfl (Nat.le_of_ble_eq_true rfl) ⟨Nat.le_of_ble_eq_true rfl, Nat.le_of_ble_eq_true rfl⟩ dX2_lineAt_2) rfl rfl hB (fun H locs hB => ?_)
  refine lq_astore_n (lv' := [(3, va_rf o5), (0, .ref t0), (1, .int v1), (2, .int v2)]) hx hb dX2_lineAt_5 rfl hl (by decide) rfl (fun ls hl => ?_)
  refine lq_aload_n hx hb dX2_lineAt_6 rfl (lv_at hl 0 rfl) ?_
  refine lq_ifnull (tgt := 31) hx hb dX2_lineAt_7 (by decide) (fun eo => ?_) (fun a6 eo => ?_)
  · subst eo
    replace hf := rn_n hf
    refine lv_null hx hb dX2_lineAt_31 ?_
    obtain ⟨rfl, rfl⟩ := rt_ok hf
    exact hp_aret (r := none) cx hB hr (Or.inl ⟨_, rfl⟩) hlk (Nat.le_of_ble_eq_true rfl) (Nat.le_of_ble_eq_true rfl) dX2_lineAt_32
  · subst eo
    replace hf := rn_s hf
    refine lv_iload_n hx hb dX2_lineAt_10 rfl (lv_at hl 3 rfl) ?_
    refine lv_if_lt (tgt := 31) hx hb dX2_lineAt_11 (by decide) (fun c7 => ?_) (fun c7 => ?_)
    · replace hf := it_t c7 hf
      refine lv_null hx hb dX2_lineAt_31 ?_
      obtain ⟨rfl, rfl⟩ := rt_ok hf
      exact hp_aret (r := none) cx hB hr (Or.inl ⟨_, rfl⟩) hlk (Nat.le_of_ble_eq_true rfl) (Nat.le_of_ble_eq_true rfl) dX2_lineAt_32
    · replace hf := it_f c7 hf
      refine lv_iload_n hx hb dX2_lineAt_14 rfl (lv_at hl 3 rfl) ?_
      refine lv_aload_n hx hb dX2_lineAt_15 rfl (lv_at hl 0 rfl) ?_
      obtain ⟨k8, hf⟩ := gk_ok hf
      refine gf_X2_35 cx hB k8 dX2_lineAt_16 ?_
      refine lv_icmp_ge (tgt := 31) hx hb dX2_lineAt_19 (by decide) (fun c9 => ?_) (fun c9 => ?_)
      · replace hf := it_t c9 hf
        refine lv_null hx hb dX2_lineAt_31 ?_
        obtain ⟨rfl, rfl⟩ := rt_ok hf
        exact hp_aret (r := none) cx hB hr (Or.inl ⟨_, rfl⟩) hlk (Nat.le_of_ble_eq_true rfl) (Nat.le_of_ble_eq_true rfl) dX2_lineAt_32
      · replace hf := it_f c9 hf
        refine lv_aload_n hx hb dX2_lineAt_22 rfl (lv_at hl 0 rfl) ?_
        obtain ⟨a10, q11, hf⟩ := bd_ok hf
        refine gf_X2_36 cx hB k8 q11 dX2_lineAt_23 ?_
        refine lv_iload_n hx hb dX2_lineAt_26 rfl (lv_at hl 3 rfl) ?_
        obtain ⟨k12, hf⟩ := gk_ok hf
        obtain ⟨j13, hf⟩ := gd_ok hf
        obtain ⟨a14, q15, hf⟩ := bd_ok hf
        refine hp_aald cx hB 16 (.object RX3) (by decide) rfl rfl k12 j13 (o := some a14) q15.symm dX2_lineAt_27 ?_
        refine lv_goto (tgt := 32) hx hb dX2_lineAt_28 (by decide) ?_
        obtain ⟨rfl, rfl⟩ := rt_ok hf
        exact hp_aret (r := (some a14)) cx hB hr (Or.inl ⟨_, rfl⟩) hlk (Nat.le_of_ble_eq_true rfl) (Nat.le_of_ble_eq_true rfl) dX2_lineAt_32
end
set_option maxHeartbeats 4000000 in
set_option maxRecDepth 100000 in
theorem cX2_lineAt (l : Launch) (D : va_G) (cA : Nat → ClassId) (t0 : Nat) (v1 : Int32) (v2 : Int32) (h : Hp) (r : Option Nat) (h9 : Hp) (hf : fX2_lineAt t0 v1 v2 h = some (r, h9)) : hp_M l yX2_lineAt prog_4_method_6_code 4 (Option.some (FieldType.object "SpokenMenus$Line")) rmX2_lineAt D cA h [.ref t0, .int v1, .int v2] (hp_Qr D cA h h9 r) := by
  refine Met.ofW (cc := prog_4_method_6_code) (maxL := 4) (ret := (Option.some (FieldType.object "SpokenMenus$Line"))) (by decide) rfl ?_
  intro p e s m args below meth c s₁ B hml hv
  obtain ⟨rfl, hU⟩ := hv
  have hts := atoms_spec (ws := Cond.code yX2_lineAt prog_4_method_6_code 4 (Option.some (FieldType.object "SpokenMenus$Line")) :: tbG) B.pre
  have hl := lv_entry ([.ref t0, .int v1, .int v2]) (n := 4) (Nat.le_of_ble_eq_true rfl)
  rw [lg_entry_eq]
  generalize (lg_sl ([.ref t0, .int v1, .int v2]) ++ List.replicate (4 - (lg_sl ([.ref t0, .int v1, .int v2])).length) Slot.unset).toArray = ls at hl ⊢
  exact tX2_lineAt_0 ⟨B.exec, B.bytes, hml, findClass_of_methodNamed B.named, fun w hw => hts w (List.mem_cons_of_mem _ hw)⟩ B.returns B.notSynchronized t0 v1 v2 h _ _ _ (hp_B.entry hU) hl hf
section
variable {p : Program} {l : Launch} {e : Env} {R : Room} {s : State} {m : MethodId} {args : Array Value} {below : List Frame} {meth : Method} {c : Code} {H : Heap} {locs : List Loc} {cells slots : Nat} {Q : State → Prop}
variable {cc : ByteArray} {pc nL : Nat} {ls : Array Slot} {rest : List Value} {D : va_G} {cA : Nat → ClassId} {A : Nat → Prop} {a : Nat} {h : Hp}
theorem pf_X3_7 (cx : CallFix p m c cc nL s args tbG RX3) (hB : hp_B D cA A s h H locs) (hka : h.1 a = 4) {x : Int32} (hdg : decode cc pc = .ok (.putfield 7, 3)) (kk : ∀ (H1 : Heap) (locs1 : List Loc), hp_B D cA A s (hp_si h a 0 x) H1 locs1 → W p l e R s m args below meth c H1 locs1 cells slots Q (F0 m (pc + 3) ls rest)) : W p l e R s m args below meth c H locs cells slots Q (F0 m pc ls (.int x :: .ref a :: rest)) :=
  hp_putX cx hB (ci := 3) 0 tyX3 tyX3_ok nmX3 rfl inX3 (by decide) rfl (by decide) (Or.inl rfl) qw_335 hka (v := .int x) (hp_like_si h a 0 x) (hp_fs_si (by decide) rfl) rfl rfl hdg kk
theorem pf_X3_13 (cx : CallFix p m c cc nL s args tbG RX3) (hB : hp_B D cA A s h H locs) (hnm : meth.name = "<init>") (hka : h.1 a = 4) {x : Int32} (hdg : decode cc pc = .ok (.putfield 13, 3)) (kk : ∀ (H1 : Heap) (locs1 : List Loc), hp_B D cA A s (hp_si h a 1 x) H1 locs1 → W p l e R s m args below meth c H1 locs1 cells slots Q (F0 m (pc + 3) ls rest)) : W p l e R s m args below meth c H locs cells slots Q (F0 m pc ls (.int x :: .ref a :: rest)) :=
  hp_putX cx hB (ci := 3) 1 tyX3 tyX3_ok nmX3 rfl inX3 (by decide) rfl (by decide) (Or.inr ⟨rfl, hnm, rfl⟩) qw_339 hka (v := .int x) (hp_like_si h a 1 x) (hp_fs_si (by decide) rfl) rfl rfl hdg kk
theorem pf_X3_16 (cx : CallFix p m c cc nL s args tbG RX3) (hB : hp_B D cA A s h H locs) (hka : h.1 a = 4) {x : Int32} (hdg : decode cc pc = .ok (.putfield 16, 3)) (kk : ∀ (H1 : Heap) (locs1 : List Loc), hp_B D cA A s (hp_si h a 2 x) H1 locs1 → W p l e R s m args below meth c H1 locs1 cells slots Q (F0 m (pc + 3) ls rest)) : W p l e R s m args below meth c H locs cells slots Q (F0 m pc ls (.int x :: .ref a :: rest)) :=
  hp_putX cx hB (ci := 3) 2 tyX3 tyX3_ok nmX3 rfl inX3 (by decide) rfl (by decide) (Or.inl rfl) qw_343 hka (v := .int x) (hp_like_si h a 2 x) (hp_fs_si (by decide) rfl) rfl rfl hdg kk
theorem pf_X3_19 (cx : CallFix p m c cc nL s args tbG RX3) (hB : hp_B D cA A s h H locs) (hka : h.1 a = 4) {x : Int32} (hdg : decode cc pc = .ok (.putfield 19, 3)) (kk : ∀ (H1 : Heap) (locs1 : List Loc), hp_B D cA A s (hp_si h a 3 x) H1 locs1 → W p l e R s m args below meth c H1 locs1 cells slots Q (F0 m (pc + 3) ls rest)) : W p l e R s m args below meth c H locs cells slots Q (F0 m pc ls (.int x :: .ref a :: rest)) :=
  hp_putX cx hB (ci := 3) 3 tyX3 tyX3_ok nmX3 rfl inX3 (by decide) rfl (by decide) (Or.inl rfl) qw_345 hka (v := .int x) (hp_like_si h a 3 x) (hp_fs_si (by decide) rfl) rfl rfl hdg kk
end
abbrev yX3_init : MethodName := ⟨"SpokenMenus$Line", "<init>", "(IIII)V"⟩
theorem dX3_init_0 : decode prog_5_method_1_code 0 = .ok (.aload_n 0, 1) := by decide +kernel
theorem dX3_init_1 : decode prog_5_method_1_code 1 = .ok (.invokespecial 1, 3) := by decide +kernel
theorem dX3_init_4 : decode prog_5_method_1_code 4 = .ok (.aload_n 0, 1) := by decide +kernel
theorem dX3_init_5 : decode prog_5_method_1_code 5 = .ok (.iload_n 1, 1) := by decide +kernel
theorem dX3_init_6 : decode prog_5_method_1_code 6 = .ok (.putfield 7, 3) := by decide +kernel
theorem dX3_init_9 : decode prog_5_method_1_code 9 = .ok (.aload_n 0, 1) := by decide +kernel
theorem dX3_init_10 : decode prog_5_method_1_code 10 = .ok (.iload_n 2, 1) := by decide +kernel
theorem dX3_init_11 : decode prog_5_method_1_code 11 = .ok (.putfield 13, 3) := by decide +kernel
theorem dX3_init_14 : decode prog_5_method_1_code 14 = .ok (.aload_n 0, 1) := by decide +kernel
theorem dX3_init_15 : decode prog_5_method_1_code 15 = .ok (.iload_n 3, 1) := by decide +kernel
theorem dX3_init_16 : decode prog_5_method_1_code 16 = .ok (.putfield 16, 3) := by decide +kernel
theorem dX3_init_19 : decode prog_5_method_1_code 19 = .ok (.aload_n 0, 1) := by decide +kernel
theorem dX3_init_20 : decode prog_5_method_1_code 20 = .ok (.iload 4, 2) := by decide +kernel
theorem dX3_init_22 : decode prog_5_method_1_code 22 = .ok (.putfield 19, 3) := by decide +kernel
theorem dX3_init_25 : decode prog_5_method_1_code 25 = .ok (.return_, 1) := by decide +kernel
abbrev rmX3_init : Room := { frames := 1, cells := 0, slots := 0, locals := 20 }
def fX3_init  (t0 : Nat) (v1 : Int32) (v2 : Int32) (v3 : Int32) (v4 : Int32) (h : Hp) : Option (Unit × Hp) :=
  gk (h.1 t0) 4 <|
  nm (hp_si h t0 0 v1) fun g2 =>
  nm (hp_si g2 t0 1 v2) fun g4 =>
  nm (hp_si g4 t0 2 v3) fun g6 =>
  nm (hp_si g6 t0 3 v4) fun g8 =>
  some ((), g8)
section
variable {p : Program} {l : Launch} {e : Env} {s : State} {m : MethodId} {args : Array Value} {below : List Frame} {meth : Method} {c : Code} {D : va_G} {cA : Nat → ClassId} {h0 h9 : Hp}
set_option maxHeartbeats 4000000 in
set_option maxRecDepth 100000 in
theorem tX3_init_0  (cx : CallFix p m c prog_5_method_1_code 5 s args tbG RX3) (hr : meth.sig.returnType = none) (hlk : meth.locks = false) (hnm : meth.name = "<init>")  (t0 : Nat) (v1 : Int32) (v2 : Int32) (v3 : Int32) (v4 : Int32) (h : Hp) (H : Heap) (locs : List Loc) (ls : Array Slot) (hB : hp_B D cA (hp_A h0) s h H locs) (hl : lv_has ls 5 [(0, .ref t0), (1, .int v1), (2, .int v2), (3, .int v3), (4, .int v4)]) (hf : fX3_init  t0 v1 v2 v3 v4 h = some ((), h9)) : W p l e rmX3_init s m args below meth c H locs 0 0 (MQ below (hp_Qv D cA h0 h9) args s 0 0 (hp_A h0)) (F0 m 0 ls []) := by
  obtain ⟨hx, hb, -⟩ := id cx
  unfold fX3_init at hf
  refine lv_aload_n hx hb dX3_init_0 rfl (lv_at hl 0 rfl) ?_
  refine W.objInit hx hb cx.2.2.2.1 (cx.2.2.2.2 _ (tb_in qw_334 rfl)) (cx.2.2.2.2 _ (tb_in qw_22 rfl)) (cx.2.2.2.2 _ (tb_in qw_23 rfl)) rfl (by rw [cx.2.2.1]; exact hl.1) rfl dX3_init_1 (Nat.le_of_ble_eq_true rfl) (Nat.le_of_ble_eq_true rfl) ?_
  refine W.eq (g2 := F0 m 4 ls []) rfl ?_
  refine lv_aload_n hx hb dX3_init_4 rfl (lv_at hl 0 rfl) ?_
  refine lv_iload_n hx hb dX3_init_5 rfl (lv_at hl 1 rfl) ?_
  obtain ⟨k1, hf⟩ := gk_ok hf
  obtain ⟨g2, eg2, hf⟩ := nm_ok hf
  refine pf_X3_7 cx hB k1 dX3_init_6 (fun H locs hB => ?_)
  rw [← eg2] at hB
  refine lv_aload_n hx hb dX3_init_9 rfl (lv_at hl 0 rfl) ?_
  refine lv_iload_n hx hb dX3_init_10 rfl (lv_at hl 2 rfl) ?_
  have k3 : g2.1 t0 = 4 := by rw [eg2]; exact k1
  obtain ⟨g4, eg4, hf⟩ := nm_ok hf
  refine pf_X3_13 cx hB hnm k3 dX3_init_11 (fun H locs hB => ?_)
  rw [← eg4] at hB
  refine lv_aload_n hx hb dX3_init_14 rfl (lv_at hl 0 rfl) ?_
  refine lv_iload_n hx hb dX3_init_15 rfl (lv_at hl 3 rfl) ?_
  have k5 : g4.1 t0 = 4 := by rw [eg4]; exact k3
  obtain ⟨g6, eg6, hf⟩ := nm_ok hf
  refine pf_X3_16 cx hB k5 dX3_init_16 (fun H locs hB => ?_)
  rw [← eg6] at hB
  refine lv_aload_n hx hb dX3_init_19 rfl (lv_at hl 0 rfl) ?_
  refine lv_iload hx hb dX3_init_20 (lv_at hl 4 rfl) ?_
  have k7 : g6.1 t0 = 4 := by rw [eg6]; exact k5
  obtain ⟨g8, eg8, hf⟩ := nm_ok hf
  refine pf_X3_19 cx hB k7 dX3_init_22 (fun H locs hB => ?_)
  rw [← eg8] at hB
  obtain ⟨-, rfl⟩ := rt_ok hf
  exact hp_vret cx hB hr hlk (Nat.le_of_ble_eq_true rfl) (Nat.le_of_ble_eq_true rfl) dX3_init_25
end
set_option maxHeartbeats 4000000 in
set_option maxRecDepth 100000 in
theorem cX3_init (l : Launch) (D : va_G) (cA : Nat → ClassId) (t0 : Nat) (v1 : Int32) (v2 : Int32) (v3 : Int32) (v4 : Int32) (h : Hp) (_u : Unit) (h9 : Hp) (hf : fX3_init t0 v1 v2 v3 v4 h = some (_u, h9)) : hp_M l yX3_init prog_5_method_1_code 5 none rmX3_init D cA h [.ref t0, .int v1, .int v2, .int v3, .int v4] (hp_Qv D cA h h9) := by
  refine Met.ofW (cc := prog_5_method_1_code) (maxL := 5) (ret := none) (by decide) rfl ?_
  intro p e s m args below meth c s₁ B hml hv
  obtain ⟨rfl, hU⟩ := hv
  have hts := atoms_spec (ws := Cond.code yX3_init prog_5_method_1_code 5 none :: tbG) B.pre
  have hl := lv_entry ([.ref t0, .int v1, .int v2, .int v3, .int v4]) (n := 5) (Nat.le_of_ble_eq_true rfl)
  rw [lg_entry_eq]
  generalize (lg_sl ([.ref t0, .int v1, .int v2, .int v3, .int v4]) ++ List.replicate (5 - (lg_sl ([.ref t0, .int v1, .int v2, .int v3, .int v4])).length) Slot.unset).toArray = ls at hl ⊢
  exact tX3_init_0 ⟨B.exec, B.bytes, hml, findClass_of_methodNamed B.named, fun w hw => hts w (List.mem_cons_of_mem _ hw)⟩ B.returns B.notSynchronized ((name_of_methodNamed B.named B.method).1) t0 v1 v2 v3 v4 h _ _ _ (hp_B.entry hU) hl hf
section
variable {p : Program} {l : Launch} {e : Env} {R : Room} {s : State} {m : MethodId} {args : Array Value} {below : List Frame} {meth : Method} {c : Code} {H : Heap} {locs : List Loc} {cells slots : Nat} {Q : State → Prop}
variable {cc : ByteArray} {pc nL : Nat} {ls : Array Slot} {rest : List Value} {D : va_G} {cA : Nat → ClassId} {A : Nat → Prop} {a : Nat} {h : Hp}
theorem gf_X3_16 (cx : CallFix p m c cc nL s args tbG RX3) (hB : hp_B D cA A s h H locs) (hka : h.1 a = 4) (hdg : decode cc pc = .ok (.getfield 16, 3)) (kk : W p l e R s m args below meth c H locs cells slots Q (F0 m (pc + 3) ls (.int (h.2.2.1 a 2) :: rest))) : W p l e R s m args below meth c H locs cells slots Q (F0 m pc ls (.ref a :: rest)) :=
  hp_getI cx hB (ci := 3) 2 rfl inX3 (by decide) rfl (by decide) rfl qw_343 hka hdg kk
end
abbrev yX3_speaksOf : MethodName := ⟨"SpokenMenus$Line", "speaksOf", "(I)Z"⟩
theorem dX3_speaksOf_0 : decode prog_5_method_2_code 0 = .ok (.aload_n 0, 1) := by decide +kernel
theorem dX3_speaksOf_1 : decode prog_5_method_2_code 1 = .ok (.getfield 16, 3) := by decide +kernel
theorem dX3_speaksOf_4 : decode prog_5_method_2_code 4 = .ok (.iload_n 1, 1) := by decide +kernel
theorem dX3_speaksOf_5 : decode prog_5_method_2_code 5 = .ok (.ishr, 1) := by decide +kernel
theorem dX3_speaksOf_6 : decode prog_5_method_2_code 6 = .ok (.iconst 1, 1) := by decide +kernel
theorem dX3_speaksOf_7 : decode prog_5_method_2_code 7 = .ok (.iand, 1) := by decide +kernel
theorem dX3_speaksOf_8 : decode prog_5_method_2_code 8 = .ok (.ifCond .eq 7, 3) := by decide +kernel
theorem dX3_speaksOf_11 : decode prog_5_method_2_code 11 = .ok (.iconst 1, 1) := by decide +kernel
theorem dX3_speaksOf_12 : decode prog_5_method_2_code 12 = .ok (.goto 4, 3) := by decide +kernel
theorem dX3_speaksOf_15 : decode prog_5_method_2_code 15 = .ok (.iconst 0, 1) := by decide +kernel
theorem dX3_speaksOf_16 : decode prog_5_method_2_code 16 = .ok (.ireturn, 1) := by decide +kernel
abbrev rmX3_speaksOf : Room := { frames := 0, cells := 0, slots := 0, locals := 0 }
def fX3_speaksOf  (t0 : Nat) (v1 : Int32) (h : Hp) : Option (Int32 × Hp) :=
  gk (h.1 t0) 4 <|
  if (((h.2.2.1 t0 2) >>> (v1 &&& 31)) &&& 1) = 0 then
  (some (0, h))
  else
  (some (1, h))
section
variable {p : Program} {l : Launch} {e : Env} {s : State} {m : MethodId} {args : Array Value} {below : List Frame} {meth : Method} {c : Code} {D : va_G} {cA : Nat → ClassId} {h0 h9 : Hp}
set_option maxHeartbeats 4000000 in
set_option maxRecDepth 100000 in
theorem tX3_speaksOf_0  {r : Int32} (cx : CallFix p m c prog_5_method_2_code 2 s args tbG RX3) (hr : meth.sig.returnType = (Option.some FieldType.boolean)) (hlk : meth.locks = false)  (t0 : Nat) (v1 : Int32) (h : Hp) (H : Heap) (locs : List Loc) (ls : Array Slot) (hB : hp_B D cA (hp_A h0) s h H locs) (hl : lv_has ls 2 [(0, .ref t0), (1, .int v1)]) (hf : fX3_speaksOf  t0 v1 h = some (r, h9)) : W p l e rmX3_speaksOf s m args below meth c H locs 0 0 (MQ below (hp_Qi D cA h0 h9 r) args s 0 0 (hp_A h0)) (F0 m 0 ls []) := by
  obtain ⟨hx, hb, -⟩ := id cx
  unfold fX3_speaksOf at hf
  refine lv_aload_n hx hb dX3_speaksOf_0 rfl (lv_at hl 0 rfl) ?_
  obtain ⟨k1, hf⟩ := gk_ok hf
  refine gf_X3_16 cx hB k1 dX3_speaksOf_1 ?_
  refine lv_iload_n hx hb dX3_speaksOf_4 rfl (lv_at hl 1 rfl) ?_
  refine lv_ishr hx hb dX3_speaksOf_5 ?_
  refine lv_iconst (v := 1) hx hb dX3_speaksOf_6 (by decide) ?_
  refine lv_iand hx hb dX3_speaksOf_7 ?_
  refine lv_if_eq (tgt := 15) hx hb dX3_speaksOf_8 (by decide) (fun c2 => ?_) (fun c2 => ?_)
  · replace hf := it_t c2 hf
    refine lv_iconst (v := 0) hx hb dX3_speaksOf_15 (by decide) ?_
    obtain ⟨rfl, rfl⟩ := rt_ok hf
    exact hp_zret cx hB hr hlk (Nat.le_of_ble_eq_true rfl) (Nat.le_of_ble_eq_true rfl) rfl dX3_speaksOf_16
  · replace hf := it_f c2 hf
    refine lv_iconst (v := 1) hx hb dX3_speaksOf_11 (by decide) ?_
    refine lv_goto (tgt := 16) hx hb dX3_speaksOf_12 (by decide) ?_
    obtain ⟨rfl, rfl⟩ := rt_ok hf
    exact hp_zret cx hB hr hlk (Nat.le_of_ble_eq_true rfl) (Nat.le_of_ble_eq_true rfl) rfl dX3_speaksOf_16
end
set_option maxHeartbeats 4000000 in
set_option maxRecDepth 100000 in
theorem cX3_speaksOf (l : Launch) (D : va_G) (cA : Nat → ClassId) (t0 : Nat) (v1 : Int32) (h : Hp) (r : Int32) (h9 : Hp) (hf : fX3_speaksOf t0 v1 h = some (r, h9)) : hp_M l yX3_speaksOf prog_5_method_2_code 2 (Option.some FieldType.boolean) rmX3_speaksOf D cA h [.ref t0, .int v1] (hp_Qi D cA h h9 r) := by
  refine Met.ofW (cc := prog_5_method_2_code) (maxL := 2) (ret := (Option.some FieldType.boolean)) (by decide) rfl ?_
  intro p e s m args below meth c s₁ B hml hv
  obtain ⟨rfl, hU⟩ := hv
  have hts := atoms_spec (ws := Cond.code yX3_speaksOf prog_5_method_2_code 2 (Option.some FieldType.boolean) :: tbG) B.pre
  have hl := lv_entry ([.ref t0, .int v1]) (n := 2) (Nat.le_of_ble_eq_true rfl)
  rw [lg_entry_eq]
  generalize (lg_sl ([.ref t0, .int v1]) ++ List.replicate (2 - (lg_sl ([.ref t0, .int v1])).length) Slot.unset).toArray = ls at hl ⊢
  exact tX3_speaksOf_0 ⟨B.exec, B.bytes, hml, findClass_of_methodNamed B.named, fun w hw => hts w (List.mem_cons_of_mem _ hw)⟩ B.returns B.notSynchronized t0 v1 h _ _ _ (hp_B.entry hU) hl hf
section
variable {p : Program} {l : Launch} {e : Env} {R : Room} {s : State} {m : MethodId} {args : Array Value} {below : List Frame} {meth : Method} {c : Code} {H : Heap} {locs : List Loc} {cells slots : Nat} {Q : State → Prop}
variable {cc : ByteArray} {pc nL : Nat} {ls : Array Slot} {rest : List Value} {D : va_G} {cA : Nat → ClassId} {A : Nat → Prop} {a : Nat} {h : Hp}
theorem pf_X4_9 (cx : CallFix p m c cc nL s args tbG RX4) (hB : hp_B D cA A s h H locs) (hnm : meth.name = "<init>") (hka : h.1 a = 5) {b : Nat} (hdg : decode cc pc = .ok (.putfield 9, 3)) (kk : ∀ (H1 : Heap) (locs1 : List Loc), hp_B D cA A s (hp_sr h a 0 (some b)) H1 locs1 → W p l e R s m args below meth c H1 locs1 cells slots Q (F0 m (pc + 3) ls rest)) : W p l e R s m args below meth c H locs cells slots Q (F0 m pc ls (.ref b :: .ref a :: rest)) :=
  hp_putX cx hB (ci := 4) 0 tyX4 tyX4_ok nmX4 rfl inX4 (by decide) rfl (by decide) (Or.inr ⟨rfl, hnm, rfl⟩) qw_98 hka (v := va_rf (some b)) (hp_like_sr h a 0 (some b)) (hp_fs_sr (by decide) rfl) rfl rfl hdg kk
theorem pf_X4_15 (cx : CallFix p m c cc nL s args tbG RX4) (hB : hp_B D cA A s h H locs) (hnm : meth.name = "<init>") (hka : h.1 a = 5) {b : Nat} (hdg : decode cc pc = .ok (.putfield 15, 3)) (kk : ∀ (H1 : Heap) (locs1 : List Loc), hp_B D cA A s (hp_sr h a 1 (some b)) H1 locs1 → W p l e R s m args below meth c H1 locs1 cells slots Q (F0 m (pc + 3) ls rest)) : W p l e R s m args below meth c H locs cells slots Q (F0 m pc ls (.ref b :: .ref a :: rest)) :=
  hp_putX cx hB (ci := 4) 1 tyX4 tyX4_ok nmX4 rfl inX4 (by decide) rfl (by decide) (Or.inr ⟨rfl, hnm, rfl⟩) qw_99 hka (v := va_rf (some b)) (hp_like_sr h a 1 (some b)) (hp_fs_sr (by decide) rfl) rfl rfl hdg kk
theorem pf_X4_20 (cx : CallFix p m c cc nL s args tbG RX4) (hB : hp_B D cA A s h H locs) (hnm : meth.name = "<init>") (hka : h.1 a = 5) {b : Nat} (hdg : decode cc pc = .ok (.putfield 20, 3)) (kk : ∀ (H1 : Heap) (locs1 : List Loc), hp_B D cA A s (hp_sr h a 2 (some b)) H1 locs1 → W p l e R s m args below meth c H1 locs1 cells slots Q (F0 m (pc + 3) ls rest)) : W p l e R s m args below meth c H locs cells slots Q (F0 m pc ls (.ref b :: .ref a :: rest)) :=
  hp_putX cx hB (ci := 4) 2 tyX4 tyX4_ok nmX4 rfl inX4 (by decide) rfl (by decide) (Or.inr ⟨rfl, hnm, rfl⟩) qw_101 hka (v := va_rf (some b)) (hp_like_sr h a 2 (some b)) (hp_fs_sr (by decide) rfl) rfl rfl hdg kk
end
abbrev yX4_init : MethodName := ⟨"SpokenMenus$Ordering", "<init>", "()V"⟩
theorem dX4_init_0 : decode prog_6_method_1_code 0 = .ok (.aload_n 0, 1) := by decide +kernel
theorem dX4_init_1 : decode prog_6_method_1_code 1 = .ok (.invokespecial 3, 3) := by decide +kernel
theorem dX4_init_4 : decode prog_6_method_1_code 4 = .ok (.aload_n 0, 1) := by decide +kernel
theorem dX4_init_5 : decode prog_6_method_1_code 5 = .ok (.bipush 6, 2) := by decide +kernel
theorem dX4_init_7 : decode prog_6_method_1_code 7 = .ok (.newarray .int, 2) := by decide +kernel
theorem dX4_init_9 : decode prog_6_method_1_code 9 = .ok (.putfield 9, 3) := by decide +kernel
theorem dX4_init_12 : decode prog_6_method_1_code 12 = .ok (.aload_n 0, 1) := by decide +kernel
theorem dX4_init_13 : decode prog_6_method_1_code 13 = .ok (.bipush 6, 2) := by decide +kernel
theorem dX4_init_15 : decode prog_6_method_1_code 15 = .ok (.newarray .int, 2) := by decide +kernel
theorem dX4_init_17 : decode prog_6_method_1_code 17 = .ok (.putfield 15, 3) := by decide +kernel
theorem dX4_init_20 : decode prog_6_method_1_code 20 = .ok (.aload_n 0, 1) := by decide +kernel
theorem dX4_init_21 : decode prog_6_method_1_code 21 = .ok (.bipush 6, 2) := by decide +kernel
theorem dX4_init_23 : decode prog_6_method_1_code 23 = .ok (.anewarray 18, 3) := by decide +kernel
theorem dX4_init_26 : decode prog_6_method_1_code 26 = .ok (.putfield 20, 3) := by decide +kernel
theorem dX4_init_29 : decode prog_6_method_1_code 29 = .ok (.return_, 1) := by decide +kernel
abbrev rmX4_init : Room := { frames := 1, cells := 3, slots := 18, locals := 20 }
def fX4_init  (t0 : Nat) (h : Hp) : Option (Unit × Hp) :=
  nm h.2.2.2.2 fun a1 =>
  nm (hp_nw h 13 6) fun g2 =>
  gk (g2.1 t0) 5 <|
  nm (hp_sr g2 t0 0 (some a1)) fun g5 =>
  nm g5.2.2.2.2 fun a6 =>
  nm (hp_nw g5 13 6) fun g7 =>
  gk (g7.1 t0) 5 <|
  nm (hp_sr g7 t0 1 (some a6)) fun g10 =>
  nm g10.2.2.2.2 fun a11 =>
  nm (hp_nw g10 16 6) fun g12 =>
  gk (g12.1 t0) 5 <|
  nm (hp_sr g12 t0 2 (some a11)) fun g15 =>
  some ((), g15)
section
variable {p : Program} {l : Launch} {e : Env} {s : State} {m : MethodId} {args : Array Value} {below : List Frame} {meth : Method} {c : Code} {D : va_G} {cA : Nat → ClassId} {h0 h9 : Hp}
set_option maxHeartbeats 4000000 in
set_option maxRecDepth 100000 in
theorem tX4_init_0  (cx : CallFix p m c prog_6_method_1_code 1 s args tbG RX4) (hr : meth.sig.returnType = none) (hlk : meth.locks = false) (hnm : meth.name = "<init>")  (t0 : Nat) (h : Hp) (H : Heap) (locs : List Loc) (ls : Array Slot) (hB : hp_B D cA (hp_A h0) s h H locs) (hl : lv_has ls 1 [(0, .ref t0)]) (hf : fX4_init  t0 h = some ((), h9)) : W p l e rmX4_init s m args below meth c H locs 0 0 (MQ below (hp_Qv D cA h0 h9) args s 3 18 (hp_A h0)) (F0 m 0 ls []) := by
  obtain ⟨hx, hb, -⟩ := id cx
  unfold fX4_init at hf
  refine lv_aload_n hx hb dX4_init_0 rfl (lv_at hl 0 rfl) ?_
  refine W.objInit hx hb cx.2.2.2.1 (cx.2.2.2.2 _ (tb_in qw_95 rfl)) (cx.2.2.2.2 _ (tb_in qw_22 rfl)) (cx.2.2.2.2 _ (tb_in qw_23 rfl)) rfl (by rw [cx.2.2.1]; exact hl.1) rfl dX4_init_1 (Nat.le_of_ble_eq_true rfl) (Nat.le_of_ble_eq_true rfl) ?_
  refine W.eq (g2 := F0 m 4 ls []) rfl ?_
  refine lv_aload_n hx hb dX4_init_4 rfl (lv_at hl 0 rfl) ?_
  refine lv_bipush (v := 6) hx hb dX4_init_5 (by decide) ?_
  obtain ⟨a1, ea1, hf⟩ := nm_ok hf
  obtain ⟨g2, eg2, hf⟩ := nm_ok hf
  refine hp_newa cx hB 13 (N' := 6) (ty := .int) rfl (by decide) rfl (fun h9 => h9) rfl qw_54 ea1 (by decide) (by decide) (by decide) (Nat.le_of_ble_eq_true rfl) (Nat.le_of_ble_eq_true rfl) dX4_init_7 (fun H hB => ?_)
  rw [← eg2] at hB
  have k3 : g2.1 a1 = 13 := by rw [eg2, ea1]; exact va_up_self _ _ _
  obtain ⟨k4, hf⟩ := gk_ok hf
  obtain ⟨g5, eg5, hf⟩ := nm_ok hf
  refine pf_X4_9 cx hB hnm k4 dX4_init_9 (fun H locs hB => ?_)
  rw [← eg5] at hB
  refine lv_aload_n hx hb dX4_init_12 rfl (lv_at hl 0 rfl) ?_
  refine lv_bipush (v := 6) hx hb dX4_init_13 (by decide) ?_
  obtain ⟨a6, ea6, hf⟩ := nm_ok hf
  obtain ⟨g7, eg7, hf⟩ := nm_ok hf
  refine hp_newa cx hB 13 (N' := 6) (ty := .int) rfl (by decide) rfl (fun h9 => h9) rfl qw_54 ea6 (by decide) (by decide) (by decide) (Nat.le_of_ble_eq_true rfl) (Nat.le_of_ble_eq_true rfl) dX4_init_15 (fun H hB => ?_)
  rw [← eg7] at hB
  have k8 : g7.1 a6 = 13 := by rw [eg7, ea6]; exact va_up_self _ _ _
  obtain ⟨k9, hf⟩ := gk_ok hf
  obtain ⟨g10, eg10, hf⟩ := nm_ok hf
  refine pf_X4_15 cx hB hnm k9 dX4_init_17 (fun H locs hB => ?_)
  rw [← eg10] at hB
  refine lv_aload_n hx hb dX4_init_20 rfl (lv_at hl 0 rfl) ?_
  refine lv_bipush (v := 6) hx hb dX4_init_21 (by decide) ?_
  obtain ⟨a11, ea11, hf⟩ := nm_ok hf
  obtain ⟨g12, eg12, hf⟩ := nm_ok hf
  refine hp_newq cx hB 16 (N' := 6) (by decide) rfl qw_96 (fun h9 => h9.2.2.1) ea11 (by decide) (by decide) (by decide) (Nat.le_of_ble_eq_true rfl) (Nat.le_of_ble_eq_true rfl) dX4_init_23 (fun H hB => ?_)
  rw [← eg12] at hB
  have k13 : g12.1 a11 = 16 := by rw [eg12, ea11]; exact va_up_self _ _ _
  obtain ⟨k14, hf⟩ := gk_ok hf
  obtain ⟨g15, eg15, hf⟩ := nm_ok hf
  refine pf_X4_20 cx hB hnm k14 dX4_init_26 (fun H locs hB => ?_)
  rw [← eg15] at hB
  obtain ⟨-, rfl⟩ := rt_ok hf
  exact hp_vret cx hB hr hlk (Nat.le_of_ble_eq_true rfl) (Nat.le_of_ble_eq_true rfl) dX4_init_29
end
set_option maxHeartbeats 4000000 in
set_option maxRecDepth 100000 in
theorem cX4_init (l : Launch) (D : va_G) (cA : Nat → ClassId) (t0 : Nat) (h : Hp) (_u : Unit) (h9 : Hp) (hf : fX4_init t0 h = some (_u, h9)) : hp_M l yX4_init prog_6_method_1_code 1 none rmX4_init D cA h [.ref t0] (hp_Qv D cA h h9) := by
  refine Met.ofW (cc := prog_6_method_1_code) (maxL := 1) (ret := none) (by decide) rfl ?_
  intro p e s m args below meth c s₁ B hml hv
  obtain ⟨rfl, hU⟩ := hv
  have hts := atoms_spec (ws := Cond.code yX4_init prog_6_method_1_code 1 none :: tbG) B.pre
  have hl := lv_entry ([.ref t0]) (n := 1) (Nat.le_of_ble_eq_true rfl)
  rw [lg_entry_eq]
  generalize (lg_sl ([.ref t0]) ++ List.replicate (1 - (lg_sl ([.ref t0])).length) Slot.unset).toArray = ls at hl ⊢
  exact tX4_init_0 ⟨B.exec, B.bytes, hml, findClass_of_methodNamed B.named, fun w hw => hts w (List.mem_cons_of_mem _ hw)⟩ B.returns B.notSynchronized ((name_of_methodNamed B.named B.method).1) t0 h _ _ _ (hp_B.entry hU) hl hf
abbrev yJ7_fill_53178 : MethodName := ⟨"java/util/Arrays", "fill", "([II)V"⟩
theorem dJ7_fill_53178_0 : decode prog_16_method_103_code 0 = .ok (.iconst 0, 1) := by decide +kernel
theorem dJ7_fill_53178_1 : decode prog_16_method_103_code 1 = .ok (.istore_n 2, 1) := by decide +kernel
theorem dJ7_fill_53178_2 : decode prog_16_method_103_code 2 = .ok (.aload_n 0, 1) := by decide +kernel
theorem dJ7_fill_53178_3 : decode prog_16_method_103_code 3 = .ok (.arraylength, 1) := by decide +kernel
theorem dJ7_fill_53178_4 : decode prog_16_method_103_code 4 = .ok (.istore_n 3, 1) := by decide +kernel
theorem dJ7_fill_53178_5 : decode prog_16_method_103_code 5 = .ok (.iload_n 2, 1) := by decide +kernel
theorem dJ7_fill_53178_6 : decode prog_16_method_103_code 6 = .ok (.iload_n 3, 1) := by decide +kernel
theorem dJ7_fill_53178_7 : decode prog_16_method_103_code 7 = .ok (.if_icmp .ge 13, 3) := by decide +kernel
theorem dJ7_fill_53178_10 : decode prog_16_method_103_code 10 = .ok (.aload_n 0, 1) := by decide +kernel
theorem dJ7_fill_53178_11 : decode prog_16_method_103_code 11 = .ok (.iload_n 2, 1) := by decide +kernel
theorem dJ7_fill_53178_12 : decode prog_16_method_103_code 12 = .ok (.iload_n 1, 1) := by decide +kernel
theorem dJ7_fill_53178_13 : decode prog_16_method_103_code 13 = .ok (.iastore, 1) := by decide +kernel
theorem dJ7_fill_53178_14 : decode prog_16_method_103_code 14 = .ok (.iinc 2 1, 3) := by decide +kernel
theorem dJ7_fill_53178_17 : decode prog_16_method_103_code 17 = .ok (.goto (-12), 3) := by decide +kernel
theorem dJ7_fill_53178_20 : decode prog_16_method_103_code 20 = .ok (.return_, 1) := by decide +kernel
abbrev rmJ7_fill_53178 : Room := { frames := 0, cells := 0, slots := 0, locals := 0 }
def bJ7_fill_53178_5  (rc : Nat → Int32 → Int32 → Int32 → Hp → Option (Unit × Hp)) (t0 : Nat) (v1 : Int32) (v2 : Int32) (v3 : Int32) (h : Hp) : Option (Unit × Hp) :=
  if v3 ≤ v2 then
  (some ((), h))
  else
  (gk (h.1 t0) 13 <|
  gd (ix v2 (h.2.1 t0)) <|
  nm (hp_si h t0 (Int32.toNatClampNeg v2) v1) fun g4 =>
  nm (v2 + 1) fun x5 =>
  rc t0 v1 x5 v3 g4)
def fJ7_fill_53178_5  : Nat → Int32 → Int32 → Int32 → Hp → Option (Unit × Hp) := fx (bJ7_fill_53178_5 ) (fun _ _ _ _ _ => none) NF
def fJ7_fill_53178  (w0 : Option Nat) (v1 : Int32) (h : Hp) : Option (Unit × Hp) :=
  bd w0 fun a1 =>
  gk (h.1 a1) 13 <|
  nm (Int32.ofNat (h.2.1 a1)) fun x3 =>
  fJ7_fill_53178_5  a1 v1 0 x3 h
section
variable {p : Program} {l : Launch} {e : Env} {s : State} {m : MethodId} {args : Array Value} {below : List Frame} {meth : Method} {c : Code} {D : va_G} {cA : Nat → ClassId} {h0 h9 : Hp}
set_option maxHeartbeats 4000000 in
set_option maxRecDepth 100000 in
theorem tJ7_fill_53178_5  (cx : CallFix p m c prog_16_method_103_code 4 s args tbG "java/util/Arrays") (hr : meth.sig.returnType = none) (hlk : meth.locks = false)  (n : Nat) : ∀ (t0 : Nat) (v1 : Int32) (v2 : Int32) (v3 : Int32) (h : Hp) (H : Heap) (locs : List Loc) (ls : Array Slot), hp_B D cA (hp_A h0) s h H locs → lv_has ls 4 [(0, .ref t0), (1, .int v1), (2, .int v2), (3, .int v3)] → fx (bJ7_fill_53178_5 ) (fun _ _ _ _ _ => none) n t0 v1 v2 v3 h = some ((), h9) → W p l e rmJ7_fill_53178 s m args below meth c H locs 0 0 (MQ below (hp_Qv D cA h0 h9) args s 0 0 (hp_A h0)) (F0 m 5 ls []) := by
  obtain ⟨hx, hb, -⟩ := id cx
  induction n with
  | zero => intro t0 v1 v2 v3 h H locs ls hB hl hf; cases hf
  | succ n ih =>
    intro t0 v1 v2 v3 h H locs ls hB hl hf
    replace hf : bJ7_fill_53178_5  (fx (bJ7_fill_53178_5 ) (fun _ _ _ _ _ => none) n) t0 v1 v2 v3 h = some ((), h9) := hf
    unfold bJ7_fill_53178_5 at hf
    refine lv_iload_n hx hb dJ7_fill_53178_5 rfl (lv_at hl 2 rfl) ?_
    refine lv_iload_n hx hb dJ7_fill_53178_6 rfl (lv_at hl 3 rfl) ?_
    refine lv_icmp_ge (tgt := 20) hx hb dJ7_fill_53178_7 (by decide) (fun c1 => ?_) (fun c1 => ?_)
    · replace hf := it_t c1 hf
      obtain ⟨-, rfl⟩ := rt_ok hf
      exact hp_vret cx hB hr hlk (Nat.le_of_ble_eq_true rfl) (Nat.le_of_ble_eq_true rfl) dJ7_fill_53178_20
    · replace hf := it_f c1 hf
      refine lv_aload_n hx hb dJ7_fill_53178_10 rfl (lv_at hl 0 rfl) ?_
      refine lv_iload_n hx hb dJ7_fill_53178_11 rfl (lv_at hl 2 rfl) ?_
      refine lv_iload_n hx hb dJ7_fill_53178_12 rfl (lv_at hl 1 rfl) ?_
      obtain ⟨k2, hf⟩ := gk_ok hf
      obtain ⟨j3, hf⟩ := gd_ok hf
      obtain ⟨g4, eg4, hf⟩ := nm_ok hf
      refine hp_iast cx hB k2 j3 dJ7_fill_53178_13 (fun H locs hB => ?_)
      rw [← eg4] at hB
      obtain ⟨x5, ex5, hf⟩ := nm_ok hf
      refine lv_iinc (v := x5) (lv' := [(2, .int x5), (0, .ref t0), (1, .int v1), (3, .int v3)]) hx hb dJ7_fill_53178_14 hl (k := 2) rfl (by rw [ex5]; rfl) (by decide) rfl (fun ls hl => ?_)
      refine lv_goto (tgt := 5) hx hb dJ7_fill_53178_17 (by decide) ?_
      exact ih t0 v1 x5 v3 g4 _ _ _ hB (lv_sub hl [1, 2, 0, 3] rfl) hf
set_option maxHeartbeats 4000000 in
set_option maxRecDepth 100000 in
theorem tJ7_fill_53178_0  (cx : CallFix p m c prog_16_method_103_code 4 s args tbG "java/util/Arrays") (hr : meth.sig.returnType = none) (hlk : meth.locks = false)  (w0 : Option Nat) (v1 : Int32) (h : Hp) (H : Heap) (locs : List Loc) (ls : Array Slot) (hB : hp_B D cA (hp_A h0) s h H locs) (hl : lv_has ls 4 [(0, va_rf w0), (1, .int v1)]) (hf : fJ7_fill_53178  w0 v1 h = some ((), h9)) : W p l e rmJ7_fill_53178 s m args below meth c H locs 0 0 (MQ below (hp_Qv D cA h0 h9) args s 0 0 (hp_A h0)) (F0 m 0 ls []) := by
  obtain ⟨hx, hb, -⟩ := id cx
  unfold fJ7_fill_53178 at hf
  refine lv_iconst (v := 0) hx hb dJ7_fill_53178_0 (by decide) ?_
  refine lv_istore_n (lv' := [(2, .int 0), (0, va_rf w0), (1, .int v1)]) hx hb dJ7_fill_53178_1 rfl hl (by decide) rfl (fun ls hl => ?_)
  refine lq_aload_n hx hb dJ7_fill_53178_2 rfl (lv_at hl 1 rfl) ?_
  obtain ⟨a1, eo, hf⟩ := bd_ok hf
  subst eo
  obtain ⟨k2, hf⟩ := gk_ok hf
  refine hp_alen cx hB 13 .int (by decide) rfl k2 dJ7_fill_53178_3 ?_
  obtain ⟨x3, ex3, hf⟩ := nm_ok hf
  refine lv_ren ex3 ?_
  refine lv_istore_n (lv' := [(3, .int x3), (2, .int 0), (0, .ref a1), (1, .int v1)]) hx hb dJ7_fill_53178_4 rfl hl (by decide) rfl (fun ls hl => ?_)
  exact tJ7_fill_53178_5 cx hr hlk  NF a1 v1 0 x3 h _ _ _ hB (lv_sub hl [2, 3, 1, 0] rfl) hf
end
set_option maxHeartbeats 4000000 in
set_option maxRecDepth 100000 in
theorem cJ7_fill_53178 (l : Launch) (D : va_G) (cA : Nat → ClassId) (w0 : Option Nat) (v1 : Int32) (h : Hp) (_u : Unit) (h9 : Hp) (hf : fJ7_fill_53178 w0 v1 h = some (_u, h9)) : hp_M l yJ7_fill_53178 prog_16_method_103_code 4 none rmJ7_fill_53178 D cA h [va_rf w0, .int v1] (hp_Qv D cA h h9) := by
  refine Met.ofW (cc := prog_16_method_103_code) (maxL := 4) (ret := none) (by decide) rfl ?_
  intro p e s m args below meth c s₁ B hml hv
  obtain ⟨rfl, hU⟩ := hv
  have hts := atoms_spec (ws := Cond.code yJ7_fill_53178 prog_16_method_103_code 4 none :: tbG) B.pre
  have hl := lv_entry ([va_rf w0, .int v1]) (n := 4) (by simp [lg_sl, va_rf_cat, cat_i, cat_r, cat_n])
  rw [show lv_args 0 ([va_rf w0, .int v1]) = [(0, va_rf w0), (1, .int v1)] by simp [lv_args, va_rf_cat, cat_i, cat_r, cat_n]] at hl
  rw [lg_entry_eq]
  generalize (lg_sl ([va_rf w0, .int v1]) ++ List.replicate (4 - (lg_sl ([va_rf w0, .int v1])).length) Slot.unset).toArray = ls at hl ⊢
  exact tJ7_fill_53178_0 ⟨B.exec, B.bytes, hml, findClass_of_methodNamed B.named, fun w hw => hts w (List.mem_cons_of_mem _ hw)⟩ B.returns B.notSynchronized w0 v1 h _ _ _ (hp_B.entry hU) hl hf
section
variable {p : Program} {l : Launch} {e : Env} {R : Room} {s : State} {m : MethodId} {args : Array Value} {below : List Frame} {meth : Method} {c : Code} {H : Heap} {locs : List Loc} {cells slots : Nat} {Q : State → Prop}
variable {cc : ByteArray} {pc nL : Nat} {ls : Array Slot} {rest : List Value} {D : va_G} {cA : Nat → ClassId} {A : Nat → Prop} {a : Nat} {h : Hp}
theorem gf_X4_9 (cx : CallFix p m c cc nL s args tbG RX4) (hB : hp_B D cA A s h H locs) (hka : h.1 a = 5) {b : Nat} (ho : h.2.2.2.1 a 0 = some b) (hdg : decode cc pc = .ok (.getfield 9, 3)) (kk : W p l e R s m args below meth c H locs cells slots Q (F0 m (pc + 3) ls (.ref b :: rest))) : W p l e R s m args below meth c H locs cells slots Q (F0 m pc ls (.ref a :: rest)) :=
  hp_getR cx hB (ci := 4) 0 rfl inX4 (by decide) rfl (by decide) rfl qw_98 hka (o := some b) ho.symm hdg kk
theorem cl_X4_24 {As st0 : List Value} {Qc : Array Value → State → Outcome → State → Prop} (cx : CallFix p m c cc nL s args tbG RX4) (hB : hp_B D cA A s h H locs) (hM : hp_M l yJ7_fill_53178 prog_16_method_103_code 4 none rmJ7_fill_53178 D cA h As Qc) (hR : rmJ7_fill_53178.frames + 1 ≤ R.frames ∧ 8 + (4 + 11) + rmJ7_fill_53178.locals ≤ R.locals) (hn : As.length = 2) (hls : ls.size = nL) (hst : st0 = As.reverse ++ rest) (hW : (rest.map fun v => v.category).sum ≤ 8) (hf : cells + rmJ7_fill_53178.cells ≤ R.cells ∧ slots + rmJ7_fill_53178.slots ≤ R.slots) (hdg : decode cc pc = .ok (.invokestatic 24, 3)) :
    va_Run p l e R s m args below meth c H locs cells slots rmJ7_fill_53178.cells rmJ7_fill_53178.slots (F0 m pc ls st0) rest (Qc As.toArray) (hp_A h) :=
  hp_runS cx hB hM qw_119 qw_644 qw_118 qw_8 (by decide +kernel) hR hn hls hst hW hf hdg
end
abbrev yX4_forget : MethodName := ⟨"SpokenMenus$Ordering", "forget", "()V"⟩
theorem dX4_forget_0 : decode prog_6_method_2_code 0 = .ok (.aload_n 0, 1) := by decide +kernel
theorem dX4_forget_1 : decode prog_6_method_2_code 1 = .ok (.getfield 9, 3) := by decide +kernel
theorem dX4_forget_4 : decode prog_6_method_2_code 4 = .ok (.iconst 0, 1) := by decide +kernel
theorem dX4_forget_5 : decode prog_6_method_2_code 5 = .ok (.invokestatic 24, 3) := by decide +kernel
theorem dX4_forget_8 : decode prog_6_method_2_code 8 = .ok (.return_, 1) := by decide +kernel
abbrev rmX4_forget : Room := { frames := 1, cells := 0, slots := 0, locals := 23 }
def fX4_forget  (t0 : Nat) (h : Hp) : Option (Unit × Hp) :=
  gk (h.1 t0) 5 <|
  bd (h.2.2.2.1 t0 0) fun a2 =>
  b2 (fJ7_fill_53178 (some a2) 0 h) fun _ g4 =>
  some ((), g4)
section
variable {p : Program} {l : Launch} {e : Env} {s : State} {m : MethodId} {args : Array Value} {below : List Frame} {meth : Method} {c : Code} {D : va_G} {cA : Nat → ClassId} {h0 h9 : Hp}
set_option maxHeartbeats 4000000 in
set_option maxRecDepth 100000 in
theorem tX4_forget_0  (cx : CallFix p m c prog_6_method_2_code 1 s args tbG RX4) (hr : meth.sig.returnType = none) (hlk : meth.locks = false)  (t0 : Nat) (h : Hp) (H : Heap) (locs : List Loc) (ls : Array Slot) (hB : hp_B D cA (hp_A h0) s h H locs) (hl : lv_has ls 1 [(0, .ref t0)]) (hf : fX4_forget  t0 h = some ((), h9)) : W p l e rmX4_forget s m args below meth c H locs 0 0 (MQ below (hp_Qv D cA h0 h9) args s 0 0 (hp_A h0)) (F0 m 0 ls []) := by
  obtain ⟨hx, hb, -⟩ := id cx
  unfold fX4_forget at hf
  refine lv_aload_n hx hb dX4_forget_0 rfl (lv_at hl 0 rfl) ?_
  obtain ⟨k1, hf⟩ := gk_ok hf
  obtain ⟨a2, q3, hf⟩ := bd_ok hf
  refine gf_X4_9 cx hB k1 q3 dX4_forget_1 ?_
  refine lv_iconst (v := 0) hx hb dX4_forget_4 (by decide) ?_
  obtain ⟨uu, g4, m5, hf⟩ := b2_ok hf
  refine hp_cV0 (cl_X4_24 cx hB (cJ7_fill_53178 l D cA (some a2) 0 h _ g4 m5) ⟨Nat.le_of_ble_eq_true rfl, Nat.le_of_ble_eq_true rfl⟩ rfl hl.1 rfl (Nat.le_of_ble_eq_true rfl) ⟨Nat.le_of_ble_eq_true rfl, Nat.le_of_ble_eq_true rfl⟩ dX4_forget_5) rfl rfl hB (fun H locs hB => ?_)
  obtain ⟨-, rfl⟩ := rt_ok hf
  exact hp_vret cx hB hr hlk (Nat.le_of_ble_eq_true rfl) (Nat.le_of_ble_eq_true rfl) dX4_forget_8
end
set_option maxHeartbeats 4000000 in
set_option maxRecDepth 100000 in
theorem cX4_forget (l : Launch) (D : va_G) (cA : Nat → ClassId) (t0 : Nat) (h : Hp) (_u : Unit) (h9 : Hp) (hf : fX4_forget t0 h = some (_u, h9)) : hp_M l yX4_forget prog_6_method_2_code 1 none rmX4_forget D cA h [.ref t0] (hp_Qv D cA h h9) := by
  refine Met.ofW (cc := prog_6_method_2_code) (maxL := 1) (ret := none) (by decide) rfl ?_
  intro p e s m args below meth c s₁ B hml hv
  obtain ⟨rfl, hU⟩ := hv
  have hts := atoms_spec (ws := Cond.code yX4_forget prog_6_method_2_code 1 none :: tbG) B.pre
  have hl := lv_entry ([.ref t0]) (n := 1) (Nat.le_of_ble_eq_true rfl)
  rw [lg_entry_eq]
  generalize (lg_sl ([.ref t0]) ++ List.replicate (1 - (lg_sl ([.ref t0])).length) Slot.unset).toArray = ls at hl ⊢
  exact tX4_forget_0 ⟨B.exec, B.bytes, hml, findClass_of_methodNamed B.named, fun w hw => hts w (List.mem_cons_of_mem _ hw)⟩ B.returns B.notSynchronized t0 h _ _ _ (hp_B.entry hU) hl hf
abbrev yX4_addCallers : MethodName := ⟨"SpokenMenus$Ordering", "addCallers", "(II)V"⟩
theorem dX4_addCallers_0 : decode prog_6_method_3_code 0 = .ok (.iload_n 1, 1) := by decide +kernel
theorem dX4_addCallers_1 : decode prog_6_method_3_code 1 = .ok (.ifCond .lt 19, 3) := by decide +kernel
theorem dX4_addCallers_4 : decode prog_6_method_3_code 4 = .ok (.iload_n 1, 1) := by decide +kernel
theorem dX4_addCallers_5 : decode prog_6_method_3_code 5 = .ok (.bipush 6, 2) := by decide +kernel
theorem dX4_addCallers_7 : decode prog_6_method_3_code 7 = .ok (.if_icmp .ge 13, 3) := by decide +kernel
theorem dX4_addCallers_10 : decode prog_6_method_3_code 10 = .ok (.aload_n 0, 1) := by decide +kernel
theorem dX4_addCallers_11 : decode prog_6_method_3_code 11 = .ok (.getfield 9, 3) := by decide +kernel
theorem dX4_addCallers_14 : decode prog_6_method_3_code 14 = .ok (.iload_n 1, 1) := by decide +kernel
theorem dX4_addCallers_15 : decode prog_6_method_3_code 15 = .ok (.dup2, 1) := by decide +kernel
theorem dX4_addCallers_16 : decode prog_6_method_3_code 16 = .ok (.iaload, 1) := by decide +kernel
theorem dX4_addCallers_17 : decode prog_6_method_3_code 17 = .ok (.iload_n 2, 1) := by decide +kernel
theorem dX4_addCallers_18 : decode prog_6_method_3_code 18 = .ok (.iadd, 1) := by decide +kernel
theorem dX4_addCallers_19 : decode prog_6_method_3_code 19 = .ok (.iastore, 1) := by decide +kernel
theorem dX4_addCallers_20 : decode prog_6_method_3_code 20 = .ok (.return_, 1) := by decide +kernel
abbrev rmX4_addCallers : Room := { frames := 0, cells := 0, slots := 0, locals := 0 }
def fX4_addCallers  (t0 : Nat) (v1 : Int32) (v2 : Int32) (h : Hp) : Option (Unit × Hp) :=
  if v1 < 0 then
  (some ((), h))
  else
  (if 6 ≤ v1 then
  (some ((), h))
  else
  (gk (h.1 t0) 5 <|
  bd (h.2.2.2.1 t0 0) fun a4 =>
  gk (h.1 a4) 13 <|
  gd (ix v1 (h.2.1 a4)) <|
  gd (ix v1 (h.2.1 a4)) <|
  nm (hp_si h a4 (Int32.toNatClampNeg v1) ((h.2.2.1 a4 (Int32.toNatClampNeg v1)) + v2)) fun g9 =>
  some ((), g9)))
section
variable {p : Program} {l : Launch} {e : Env} {s : State} {m : MethodId} {args : Array Value} {below : List Frame} {meth : Method} {c : Code} {D : va_G} {cA : Nat → ClassId} {h0 h9 : Hp}
set_option maxHeartbeats 4000000 in
set_option maxRecDepth 100000 in
theorem tX4_addCallers_0  (cx : CallFix p m c prog_6_method_3_code 3 s args tbG RX4) (hr : meth.sig.returnType = none) (hlk : meth.locks = false)  (t0 : Nat) (v1 : Int32) (v2 : Int32) (h : Hp) (H : Heap) (locs : List Loc) (ls : Array Slot) (hB : hp_B D cA (hp_A h0) s h H locs) (hl : lv_has ls 3 [(0, .ref t0), (1, .int v1), (2, .int v2)]) (hf : fX4_addCallers  t0 v1 v2 h = some ((), h9)) : W p l e rmX4_addCallers s m args below meth c H locs 0 0 (MQ below (hp_Qv D cA h0 h9) args s 0 0 (hp_A h0)) (F0 m 0 ls []) := by
  obtain ⟨hx, hb, -⟩ := id cx
  unfold fX4_addCallers at hf
  refine lv_iload_n hx hb dX4_addCallers_0 rfl (lv_at hl 1 rfl) ?_
  refine lv_if_lt (tgt := 20) hx hb dX4_addCallers_1 (by decide) (fun c1 => ?_) (fun c1 => ?_)
  · replace hf := it_t c1 hf
    obtain ⟨-, rfl⟩ := rt_ok hf
    exact hp_vret cx hB hr hlk (Nat.le_of_ble_eq_true rfl) (Nat.le_of_ble_eq_true rfl) dX4_addCallers_20
  · replace hf := it_f c1 hf
    refine lv_iload_n hx hb dX4_addCallers_4 rfl (lv_at hl 1 rfl) ?_
    refine lv_bipush (v := 6) hx hb dX4_addCallers_5 (by decide) ?_
    refine lv_icmp_ge (tgt := 20) hx hb dX4_addCallers_7 (by decide) (fun c2 => ?_) (fun c2 => ?_)
    · replace hf := it_t c2 hf
      obtain ⟨-, rfl⟩ := rt_ok hf
      exact hp_vret cx hB hr hlk (Nat.le_of_ble_eq_true rfl) (Nat.le_of_ble_eq_true rfl) dX4_addCallers_20
    · replace hf := it_f c2 hf
      refine lv_aload_n hx hb dX4_addCallers_10 rfl (lv_at hl 0 rfl) ?_
      obtain ⟨k3, hf⟩ := gk_ok hf
      obtain ⟨a4, q5, hf⟩ := bd_ok hf
      refine gf_X4_9 cx hB k3 q5 dX4_addCallers_11 ?_
      refine lv_iload_n hx hb dX4_addCallers_14 rfl (lv_at hl 1 rfl) ?_
      refine lv_dup2_11 hx hb dX4_addCallers_15 rfl rfl ?_
      obtain ⟨k6, hf⟩ := gk_ok hf
      obtain ⟨j7, hf⟩ := gd_ok hf
      refine hp_iald cx hB k6 j7 dX4_addCallers_16 ?_
      refine lv_iload_n hx hb dX4_addCallers_17 rfl (lv_at hl 2 rfl) ?_
      refine lv_iadd hx hb dX4_addCallers_18 ?_
      obtain ⟨j8, hf⟩ := gd_ok hf
      obtain ⟨g9, eg9, hf⟩ := nm_ok hf
      refine hp_iast cx hB k6 j8 dX4_addCallers_19 (fun H locs hB => ?_)
      rw [← eg9] at hB
      obtain ⟨-, rfl⟩ := rt_ok hf
      exact hp_vret cx hB hr hlk (Nat.le_of_ble_eq_true rfl) (Nat.le_of_ble_eq_true rfl) dX4_addCallers_20
end
set_option maxHeartbeats 4000000 in
set_option maxRecDepth 100000 in
theorem cX4_addCallers (l : Launch) (D : va_G) (cA : Nat → ClassId) (t0 : Nat) (v1 : Int32) (v2 : Int32) (h : Hp) (_u : Unit) (h9 : Hp) (hf : fX4_addCallers t0 v1 v2 h = some (_u, h9)) : hp_M l yX4_addCallers prog_6_method_3_code 3 none rmX4_addCallers D cA h [.ref t0, .int v1, .int v2] (hp_Qv D cA h h9) := by
  refine Met.ofW (cc := prog_6_method_3_code) (maxL := 3) (ret := none) (by decide) rfl ?_
  intro p e s m args below meth c s₁ B hml hv
  obtain ⟨rfl, hU⟩ := hv
  have hts := atoms_spec (ws := Cond.code yX4_addCallers prog_6_method_3_code 3 none :: tbG) B.pre
  have hl := lv_entry ([.ref t0, .int v1, .int v2]) (n := 3) (Nat.le_of_ble_eq_true rfl)
  rw [lg_entry_eq]
  generalize (lg_sl ([.ref t0, .int v1, .int v2]) ++ List.replicate (3 - (lg_sl ([.ref t0, .int v1, .int v2])).length) Slot.unset).toArray = ls at hl ⊢
  exact tX4_addCallers_0 ⟨B.exec, B.bytes, hml, findClass_of_methodNamed B.named, fun w hw => hts w (List.mem_cons_of_mem _ hw)⟩ B.returns B.notSynchronized t0 v1 v2 h _ _ _ (hp_B.entry hU) hl hf
section
variable {p : Program} {l : Launch} {e : Env} {R : Room} {s : State} {m : MethodId} {args : Array Value} {below : List Frame} {meth : Method} {c : Code} {H : Heap} {locs : List Loc} {cells slots : Nat} {Q : State → Prop}
variable {cc : ByteArray} {pc nL : Nat} {ls : Array Slot} {rest : List Value} {D : va_G} {cA : Nat → ClassId} {A : Nat → Prop} {a : Nat} {h : Hp}
theorem gf_X4_40 (cx : CallFix p m c cc nL s args tbG RX4) (hB : hp_B D cA A s h H locs) (hka : h.1 a = 6) {b : Nat} (ho : h.2.2.2.1 a 5 = some b) (hdg : decode cc pc = .ok (.getfield 40, 3)) (kk : W p l e R s m args below meth c H locs cells slots Q (F0 m (pc + 3) ls (.ref b :: rest))) : W p l e R s m args below meth c H locs cells slots Q (F0 m pc ls (.ref a :: rest)) :=
  hp_getR cx hB (ci := 5) 5 rfl inX5 (by decide) rfl (by decide) rfl qw_266 hka (o := some b) ho.symm hdg kk
theorem gf_X4_43 (cx : CallFix p m c cc nL s args tbG RX4) (hB : hp_B D cA A s h H locs) (hka : h.1 a = 4) (hdg : decode cc pc = .ok (.getfield 43, 3)) (kk : W p l e R s m args below meth c H locs cells slots Q (F0 m (pc + 3) ls (.int (h.2.2.1 a 0) :: rest))) : W p l e R s m args below meth c H locs cells slots Q (F0 m pc ls (.ref a :: rest)) :=
  hp_getI cx hB (ci := 3) 0 rfl inX3 (by decide) rfl (by decide) rfl qw_337 hka hdg kk
end
abbrev yX4_goesAhead : MethodName := ⟨"SpokenMenus$Ordering", "goesAhead", "(LSpokenMenus$Place;II)Z"⟩
theorem dX4_goesAhead_0 : decode prog_6_method_8_code 0 = .ok (.aload_n 1, 1) := by decide +kernel
theorem dX4_goesAhead_1 : decode prog_6_method_8_code 1 = .ok (.getfield 40, 3) := by decide +kernel
theorem dX4_goesAhead_4 : decode prog_6_method_8_code 4 = .ok (.iload_n 2, 1) := by decide +kernel
theorem dX4_goesAhead_5 : decode prog_6_method_8_code 5 = .ok (.aaload, 1) := by decide +kernel
theorem dX4_goesAhead_6 : decode prog_6_method_8_code 6 = .ok (.getfield 43, 3) := by decide +kernel
theorem dX4_goesAhead_9 : decode prog_6_method_8_code 9 = .ok (.aload_n 0, 1) := by decide +kernel
theorem dX4_goesAhead_10 : decode prog_6_method_8_code 10 = .ok (.getfield 9, 3) := by decide +kernel
theorem dX4_goesAhead_13 : decode prog_6_method_8_code 13 = .ok (.iload_n 3, 1) := by decide +kernel
theorem dX4_goesAhead_14 : decode prog_6_method_8_code 14 = .ok (.iaload, 1) := by decide +kernel
theorem dX4_goesAhead_15 : decode prog_6_method_8_code 15 = .ok (.imul, 1) := by decide +kernel
theorem dX4_goesAhead_16 : decode prog_6_method_8_code 16 = .ok (.aload_n 1, 1) := by decide +kernel
theorem dX4_goesAhead_17 : decode prog_6_method_8_code 17 = .ok (.getfield 40, 3) := by decide +kernel
theorem dX4_goesAhead_20 : decode prog_6_method_8_code 20 = .ok (.iload_n 3, 1) := by decide +kernel
theorem dX4_goesAhead_21 : decode prog_6_method_8_code 21 = .ok (.aaload, 1) := by decide +kernel
theorem dX4_goesAhead_22 : decode prog_6_method_8_code 22 = .ok (.getfield 43, 3) := by decide +kernel
theorem dX4_goesAhead_25 : decode prog_6_method_8_code 25 = .ok (.aload_n 0, 1) := by decide +kernel
theorem dX4_goesAhead_26 : decode prog_6_method_8_code 26 = .ok (.getfield 9, 3) := by decide +kernel
theorem dX4_goesAhead_29 : decode prog_6_method_8_code 29 = .ok (.iload_n 2, 1) := by decide +kernel
theorem dX4_goesAhead_30 : decode prog_6_method_8_code 30 = .ok (.iaload, 1) := by decide +kernel
theorem dX4_goesAhead_31 : decode prog_6_method_8_code 31 = .ok (.imul, 1) := by decide +kernel
theorem dX4_goesAhead_32 : decode prog_6_method_8_code 32 = .ok (.if_icmp .ge 7, 3) := by decide +kernel
theorem dX4_goesAhead_35 : decode prog_6_method_8_code 35 = .ok (.iconst 1, 1) := by decide +kernel
theorem dX4_goesAhead_36 : decode prog_6_method_8_code 36 = .ok (.goto 4, 3) := by decide +kernel
theorem dX4_goesAhead_39 : decode prog_6_method_8_code 39 = .ok (.iconst 0, 1) := by decide +kernel
theorem dX4_goesAhead_40 : decode prog_6_method_8_code 40 = .ok (.ireturn, 1) := by decide +kernel
abbrev rmX4_goesAhead : Room := { frames := 0, cells := 0, slots := 0, locals := 0 }
def fX4_goesAhead  (t0 : Nat) (w1 : Option Nat) (v2 : Int32) (v3 : Int32) (h : Hp) : Option (Int32 × Hp) :=
  bd w1 fun a1 =>
  gk (h.1 a1) 6 <|
  bd (h.2.2.2.1 a1 5) fun a3 =>
  gk (h.1 a3) 16 <|
  gd (ix v2 (h.2.1 a3)) <|
  bd (h.2.2.2.1 a3 (Int32.toNatClampNeg v2)) fun a7 =>
  gk (h.1 a7) 4 <|
  gk (h.1 t0) 5 <|
  bd (h.2.2.2.1 t0 0) fun a11 =>
  gk (h.1 a11) 13 <|
  gd (ix v3 (h.2.1 a11)) <|
  gd (ix v3 (h.2.1 a3)) <|
  bd (h.2.2.2.1 a3 (Int32.toNatClampNeg v3)) fun a16 =>
  gk (h.1 a16) 4 <|
  gd (ix v2 (h.2.1 a11)) <|
  if ((h.2.2.1 a16 0) * (h.2.2.1 a11 (Int32.toNatClampNeg v2))) ≤ ((h.2.2.1 a7 0) * (h.2.2.1 a11 (Int32.toNatClampNeg v3))) then
  (some (0, h))
  else
  (some (1, h))
section
variable {p : Program} {l : Launch} {e : Env} {s : State} {m : MethodId} {args : Array Value} {below : List Frame} {meth : Method} {c : Code} {D : va_G} {cA : Nat → ClassId} {h0 h9 : Hp}
set_option maxHeartbeats 4000000 in
set_option maxRecDepth 100000 in
theorem tX4_goesAhead_0  {r : Int32} (cx : CallFix p m c prog_6_method_8_code 4 s args tbG RX4) (hr : meth.sig.returnType = (Option.some FieldType.boolean)) (hlk : meth.locks = false)  (t0 : Nat) (w1 : Option Nat) (v2 : Int32) (v3 : Int32) (h : Hp) (H : Heap) (locs : List Loc) (ls : Array Slot) (hB : hp_B D cA (hp_A h0) s h H locs) (hl : lv_has ls 4 [(0, .ref t0), (1, va_rf w1), (2, .int v2), (3, .int v3)]) (hf : fX4_goesAhead  t0 w1 v2 v3 h = some (r, h9)) : W p l e rmX4_goesAhead s m args below meth c H locs 0 0 (MQ below (hp_Qi D cA h0 h9 r) args s 0 0 (hp_A h0)) (F0 m 0 ls []) := by
  obtain ⟨hx, hb, -⟩ := id cx
  unfold fX4_goesAhead at hf
  refine lq_aload_n hx hb dX4_goesAhead_0 rfl (lv_at hl 1 rfl) ?_
  obtain ⟨a1, eo, hf⟩ := bd_ok hf
  subst eo
  obtain ⟨k2, hf⟩ := gk_ok hf
  obtain ⟨a3, q4, hf⟩ := bd_ok hf
  refine gf_X4_40 cx hB k2 q4 dX4_goesAhead_1 ?_
  refine lv_iload_n hx hb dX4_goesAhead_4 rfl (lv_at hl 2 rfl) ?_
  obtain ⟨k5, hf⟩ := gk_ok hf
  obtain ⟨j6, hf⟩ := gd_ok hf
  obtain ⟨a7, q8, hf⟩ := bd_ok hf
  refine hp_aald cx hB 16 (.object RX3) (by decide) rfl rfl k5 j6 (o := some a7) q8.symm dX4_goesAhead_5 ?_
  obtain ⟨k9, hf⟩ := gk_ok hf
  refine gf_X4_43 cx hB k9 dX4_goesAhead_6 ?_
  refine lv_aload_n hx hb dX4_goesAhead_9 rfl (lv_at hl 0 rfl) ?_
  obtain ⟨k10, hf⟩ := gk_ok hf
  obtain ⟨a11, q12, hf⟩ := bd_ok hf
  refine gf_X4_9 cx hB k10 q12 dX4_goesAhead_10 ?_
  refine lv_iload_n hx hb dX4_goesAhead_13 rfl (lv_at hl 3 rfl) ?_
  obtain ⟨k13, hf⟩ := gk_ok hf
  obtain ⟨j14, hf⟩ := gd_ok hf
  refine hp_iald cx hB k13 j14 dX4_goesAhead_14 ?_
  refine lv_imul hx hb dX4_goesAhead_15 ?_
  refine lv_aload_n hx hb dX4_goesAhead_16 rfl (lv_at hl 1 rfl) ?_
  refine gf_X4_40 cx hB k2 q4 dX4_goesAhead_17 ?_
  refine lv_iload_n hx hb dX4_goesAhead_20 rfl (lv_at hl 3 rfl) ?_
  obtain ⟨j15, hf⟩ := gd_ok hf
  obtain ⟨a16, q17, hf⟩ := bd_ok hf
  refine hp_aald cx hB 16 (.object RX3) (by decide) rfl rfl k5 j15 (o := some a16) q17.symm dX4_goesAhead_21 ?_
  obtain ⟨k18, hf⟩ := gk_ok hf
  refine gf_X4_43 cx hB k18 dX4_goesAhead_22 ?_
  refine lv_aload_n hx hb dX4_goesAhead_25 rfl (lv_at hl 0 rfl) ?_
  refine gf_X4_9 cx hB k10 q12 dX4_goesAhead_26 ?_
  refine lv_iload_n hx hb dX4_goesAhead_29 rfl (lv_at hl 2 rfl) ?_
  obtain ⟨j19, hf⟩ := gd_ok hf
  refine hp_iald cx hB k13 j19 dX4_goesAhead_30 ?_
  refine lv_imul hx hb dX4_goesAhead_31 ?_
  refine lv_icmp_ge (tgt := 39) hx hb dX4_goesAhead_32 (by decide) (fun c20 => ?_) (fun c20 => ?_)
  · replace hf := it_t c20 hf
    refine lv_iconst (v := 0) hx hb dX4_goesAhead_39 (by decide) ?_
    obtain ⟨rfl, rfl⟩ := rt_ok hf
    exact hp_zret cx hB hr hlk (Nat.le_of_ble_eq_true rfl) (Nat.le_of_ble_eq_true rfl) rfl dX4_goesAhead_40
  · replace hf := it_f c20 hf
    refine lv_iconst (v := 1) hx hb dX4_goesAhead_35 (by decide) ?_
    refine lv_goto (tgt := 40) hx hb dX4_goesAhead_36 (by decide) ?_
    obtain ⟨rfl, rfl⟩ := rt_ok hf
    exact hp_zret cx hB hr hlk (Nat.le_of_ble_eq_true rfl) (Nat.le_of_ble_eq_true rfl) rfl dX4_goesAhead_40
end
set_option maxHeartbeats 4000000 in
set_option maxRecDepth 100000 in
theorem cX4_goesAhead (l : Launch) (D : va_G) (cA : Nat → ClassId) (t0 : Nat) (w1 : Option Nat) (v2 : Int32) (v3 : Int32) (h : Hp) (r : Int32) (h9 : Hp) (hf : fX4_goesAhead t0 w1 v2 v3 h = some (r, h9)) : hp_M l yX4_goesAhead prog_6_method_8_code 4 (Option.some FieldType.boolean) rmX4_goesAhead D cA h [.ref t0, va_rf w1, .int v2, .int v3] (hp_Qi D cA h h9 r) := by
  refine Met.ofW (cc := prog_6_method_8_code) (maxL := 4) (ret := (Option.some FieldType.boolean)) (by decide) rfl ?_
  intro p e s m args below meth c s₁ B hml hv
  obtain ⟨rfl, hU⟩ := hv
  have hts := atoms_spec (ws := Cond.code yX4_goesAhead prog_6_method_8_code 4 (Option.some FieldType.boolean) :: tbG) B.pre
  have hl := lv_entry ([.ref t0, va_rf w1, .int v2, .int v3]) (n := 4) (by simp [lg_sl, va_rf_cat, cat_i, cat_r, cat_n])
  rw [show lv_args 0 ([.ref t0, va_rf w1, .int v2, .int v3]) = [(0, .ref t0), (1, va_rf w1), (2, .int v2), (3, .int v3)] by simp [lv_args, va_rf_cat, cat_i, cat_r, cat_n]] at hl
  rw [lg_entry_eq]
  generalize (lg_sl ([.ref t0, va_rf w1, .int v2, .int v3]) ++ List.replicate (4 - (lg_sl ([.ref t0, va_rf w1, .int v2, .int v3])).length) Slot.unset).toArray = ls at hl ⊢
  exact tX4_goesAhead_0 ⟨B.exec, B.bytes, hml, findClass_of_methodNamed B.named, fun w hw => hts w (List.mem_cons_of_mem _ hw)⟩ B.returns B.notSynchronized t0 w1 v2 v3 h _ _ _ (hp_B.entry hU) hl hf
section
variable {p : Program} {l : Launch} {e : Env} {R : Room} {s : State} {m : MethodId} {args : Array Value} {below : List Frame} {meth : Method} {c : Code} {H : Heap} {locs : List Loc} {cells slots : Nat} {Q : State → Prop}
variable {cc : ByteArray} {pc nL : Nat} {ls : Array Slot} {rest : List Value} {D : va_G} {cA : Nat → ClassId} {A : Nat → Prop} {a : Nat} {h : Hp}
theorem gf_X4_30 (cx : CallFix p m c cc nL s args tbG RX4) (hB : hp_B D cA A s h H locs) (hka : h.1 a = 6) (hdg : decode cc pc = .ok (.getfield 30, 3)) (kk : W p l e R s m args below meth c H locs cells slots Q (F0 m (pc + 3) ls (.int (h.2.2.1 a 6) :: rest))) : W p l e R s m args below meth c H locs cells slots Q (F0 m pc ls (.ref a :: rest)) :=
  hp_getI cx hB (ci := 5) 6 rfl inX5 (by decide) rfl (by decide) rfl qw_272 hka hdg kk
theorem gf_X4_15 (cx : CallFix p m c cc nL s args tbG RX4) (hB : hp_B D cA A s h H locs) (hka : h.1 a = 5) {b : Nat} (ho : h.2.2.2.1 a 1 = some b) (hdg : decode cc pc = .ok (.getfield 15, 3)) (kk : W p l e R s m args below meth c H locs cells slots Q (F0 m (pc + 3) ls (.ref b :: rest))) : W p l e R s m args below meth c H locs cells slots Q (F0 m pc ls (.ref a :: rest)) :=
  hp_getR cx hB (ci := 4) 1 rfl inX4 (by decide) rfl (by decide) rfl qw_99 hka (o := some b) ho.symm hdg kk
theorem cl_X4_36 {As st0 : List Value} {b : Nat} {Qc : Array Value → State → Outcome → State → Prop} (cx : CallFix p m c cc nL s args tbG RX4) (hB : hp_B D cA A s h H locs) (hM : hp_M l yX4_goesAhead prog_6_method_8_code 4 (Option.some FieldType.boolean) rmX4_goesAhead D cA h (.ref b :: As) Qc) (hkb : h.1 b = 5) (hR : rmX4_goesAhead.frames + 1 ≤ R.frames ∧ 8 + (4 + 11) + rmX4_goesAhead.locals ≤ R.locals) (hn : As.length = 3) (hls : ls.size = nL) (hst : st0 = As.reverse ++ .ref b :: rest) (hW : (rest.map fun v => v.category).sum ≤ 8) (hf : cells + rmX4_goesAhead.cells ≤ R.cells ∧ slots + rmX4_goesAhead.slots ≤ R.slots) (hdg : decode cc pc = .ok (.invokevirtual 36, 3)) :
    va_Run p l e R s m args below meth c H locs cells slots rmX4_goesAhead.cells rmX4_goesAhead.slots (F0 m pc ls st0) rest (Qc (Value.ref b :: As).toArray) (hp_A h) :=
  hp_runV cx hB hM (ci := 4) rfl (by decide) hkb qw_666 qw_663 qw_665 qp_12 qw_6 (by decide +kernel) hR hn hls hst hW hf hdg
end
abbrev yX4_sort : MethodName := ⟨"SpokenMenus$Ordering", "sort", "(LSpokenMenus$Place;)V"⟩
theorem dX4_sort_0 : decode prog_6_method_4_code 0 = .ok (.iconst 0, 1) := by decide +kernel
theorem dX4_sort_1 : decode prog_6_method_4_code 1 = .ok (.istore_n 2, 1) := by decide +kernel
theorem dX4_sort_2 : decode prog_6_method_4_code 2 = .ok (.iload_n 2, 1) := by decide +kernel
theorem dX4_sort_3 : decode prog_6_method_4_code 3 = .ok (.aload_n 1, 1) := by decide +kernel
theorem dX4_sort_4 : decode prog_6_method_4_code 4 = .ok (.getfield 30, 3) := by decide +kernel
theorem dX4_sort_7 : decode prog_6_method_4_code 7 = .ok (.if_icmp .ge 59, 3) := by decide +kernel
theorem dX4_sort_10 : decode prog_6_method_4_code 10 = .ok (.iload_n 2, 1) := by decide +kernel
theorem dX4_sort_11 : decode prog_6_method_4_code 11 = .ok (.istore_n 3, 1) := by decide +kernel
theorem dX4_sort_12 : decode prog_6_method_4_code 12 = .ok (.iload_n 3, 1) := by decide +kernel
theorem dX4_sort_13 : decode prog_6_method_4_code 13 = .ok (.ifCond .le 40, 3) := by decide +kernel
theorem dX4_sort_16 : decode prog_6_method_4_code 16 = .ok (.aload_n 0, 1) := by decide +kernel
theorem dX4_sort_17 : decode prog_6_method_4_code 17 = .ok (.aload_n 1, 1) := by decide +kernel
theorem dX4_sort_18 : decode prog_6_method_4_code 18 = .ok (.iload_n 2, 1) := by decide +kernel
theorem dX4_sort_19 : decode prog_6_method_4_code 19 = .ok (.aload_n 0, 1) := by decide +kernel
theorem dX4_sort_20 : decode prog_6_method_4_code 20 = .ok (.getfield 15, 3) := by decide +kernel
theorem dX4_sort_23 : decode prog_6_method_4_code 23 = .ok (.iload_n 3, 1) := by decide +kernel
theorem dX4_sort_24 : decode prog_6_method_4_code 24 = .ok (.iconst 1, 1) := by decide +kernel
theorem dX4_sort_25 : decode prog_6_method_4_code 25 = .ok (.isub, 1) := by decide +kernel
theorem dX4_sort_26 : decode prog_6_method_4_code 26 = .ok (.iaload, 1) := by decide +kernel
theorem dX4_sort_27 : decode prog_6_method_4_code 27 = .ok (.invokevirtual 36, 3) := by decide +kernel
theorem dX4_sort_30 : decode prog_6_method_4_code 30 = .ok (.ifCond .eq 23, 3) := by decide +kernel
theorem dX4_sort_33 : decode prog_6_method_4_code 33 = .ok (.aload_n 0, 1) := by decide +kernel
theorem dX4_sort_34 : decode prog_6_method_4_code 34 = .ok (.getfield 15, 3) := by decide +kernel
theorem dX4_sort_37 : decode prog_6_method_4_code 37 = .ok (.iload_n 3, 1) := by decide +kernel
theorem dX4_sort_38 : decode prog_6_method_4_code 38 = .ok (.aload_n 0, 1) := by decide +kernel
theorem dX4_sort_39 : decode prog_6_method_4_code 39 = .ok (.getfield 15, 3) := by decide +kernel
theorem dX4_sort_42 : decode prog_6_method_4_code 42 = .ok (.iload_n 3, 1) := by decide +kernel
theorem dX4_sort_43 : decode prog_6_method_4_code 43 = .ok (.iconst 1, 1) := by decide +kernel
theorem dX4_sort_44 : decode prog_6_method_4_code 44 = .ok (.isub, 1) := by decide +kernel
theorem dX4_sort_45 : decode prog_6_method_4_code 45 = .ok (.iaload, 1) := by decide +kernel
theorem dX4_sort_46 : decode prog_6_method_4_code 46 = .ok (.iastore, 1) := by decide +kernel
theorem dX4_sort_47 : decode prog_6_method_4_code 47 = .ok (.iinc 3 (-1), 3) := by decide +kernel
theorem dX4_sort_50 : decode prog_6_method_4_code 50 = .ok (.goto (-38), 3) := by decide +kernel
theorem dX4_sort_53 : decode prog_6_method_4_code 53 = .ok (.aload_n 0, 1) := by decide +kernel
theorem dX4_sort_54 : decode prog_6_method_4_code 54 = .ok (.getfield 15, 3) := by decide +kernel
theorem dX4_sort_57 : decode prog_6_method_4_code 57 = .ok (.iload_n 3, 1) := by decide +kernel
theorem dX4_sort_58 : decode prog_6_method_4_code 58 = .ok (.iload_n 2, 1) := by decide +kernel
theorem dX4_sort_59 : decode prog_6_method_4_code 59 = .ok (.iastore, 1) := by decide +kernel
theorem dX4_sort_60 : decode prog_6_method_4_code 60 = .ok (.iinc 2 1, 3) := by decide +kernel
theorem dX4_sort_63 : decode prog_6_method_4_code 63 = .ok (.goto (-61), 3) := by decide +kernel
theorem dX4_sort_66 : decode prog_6_method_4_code 66 = .ok (.return_, 1) := by decide +kernel
abbrev rmX4_sort : Room := { frames := 1, cells := 0, slots := 0, locals := 23 }
def bX4_sort_12 (rc2 : Nat → Option Nat → Int32 → Hp → Option (Unit × Hp)) (rc : Nat → Nat → Int32 → Int32 → Hp → Option (Unit × Hp)) (t0 : Nat) (t1 : Nat) (v2 : Int32) (v3 : Int32) (h : Hp) : Option (Unit × Hp) :=
  if v3 ≤ 0 then
  (gk (h.1 t0) 5 <|
  bd (h.2.2.2.1 t0 1) fun a3 =>
  gk (h.1 a3) 13 <|
  gd (ix v3 (h.2.1 a3)) <|
  nm (hp_si h a3 (Int32.toNatClampNeg v3) v2) fun g7 =>
  nm (v2 + 1) fun x8 =>
  rc2 t0 (some t1) x8 g7)
  else
  (gk (h.1 t0) 5 <|
  bd (h.2.2.2.1 t0 1) fun a10 =>
  gk (h.1 a10) 13 <|
  gd (ix (v3 - 1) (h.2.1 a10)) <|
  b2 (fX4_goesAhead t0 (some t1) v2 (h.2.2.1 a10 (Int32.toNatClampNeg (v3 - 1))) h) fun r16 g14 =>
  if r16 = 0 then
  (gk (g14.1 t0) 5 <|
  bd (g14.2.2.2.1 t0 1) fun a20 =>
  gk (g14.1 a20) 13 <|
  gd (ix v3 (g14.2.1 a20)) <|
  nm (hp_si g14 a20 (Int32.toNatClampNeg v3) v2) fun g24 =>
  nm (v2 + 1) fun x25 =>
  rc2 t0 (some t1) x25 g24)
  else
  (gk (g14.1 t0) 5 <|
  bd (g14.2.2.2.1 t0 1) fun a27 =>
  gk (g14.1 a27) 13 <|
  gd (ix (v3 - 1) (g14.2.1 a27)) <|
  gd (ix v3 (g14.2.1 a27)) <|
  nm (hp_si g14 a27 (Int32.toNatClampNeg v3) (g14.2.2.1 a27 (Int32.toNatClampNeg (v3 - 1)))) fun g32 =>
  nm (v3 + (-1)) fun x33 =>
  rc t0 t1 v2 x33 g32))
def fX4_sort_12 (rc2 : Nat → Option Nat → Int32 → Hp → Option (Unit × Hp)) : Nat → Nat → Int32 → Int32 → Hp → Option (Unit × Hp) := fx (bX4_sort_12 rc2) (fun _ _ _ _ _ => none) NF
def bX4_sort_2  (rc : Nat → Option Nat → Int32 → Hp → Option (Unit × Hp)) (t0 : Nat) (w1 : Option Nat) (v2 : Int32) (h : Hp) : Option (Unit × Hp) :=
  bd w1 fun a1 =>
  gk (h.1 a1) 6 <|
  if (h.2.2.1 a1 6) ≤ v2 then
  (some ((), h))
  else
  (fX4_sort_12 rc t0 a1 v2 v2 h)
def fX4_sort_2  : Nat → Option Nat → Int32 → Hp → Option (Unit × Hp) := fx (bX4_sort_2 ) (fun _ _ _ _ => none) NF
def fX4_sort  (t0 : Nat) (w1 : Option Nat) (h : Hp) : Option (Unit × Hp) :=
  fX4_sort_2  t0 w1 0 h
section
variable {p : Program} {l : Launch} {e : Env} {s : State} {m : MethodId} {args : Array Value} {below : List Frame} {meth : Method} {c : Code} {D : va_G} {cA : Nat → ClassId} {h0 h9 : Hp}
set_option maxHeartbeats 4000000 in
set_option maxRecDepth 100000 in
theorem tX4_sort_12 {rc2 : Nat → Option Nat → Int32 → Hp → Option (Unit × Hp)} (cx : CallFix p m c prog_6_method_4_code 4 s args tbG RX4) (hr : meth.sig.returnType = none) (hlk : meth.locks = false) (hr2 : ∀ (t0 : Nat) (w1 : Option Nat) (v2 : Int32) (h : Hp) (H : Heap) (locs : List Loc) (ls : Array Slot), hp_B D cA (hp_A h0) s h H locs → lv_has ls 4 [(0, .ref t0), (1, va_rf w1), (2, .int v2)] → rc2 t0 w1 v2 h = some ((), h9) → W p l e rmX4_sort s m args below meth c H locs 0 0 (MQ below (hp_Qv D cA h0 h9) args s 0 0 (hp_A h0)) (F0 m 2 ls [])) (n : Nat) : ∀ (t0 : Nat) (t1 : Nat) (v2 : Int32) (v3 : Int32) (h : Hp) (H : Heap) (locs : List Loc) (ls : Array Slot), hp_B D cA (hp_A h0) s h H locs → lv_has ls 4 [(0, .ref t0), (1, .ref t1), (2, .int v2), (3, .int v3)] → fx (bX4_sort_12 rc2) (fun _ _ _ _ _ => none) n t0 t1 v2 v3 h = some ((), h9) → W p l e rmX4_sort s m args below meth c H locs 0 0 (MQ below (hp_Qv D cA h0 h9) args s 0 0 (hp_A h0)) (F0 m 12 ls []) := by
  obtain ⟨hx, hb, -⟩ := id cx
  induction n with
  | zero => intro t0 t1 v2 v3 h H locs ls hB hl hf; cases hf
  | succ n ih =>
    intro t0 t1 v2 v3 h H locs ls hB hl hf
    replace hf : bX4_sort_12 rc2 (fx (bX4_sort_12 rc2) (fun _ _ _ _ _ => none) n) t0 t1 v2 v3 h = some ((), h9) := hf
    unfold bX4_sort_12 at hf
    refine lv_iload_n hx hb dX4_sort_12 rfl (lv_at hl 3 rfl) ?_
    refine lv_if_le (tgt := 53) hx hb dX4_sort_13 (by decide) (fun c1 => ?_) (fun c1 => ?_)
    · replace hf := it_t c1 hf
      refine lv_aload_n hx hb dX4_sort_53 rfl (lv_at hl 0 rfl) ?_
      obtain ⟨k2, hf⟩ := gk_ok hf
      obtain ⟨a3, q4, hf⟩ := bd_ok hf
      refine gf_X4_15 cx hB k2 q4 dX4_sort_54 ?_
      refine lv_iload_n hx hb dX4_sort_57 rfl (lv_at hl 3 rfl) ?_
      refine lv_iload_n hx hb dX4_sort_58 rfl (lv_at hl 2 rfl) ?_
      obtain ⟨k5, hf⟩ := gk_ok hf
      obtain ⟨j6, hf⟩ := gd_ok hf
      obtain ⟨g7, eg7, hf⟩ := nm_ok hf
      refine hp_iast cx hB k5 j6 dX4_sort_59 (fun H locs hB => ?_)
      rw [← eg7] at hB
      obtain ⟨x8, ex8, hf⟩ := nm_ok hf
      refine lv_iinc (v := x8) (lv' := [(2, .int x8), (0, .ref t0), (1, .ref t1), (3, .int v3)]) hx hb dX4_sort_60 hl (k := 2) rfl (by rw [ex8]; rfl) (by decide) rfl (fun ls hl => ?_)
      refine lv_goto (tgt := 2) hx hb dX4_sort_63 (by decide) ?_
      exact hr2 t0 (some t1) x8 g7 _ _ _ hB (lv_sub hl [1, 2, 0] rfl) hf
    · replace hf := it_f c1 hf
      refine lv_aload_n hx hb dX4_sort_16 rfl (lv_at hl 0 rfl) ?_
      refine lv_aload_n hx hb dX4_sort_17 rfl (lv_at hl 1 rfl) ?_
      refine lv_iload_n hx hb dX4_sort_18 rfl (lv_at hl 2 rfl) ?_
      refine lv_aload_n hx hb dX4_sort_19 rfl (lv_at hl 0 rfl) ?_
      obtain ⟨k9, hf⟩ := gk_ok hf
      obtain ⟨a10, q11, hf⟩ := bd_ok hf
      refine gf_X4_15 cx hB k9 q11 dX4_sort_20 ?_
      refine lv_iload_n hx hb dX4_sort_23 rfl (lv_at hl 3 rfl) ?_
      refine lv_iconst (v := 1) hx hb dX4_sort_24 (by decide) ?_
      refine lv_isub hx hb dX4_sort_25 ?_
      obtain ⟨k12, hf⟩ := gk_ok hf
      obtain ⟨j13, hf⟩ := gd_ok hf
      refine hp_iald cx hB k12 j13 dX4_sort_26 ?_
      obtain ⟨r16, g14, m15, hf⟩ := b2_ok hf
      refine hp_cI0 (cl_X4_36 cx hB (cX4_goesAhead l D cA t0 (some t1) v2 (h.2.2.1 a10 (Int32.toNatClampNeg (v3 - 1))) h _ g14 m15) k9 ⟨Nat.le_of_ble_eq_true rfl, Nat.le_of_ble_eq_true rfl⟩ rfl hl.1 rfl (Nat.le_of_ble_eq_true rfl) ⟨Nat.le_of_ble_eq_true rfl, Nat.le_of_ble_eq_true rfl⟩ dX4_sort_27) rfl rfl hB (fun H locs hB => ?_)
      refine lv_if_eq (tgt := 53) hx hb dX4_sort_30 (by decide) (fun c18 => ?_) (fun c18 => ?_)
      · replace hf := it_t c18 hf
        refine lv_aload_n hx hb dX4_sort_53 rfl (lv_at hl 0 rfl) ?_
        obtain ⟨k19, hf⟩ := gk_ok hf
        obtain ⟨a20, q21, hf⟩ := bd_ok hf
        refine gf_X4_15 cx hB k19 q21 dX4_sort_54 ?_
        refine lv_iload_n hx hb dX4_sort_57 rfl (lv_at hl 3 rfl) ?_
        refine lv_iload_n hx hb dX4_sort_58 rfl (lv_at hl 2 rfl) ?_
        obtain ⟨k22, hf⟩ := gk_ok hf
        obtain ⟨j23, hf⟩ := gd_ok hf
        obtain ⟨g24, eg24, hf⟩ := nm_ok hf
        refine hp_iast cx hB k22 j23 dX4_sort_59 (fun H locs hB => ?_)
        rw [← eg24] at hB
        obtain ⟨x25, ex25, hf⟩ := nm_ok hf
        refine lv_iinc (v := x25) (lv' := [(2, .int x25), (0, .ref t0), (1, .ref t1), (3, .int v3)]) hx hb dX4_sort_60 hl (k := 2) rfl (by rw [ex25]; rfl) (by decide) rfl (fun ls hl => ?_)
        refine lv_goto (tgt := 2) hx hb dX4_sort_63 (by decide) ?_
        exact hr2 t0 (some t1) x25 g24 _ _ _ hB (lv_sub hl [1, 2, 0] rfl) hf
      · replace hf := it_f c18 hf
        refine lv_aload_n hx hb dX4_sort_33 rfl (lv_at hl 0 rfl) ?_
        obtain ⟨k26, hf⟩ := gk_ok hf
        obtain ⟨a27, q28, hf⟩ := bd_ok hf
        refine gf_X4_15 cx hB k26 q28 dX4_sort_34 ?_
        refine lv_iload_n hx hb dX4_sort_37 rfl (lv_at hl 3 rfl) ?_
        refine lv_aload_n hx hb dX4_sort_38 rfl (lv_at hl 0 rfl) ?_
        refine gf_X4_15 cx hB k26 q28 dX4_sort_39 ?_
        refine lv_iload_n hx hb dX4_sort_42 rfl (lv_at hl 3 rfl) ?_
        refine lv_iconst (v := 1) hx hb dX4_sort_43 (by decide) ?_
        refine lv_isub hx hb dX4_sort_44 ?_
        obtain ⟨k29, hf⟩ := gk_ok hf
        obtain ⟨j30, hf⟩ := gd_ok hf
        refine hp_iald cx hB k29 j30 dX4_sort_45 ?_
        obtain ⟨j31, hf⟩ := gd_ok hf
        obtain ⟨g32, eg32, hf⟩ := nm_ok hf
        refine hp_iast cx hB k29 j31 dX4_sort_46 (fun H locs hB => ?_)
        rw [← eg32] at hB
        obtain ⟨x33, ex33, hf⟩ := nm_ok hf
        refine lv_iinc (v := x33) (lv' := [(3, .int x33), (0, .ref t0), (1, .ref t1), (2, .int v2)]) hx hb dX4_sort_47 hl (k := 3) rfl (by rw [ex33]; rfl) (by decide) rfl (fun ls hl => ?_)
        refine lv_goto (tgt := 12) hx hb dX4_sort_50 (by decide) ?_
        exact ih t0 t1 v2 x33 g32 _ _ _ hB (lv_sub hl [1, 2, 3, 0] rfl) hf
set_option maxHeartbeats 4000000 in
set_option maxRecDepth 100000 in
theorem tX4_sort_2  (cx : CallFix p m c prog_6_method_4_code 4 s args tbG RX4) (hr : meth.sig.returnType = none) (hlk : meth.locks = false)  (n : Nat) : ∀ (t0 : Nat) (w1 : Option Nat) (v2 : Int32) (h : Hp) (H : Heap) (locs : List Loc) (ls : Array Slot), hp_B D cA (hp_A h0) s h H locs → lv_has ls 4 [(0, .ref t0), (1, va_rf w1), (2, .int v2)] → fx (bX4_sort_2 ) (fun _ _ _ _ => none) n t0 w1 v2 h = some ((), h9) → W p l e rmX4_sort s m args below meth c H locs 0 0 (MQ below (hp_Qv D cA h0 h9) args s 0 0 (hp_A h0)) (F0 m 2 ls []) := by
  obtain ⟨hx, hb, -⟩ := id cx
  induction n with
  | zero => intro t0 w1 v2 h H locs ls hB hl hf; cases hf
  | succ n ih =>
    intro t0 w1 v2 h H locs ls hB hl hf
    replace hf : bX4_sort_2  (fx (bX4_sort_2 ) (fun _ _ _ _ => none) n) t0 w1 v2 h = some ((), h9) := hf
    unfold bX4_sort_2 at hf
    refine lv_iload_n hx hb dX4_sort_2 rfl (lv_at hl 2 rfl) ?_
    refine lq_aload_n hx hb dX4_sort_3 rfl (lv_at hl 1 rfl) ?_
    obtain ⟨a1, eo, hf⟩ := bd_ok hf
    subst eo
    obtain ⟨k2, hf⟩ := gk_ok hf
    refine gf_X4_30 cx hB k2 dX4_sort_4 ?_
    refine lv_icmp_ge (tgt := 66) hx hb dX4_sort_7 (by decide) (fun c3 => ?_) (fun c3 => ?_)
    · replace hf := it_t c3 hf
      obtain ⟨-, rfl⟩ := rt_ok hf
      exact hp_vret cx hB hr hlk (Nat.le_of_ble_eq_true rfl) (Nat.le_of_ble_eq_true rfl) dX4_sort_66
    · replace hf := it_f c3 hf
      refine lv_iload_n hx hb dX4_sort_10 rfl (lv_at hl 2 rfl) ?_
      refine lv_istore_n (lv' := [(3, .int v2), (0, .ref t0), (1, .ref a1), (2, .int v2)]) hx hb dX4_sort_11 rfl hl (by decide) rfl (fun ls hl => ?_)
      exact tX4_sort_12 cx hr hlk ih NF t0 a1 v2 v2 h _ _ _ hB (lv_sub hl [1, 2, 3, 0] rfl) hf
set_option maxHeartbeats 4000000 in
set_option maxRecDepth 100000 in
theorem tX4_sort_0  (cx : CallFix p m c prog_6_method_4_code 4 s args tbG RX4) (hr : meth.sig.returnType = none) (hlk : meth.locks = false)  (t0 : Nat) (w1 : Option Nat) (h : Hp) (H : Heap) (locs : List Loc) (ls : Array Slot) (hB : hp_B D cA (hp_A h0) s h H locs) (hl : lv_has ls 4 [(0, .ref t0), (1, va_rf w1)]) (hf : fX4_sort  t0 w1 h = some ((), h9)) : W p l e rmX4_sort s m args below meth c H locs 0 0 (MQ below (hp_Qv D cA h0 h9) args s 0 0 (hp_A h0)) (F0 m 0 ls []) := by
  obtain ⟨hx, hb, -⟩ := id cx
  unfold fX4_sort at hf
  refine lv_iconst (v := 0) hx hb dX4_sort_0 (by decide) ?_
  refine lv_istore_n (lv' := [(2, .int 0), (0, .ref t0), (1, va_rf w1)]) hx hb dX4_sort_1 rfl hl (by decide) (by cases w1 <;> rfl) (fun ls hl => ?_)
  exact tX4_sort_2 cx hr hlk  NF t0 w1 0 h _ _ _ hB (lv_sub hl [1, 2, 0] rfl) hf
end
set_option maxHeartbeats 4000000 in
set_option maxRecDepth 100000 in
theorem cX4_sort (l : Launch) (D : va_G) (cA : Nat → ClassId) (t0 : Nat) (w1 : Option Nat) (h : Hp) (_u : Unit) (h9 : Hp) (hf : fX4_sort t0 w1 h = some (_u, h9)) : hp_M l yX4_sort prog_6_method_4_code 4 none rmX4_sort D cA h [.ref t0, va_rf w1] (hp_Qv D cA h h9) := by
  refine Met.ofW (cc := prog_6_method_4_code) (maxL := 4) (ret := none) (by decide) rfl ?_
  intro p e s m args below meth c s₁ B hml hv
  obtain ⟨rfl, hU⟩ := hv
  have hts := atoms_spec (ws := Cond.code yX4_sort prog_6_method_4_code 4 none :: tbG) B.pre
  have hl := lv_entry ([.ref t0, va_rf w1]) (n := 4) (by simp [lg_sl, va_rf_cat, cat_i, cat_r, cat_n])
  rw [show lv_args 0 ([.ref t0, va_rf w1]) = [(0, .ref t0), (1, va_rf w1)] by simp [lv_args, va_rf_cat, cat_i, cat_r, cat_n]] at hl
  rw [lg_entry_eq]
  generalize (lg_sl ([.ref t0, va_rf w1]) ++ List.replicate (4 - (lg_sl ([.ref t0, va_rf w1])).length) Slot.unset).toArray = ls at hl ⊢
  exact tX4_sort_0 ⟨B.exec, B.bytes, hml, findClass_of_methodNamed B.named, fun w hw => hts w (List.mem_cons_of_mem _ hw)⟩ B.returns B.notSynchronized t0 w1 h _ _ _ (hp_B.entry hU) hl hf
abbrev yX4_costAsTheyStand : MethodName := ⟨"SpokenMenus$Ordering", "costAsTheyStand", "(LSpokenMenus$Place;)I"⟩
theorem dX4_costAsTheyStand_0 : decode prog_6_method_5_code 0 = .ok (.iconst 0, 1) := by decide +kernel
theorem dX4_costAsTheyStand_1 : decode prog_6_method_5_code 1 = .ok (.istore_n 2, 1) := by decide +kernel
theorem dX4_costAsTheyStand_2 : decode prog_6_method_5_code 2 = .ok (.iconst 0, 1) := by decide +kernel
theorem dX4_costAsTheyStand_3 : decode prog_6_method_5_code 3 = .ok (.istore_n 3, 1) := by decide +kernel
theorem dX4_costAsTheyStand_4 : decode prog_6_method_5_code 4 = .ok (.iconst 0, 1) := by decide +kernel
theorem dX4_costAsTheyStand_5 : decode prog_6_method_5_code 5 = .ok (.istore 4, 2) := by decide +kernel
theorem dX4_costAsTheyStand_7 : decode prog_6_method_5_code 7 = .ok (.iload 4, 2) := by decide +kernel
theorem dX4_costAsTheyStand_9 : decode prog_6_method_5_code 9 = .ok (.aload_n 1, 1) := by decide +kernel
theorem dX4_costAsTheyStand_10 : decode prog_6_method_5_code 10 = .ok (.getfield 30, 3) := by decide +kernel
theorem dX4_costAsTheyStand_13 : decode prog_6_method_5_code 13 = .ok (.if_icmp .ge 34, 3) := by decide +kernel
theorem dX4_costAsTheyStand_16 : decode prog_6_method_5_code 16 = .ok (.iload_n 2, 1) := by decide +kernel
theorem dX4_costAsTheyStand_17 : decode prog_6_method_5_code 17 = .ok (.aload_n 1, 1) := by decide +kernel
theorem dX4_costAsTheyStand_18 : decode prog_6_method_5_code 18 = .ok (.getfield 40, 3) := by decide +kernel
theorem dX4_costAsTheyStand_21 : decode prog_6_method_5_code 21 = .ok (.iload 4, 2) := by decide +kernel
theorem dX4_costAsTheyStand_23 : decode prog_6_method_5_code 23 = .ok (.aaload, 1) := by decide +kernel
theorem dX4_costAsTheyStand_24 : decode prog_6_method_5_code 24 = .ok (.getfield 43, 3) := by decide +kernel
theorem dX4_costAsTheyStand_27 : decode prog_6_method_5_code 27 = .ok (.iadd, 1) := by decide +kernel
theorem dX4_costAsTheyStand_28 : decode prog_6_method_5_code 28 = .ok (.istore_n 2, 1) := by decide +kernel
theorem dX4_costAsTheyStand_29 : decode prog_6_method_5_code 29 = .ok (.iload_n 3, 1) := by decide +kernel
theorem dX4_costAsTheyStand_30 : decode prog_6_method_5_code 30 = .ok (.aload_n 0, 1) := by decide +kernel
theorem dX4_costAsTheyStand_31 : decode prog_6_method_5_code 31 = .ok (.getfield 9, 3) := by decide +kernel
theorem dX4_costAsTheyStand_34 : decode prog_6_method_5_code 34 = .ok (.iload 4, 2) := by decide +kernel
theorem dX4_costAsTheyStand_36 : decode prog_6_method_5_code 36 = .ok (.iaload, 1) := by decide +kernel
theorem dX4_costAsTheyStand_37 : decode prog_6_method_5_code 37 = .ok (.iload_n 2, 1) := by decide +kernel
theorem dX4_costAsTheyStand_38 : decode prog_6_method_5_code 38 = .ok (.imul, 1) := by decide +kernel
theorem dX4_costAsTheyStand_39 : decode prog_6_method_5_code 39 = .ok (.iadd, 1) := by decide +kernel
theorem dX4_costAsTheyStand_40 : decode prog_6_method_5_code 40 = .ok (.istore_n 3, 1) := by decide +kernel
theorem dX4_costAsTheyStand_41 : decode prog_6_method_5_code 41 = .ok (.iinc 4 1, 3) := by decide +kernel
theorem dX4_costAsTheyStand_44 : decode prog_6_method_5_code 44 = .ok (.goto (-37), 3) := by decide +kernel
theorem dX4_costAsTheyStand_47 : decode prog_6_method_5_code 47 = .ok (.iload_n 3, 1) := by decide +kernel
theorem dX4_costAsTheyStand_48 : decode prog_6_method_5_code 48 = .ok (.ireturn, 1) := by decide +kernel
abbrev rmX4_costAsTheyStand : Room := { frames := 0, cells := 0, slots := 0, locals := 0 }
def bX4_costAsTheyStand_7  (rc : Nat → Option Nat → Int32 → Int32 → Int32 → Hp → Option (Int32 × Hp)) (t0 : Nat) (w1 : Option Nat) (v2 : Int32) (v3 : Int32) (v4 : Int32) (h : Hp) : Option (Int32 × Hp) :=
  bd w1 fun a1 =>
  gk (h.1 a1) 6 <|
  if (h.2.2.1 a1 6) ≤ v4 then
  (some (v3, h))
  else
  (bd (h.2.2.2.1 a1 5) fun a4 =>
  gk (h.1 a4) 16 <|
  gd (ix v4 (h.2.1 a4)) <|
  bd (h.2.2.2.1 a4 (Int32.toNatClampNeg v4)) fun a8 =>
  gk (h.1 a8) 4 <|
  nm (v2 + (h.2.2.1 a8 0)) fun x11 =>
  gk (h.1 t0) 5 <|
  bd (h.2.2.2.1 t0 0) fun a13 =>
  gk (h.1 a13) 13 <|
  gd (ix v4 (h.2.1 a13)) <|
  nm (v3 + ((h.2.2.1 a13 (Int32.toNatClampNeg v4)) * x11)) fun x17 =>
  nm (v4 + 1) fun x18 =>
  rc t0 (some a1) x11 x17 x18 h)
def fX4_costAsTheyStand_7  : Nat → Option Nat → Int32 → Int32 → Int32 → Hp → Option (Int32 × Hp) := fx (bX4_costAsTheyStand_7 ) (fun _ _ _ _ _ _ => none) NF
def fX4_costAsTheyStand  (t0 : Nat) (w1 : Option Nat) (h : Hp) : Option (Int32 × Hp) :=
  fX4_costAsTheyStand_7  t0 w1 0 0 0 h
section
variable {p : Program} {l : Launch} {e : Env} {s : State} {m : MethodId} {args : Array Value} {below : List Frame} {meth : Method} {c : Code} {D : va_G} {cA : Nat → ClassId} {h0 h9 : Hp}
set_option maxHeartbeats 4000000 in
set_option maxRecDepth 100000 in
theorem tX4_costAsTheyStand_7  {r : Int32} (cx : CallFix p m c prog_6_method_5_code 5 s args tbG RX4) (hr : meth.sig.returnType = (Option.some FieldType.int)) (hlk : meth.locks = false)  (n : Nat) : ∀ (t0 : Nat) (w1 : Option Nat) (v2 : Int32) (v3 : Int32) (v4 : Int32) (h : Hp) (H : Heap) (locs : List Loc) (ls : Array Slot), hp_B D cA (hp_A h0) s h H locs → lv_has ls 5 [(0, .ref t0), (1, va_rf w1), (2, .int v2), (3, .int v3), (4, .int v4)] → fx (bX4_costAsTheyStand_7 ) (fun _ _ _ _ _ _ => none) n t0 w1 v2 v3 v4 h = some (r, h9) → W p l e rmX4_costAsTheyStand s m args below meth c H locs 0 0 (MQ below (hp_Qi D cA h0 h9 r) args s 0 0 (hp_A h0)) (F0 m 7 ls []) := by
  obtain ⟨hx, hb, -⟩ := id cx
  induction n with
  | zero => intro t0 w1 v2 v3 v4 h H locs ls hB hl hf; cases hf
  | succ n ih =>
    intro t0 w1 v2 v3 v4 h H locs ls hB hl hf
    replace hf : bX4_costAsTheyStand_7  (fx (bX4_costAsTheyStand_7 ) (fun _ _ _ _ _ _ => none) n) t0 w1 v2 v3 v4 h = some (r, h9) := hf
    unfold bX4_costAsTheyStand_7 at hf
    refine lv_iload hx hb dX4_costAsTheyStand_7 (lv_at hl 4 rfl) ?_
    refine lq_aload_n hx hb dX4_costAsTheyStand_9 rfl (lv_at hl 1 rfl) ?_
    obtain ⟨a1, eo, hf⟩ := bd_ok hf
    subst eo
    obtain ⟨k2, hf⟩ := gk_ok hf
    refine gf_X4_30 cx hB k2 dX4_costAsTheyStand_10 ?_
    refine lv_icmp_ge (tgt := 47) hx hb dX4_costAsTheyStand_13 (by decide) (fun c3 => ?_) (fun c3 => ?_)
    · replace hf := it_t c3 hf
      refine lv_iload_n hx hb dX4_costAsTheyStand_47 rfl (lv_at hl 3 rfl) ?_
      obtain ⟨rfl, rfl⟩ := rt_ok hf
      exact hp_iret cx hB hr hlk (Nat.le_of_ble_eq_true rfl) (Nat.le_of_ble_eq_true rfl) dX4_costAsTheyStand_48
    · replace hf := it_f c3 hf
      refine lv_iload_n hx hb dX4_costAsTheyStand_16 rfl (lv_at hl 2 rfl) ?_
      refine lv_aload_n hx hb dX4_costAsTheyStand_17 rfl (lv_at hl 1 rfl) ?_
      obtain ⟨a4, q5, hf⟩ := bd_ok hf
      refine gf_X4_40 cx hB k2 q5 dX4_costAsTheyStand_18 ?_
      refine lv_iload hx hb dX4_costAsTheyStand_21 (lv_at hl 4 rfl) ?_
      obtain ⟨k6, hf⟩ := gk_ok hf
      obtain ⟨j7, hf⟩ := gd_ok hf
      obtain ⟨a8, q9, hf⟩ := bd_ok hf
      refine hp_aald cx hB 16 (.object RX3) (by decide) rfl rfl k6 j7 (o := some a8) q9.symm dX4_costAsTheyStand_23 ?_
      obtain ⟨k10, hf⟩ := gk_ok hf
      refine gf_X4_43 cx hB k10 dX4_costAsTheyStand_24 ?_
      refine lv_iadd hx hb dX4_costAsTheyStand_27 ?_
      obtain ⟨x11, ex11, hf⟩ := nm_ok hf
      refine lv_ren ex11 ?_
      refine lv_istore_n (lv' := [(2, .int x11), (0, .ref t0), (1, .ref a1), (3, .int v3), (4, .int v4)]) hx hb dX4_costAsTheyStand_28 rfl hl (by decide) rfl (fun ls hl => ?_)
      refine lv_iload_n hx hb dX4_costAsTheyStand_29 rfl (lv_at hl 3 rfl) ?_
      refine lv_aload_n hx hb dX4_costAsTheyStand_30 rfl (lv_at hl 1 rfl) ?_
      obtain ⟨k12, hf⟩ := gk_ok hf
      obtain ⟨a13, q14, hf⟩ := bd_ok hf
      refine gf_X4_9 cx hB k12 q14 dX4_costAsTheyStand_31 ?_
      refine lv_iload hx hb dX4_costAsTheyStand_34 (lv_at hl 4 rfl) ?_
      obtain ⟨k15, hf⟩ := gk_ok hf
      obtain ⟨j16, hf⟩ := gd_ok hf
      refine hp_iald cx hB k15 j16 dX4_costAsTheyStand_36 ?_
      refine lv_iload_n hx hb dX4_costAsTheyStand_37 rfl (lv_at hl 0 rfl) ?_
      refine lv_imul hx hb dX4_costAsTheyStand_38 ?_
      refine lv_iadd hx hb dX4_costAsTheyStand_39 ?_
      obtain ⟨x17, ex17, hf⟩ := nm_ok hf
      refine lv_ren ex17 ?_
      refine lv_istore_n (lv' := [(3, .int x17), (2, .int x11), (0, .ref t0), (1, .ref a1), (4, .int v4)]) hx hb dX4_costAsTheyStand_40 rfl hl (by decide) rfl (fun ls hl => ?_)
      obtain ⟨x18, ex18, hf⟩ := nm_ok hf
      refine lv_iinc (v := x18) (lv' := [(4, .int x18), (3, .int x17), (2, .int x11), (0, .ref t0), (1, .ref a1)]) hx hb dX4_costAsTheyStand_41 hl (k := 4) rfl (by rw [ex18]; rfl) (by decide) rfl (fun ls hl => ?_)
      refine lv_goto (tgt := 7) hx hb dX4_costAsTheyStand_44 (by decide) ?_
      exact ih t0 (some a1) x11 x17 x18 h _ _ _ hB (lv_sub hl [3, 4, 2, 1, 0] rfl) hf
set_option maxHeartbeats 4000000 in
set_option maxRecDepth 100000 in
theorem tX4_costAsTheyStand_0  {r : Int32} (cx : CallFix p m c prog_6_method_5_code 5 s args tbG RX4) (hr : meth.sig.returnType = (Option.some FieldType.int)) (hlk : meth.locks = false)  (t0 : Nat) (w1 : Option Nat) (h : Hp) (H : Heap) (locs : List Loc) (ls : Array Slot) (hB : hp_B D cA (hp_A h0) s h H locs) (hl : lv_has ls 5 [(0, .ref t0), (1, va_rf w1)]) (hf : fX4_costAsTheyStand  t0 w1 h = some (r, h9)) : W p l e rmX4_costAsTheyStand s m args below meth c H locs 0 0 (MQ below (hp_Qi D cA h0 h9 r) args s 0 0 (hp_A h0)) (F0 m 0 ls []) := by
  obtain ⟨hx, hb, -⟩ := id cx
  unfold fX4_costAsTheyStand at hf
  refine lv_iconst (v := 0) hx hb dX4_costAsTheyStand_0 (by decide) ?_
  refine lv_istore_n (lv' := [(2, .int 0), (0, .ref t0), (1, va_rf w1)]) hx hb dX4_costAsTheyStand_1 rfl hl (by decide) (by cases w1 <;> rfl) (fun ls hl => ?_)
  refine lv_iconst (v := 0) hx hb dX4_costAsTheyStand_2 (by decide) ?_
  refine lv_istore_n (lv' := [(3, .int 0), (2, .int 0), (0, .ref t0), (1, va_rf w1)]) hx hb dX4_costAsTheyStand_3 rfl hl (by decide) rfl (fun ls hl => ?_)
  refine lv_iconst (v := 0) hx hb dX4_costAsTheyStand_4 (by decide) ?_
  refine lv_istore (lv' := [(4, .int 0), (3, .int 0), (2, .int 0), (0, .ref t0), (1, va_rf w1)]) hx hb dX4_costAsTheyStand_5 hl (by decide) rfl (fun ls hl => ?_)
  exact tX4_costAsTheyStand_7 cx hr hlk  NF t0 w1 0 0 0 h _ _ _ hB (lv_sub hl [3, 4, 2, 1, 0] rfl) hf
end
set_option maxHeartbeats 4000000 in
set_option maxRecDepth 100000 in
theorem cX4_costAsTheyStand (l : Launch) (D : va_G) (cA : Nat → ClassId) (t0 : Nat) (w1 : Option Nat) (h : Hp) (r : Int32) (h9 : Hp) (hf : fX4_costAsTheyStand t0 w1 h = some (r, h9)) : hp_M l yX4_costAsTheyStand prog_6_method_5_code 5 (Option.some FieldType.int) rmX4_costAsTheyStand D cA h [.ref t0, va_rf w1] (hp_Qi D cA h h9 r) := by
  refine Met.ofW (cc := prog_6_method_5_code) (maxL := 5) (ret := (Option.some FieldType.int)) (by decide) rfl ?_
  intro p e s m args below meth c s₁ B hml hv
  obtain ⟨rfl, hU⟩ := hv
  have hts := atoms_spec (ws := Cond.code yX4_costAsTheyStand prog_6_method_5_code 5 (Option.some FieldType.int) :: tbG) B.pre
  have hl := lv_entry ([.ref t0, va_rf w1]) (n := 5) (by simp [lg_sl, va_rf_cat, cat_i, cat_r, cat_n])
  rw [show lv_args 0 ([.ref t0, va_rf w1]) = [(0, .ref t0), (1, va_rf w1)] by simp [lv_args, va_rf_cat, cat_i, cat_r, cat_n]] at hl
  rw [lg_entry_eq]
  generalize (lg_sl ([.ref t0, va_rf w1]) ++ List.replicate (5 - (lg_sl ([.ref t0, va_rf w1])).length) Slot.unset).toArray = ls at hl ⊢
  exact tX4_costAsTheyStand_0 ⟨B.exec, B.bytes, hml, findClass_of_methodNamed B.named, fun w hw => hts w (List.mem_cons_of_mem _ hw)⟩ B.returns B.notSynchronized t0 w1 h _ _ _ (hp_B.entry hU) hl hf
abbrev yX4_costSorted : MethodName := ⟨"SpokenMenus$Ordering", "costSorted", "(LSpokenMenus$Place;)I"⟩
theorem dX4_costSorted_0 : decode prog_6_method_6_code 0 = .ok (.iconst 0, 1) := by decide +kernel
theorem dX4_costSorted_1 : decode prog_6_method_6_code 1 = .ok (.istore_n 2, 1) := by decide +kernel
theorem dX4_costSorted_2 : decode prog_6_method_6_code 2 = .ok (.iconst 0, 1) := by decide +kernel
theorem dX4_costSorted_3 : decode prog_6_method_6_code 3 = .ok (.istore_n 3, 1) := by decide +kernel
theorem dX4_costSorted_4 : decode prog_6_method_6_code 4 = .ok (.iconst 0, 1) := by decide +kernel
theorem dX4_costSorted_5 : decode prog_6_method_6_code 5 = .ok (.istore 4, 2) := by decide +kernel
theorem dX4_costSorted_7 : decode prog_6_method_6_code 7 = .ok (.iload 4, 2) := by decide +kernel
theorem dX4_costSorted_9 : decode prog_6_method_6_code 9 = .ok (.aload_n 1, 1) := by decide +kernel
theorem dX4_costSorted_10 : decode prog_6_method_6_code 10 = .ok (.getfield 30, 3) := by decide +kernel
theorem dX4_costSorted_13 : decode prog_6_method_6_code 13 = .ok (.if_icmp .ge 44, 3) := by decide +kernel
theorem dX4_costSorted_16 : decode prog_6_method_6_code 16 = .ok (.iload_n 2, 1) := by decide +kernel
theorem dX4_costSorted_17 : decode prog_6_method_6_code 17 = .ok (.aload_n 1, 1) := by decide +kernel
theorem dX4_costSorted_18 : decode prog_6_method_6_code 18 = .ok (.getfield 40, 3) := by decide +kernel
theorem dX4_costSorted_21 : decode prog_6_method_6_code 21 = .ok (.aload_n 0, 1) := by decide +kernel
theorem dX4_costSorted_22 : decode prog_6_method_6_code 22 = .ok (.getfield 15, 3) := by decide +kernel
theorem dX4_costSorted_25 : decode prog_6_method_6_code 25 = .ok (.iload 4, 2) := by decide +kernel
theorem dX4_costSorted_27 : decode prog_6_method_6_code 27 = .ok (.iaload, 1) := by decide +kernel
theorem dX4_costSorted_28 : decode prog_6_method_6_code 28 = .ok (.aaload, 1) := by decide +kernel
theorem dX4_costSorted_29 : decode prog_6_method_6_code 29 = .ok (.getfield 43, 3) := by decide +kernel
theorem dX4_costSorted_32 : decode prog_6_method_6_code 32 = .ok (.iadd, 1) := by decide +kernel
theorem dX4_costSorted_33 : decode prog_6_method_6_code 33 = .ok (.istore_n 2, 1) := by decide +kernel
theorem dX4_costSorted_34 : decode prog_6_method_6_code 34 = .ok (.iload_n 3, 1) := by decide +kernel
theorem dX4_costSorted_35 : decode prog_6_method_6_code 35 = .ok (.aload_n 0, 1) := by decide +kernel
theorem dX4_costSorted_36 : decode prog_6_method_6_code 36 = .ok (.getfield 9, 3) := by decide +kernel
theorem dX4_costSorted_39 : decode prog_6_method_6_code 39 = .ok (.aload_n 0, 1) := by decide +kernel
theorem dX4_costSorted_40 : decode prog_6_method_6_code 40 = .ok (.getfield 15, 3) := by decide +kernel
theorem dX4_costSorted_43 : decode prog_6_method_6_code 43 = .ok (.iload 4, 2) := by decide +kernel
theorem dX4_costSorted_45 : decode prog_6_method_6_code 45 = .ok (.iaload, 1) := by decide +kernel
theorem dX4_costSorted_46 : decode prog_6_method_6_code 46 = .ok (.iaload, 1) := by decide +kernel
theorem dX4_costSorted_47 : decode prog_6_method_6_code 47 = .ok (.iload_n 2, 1) := by decide +kernel
theorem dX4_costSorted_48 : decode prog_6_method_6_code 48 = .ok (.imul, 1) := by decide +kernel
theorem dX4_costSorted_49 : decode prog_6_method_6_code 49 = .ok (.iadd, 1) := by decide +kernel
theorem dX4_costSorted_50 : decode prog_6_method_6_code 50 = .ok (.istore_n 3, 1) := by decide +kernel
theorem dX4_costSorted_51 : decode prog_6_method_6_code 51 = .ok (.iinc 4 1, 3) := by decide +kernel
theorem dX4_costSorted_54 : decode prog_6_method_6_code 54 = .ok (.goto (-47), 3) := by decide +kernel
theorem dX4_costSorted_57 : decode prog_6_method_6_code 57 = .ok (.iload_n 3, 1) := by decide +kernel
theorem dX4_costSorted_58 : decode prog_6_method_6_code 58 = .ok (.ireturn, 1) := by decide +kernel
abbrev rmX4_costSorted : Room := { frames := 0, cells := 0, slots := 0, locals := 0 }
def bX4_costSorted_7  (rc : Nat → Option Nat → Int32 → Int32 → Int32 → Hp → Option (Int32 × Hp)) (t0 : Nat) (w1 : Option Nat) (v2 : Int32) (v3 : Int32) (v4 : Int32) (h : Hp) : Option (Int32 × Hp) :=
  bd w1 fun a1 =>
  gk (h.1 a1) 6 <|
  if (h.2.2.1 a1 6) ≤ v4 then
  (some (v3, h))
  else
  (bd (h.2.2.2.1 a1 5) fun a4 =>
  gk (h.1 t0) 5 <|
  bd (h.2.2.2.1 t0 1) fun a7 =>
  gk (h.1 a7) 13 <|
  gd (ix v4 (h.2.1 a7)) <|
  gk (h.1 a4) 16 <|
  gd (ix (h.2.2.1 a7 (Int32.toNatClampNeg v4)) (h.2.1 a4)) <|
  bd (h.2.2.2.1 a4 (Int32.toNatClampNeg (h.2.2.1 a7 (Int32.toNatClampNeg v4)))) fun a13 =>
  gk (h.1 a13) 4 <|
  nm (v2 + (h.2.2.1 a13 0)) fun x16 =>
  bd (h.2.2.2.1 t0 0) fun a17 =>
  gd (ix v4 (h.2.1 a7)) <|
  gk (h.1 a17) 13 <|
  gd (ix (h.2.2.1 a7 (Int32.toNatClampNeg v4)) (h.2.1 a17)) <|
  nm (v3 + ((h.2.2.1 a17 (Int32.toNatClampNeg (h.2.2.1 a7 (Int32.toNatClampNeg v4)))) * x16)) fun x22 =>
  nm (v4 + 1) fun x23 =>
  rc t0 (some a1) x16 x22 x23 h)
def fX4_costSorted_7  : Nat → Option Nat → Int32 → Int32 → Int32 → Hp → Option (Int32 × Hp) := fx (bX4_costSorted_7 ) (fun _ _ _ _ _ _ => none) NF
def fX4_costSorted  (t0 : Nat) (w1 : Option Nat) (h : Hp) : Option (Int32 × Hp) :=
  fX4_costSorted_7  t0 w1 0 0 0 h
section
variable {p : Program} {l : Launch} {e : Env} {s : State} {m : MethodId} {args : Array Value} {below : List Frame} {meth : Method} {c : Code} {D : va_G} {cA : Nat → ClassId} {h0 h9 : Hp}
set_option maxHeartbeats 4000000 in
set_option maxRecDepth 100000 in
theorem tX4_costSorted_7  {r : Int32} (cx : CallFix p m c prog_6_method_6_code 5 s args tbG RX4) (hr : meth.sig.returnType = (Option.some FieldType.int)) (hlk : meth.locks = false)  (n : Nat) : ∀ (t0 : Nat) (w1 : Option Nat) (v2 : Int32) (v3 : Int32) (v4 : Int32) (h : Hp) (H : Heap) (locs : List Loc) (ls : Array Slot), hp_B D cA (hp_A h0) s h H locs → lv_has ls 5 [(0, .ref t0), (1, va_rf w1), (2, .int v2), (3, .int v3), (4, .int v4)] → fx (bX4_costSorted_7 ) (fun _ _ _ _ _ _ => none) n t0 w1 v2 v3 v4 h = some (r, h9) → W p l e rmX4_costSorted s m args below meth c H locs 0 0 (MQ below (hp_Qi D cA h0 h9 r) args s 0 0 (hp_A h0)) (F0 m 7 ls []) := by
  obtain ⟨hx, hb, -⟩ := id cx
  induction n with
  | zero => intro t0 w1 v2 v3 v4 h H locs ls hB hl hf; cases hf
  | succ n ih =>
    intro t0 w1 v2 v3 v4 h H locs ls hB hl hf
    replace hf : bX4_costSorted_7  (fx (bX4_costSorted_7 ) (fun _ _ _ _ _ _ => none) n) t0 w1 v2 v3 v4 h = some (r, h9) := hf
    unfold bX4_costSorted_7 at hf
    refine lv_iload hx hb dX4_costSorted_7 (lv_at hl 4 rfl) ?_
    refine lq_aload_n hx hb dX4_costSorted_9 rfl (lv_at hl 1 rfl) ?_
    obtain ⟨a1, eo, hf⟩ := bd_ok hf
    subst eo
    obtain ⟨k2, hf⟩ := gk_ok hf
    refine gf_X4_30 cx hB k2 dX4_costSorted_10 ?_
    refine lv_icmp_ge (tgt := 57) hx hb dX4_costSorted_13 (by decide) (fun c3 => ?_) (fun c3 => ?_)
    · replace hf := it_t c3 hf
      refine lv_iload_n hx hb dX4_costSorted_57 rfl (lv_at hl 3 rfl) ?_
      obtain ⟨rfl, rfl⟩ := rt_ok hf
      exact hp_iret cx hB hr hlk (Nat.le_of_ble_eq_true rfl) (Nat.le_of_ble_eq_true rfl) dX4_costSorted_58
    · replace hf := it_f c3 hf
      refine lv_iload_n hx hb dX4_costSorted_16 rfl (lv_at hl 2 rfl) ?_
      refine lv_aload_n hx hb dX4_costSorted_17 rfl (lv_at hl 1 rfl) ?_
      obtain ⟨a4, q5, hf⟩ := bd_ok hf
      refine gf_X4_40 cx hB k2 q5 dX4_costSorted_18 ?_
      refine lv_aload_n hx hb dX4_costSorted_21 rfl (lv_at hl 0 rfl) ?_
      obtain ⟨k6, hf⟩ := gk_ok hf
      obtain ⟨a7, q8, hf⟩ := bd_ok hf
      refine gf_X4_15 cx hB k6 q8 dX4_costSorted_22 ?_
      refine lv_iload hx hb dX4_costSorted_25 (lv_at hl 4 rfl) ?_
      obtain ⟨k9, hf⟩ := gk_ok hf
      obtain ⟨j10, hf⟩ := gd_ok hf
      refine hp_iald cx hB k9 j10 dX4_costSorted_27 ?_
      obtain ⟨k11, hf⟩ := gk_ok hf
      obtain ⟨j12, hf⟩ := gd_ok hf
      obtain ⟨a13, q14, hf⟩ := bd_ok hf
      refine hp_aald cx hB 16 (.object RX3) (by decide) rfl rfl k11 j12 (o := some a13) q14.symm dX4_costSorted_28 ?_
      obtain ⟨k15, hf⟩ := gk_ok hf
      refine gf_X4_43 cx hB k15 dX4_costSorted_29 ?_
      refine lv_iadd hx hb dX4_costSorted_32 ?_
      obtain ⟨x16, ex16, hf⟩ := nm_ok hf
      refine lv_ren ex16 ?_
      refine lv_istore_n (lv' := [(2, .int x16), (0, .ref t0), (1, .ref a1), (3, .int v3), (4, .int v4)]) hx hb dX4_costSorted_33 rfl hl (by decide) rfl (fun ls hl => ?_)
      refine lv_iload_n hx hb dX4_costSorted_34 rfl (lv_at hl 3 rfl) ?_
      refine lv_aload_n hx hb dX4_costSorted_35 rfl (lv_at hl 1 rfl) ?_
      obtain ⟨a17, q18, hf⟩ := bd_ok hf
      refine gf_X4_9 cx hB k6 q18 dX4_costSorted_36 ?_
      refine lv_aload_n hx hb dX4_costSorted_39 rfl (lv_at hl 1 rfl) ?_
      refine gf_X4_15 cx hB k6 q8 dX4_costSorted_40 ?_
      refine lv_iload hx hb dX4_costSorted_43 (lv_at hl 4 rfl) ?_
      obtain ⟨j19, hf⟩ := gd_ok hf
      refine hp_iald cx hB k9 j19 dX4_costSorted_45 ?_
      obtain ⟨k20, hf⟩ := gk_ok hf
      obtain ⟨j21, hf⟩ := gd_ok hf
      refine hp_iald cx hB k20 j21 dX4_costSorted_46 ?_
      refine lv_iload_n hx hb dX4_costSorted_47 rfl (lv_at hl 0 rfl) ?_
      refine lv_imul hx hb dX4_costSorted_48 ?_
      refine lv_iadd hx hb dX4_costSorted_49 ?_
      obtain ⟨x22, ex22, hf⟩ := nm_ok hf
      refine lv_ren ex22 ?_
      refine lv_istore_n (lv' := [(3, .int x22), (2, .int x16), (0, .ref t0), (1, .ref a1), (4, .int v4)]) hx hb dX4_costSorted_50 rfl hl (by decide) rfl (fun ls hl => ?_)
      obtain ⟨x23, ex23, hf⟩ := nm_ok hf
      refine lv_iinc (v := x23) (lv' := [(4, .int x23), (3, .int x22), (2, .int x16), (0, .ref t0), (1, .ref a1)]) hx hb dX4_costSorted_51 hl (k := 4) rfl (by rw [ex23]; rfl) (by decide) rfl (fun ls hl => ?_)
      refine lv_goto (tgt := 7) hx hb dX4_costSorted_54 (by decide) ?_
      exact ih t0 (some a1) x16 x22 x23 h _ _ _ hB (lv_sub hl [3, 4, 2, 1, 0] rfl) hf
set_option maxHeartbeats 4000000 in
set_option maxRecDepth 100000 in
theorem tX4_costSorted_0  {r : Int32} (cx : CallFix p m c prog_6_method_6_code 5 s args tbG RX4) (hr : meth.sig.returnType = (Option.some FieldType.int)) (hlk : meth.locks = false)  (t0 : Nat) (w1 : Option Nat) (h : Hp) (H : Heap) (locs : List Loc) (ls : Array Slot) (hB : hp_B D cA (hp_A h0) s h H locs) (hl : lv_has ls 5 [(0, .ref t0), (1, va_rf w1)]) (hf : fX4_costSorted  t0 w1 h = some (r, h9)) : W p l e rmX4_costSorted s m args below meth c H locs 0 0 (MQ below (hp_Qi D cA h0 h9 r) args s 0 0 (hp_A h0)) (F0 m 0 ls []) := by
  obtain ⟨hx, hb, -⟩ := id cx
  unfold fX4_costSorted at hf
  refine lv_iconst (v := 0) hx hb dX4_costSorted_0 (by decide) ?_
  refine lv_istore_n (lv' := [(2, .int 0), (0, .ref t0), (1, va_rf w1)]) hx hb dX4_costSorted_1 rfl hl (by decide) (by cases w1 <;> rfl) (fun ls hl => ?_)
  refine lv_iconst (v := 0) hx hb dX4_costSorted_2 (by decide) ?_
  refine lv_istore_n (lv' := [(3, .int 0), (2, .int 0), (0, .ref t0), (1, va_rf w1)]) hx hb dX4_costSorted_3 rfl hl (by decide) rfl (fun ls hl => ?_)
  refine lv_iconst (v := 0) hx hb dX4_costSorted_4 (by decide) ?_
  refine lv_istore (lv' := [(4, .int 0), (3, .int 0), (2, .int 0), (0, .ref t0), (1, va_rf w1)]) hx hb dX4_costSorted_5 hl (by decide) rfl (fun ls hl => ?_)
  exact tX4_costSorted_7 cx hr hlk  NF t0 w1 0 0 0 h _ _ _ hB (lv_sub hl [3, 4, 2, 1, 0] rfl) hf
end
set_option maxHeartbeats 4000000 in
set_option maxRecDepth 100000 in
theorem cX4_costSorted (l : Launch) (D : va_G) (cA : Nat → ClassId) (t0 : Nat) (w1 : Option Nat) (h : Hp) (r : Int32) (h9 : Hp) (hf : fX4_costSorted t0 w1 h = some (r, h9)) : hp_M l yX4_costSorted prog_6_method_6_code 5 (Option.some FieldType.int) rmX4_costSorted D cA h [.ref t0, va_rf w1] (hp_Qi D cA h h9 r) := by
  refine Met.ofW (cc := prog_6_method_6_code) (maxL := 5) (ret := (Option.some FieldType.int)) (by decide) rfl ?_
  intro p e s m args below meth c s₁ B hml hv
  obtain ⟨rfl, hU⟩ := hv
  have hts := atoms_spec (ws := Cond.code yX4_costSorted prog_6_method_6_code 5 (Option.some FieldType.int) :: tbG) B.pre
  have hl := lv_entry ([.ref t0, va_rf w1]) (n := 5) (by simp [lg_sl, va_rf_cat, cat_i, cat_r, cat_n])
  rw [show lv_args 0 ([.ref t0, va_rf w1]) = [(0, .ref t0), (1, va_rf w1)] by simp [lv_args, va_rf_cat, cat_i, cat_r, cat_n]] at hl
  rw [lg_entry_eq]
  generalize (lg_sl ([.ref t0, va_rf w1]) ++ List.replicate (5 - (lg_sl ([.ref t0, va_rf w1])).length) Slot.unset).toArray = ls at hl ⊢
  exact tX4_costSorted_0 ⟨B.exec, B.bytes, hml, findClass_of_methodNamed B.named, fun w hw => hts w (List.mem_cons_of_mem _ hw)⟩ B.returns B.notSynchronized t0 w1 h _ _ _ (hp_B.entry hU) hl hf
section
variable {p : Program} {l : Launch} {e : Env} {R : Room} {s : State} {m : MethodId} {args : Array Value} {below : List Frame} {meth : Method} {c : Code} {H : Heap} {locs : List Loc} {cells slots : Nat} {Q : State → Prop}
variable {cc : ByteArray} {pc nL : Nat} {ls : Array Slot} {rest : List Value} {D : va_G} {cA : Nat → ClassId} {A : Nat → Prop} {a : Nat} {h : Hp}
theorem gf_X4_20 (cx : CallFix p m c cc nL s args tbG RX4) (hB : hp_B D cA A s h H locs) (hka : h.1 a = 5) {b : Nat} (ho : h.2.2.2.1 a 2 = some b) (hdg : decode cc pc = .ok (.getfield 20, 3)) (kk : W p l e R s m args below meth c H locs cells slots Q (F0 m (pc + 3) ls (.ref b :: rest))) : W p l e R s m args below meth c H locs cells slots Q (F0 m pc ls (.ref a :: rest)) :=
  hp_getR cx hB (ci := 4) 2 rfl inX4 (by decide) rfl (by decide) rfl qw_101 hka (o := some b) ho.symm hdg kk
end
abbrev yX4_putInOrder : MethodName := ⟨"SpokenMenus$Ordering", "putInOrder", "(LSpokenMenus$Place;)V"⟩
theorem dX4_putInOrder_0 : decode prog_6_method_7_code 0 = .ok (.iconst 0, 1) := by decide +kernel
theorem dX4_putInOrder_1 : decode prog_6_method_7_code 1 = .ok (.istore_n 2, 1) := by decide +kernel
theorem dX4_putInOrder_2 : decode prog_6_method_7_code 2 = .ok (.iload_n 2, 1) := by decide +kernel
theorem dX4_putInOrder_3 : decode prog_6_method_7_code 3 = .ok (.aload_n 1, 1) := by decide +kernel
theorem dX4_putInOrder_4 : decode prog_6_method_7_code 4 = .ok (.getfield 30, 3) := by decide +kernel
theorem dX4_putInOrder_7 : decode prog_6_method_7_code 7 = .ok (.if_icmp .ge 21, 3) := by decide +kernel
theorem dX4_putInOrder_10 : decode prog_6_method_7_code 10 = .ok (.aload_n 0, 1) := by decide +kernel
theorem dX4_putInOrder_11 : decode prog_6_method_7_code 11 = .ok (.getfield 20, 3) := by decide +kernel
theorem dX4_putInOrder_14 : decode prog_6_method_7_code 14 = .ok (.iload_n 2, 1) := by decide +kernel
theorem dX4_putInOrder_15 : decode prog_6_method_7_code 15 = .ok (.aload_n 1, 1) := by decide +kernel
theorem dX4_putInOrder_16 : decode prog_6_method_7_code 16 = .ok (.getfield 40, 3) := by decide +kernel
theorem dX4_putInOrder_19 : decode prog_6_method_7_code 19 = .ok (.iload_n 2, 1) := by decide +kernel
theorem dX4_putInOrder_20 : decode prog_6_method_7_code 20 = .ok (.aaload, 1) := by decide +kernel
theorem dX4_putInOrder_21 : decode prog_6_method_7_code 21 = .ok (.aastore, 1) := by decide +kernel
theorem dX4_putInOrder_22 : decode prog_6_method_7_code 22 = .ok (.iinc 2 1, 3) := by decide +kernel
theorem dX4_putInOrder_25 : decode prog_6_method_7_code 25 = .ok (.goto (-23), 3) := by decide +kernel
theorem dX4_putInOrder_28 : decode prog_6_method_7_code 28 = .ok (.iconst 0, 1) := by decide +kernel
theorem dX4_putInOrder_29 : decode prog_6_method_7_code 29 = .ok (.istore_n 2, 1) := by decide +kernel
theorem dX4_putInOrder_30 : decode prog_6_method_7_code 30 = .ok (.iload_n 2, 1) := by decide +kernel
theorem dX4_putInOrder_31 : decode prog_6_method_7_code 31 = .ok (.aload_n 1, 1) := by decide +kernel
theorem dX4_putInOrder_32 : decode prog_6_method_7_code 32 = .ok (.getfield 30, 3) := by decide +kernel
theorem dX4_putInOrder_35 : decode prog_6_method_7_code 35 = .ok (.if_icmp .ge 26, 3) := by decide +kernel
theorem dX4_putInOrder_38 : decode prog_6_method_7_code 38 = .ok (.aload_n 1, 1) := by decide +kernel
theorem dX4_putInOrder_39 : decode prog_6_method_7_code 39 = .ok (.getfield 40, 3) := by decide +kernel
theorem dX4_putInOrder_42 : decode prog_6_method_7_code 42 = .ok (.iload_n 2, 1) := by decide +kernel
theorem dX4_putInOrder_43 : decode prog_6_method_7_code 43 = .ok (.aload_n 0, 1) := by decide +kernel
theorem dX4_putInOrder_44 : decode prog_6_method_7_code 44 = .ok (.getfield 20, 3) := by decide +kernel
theorem dX4_putInOrder_47 : decode prog_6_method_7_code 47 = .ok (.aload_n 0, 1) := by decide +kernel
theorem dX4_putInOrder_48 : decode prog_6_method_7_code 48 = .ok (.getfield 15, 3) := by decide +kernel
theorem dX4_putInOrder_51 : decode prog_6_method_7_code 51 = .ok (.iload_n 2, 1) := by decide +kernel
theorem dX4_putInOrder_52 : decode prog_6_method_7_code 52 = .ok (.iaload, 1) := by decide +kernel
theorem dX4_putInOrder_53 : decode prog_6_method_7_code 53 = .ok (.aaload, 1) := by decide +kernel
theorem dX4_putInOrder_54 : decode prog_6_method_7_code 54 = .ok (.aastore, 1) := by decide +kernel
theorem dX4_putInOrder_55 : decode prog_6_method_7_code 55 = .ok (.iinc 2 1, 3) := by decide +kernel
theorem dX4_putInOrder_58 : decode prog_6_method_7_code 58 = .ok (.goto (-28), 3) := by decide +kernel
theorem dX4_putInOrder_61 : decode prog_6_method_7_code 61 = .ok (.return_, 1) := by decide +kernel
abbrev rmX4_putInOrder : Room := { frames := 0, cells := 0, slots := 0, locals := 0 }
def bX4_putInOrder_30  (rc : Nat → Nat → Int32 → Hp → Option (Unit × Hp)) (t0 : Nat) (t1 : Nat) (v2 : Int32) (h : Hp) : Option (Unit × Hp) :=
  gk (h.1 t1) 6 <|
  if (h.2.2.1 t1 6) ≤ v2 then
  (some ((), h))
  else
  (bd (h.2.2.2.1 t1 5) fun a3 =>
  gk (h.1 t0) 5 <|
  bd (h.2.2.2.1 t0 2) fun a6 =>
  bd (h.2.2.2.1 t0 1) fun a8 =>
  gk (h.1 a8) 13 <|
  gd (ix v2 (h.2.1 a8)) <|
  gk (h.1 a6) 16 <|
  gd (ix (h.2.2.1 a8 (Int32.toNatClampNeg v2)) (h.2.1 a6)) <|
  bd (h.2.2.2.1 a6 (Int32.toNatClampNeg (h.2.2.1 a8 (Int32.toNatClampNeg v2)))) fun a14 =>
  gk (h.1 a3) 16 <|
  gk (h.1 a14) 4 <|
  gd (ix v2 (h.2.1 a3)) <|
  nm (hp_sr h a3 (Int32.toNatClampNeg v2) (some a14)) fun g19 =>
  nm (v2 + 1) fun x20 =>
  rc t0 t1 x20 g19)
def fX4_putInOrder_30  : Nat → Nat → Int32 → Hp → Option (Unit × Hp) := fx (bX4_putInOrder_30 ) (fun _ _ _ _ => none) NF
def bX4_putInOrder_2  (rc : Nat → Option Nat → Int32 → Hp → Option (Unit × Hp)) (t0 : Nat) (w1 : Option Nat) (v2 : Int32) (h : Hp) : Option (Unit × Hp) :=
  bd w1 fun a1 =>
  gk (h.1 a1) 6 <|
  if (h.2.2.1 a1 6) ≤ v2 then
  (fX4_putInOrder_30  t0 a1 0 h)
  else
  (gk (h.1 t0) 5 <|
  bd (h.2.2.2.1 t0 2) fun a5 =>
  bd (h.2.2.2.1 a1 5) fun a7 =>
  gk (h.1 a7) 16 <|
  gd (ix v2 (h.2.1 a7)) <|
  bd (h.2.2.2.1 a7 (Int32.toNatClampNeg v2)) fun a11 =>
  gk (h.1 a5) 16 <|
  gk (h.1 a11) 4 <|
  gd (ix v2 (h.2.1 a5)) <|
  nm (hp_sr h a5 (Int32.toNatClampNeg v2) (some a11)) fun g16 =>
  nm (v2 + 1) fun x17 =>
  rc t0 (some a1) x17 g16)
def fX4_putInOrder_2  : Nat → Option Nat → Int32 → Hp → Option (Unit × Hp) := fx (bX4_putInOrder_2 ) (fun _ _ _ _ => none) NF
def fX4_putInOrder  (t0 : Nat) (w1 : Option Nat) (h : Hp) : Option (Unit × Hp) :=
  fX4_putInOrder_2  t0 w1 0 h
section
variable {p : Program} {l : Launch} {e : Env} {s : State} {m : MethodId} {args : Array Value} {below : List Frame} {meth : Method} {c : Code} {D : va_G} {cA : Nat → ClassId} {h0 h9 : Hp}
set_option maxHeartbeats 4000000 in
set_option maxRecDepth 100000 in
theorem tX4_putInOrder_30  (cx : CallFix p m c prog_6_method_7_code 3 s args tbG RX4) (hr : meth.sig.returnType = none) (hlk : meth.locks = false)  (n : Nat) : ∀ (t0 : Nat) (t1 : Nat) (v2 : Int32) (h : Hp) (H : Heap) (locs : List Loc) (ls : Array Slot), hp_B D cA (hp_A h0) s h H locs → lv_has ls 3 [(0, .ref t0), (1, .ref t1), (2, .int v2)] → fx (bX4_putInOrder_30 ) (fun _ _ _ _ => none) n t0 t1 v2 h = some ((), h9) → W p l e rmX4_putInOrder s m args below meth c H locs 0 0 (MQ below (hp_Qv D cA h0 h9) args s 0 0 (hp_A h0)) (F0 m 30 ls []) := by
  obtain ⟨hx, hb, -⟩ := id cx
  induction n with
  | zero => intro t0 t1 v2 h H locs ls hB hl hf; cases hf
  | succ n ih =>
    intro t0 t1 v2 h H locs ls hB hl hf
    replace hf : bX4_putInOrder_30  (fx (bX4_putInOrder_30 ) (fun _ _ _ _ => none) n) t0 t1 v2 h = some ((), h9) := hf
    unfold bX4_putInOrder_30 at hf
    refine lv_iload_n hx hb dX4_putInOrder_30 rfl (lv_at hl 2 rfl) ?_
    refine lv_aload_n hx hb dX4_putInOrder_31 rfl (lv_at hl 1 rfl) ?_
    obtain ⟨k1, hf⟩ := gk_ok hf
    refine gf_X4_30 cx hB k1 dX4_putInOrder_32 ?_
    refine lv_icmp_ge (tgt := 61) hx hb dX4_putInOrder_35 (by decide) (fun c2 => ?_) (fun c2 => ?_)
    · replace hf := it_t c2 hf
      obtain ⟨-, rfl⟩ := rt_ok hf
      exact hp_vret cx hB hr hlk (Nat.le_of_ble_eq_true rfl) (Nat.le_of_ble_eq_true rfl) dX4_putInOrder_61
    · replace hf := it_f c2 hf
      refine lv_aload_n hx hb dX4_putInOrder_38 rfl (lv_at hl 1 rfl) ?_
      obtain ⟨a3, q4, hf⟩ := bd_ok hf
      refine gf_X4_40 cx hB k1 q4 dX4_putInOrder_39 ?_
      refine lv_iload_n hx hb dX4_putInOrder_42 rfl (lv_at hl 2 rfl) ?_
      refine lv_aload_n hx hb dX4_putInOrder_43 rfl (lv_at hl 0 rfl) ?_
      obtain ⟨k5, hf⟩ := gk_ok hf
      obtain ⟨a6, q7, hf⟩ := bd_ok hf
      refine gf_X4_20 cx hB k5 q7 dX4_putInOrder_44 ?_
      refine lv_aload_n hx hb dX4_putInOrder_47 rfl (lv_at hl 0 rfl) ?_
      obtain ⟨a8, q9, hf⟩ := bd_ok hf
      refine gf_X4_15 cx hB k5 q9 dX4_putInOrder_48 ?_
      refine lv_iload_n hx hb dX4_putInOrder_51 rfl (lv_at hl 2 rfl) ?_
      obtain ⟨k10, hf⟩ := gk_ok hf
      obtain ⟨j11, hf⟩ := gd_ok hf
      refine hp_iald cx hB k10 j11 dX4_putInOrder_52 ?_
      obtain ⟨k12, hf⟩ := gk_ok hf
      obtain ⟨j13, hf⟩ := gd_ok hf
      obtain ⟨a14, q15, hf⟩ := bd_ok hf
      refine hp_aald cx hB 16 (.object RX3) (by decide) rfl rfl k12 j13 (o := some a14) q15.symm dX4_putInOrder_53 ?_
      obtain ⟨k16, hf⟩ := gk_ok hf
      obtain ⟨k17, hf⟩ := gk_ok hf
      obtain ⟨j18, hf⟩ := gd_ok hf
      obtain ⟨g19, eg19, hf⟩ := nm_ok hf
      refine hp_aast cx hB 16 3 (by decide) rfl rfl (by decide) k16 k17 j18 dX4_putInOrder_54 (fun H locs hB => ?_)
      rw [← eg19] at hB
      obtain ⟨x20, ex20, hf⟩ := nm_ok hf
      refine lv_iinc (v := x20) (lv' := [(2, .int x20), (0, .ref t0), (1, .ref t1)]) hx hb dX4_putInOrder_55 hl (k := 2) rfl (by rw [ex20]; rfl) (by decide) rfl (fun ls hl => ?_)
      refine lv_goto (tgt := 30) hx hb dX4_putInOrder_58 (by decide) ?_
      exact ih t0 t1 x20 g19 _ _ _ hB (lv_sub hl [1, 2, 0] rfl) hf
set_option maxHeartbeats 4000000 in
set_option maxRecDepth 100000 in
theorem tX4_putInOrder_2  (cx : CallFix p m c prog_6_method_7_code 3 s args tbG RX4) (hr : meth.sig.returnType = none) (hlk : meth.locks = false)  (n : Nat) : ∀ (t0 : Nat) (w1 : Option Nat) (v2 : Int32) (h : Hp) (H : Heap) (locs : List Loc) (ls : Array Slot), hp_B D cA (hp_A h0) s h H locs → lv_has ls 3 [(0, .ref t0), (1, va_rf w1), (2, .int v2)] → fx (bX4_putInOrder_2 ) (fun _ _ _ _ => none) n t0 w1 v2 h = some ((), h9) → W p l e rmX4_putInOrder s m args below meth c H locs 0 0 (MQ below (hp_Qv D cA h0 h9) args s 0 0 (hp_A h0)) (F0 m 2 ls []) := by
  obtain ⟨hx, hb, -⟩ := id cx
  induction n with
  | zero => intro t0 w1 v2 h H locs ls hB hl hf; cases hf
  | succ n ih =>
    intro t0 w1 v2 h H locs ls hB hl hf
    replace hf : bX4_putInOrder_2  (fx (bX4_putInOrder_2 ) (fun _ _ _ _ => none) n) t0 w1 v2 h = some ((), h9) := hf
    unfold bX4_putInOrder_2 at hf
    refine lv_iload_n hx hb dX4_putInOrder_2 rfl (lv_at hl 2 rfl) ?_
    refine lq_aload_n hx hb dX4_putInOrder_3 rfl (lv_at hl 1 rfl) ?_
    obtain ⟨a1, eo, hf⟩ := bd_ok hf
    subst eo
    obtain ⟨k2, hf⟩ := gk_ok hf
    refine gf_X4_30 cx hB k2 dX4_putInOrder_4 ?_
    refine lv_icmp_ge (tgt := 28) hx hb dX4_putInOrder_7 (by decide) (fun c3 => ?_) (fun c3 => ?_)
    · replace hf := it_t c3 hf
      refine lv_iconst (v := 0) hx hb dX4_putInOrder_28 (by decide) ?_
      refine lv_istore_n (lv' := [(2, .int 0), (0, .ref t0), (1, .ref a1)]) hx hb dX4_putInOrder_29 rfl hl (by decide) rfl (fun ls hl => ?_)
      exact tX4_putInOrder_30 cx hr hlk  NF t0 a1 0 h _ _ _ hB (lv_sub hl [1, 2, 0] rfl) hf
    · replace hf := it_f c3 hf
      refine lv_aload_n hx hb dX4_putInOrder_10 rfl (lv_at hl 0 rfl) ?_
      obtain ⟨k4, hf⟩ := gk_ok hf
      obtain ⟨a5, q6, hf⟩ := bd_ok hf
      refine gf_X4_20 cx hB k4 q6 dX4_putInOrder_11 ?_
      refine lv_iload_n hx hb dX4_putInOrder_14 rfl (lv_at hl 2 rfl) ?_
      refine lv_aload_n hx hb dX4_putInOrder_15 rfl (lv_at hl 1 rfl) ?_
      obtain ⟨a7, q8, hf⟩ := bd_ok hf
      refine gf_X4_40 cx hB k2 q8 dX4_putInOrder_16 ?_
      refine lv_iload_n hx hb dX4_putInOrder_19 rfl (lv_at hl 2 rfl) ?_
      obtain ⟨k9, hf⟩ := gk_ok hf
      obtain ⟨j10, hf⟩ := gd_ok hf
      obtain ⟨a11, q12, hf⟩ := bd_ok hf
      refine hp_aald cx hB 16 (.object RX3) (by decide) rfl rfl k9 j10 (o := some a11) q12.symm dX4_putInOrder_20 ?_
      obtain ⟨k13, hf⟩ := gk_ok hf
      obtain ⟨k14, hf⟩ := gk_ok hf
      obtain ⟨j15, hf⟩ := gd_ok hf
      obtain ⟨g16, eg16, hf⟩ := nm_ok hf
      refine hp_aast cx hB 16 3 (by decide) rfl rfl (by decide) k13 k14 j15 dX4_putInOrder_21 (fun H locs hB => ?_)
      rw [← eg16] at hB
      obtain ⟨x17, ex17, hf⟩ := nm_ok hf
      refine lv_iinc (v := x17) (lv' := [(2, .int x17), (0, .ref t0), (1, .ref a1)]) hx hb dX4_putInOrder_22 hl (k := 2) rfl (by rw [ex17]; rfl) (by decide) rfl (fun ls hl => ?_)
      refine lv_goto (tgt := 2) hx hb dX4_putInOrder_25 (by decide) ?_
      exact ih t0 (some a1) x17 g16 _ _ _ hB (lv_sub hl [1, 2, 0] rfl) hf
set_option maxHeartbeats 4000000 in
set_option maxRecDepth 100000 in
theorem tX4_putInOrder_0  (cx : CallFix p m c prog_6_method_7_code 3 s args tbG RX4) (hr : meth.sig.returnType = none) (hlk : meth.locks = false)  (t0 : Nat) (w1 : Option Nat) (h : Hp) (H : Heap) (locs : List Loc) (ls : Array Slot) (hB : hp_B D cA (hp_A h0) s h H locs) (hl : lv_has ls 3 [(0, .ref t0), (1, va_rf w1)]) (hf : fX4_putInOrder  t0 w1 h = some ((), h9)) : W p l e rmX4_putInOrder s m args below meth c H locs 0 0 (MQ below (hp_Qv D cA h0 h9) args s 0 0 (hp_A h0)) (F0 m 0 ls []) := by
  obtain ⟨hx, hb, -⟩ := id cx
  unfold fX4_putInOrder at hf
  refine lv_iconst (v := 0) hx hb dX4_putInOrder_0 (by decide) ?_
  refine lv_istore_n (lv' := [(2, .int 0), (0, .ref t0), (1, va_rf w1)]) hx hb dX4_putInOrder_1 rfl hl (by decide) (by cases w1 <;> rfl) (fun ls hl => ?_)
  exact tX4_putInOrder_2 cx hr hlk  NF t0 w1 0 h _ _ _ hB (lv_sub hl [1, 2, 0] rfl) hf
end
set_option maxHeartbeats 4000000 in
set_option maxRecDepth 100000 in
theorem cX4_putInOrder (l : Launch) (D : va_G) (cA : Nat → ClassId) (t0 : Nat) (w1 : Option Nat) (h : Hp) (_u : Unit) (h9 : Hp) (hf : fX4_putInOrder t0 w1 h = some (_u, h9)) : hp_M l yX4_putInOrder prog_6_method_7_code 3 none rmX4_putInOrder D cA h [.ref t0, va_rf w1] (hp_Qv D cA h h9) := by
  refine Met.ofW (cc := prog_6_method_7_code) (maxL := 3) (ret := none) (by decide) rfl ?_
  intro p e s m args below meth c s₁ B hml hv
  obtain ⟨rfl, hU⟩ := hv
  have hts := atoms_spec (ws := Cond.code yX4_putInOrder prog_6_method_7_code 3 none :: tbG) B.pre
  have hl := lv_entry ([.ref t0, va_rf w1]) (n := 3) (by simp [lg_sl, va_rf_cat, cat_i, cat_r, cat_n])
  rw [show lv_args 0 ([.ref t0, va_rf w1]) = [(0, .ref t0), (1, va_rf w1)] by simp [lv_args, va_rf_cat, cat_i, cat_r, cat_n]] at hl
  rw [lg_entry_eq]
  generalize (lg_sl ([.ref t0, va_rf w1]) ++ List.replicate (3 - (lg_sl ([.ref t0, va_rf w1])).length) Slot.unset).toArray = ls at hl ⊢
  exact tX4_putInOrder_0 ⟨B.exec, B.bytes, hml, findClass_of_methodNamed B.named, fun w hw => hts w (List.mem_cons_of_mem _ hw)⟩ B.returns B.notSynchronized t0 w1 h _ _ _ (hp_B.entry hU) hl hf
section
variable {p : Program} {l : Launch} {e : Env} {R : Room} {s : State} {m : MethodId} {args : Array Value} {below : List Frame} {meth : Method} {c : Code} {H : Heap} {locs : List Loc} {cells slots : Nat} {Q : State → Prop}
variable {cc : ByteArray} {pc nL : Nat} {ls : Array Slot} {rest : List Value} {D : va_G} {cA : Nat → ClassId} {A : Nat → Prop} {a : Nat} {h : Hp}
theorem pf_X5_9 (cx : CallFix p m c cc nL s args tbG RX5) (hB : hp_B D cA A s h H locs) (hka : h.1 a = 6) {x : Int32} (hdg : decode cc pc = .ok (.putfield 9, 3)) (kk : ∀ (H1 : Heap) (locs1 : List Loc), hp_B D cA A s (hp_si h a 6 x) H1 locs1 → W p l e R s m args below meth c H1 locs1 cells slots Q (F0 m (pc + 3) ls rest)) : W p l e R s m args below meth c H locs cells slots Q (F0 m pc ls (.int x :: .ref a :: rest)) :=
  hp_putX cx hB (ci := 5) 6 tyX5 tyX5_ok nmX5 rfl inX5 (by decide) rfl (by decide) (Or.inl rfl) qw_270 hka (v := .int x) (hp_like_si h a 6 x) (hp_fs_si (by decide) rfl) rfl rfl hdg kk
theorem pf_X5_15 (cx : CallFix p m c cc nL s args tbG RX5) (hB : hp_B D cA A s h H locs) (hka : h.1 a = 6) {x : Int32} (hdg : decode cc pc = .ok (.putfield 15, 3)) (kk : ∀ (H1 : Heap) (locs1 : List Loc), hp_B D cA A s (hp_si h a 7 x) H1 locs1 → W p l e R s m args below meth c H1 locs1 cells slots Q (F0 m (pc + 3) ls rest)) : W p l e R s m args below meth c H locs cells slots Q (F0 m pc ls (.int x :: .ref a :: rest)) :=
  hp_putX cx hB (ci := 5) 7 tyX5 tyX5_ok nmX5 rfl inX5 (by decide) rfl (by decide) (Or.inl rfl) qw_276 hka (v := .int x) (hp_like_si h a 7 x) (hp_fs_si (by decide) rfl) rfl rfl hdg kk
theorem pf_X5_18 (cx : CallFix p m c cc nL s args tbG RX5) (hB : hp_B D cA A s h H locs) (hka : h.1 a = 6) {x : Int32} (hdg : decode cc pc = .ok (.putfield 18, 3)) (kk : ∀ (H1 : Heap) (locs1 : List Loc), hp_B D cA A s (hp_si h a 8 x) H1 locs1 → W p l e R s m args below meth c H1 locs1 cells slots Q (F0 m (pc + 3) ls rest)) : W p l e R s m args below meth c H locs cells slots Q (F0 m pc ls (.int x :: .ref a :: rest)) :=
  hp_putX cx hB (ci := 5) 8 tyX5 tyX5_ok nmX5 rfl inX5 (by decide) rfl (by decide) (Or.inl rfl) qw_278 hka (v := .int x) (hp_like_si h a 8 x) (hp_fs_si (by decide) rfl) rfl rfl hdg kk
theorem pf_X5_21 (cx : CallFix p m c cc nL s args tbG RX5) (hB : hp_B D cA A s h H locs) (hka : h.1 a = 6) {x : Int32} (hdg : decode cc pc = .ok (.putfield 21, 3)) (kk : ∀ (H1 : Heap) (locs1 : List Loc), hp_B D cA A s (hp_si h a 9 x) H1 locs1 → W p l e R s m args below meth c H1 locs1 cells slots Q (F0 m (pc + 3) ls rest)) : W p l e R s m args below meth c H locs cells slots Q (F0 m pc ls (.int x :: .ref a :: rest)) :=
  hp_putX cx hB (ci := 5) 9 tyX5 tyX5_ok nmX5 rfl inX5 (by decide) rfl (by decide) (Or.inl rfl) qw_280 hka (v := .int x) (hp_like_si h a 9 x) (hp_fs_si (by decide) rfl) rfl rfl hdg kk
theorem pf_X5_24 (cx : CallFix p m c cc nL s args tbG RX5) (hB : hp_B D cA A s h H locs) (hka : h.1 a = 6) {x : Int32} (hdg : decode cc pc = .ok (.putfield 24, 3)) (kk : ∀ (H1 : Heap) (locs1 : List Loc), hp_B D cA A s (hp_si h a 10 x) H1 locs1 → W p l e R s m args below meth c H1 locs1 cells slots Q (F0 m (pc + 3) ls rest)) : W p l e R s m args below meth c H locs cells slots Q (F0 m pc ls (.int x :: .ref a :: rest)) :=
  hp_putX cx hB (ci := 5) 10 tyX5 tyX5_ok nmX5 rfl inX5 (by decide) rfl (by decide) (Or.inl rfl) qw_282 hka (v := .int x) (hp_like_si h a 10 x) (hp_fs_si (by decide) rfl) rfl rfl hdg kk
theorem pf_X5_27 (cx : CallFix p m c cc nL s args tbG RX5) (hB : hp_B D cA A s h H locs) (hnm : meth.name = "<init>") (hka : h.1 a = 6) {x : Int32} (hdg : decode cc pc = .ok (.putfield 27, 3)) (kk : ∀ (H1 : Heap) (locs1 : List Loc), hp_B D cA A s (hp_si h a 0 x) H1 locs1 → W p l e R s m args below meth c H1 locs1 cells slots Q (F0 m (pc + 3) ls rest)) : W p l e R s m args below meth c H locs cells slots Q (F0 m pc ls (.int x :: .ref a :: rest)) :=
  hp_putX cx hB (ci := 5) 0 tyX5 tyX5_ok nmX5 rfl inX5 (by decide) rfl (by decide) (Or.inr ⟨rfl, hnm, rfl⟩) qw_246 hka (v := .int x) (hp_like_si h a 0 x) (hp_fs_si (by decide) rfl) rfl rfl hdg kk
theorem pf_X5_30 (cx : CallFix p m c cc nL s args tbG RX5) (hB : hp_B D cA A s h H locs) (hnm : meth.name = "<init>") (hka : h.1 a = 6) {x : Int32} (hdg : decode cc pc = .ok (.putfield 30, 3)) (kk : ∀ (H1 : Heap) (locs1 : List Loc), hp_B D cA A s (hp_si h a 1 x) H1 locs1 → W p l e R s m args below meth c H1 locs1 cells slots Q (F0 m (pc + 3) ls rest)) : W p l e R s m args below meth c H locs cells slots Q (F0 m pc ls (.int x :: .ref a :: rest)) :=
  hp_putX cx hB (ci := 5) 1 tyX5 tyX5_ok nmX5 rfl inX5 (by decide) rfl (by decide) (Or.inr ⟨rfl, hnm, rfl⟩) qw_252 hka (v := .int x) (hp_like_si h a 1 x) (hp_fs_si (by decide) rfl) rfl rfl hdg kk
theorem pf_X5_33 (cx : CallFix p m c cc nL s args tbG RX5) (hB : hp_B D cA A s h H locs) (hnm : meth.name = "<init>") (hka : h.1 a = 6) {x : Int32} (hdg : decode cc pc = .ok (.putfield 33, 3)) (kk : ∀ (H1 : Heap) (locs1 : List Loc), hp_B D cA A s (hp_si h a 2 x) H1 locs1 → W p l e R s m args below meth c H1 locs1 cells slots Q (F0 m (pc + 3) ls rest)) : W p l e R s m args below meth c H locs cells slots Q (F0 m pc ls (.int x :: .ref a :: rest)) :=
  hp_putX cx hB (ci := 5) 2 tyX5 tyX5_ok nmX5 rfl inX5 (by decide) rfl (by decide) (Or.inr ⟨rfl, hnm, rfl⟩) qw_256 hka (v := .int x) (hp_like_si h a 2 x) (hp_fs_si (by decide) rfl) rfl rfl hdg kk
theorem pf_X5_36 (cx : CallFix p m c cc nL s args tbG RX5) (hB : hp_B D cA A s h H locs) (hnm : meth.name = "<init>") (hka : h.1 a = 6) {x : Int32} (hdg : decode cc pc = .ok (.putfield 36, 3)) (kk : ∀ (H1 : Heap) (locs1 : List Loc), hp_B D cA A s (hp_si h a 3 x) H1 locs1 → W p l e R s m args below meth c H1 locs1 cells slots Q (F0 m (pc + 3) ls rest)) : W p l e R s m args below meth c H locs cells slots Q (F0 m pc ls (.int x :: .ref a :: rest)) :=
  hp_putX cx hB (ci := 5) 3 tyX5 tyX5_ok nmX5 rfl inX5 (by decide) rfl (by decide) (Or.inr ⟨rfl, hnm, rfl⟩) qw_258 hka (v := .int x) (hp_like_si h a 3 x) (hp_fs_si (by decide) rfl) rfl rfl hdg kk
theorem pf_X5_39 (cx : CallFix p m c cc nL s args tbG RX5) (hB : hp_B D cA A s h H locs) (hnm : meth.name = "<init>") (hka : h.1 a = 6) {x : Int32} (hdg : decode cc pc = .ok (.putfield 39, 3)) (kk : ∀ (H1 : Heap) (locs1 : List Loc), hp_B D cA A s (hp_si h a 4 x) H1 locs1 → W p l e R s m args below meth c H1 locs1 cells slots Q (F0 m (pc + 3) ls rest)) : W p l e R s m args below meth c H locs cells slots Q (F0 m pc ls (.int x :: .ref a :: rest)) :=
  hp_putX cx hB (ci := 5) 4 tyX5 tyX5_ok nmX5 rfl inX5 (by decide) rfl (by decide) (Or.inr ⟨rfl, hnm, rfl⟩) qw_262 hka (v := .int x) (hp_like_si h a 4 x) (hp_fs_si (by decide) rfl) rfl rfl hdg kk
theorem pf_X5_44 (cx : CallFix p m c cc nL s args tbG RX5) (hB : hp_B D cA A s h H locs) (hnm : meth.name = "<init>") (hka : h.1 a = 6) {b : Nat} (hdg : decode cc pc = .ok (.putfield 44, 3)) (kk : ∀ (H1 : Heap) (locs1 : List Loc), hp_B D cA A s (hp_sr h a 5 (some b)) H1 locs1 → W p l e R s m args below meth c H1 locs1 cells slots Q (F0 m (pc + 3) ls rest)) : W p l e R s m args below meth c H locs cells slots Q (F0 m pc ls (.ref b :: .ref a :: rest)) :=
  hp_putX cx hB (ci := 5) 5 tyX5 tyX5_ok nmX5 rfl inX5 (by decide) rfl (by decide) (Or.inr ⟨rfl, hnm, rfl⟩) qw_264 hka (v := va_rf (some b)) (hp_like_sr h a 5 (some b)) (hp_fs_sr (by decide) rfl) rfl rfl hdg kk
end
abbrev yX5_init : MethodName := ⟨"SpokenMenus$Place", "<init>", "(IIIII)V"⟩
theorem dX5_init_0 : decode prog_7_method_1_code 0 = .ok (.aload_n 0, 1) := by decide +kernel
theorem dX5_init_1 : decode prog_7_method_1_code 1 = .ok (.invokespecial 3, 3) := by decide +kernel
theorem dX5_init_4 : decode prog_7_method_1_code 4 = .ok (.aload_n 0, 1) := by decide +kernel
theorem dX5_init_5 : decode prog_7_method_1_code 5 = .ok (.iconst 0, 1) := by decide +kernel
theorem dX5_init_6 : decode prog_7_method_1_code 6 = .ok (.putfield 9, 3) := by decide +kernel
theorem dX5_init_9 : decode prog_7_method_1_code 9 = .ok (.aload_n 0, 1) := by decide +kernel
theorem dX5_init_10 : decode prog_7_method_1_code 10 = .ok (.iconst 0, 1) := by decide +kernel
theorem dX5_init_11 : decode prog_7_method_1_code 11 = .ok (.putfield 15, 3) := by decide +kernel
theorem dX5_init_14 : decode prog_7_method_1_code 14 = .ok (.aload_n 0, 1) := by decide +kernel
theorem dX5_init_15 : decode prog_7_method_1_code 15 = .ok (.iconst 0, 1) := by decide +kernel
theorem dX5_init_16 : decode prog_7_method_1_code 16 = .ok (.putfield 18, 3) := by decide +kernel
theorem dX5_init_19 : decode prog_7_method_1_code 19 = .ok (.aload_n 0, 1) := by decide +kernel
theorem dX5_init_20 : decode prog_7_method_1_code 20 = .ok (.iconst 0, 1) := by decide +kernel
theorem dX5_init_21 : decode prog_7_method_1_code 21 = .ok (.putfield 21, 3) := by decide +kernel
theorem dX5_init_24 : decode prog_7_method_1_code 24 = .ok (.aload_n 0, 1) := by decide +kernel
theorem dX5_init_25 : decode prog_7_method_1_code 25 = .ok (.iconst 0, 1) := by decide +kernel
theorem dX5_init_26 : decode prog_7_method_1_code 26 = .ok (.putfield 24, 3) := by decide +kernel
theorem dX5_init_29 : decode prog_7_method_1_code 29 = .ok (.aload_n 0, 1) := by decide +kernel
theorem dX5_init_30 : decode prog_7_method_1_code 30 = .ok (.iload_n 1, 1) := by decide +kernel
theorem dX5_init_31 : decode prog_7_method_1_code 31 = .ok (.putfield 27, 3) := by decide +kernel
theorem dX5_init_34 : decode prog_7_method_1_code 34 = .ok (.aload_n 0, 1) := by decide +kernel
theorem dX5_init_35 : decode prog_7_method_1_code 35 = .ok (.iload_n 2, 1) := by decide +kernel
theorem dX5_init_36 : decode prog_7_method_1_code 36 = .ok (.putfield 30, 3) := by decide +kernel
theorem dX5_init_39 : decode prog_7_method_1_code 39 = .ok (.aload_n 0, 1) := by decide +kernel
theorem dX5_init_40 : decode prog_7_method_1_code 40 = .ok (.iload_n 3, 1) := by decide +kernel
theorem dX5_init_41 : decode prog_7_method_1_code 41 = .ok (.putfield 33, 3) := by decide +kernel
theorem dX5_init_44 : decode prog_7_method_1_code 44 = .ok (.aload_n 0, 1) := by decide +kernel
theorem dX5_init_45 : decode prog_7_method_1_code 45 = .ok (.iload 4, 2) := by decide +kernel
theorem dX5_init_47 : decode prog_7_method_1_code 47 = .ok (.putfield 36, 3) := by decide +kernel
theorem dX5_init_50 : decode prog_7_method_1_code 50 = .ok (.aload_n 0, 1) := by decide +kernel
theorem dX5_init_51 : decode prog_7_method_1_code 51 = .ok (.iload 5, 2) := by decide +kernel
theorem dX5_init_53 : decode prog_7_method_1_code 53 = .ok (.putfield 39, 3) := by decide +kernel
theorem dX5_init_56 : decode prog_7_method_1_code 56 = .ok (.aload_n 0, 1) := by decide +kernel
theorem dX5_init_57 : decode prog_7_method_1_code 57 = .ok (.iload_n 1, 1) := by decide +kernel
theorem dX5_init_58 : decode prog_7_method_1_code 58 = .ok (.ifCond .ne 8, 3) := by decide +kernel
theorem dX5_init_61 : decode prog_7_method_1_code 61 = .ok (.bipush 6, 2) := by decide +kernel
theorem dX5_init_63 : decode prog_7_method_1_code 63 = .ok (.goto 4, 3) := by decide +kernel
theorem dX5_init_66 : decode prog_7_method_1_code 66 = .ok (.iconst 0, 1) := by decide +kernel
theorem dX5_init_67 : decode prog_7_method_1_code 67 = .ok (.anewarray 42, 3) := by decide +kernel
theorem dX5_init_70 : decode prog_7_method_1_code 70 = .ok (.putfield 44, 3) := by decide +kernel
theorem dX5_init_73 : decode prog_7_method_1_code 73 = .ok (.return_, 1) := by decide +kernel
abbrev rmX5_init : Room := { frames := 1, cells := 1, slots := 6, locals := 20 }
def fX5_init  (t0 : Nat) (v1 : Int32) (v2 : Int32) (v3 : Int32) (v4 : Int32) (v5 : Int32) (h : Hp) : Option (Unit × Hp) :=
  gk (h.1 t0) 6 <|
  nm (hp_si h t0 6 0) fun g2 =>
  nm (hp_si g2 t0 7 0) fun g4 =>
  nm (hp_si g4 t0 8 0) fun g6 =>
  nm (hp_si g6 t0 9 0) fun g8 =>
  nm (hp_si g8 t0 10 0) fun g10 =>
  nm (hp_si g10 t0 0 v1) fun g12 =>
  nm (hp_si g12 t0 1 v2) fun g14 =>
  nm (hp_si g14 t0 2 v3) fun g16 =>
  nm (hp_si g16 t0 3 v4) fun g18 =>
  nm (hp_si g18 t0 4 v5) fun g20 =>
  if v1 = 0 then
  (nm g20.2.2.2.2 fun a27 =>
  nm (hp_nw g20 16 6) fun g28 =>
  gk (g28.1 t0) 6 <|
  nm (hp_sr g28 t0 5 (some a27)) fun g31 =>
  some ((), g31))
  else
  (nm g20.2.2.2.2 fun a22 =>
  nm (hp_nw g20 16 0) fun g23 =>
  gk (g23.1 t0) 6 <|
  nm (hp_sr g23 t0 5 (some a22)) fun g26 =>
  some ((), g26))
section
variable {p : Program} {l : Launch} {e : Env} {s : State} {m : MethodId} {args : Array Value} {below : List Frame} {meth : Method} {c : Code} {D : va_G} {cA : Nat → ClassId} {h0 h9 : Hp}
set_option maxHeartbeats 4000000 in
set_option maxRecDepth 100000 in
theorem tX5_init_0  (cx : CallFix p m c prog_7_method_1_code 6 s args tbG RX5) (hr : meth.sig.returnType = none) (hlk : meth.locks = false) (hnm : meth.name = "<init>")  (t0 : Nat) (v1 : Int32) (v2 : Int32) (v3 : Int32) (v4 : Int32) (v5 : Int32) (h : Hp) (H : Heap) (locs : List Loc) (ls : Array Slot) (hB : hp_B D cA (hp_A h0) s h H locs) (hl : lv_has ls 6 [(0, .ref t0), (1, .int v1), (2, .int v2), (3, .int v3), (4, .int v4), (5, .int v5)]) (hf : fX5_init  t0 v1 v2 v3 v4 v5 h = some ((), h9)) : W p l e rmX5_init s m args below meth c H locs 0 0 (MQ below (hp_Qv D cA h0 h9) args s 1 6 (hp_A h0)) (F0 m 0 ls []) := by
  obtain ⟨hx, hb, -⟩ := id cx
  unfold fX5_init at hf
  refine lv_aload_n hx hb dX5_init_0 rfl (lv_at hl 0 rfl) ?_
  refine W.objInit hx hb cx.2.2.2.1 (cx.2.2.2.2 _ (tb_in qw_244 rfl)) (cx.2.2.2.2 _ (tb_in qw_22 rfl)) (cx.2.2.2.2 _ (tb_in qw_23 rfl)) rfl (by rw [cx.2.2.1]; exact hl.1) rfl dX5_init_1 (Nat.le_of_ble_eq_true rfl) (Nat.le_of_ble_eq_true rfl) ?_
  refine W.eq (g2 := F0 m 4 ls []) rfl ?_
  refine lv_aload_n hx hb dX5_init_4 rfl (lv_at hl 0 rfl) ?_
  refine lv_iconst (v := 0) hx hb dX5_init_5 (by decide) ?_
  obtain ⟨k1, hf⟩ := gk_ok hf
  obtain ⟨g2, eg2, hf⟩ := nm_ok hf
  refine pf_X5_9 cx hB k1 dX5_init_6 (fun H locs hB => ?_)
  rw [← eg2] at hB
  refine lv_aload_n hx hb dX5_init_9 rfl (lv_at hl 0 rfl) ?_
  refine lv_iconst (v := 0) hx hb dX5_init_10 (by decide) ?_
  have k3 : g2.1 t0 = 6 := by rw [eg2]; exact k1
  obtain ⟨g4, eg4, hf⟩ := nm_ok hf
  refine pf_X5_15 cx hB k3 dX5_init_11 (fun H locs hB => ?_)
  rw [← eg4] at hB
  refine lv_aload_n hx hb dX5_init_14 rfl (lv_at hl 0 rfl) ?_
  refine lv_iconst (v := 0) hx hb dX5_init_15 (by decide) ?_
  have k5 : g4.1 t0 = 6 := by rw [eg4]; exact k3
  obtain ⟨g6, eg6, hf⟩ := nm_ok hf
  refine pf_X5_18 cx hB k5 dX5_init_16 (fun H locs hB => ?_)
  rw [← eg6] at hB
  refine lv_aload_n hx hb dX5_init_19 rfl (lv_at hl 0 rfl) ?_
  refine lv_iconst (v := 0) hx hb dX5_init_20 (by decide) ?_
  have k7 : g6.1 t0 = 6 := by rw [eg6]; exact k5
  obtain ⟨g8, eg8, hf⟩ := nm_ok hf
  refine pf_X5_21 cx hB k7 dX5_init_21 (fun H locs hB => ?_)
  rw [← eg8] at hB
  refine lv_aload_n hx hb dX5_init_24 rfl (lv_at hl 0 rfl) ?_
  refine lv_iconst (v := 0) hx hb dX5_init_25 (by decide) ?_
  have k9 : g8.1 t0 = 6 := by rw [eg8]; exact k7
  obtain ⟨g10, eg10, hf⟩ := nm_ok hf
  refine pf_X5_24 cx hB k9 dX5_init_26 (fun H locs hB => ?_)
  rw [← eg10] at hB
  refine lv_aload_n hx hb dX5_init_29 rfl (lv_at hl 0 rfl) ?_
  refine lv_iload_n hx hb dX5_init_30 rfl (lv_at hl 1 rfl) ?_
  have k11 : g10.1 t0 = 6 := by rw [eg10]; exact k9
  obtain ⟨g12, eg12, hf⟩ := nm_ok hf
  refine pf_X5_27 cx hB hnm k11 dX5_init_31 (fun H locs hB => ?_)
  rw [← eg12] at hB
  refine lv_aload_n hx hb dX5_init_34 rfl (lv_at hl 0 rfl) ?_
  refine lv_iload_n hx hb dX5_init_35 rfl (lv_at hl 2 rfl) ?_
  have k13 : g12.1 t0 = 6 := by rw [eg12]; exact k11
  obtain ⟨g14, eg14, hf⟩ := nm_ok hf
  refine pf_X5_30 cx hB hnm k13 dX5_init_36 (fun H locs hB => ?_)
  rw [← eg14] at hB
  refine lv_aload_n hx hb dX5_init_39 rfl (lv_at hl 0 rfl) ?_
  refine lv_iload_n hx hb dX5_init_40 rfl (lv_at hl 3 rfl) ?_
  have k15 : g14.1 t0 = 6 := by rw [eg14]; exact k13
  obtain ⟨g16, eg16, hf⟩ := nm_ok hf
  refine pf_X5_33 cx hB hnm k15 dX5_init_41 (fun H locs hB => ?_)
  rw [← eg16] at hB
  refine lv_aload_n hx hb dX5_init_44 rfl (lv_at hl 0 rfl) ?_
  refine lv_iload hx hb dX5_init_45 (lv_at hl 4 rfl) ?_
  have k17 : g16.1 t0 = 6 := by rw [eg16]; exact k15
  obtain ⟨g18, eg18, hf⟩ := nm_ok hf
  refine pf_X5_36 cx hB hnm k17 dX5_init_47 (fun H locs hB => ?_)
  rw [← eg18] at hB
  refine lv_aload_n hx hb dX5_init_50 rfl (lv_at hl 0 rfl) ?_
  refine lv_iload hx hb dX5_init_51 (lv_at hl 5 rfl) ?_
  have k19 : g18.1 t0 = 6 := by rw [eg18]; exact k17
  obtain ⟨g20, eg20, hf⟩ := nm_ok hf
  refine pf_X5_39 cx hB hnm k19 dX5_init_53 (fun H locs hB => ?_)
  rw [← eg20] at hB
  refine lv_aload_n hx hb dX5_init_56 rfl (lv_at hl 0 rfl) ?_
  refine lv_iload_n hx hb dX5_init_57 rfl (lv_at hl 1 rfl) ?_
  refine lv_if_ne (tgt := 66) hx hb dX5_init_58 (by decide) (fun c21 => ?_) (fun c21 => ?_)
  · replace hf := it_f c21 hf
    refine lv_iconst (v := 0) hx hb dX5_init_66 (by decide) ?_
    obtain ⟨a22, ea22, hf⟩ := nm_ok hf
    obtain ⟨g23, eg23, hf⟩ := nm_ok hf
    refine hp_newq cx hB 16 (N' := 0) (by decide) rfl qw_245 (fun h9 => h9.2.2.1) ea22 (by decide) (by decide) (by decide) (Nat.le_of_ble_eq_true rfl) (Nat.le_of_ble_eq_true rfl) dX5_init_67 (fun H hB => ?_)
    rw [← eg23] at hB
    have k24 : g23.1 a22 = 16 := by rw [eg23, ea22]; exact va_up_self _ _ _
    obtain ⟨k25, hf⟩ := gk_ok hf
    obtain ⟨g26, eg26, hf⟩ := nm_ok hf
    refine pf_X5_44 cx hB hnm k25 dX5_init_70 (fun H locs hB => ?_)
    rw [← eg26] at hB
    obtain ⟨-, rfl⟩ := rt_ok hf
    exact hp_vret cx hB hr hlk (Nat.le_of_ble_eq_true rfl) (Nat.le_of_ble_eq_true rfl) dX5_init_73
  · replace hf := it_t c21 hf
    refine lv_bipush (v := 6) hx hb dX5_init_61 (by decide) ?_
    refine lv_goto (tgt := 67) hx hb dX5_init_63 (by decide) ?_
    obtain ⟨a27, ea27, hf⟩ := nm_ok hf
    obtain ⟨g28, eg28, hf⟩ := nm_ok hf
    refine hp_newq cx hB 16 (N' := 6) (by decide) rfl qw_245 (fun h9 => h9.2.2.1) ea27 (by decide) (by decide) (by decide) (Nat.le_of_ble_eq_true rfl) (Nat.le_of_ble_eq_true rfl) dX5_init_67 (fun H hB => ?_)
    rw [← eg28] at hB
    have k29 : g28.1 a27 = 16 := by rw [eg28, ea27]; exact va_up_self _ _ _
    obtain ⟨k30, hf⟩ := gk_ok hf
    obtain ⟨g31, eg31, hf⟩ := nm_ok hf
    refine pf_X5_44 cx hB hnm k30 dX5_init_70 (fun H locs hB => ?_)
    rw [← eg31] at hB
    obtain ⟨-, rfl⟩ := rt_ok hf
    exact hp_vret cx hB hr hlk (Nat.le_of_ble_eq_true rfl) (Nat.le_of_ble_eq_true rfl) dX5_init_73
end
set_option maxHeartbeats 4000000 in
set_option maxRecDepth 100000 in
theorem cX5_init (l : Launch) (D : va_G) (cA : Nat → ClassId) (t0 : Nat) (v1 : Int32) (v2 : Int32) (v3 : Int32) (v4 : Int32) (v5 : Int32) (h : Hp) (_u : Unit) (h9 : Hp) (hf : fX5_init t0 v1 v2 v3 v4 v5 h = some (_u, h9)) : hp_M l yX5_init prog_7_method_1_code 6 none rmX5_init D cA h [.ref t0, .int v1, .int v2, .int v3, .int v4, .int v5] (hp_Qv D cA h h9) := by
  refine Met.ofW (cc := prog_7_method_1_code) (maxL := 6) (ret := none) (by decide) rfl ?_
  intro p e s m args below meth c s₁ B hml hv
  obtain ⟨rfl, hU⟩ := hv
  have hts := atoms_spec (ws := Cond.code yX5_init prog_7_method_1_code 6 none :: tbG) B.pre
  have hl := lv_entry ([.ref t0, .int v1, .int v2, .int v3, .int v4, .int v5]) (n := 6) (Nat.le_of_ble_eq_true rfl)
  rw [lg_entry_eq]
  generalize (lg_sl ([.ref t0, .int v1, .int v2, .int v3, .int v4, .int v5]) ++ List.replicate (6 - (lg_sl ([.ref t0, .int v1, .int v2, .int v3, .int v4, .int v5])).length) Slot.unset).toArray = ls at hl ⊢
  exact tX5_init_0 ⟨B.exec, B.bytes, hml, findClass_of_methodNamed B.named, fun w hw => hts w (List.mem_cons_of_mem _ hw)⟩ B.returns B.notSynchronized ((name_of_methodNamed B.named B.method).1) t0 v1 v2 v3 v4 v5 h _ _ _ (hp_B.entry hU) hl hf
