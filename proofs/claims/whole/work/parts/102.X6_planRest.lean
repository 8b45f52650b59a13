section
variable {p : Program} {l : Launch} {e : Env} {R : Room} {s : State} {m : MethodId} {args : Array Value} {below : List Frame} {meth : Method} {c : Code} {H : Heap} {locs : List Loc} {cells slots : Nat} {Q : State → Prop}
variable {cc : ByteArray} {pc nL : Nat} {ls : Array Slot} {rest : List Value} {D : va_G} {cA : Nat → ClassId} {A : Nat → Prop} {a : Nat} {h : Hp}
theorem gf_X6_42 (cx : CallFix p m c cc nL s args tbG RX6) (hB : hp_B D cA A s h H locs) (hka : h.1 a = 7) {b : Nat} (ho : h.2.2.2.1 a 9 = some b) (hdg : decode cc pc = .ok (.getfield 42, 3)) (kk : W p l e R s m args below meth c H locs cells slots Q (F0 m (pc + 3) ls (.ref b :: rest))) : W p l e R s m args below meth c H locs cells slots Q (F0 m pc ls (.ref a :: rest)) :=
  hp_getR cx hB (ci := 6) 9 rfl inX6 (by decide) rfl (by decide) rfl qw_133 hka (o := some b) ho.symm hdg kk
end
abbrev yX6_planRest : MethodName := ⟨"SpokenMenus$Planner", "planRest", "(II)V"⟩
theorem dX6_planRest_0 : decode prog_8_method_6_code 0 = .ok (.ldc 51, 2) := by decide +kernel
theorem dX6_planRest_2 : decode prog_8_method_6_code 2 = .ok (.istore_n 3, 1) := by decide +kernel
theorem dX6_planRest_3 : decode prog_8_method_6_code 3 = .ok (.iload_n 1, 1) := by decide +kernel
theorem dX6_planRest_4 : decode prog_8_method_6_code 4 = .ok (.istore 4, 2) := by decide +kernel
theorem dX6_planRest_6 : decode prog_8_method_6_code 6 = .ok (.iload 4, 2) := by decide +kernel
theorem dX6_planRest_8 : decode prog_8_method_6_code 8 = .ok (.ifCond .le 58, 3) := by decide +kernel
theorem dX6_planRest_11 : decode prog_8_method_6_code 11 = .ok (.aload_n 0, 1) := by decide +kernel
theorem dX6_planRest_12 : decode prog_8_method_6_code 12 = .ok (.iload 4, 2) := by decide +kernel
theorem dX6_planRest_14 : decode prog_8_method_6_code 14 = .ok (.iload_n 1, 1) := by decide +kernel
theorem dX6_planRest_15 : decode prog_8_method_6_code 15 = .ok (.invokevirtual 70, 3) := by decide +kernel
theorem dX6_planRest_18 : decode prog_8_method_6_code 18 = .ok (.aload_n 0, 1) := by decide +kernel
theorem dX6_planRest_19 : decode prog_8_method_6_code 19 = .ok (.getfield 39, 3) := by decide +kernel
theorem dX6_planRest_22 : decode prog_8_method_6_code 22 = .ok (.iload_n 2, 1) := by decide +kernel
theorem dX6_planRest_23 : decode prog_8_method_6_code 23 = .ok (.iconst 1, 1) := by decide +kernel
theorem dX6_planRest_24 : decode prog_8_method_6_code 24 = .ok (.isub, 1) := by decide +kernel
theorem dX6_planRest_25 : decode prog_8_method_6_code 25 = .ok (.aaload, 1) := by decide +kernel
theorem dX6_planRest_26 : decode prog_8_method_6_code 26 = .ok (.iload_n 1, 1) := by decide +kernel
theorem dX6_planRest_27 : decode prog_8_method_6_code 27 = .ok (.iload 4, 2) := by decide +kernel
theorem dX6_planRest_29 : decode prog_8_method_6_code 29 = .ok (.iconst (-1), 1) := by decide +kernel
theorem dX6_planRest_30 : decode prog_8_method_6_code 30 = .ok (.ixor, 1) := by decide +kernel
theorem dX6_planRest_31 : decode prog_8_method_6_code 31 = .ok (.iand, 1) := by decide +kernel
theorem dX6_planRest_32 : decode prog_8_method_6_code 32 = .ok (.iaload, 1) := by decide +kernel
theorem dX6_planRest_33 : decode prog_8_method_6_code 33 = .ok (.iadd, 1) := by decide +kernel
theorem dX6_planRest_34 : decode prog_8_method_6_code 34 = .ok (.istore 5, 2) := by decide +kernel
theorem dX6_planRest_36 : decode prog_8_method_6_code 36 = .ok (.iload 5, 2) := by decide +kernel
theorem dX6_planRest_38 : decode prog_8_method_6_code 38 = .ok (.iload_n 3, 1) := by decide +kernel
theorem dX6_planRest_39 : decode prog_8_method_6_code 39 = .ok (.if_icmp .gt 16, 3) := by decide +kernel
theorem dX6_planRest_42 : decode prog_8_method_6_code 42 = .ok (.iload 5, 2) := by decide +kernel
theorem dX6_planRest_44 : decode prog_8_method_6_code 44 = .ok (.istore_n 3, 1) := by decide +kernel
theorem dX6_planRest_45 : decode prog_8_method_6_code 45 = .ok (.aload_n 0, 1) := by decide +kernel
theorem dX6_planRest_46 : decode prog_8_method_6_code 46 = .ok (.getfield 42, 3) := by decide +kernel
theorem dX6_planRest_49 : decode prog_8_method_6_code 49 = .ok (.iload_n 2, 1) := by decide +kernel
theorem dX6_planRest_50 : decode prog_8_method_6_code 50 = .ok (.aaload, 1) := by decide +kernel
theorem dX6_planRest_51 : decode prog_8_method_6_code 51 = .ok (.iload_n 1, 1) := by decide +kernel
theorem dX6_planRest_52 : decode prog_8_method_6_code 52 = .ok (.iload 4, 2) := by decide +kernel
theorem dX6_planRest_54 : decode prog_8_method_6_code 54 = .ok (.iastore, 1) := by decide +kernel
theorem dX6_planRest_55 : decode prog_8_method_6_code 55 = .ok (.iload 4, 2) := by decide +kernel
theorem dX6_planRest_57 : decode prog_8_method_6_code 57 = .ok (.iconst 1, 1) := by decide +kernel
theorem dX6_planRest_58 : decode prog_8_method_6_code 58 = .ok (.isub, 1) := by decide +kernel
theorem dX6_planRest_59 : decode prog_8_method_6_code 59 = .ok (.iload_n 1, 1) := by decide +kernel
theorem dX6_planRest_60 : decode prog_8_method_6_code 60 = .ok (.iand, 1) := by decide +kernel
theorem dX6_planRest_61 : decode prog_8_method_6_code 61 = .ok (.istore 4, 2) := by decide +kernel
theorem dX6_planRest_63 : decode prog_8_method_6_code 63 = .ok (.goto (-57), 3) := by decide +kernel
theorem dX6_planRest_66 : decode prog_8_method_6_code 66 = .ok (.aload_n 0, 1) := by decide +kernel
theorem dX6_planRest_67 : decode prog_8_method_6_code 67 = .ok (.getfield 39, 3) := by decide +kernel
theorem dX6_planRest_70 : decode prog_8_method_6_code 70 = .ok (.iload_n 2, 1) := by decide +kernel
theorem dX6_planRest_71 : decode prog_8_method_6_code 71 = .ok (.aaload, 1) := by decide +kernel
theorem dX6_planRest_72 : decode prog_8_method_6_code 72 = .ok (.iload_n 1, 1) := by decide +kernel
theorem dX6_planRest_73 : decode prog_8_method_6_code 73 = .ok (.iload_n 3, 1) := by decide +kernel
theorem dX6_planRest_74 : decode prog_8_method_6_code 74 = .ok (.iastore, 1) := by decide +kernel
theorem dX6_planRest_75 : decode prog_8_method_6_code 75 = .ok (.return_, 1) := by decide +kernel
abbrev rmX6_planRest : Room := { frames := 2, cells := 0, slots := 0, locals := 43 }
def bX6_planRest_6  (rc : Nat → Int32 → Int32 → Int32 → Int32 → Hp → Option (Unit × Hp)) (t0 : Nat) (v1 : Int32) (v2 : Int32) (v3 : Int32) (v4 : Int32) (h : Hp) : Option (Unit × Hp) :=
  if v4 ≤ 0 then
  (gk (h.1 t0) 7 <|
  bd (h.2.2.2.1 t0 8) fun a3 =>
  gk (h.1 a3) 18 <|
  gd (ix v2 (h.2.1 a3)) <|
  bd (h.2.2.2.1 a3 (Int32.toNatClampNeg v2)) fun a7 =>
  gk (h.1 a7) 13 <|
  gd (ix v1 (h.2.1 a7)) <|
  nm (hp_si h a7 (Int32.toNatClampNeg v1) v3) fun g11 =>
  some ((), g11))
  else
  (gk (h.1 t0) 7 <|
  b2 (fX6_costOfLine t0 v4 v1 h) fun r15 g13 =>
  gk (g13.1 t0) 7 <|
  bd (g13.2.2.2.1 t0 8) fun a18 =>
  gk (g13.1 a18) 18 <|
  gd (ix (v2 - 1) (g13.2.1 a18)) <|
  bd (g13.2.2.2.1 a18 (Int32.toNatClampNeg (v2 - 1))) fun a22 =>
  gk (g13.1 a22) 13 <|
  gd (ix (v1 &&& (v4 ^^^ (-1))) (g13.2.1 a22)) <|
  nm (r15 + (g13.2.2.1 a22 (Int32.toNatClampNeg (v1 &&& (v4 ^^^ (-1)))))) fun x26 =>
  if v3 < x26 then
  (nm ((v4 - 1) &&& v1) fun x28 =>
  rc t0 v1 v2 v3 x28 g13)
  else
  (bd (g13.2.2.2.1 t0 9) fun a29 =>
  gk (g13.1 a29) 18 <|
  gd (ix v2 (g13.2.1 a29)) <|
  bd (g13.2.2.2.1 a29 (Int32.toNatClampNeg v2)) fun a33 =>
  gk (g13.1 a33) 13 <|
  gd (ix v1 (g13.2.1 a33)) <|
  nm (hp_si g13 a33 (Int32.toNatClampNeg v1) v4) fun g37 =>
  nm ((v4 - 1) &&& v1) fun x38 =>
  rc t0 v1 v2 x26 x38 g37))
def fX6_planRest_6  : Nat → Int32 → Int32 → Int32 → Int32 → Hp → Option (Unit × Hp) := fx (bX6_planRest_6 ) (fun _ _ _ _ _ _ => none) NF
def fX6_planRest  (t0 : Nat) (v1 : Int32) (v2 : Int32) (h : Hp) : Option (Unit × Hp) :=
  fX6_planRest_6  t0 v1 v2 500000000 v1 h
section
variable {p : Program} {l : Launch} {e : Env} {s : State} {m : MethodId} {args : Array Value} {below : List Frame} {meth : Method} {c : Code} {D : va_G} {cA : Nat → ClassId} {h0 h9 : Hp}
set_option maxHeartbeats 4000000 in
set_option maxRecDepth 100000 in
theorem tX6_planRest_6  (cx : CallFix p m c prog_8_method_6_code 6 s args tbG RX6) (hr : meth.sig.returnType = none) (hlk : meth.locks = false)  (n : Nat) : ∀ (t0 : Nat) (v1 : Int32) (v2 : Int32) (v3 : Int32) (v4 : Int32) (h : Hp) (H : Heap) (locs : List Loc) (ls : Array Slot), hp_B D cA (hp_A h0) s h H locs → lv_has ls 6 [(0, .ref t0), (1, .int v1), (2, .int v2), (3, .int v3), (4, .int v4)] → fx (bX6_planRest_6 ) (fun _ _ _ _ _ _ => none) n t0 v1 v2 v3 v4 h = some ((), h9) → W p l e rmX6_planRest s m args below meth c H locs 0 0 (MQ below (hp_Qv D cA h0 h9) args s 0 0 (hp_A h0)) (F0 m 6 ls []) := by
  obtain ⟨hx, hb, -⟩ := id cx
  induction n with
  | zero => intro t0 v1 v2 v3 v4 h H locs ls hB hl hf; cases hf
  | succ n ih =>
    intro t0 v1 v2 v3 v4 h H locs ls hB hl hf
    replace hf : bX6_planRest_6  (fx (bX6_planRest_6 ) (fun _ _ _ _ _ _ => none) n) t0 v1 v2 v3 v4 h = some ((), h9) := hf
    unfold bX6_planRest_6 at hf
    refine lv_iload hx hb dX6_planRest_6 (lv_at hl 4 rfl) ?_
    refine lv_if_le (tgt := 66) hx hb dX6_planRest_8 (by decide) (fun c1 => ?_) (fun c1 => ?_)
    · replace hf := it_t c1 hf
      refine lv_aload_n hx hb dX6_planRest_66 rfl (lv_at hl 0 rfl) ?_
      obtain ⟨k2, hf⟩ := gk_ok hf
      obtain ⟨a3, q4, hf⟩ := bd_ok hf
      refine gf_X6_39 cx hB k2 q4 dX6_planRest_67 ?_
      refine lv_iload_n hx hb dX6_planRest_70 rfl (lv_at hl 2 rfl) ?_
      obtain ⟨k5, hf⟩ := gk_ok hf
      obtain ⟨j6, hf⟩ := gd_ok hf
      obtain ⟨a7, q8, hf⟩ := bd_ok hf
      refine hp_aald cx hB 18 (.array .int) (by decide) rfl rfl k5 j6 (o := some a7) q8.symm dX6_planRest_71 ?_
      refine lv_iload_n hx hb dX6_planRest_72 rfl (lv_at hl 1 rfl) ?_
      refine lv_iload_n hx hb dX6_planRest_73 rfl (lv_at hl 3 rfl) ?_
      obtain ⟨k9, hf⟩ := gk_ok hf
      obtain ⟨j10, hf⟩ := gd_ok hf
      obtain ⟨g11, eg11, hf⟩ := nm_ok hf
      refine hp_iast cx hB k9 j10 dX6_planRest_74 (fun H locs hB => ?_)
      rw [← eg11] at hB
      obtain ⟨-, rfl⟩ := rt_ok hf
      exact hp_vret cx hB hr hlk (Nat.le_of_ble_eq_true rfl) (Nat.le_of_ble_eq_true rfl) dX6_planRest_75
    · replace hf := it_f c1 hf
      refine lv_aload_n hx hb dX6_planRest_11 rfl (lv_at hl 0 rfl) ?_
      refine lv_iload hx hb dX6_planRest_12 (lv_at hl 4 rfl) ?_
      refine lv_iload_n hx hb dX6_planRest_14 rfl (lv_at hl 1 rfl) ?_
      obtain ⟨k12, hf⟩ := gk_ok hf
      obtain ⟨r15, g13, m14, hf⟩ := b2_ok hf
      refine hp_cI0 (cl_X6_70 cx hB (cX6_costOfLine l D cA t0 v4 v1 h _ g13 m14) k12 ⟨Nat.le_of_ble_eq_true rfl, Nat.le_of_ble_eq_true rfl⟩ rfl hl.1 rfl (Nat.le_of_ble_eq_true rfl) ⟨Nat.le_of_ble_eq_true rfl, Nat.le_of_ble_eq_true rfl⟩ dX6_planRest_15) rfl rfl hB (fun H locs hB => ?_)
      refine lv_aload_n hx hb dX6_planRest_18 rfl (lv_at hl 0 rfl) ?_
      obtain ⟨k17, hf⟩ := gk_ok hf
      obtain ⟨a18, q19, hf⟩ := bd_ok hf
      refine gf_X6_39 cx hB k17 q19 dX6_planRest_19 ?_
      refine lv_iload_n hx hb dX6_planRest_22 rfl (lv_at hl 2 rfl) ?_
      refine lv_iconst (v := 1) hx hb dX6_planRest_23 (by decide) ?_
      refine lv_isub hx hb dX6_planRest_24 ?_
      obtain ⟨k20, hf⟩ := gk_ok hf
      obtain ⟨j21, hf⟩ := gd_ok hf
      obtain ⟨a22, q23, hf⟩ := bd_ok hf
      refine hp_aald cx hB 18 (.array .int) (by decide) rfl rfl k20 j21 (o := some a22) q23.symm dX6_planRest_25 ?_
      refine lv_iload_n hx hb dX6_planRest_26 rfl (lv_at hl 1 rfl) ?_
      refine lv_iload hx hb dX6_planRest_27 (lv_at hl 4 rfl) ?_
      refine lv_iconst (v := (-1)) hx hb dX6_planRest_29 (by decide) ?_
      refine lv_ixor hx hb dX6_planRest_30 ?_
      refine lv_iand hx hb dX6_planRest_31 ?_
      obtain ⟨k24, hf⟩ := gk_ok hf
      obtain ⟨j25, hf⟩ := gd_ok hf
      refine hp_iald cx hB k24 j25 dX6_planRest_32 ?_
      refine lv_iadd hx hb dX6_planRest_33 ?_
      obtain ⟨x26, ex26, hf⟩ := nm_ok hf
      refine lv_ren ex26 ?_
      refine lv_istore (lv' := [(5, .int x26), (0, .ref t0), (1, .int v1), (2, .int v2), (3, .int v3), (4, .int v4)]) hx hb dX6_planRest_34 hl (by decide) rfl (fun ls hl => ?_)
      refine lv_iload hx hb dX6_planRest_36 (lv_at hl 0 rfl) ?_
      refine lv_iload_n hx hb dX6_planRest_38 rfl (lv_at hl 4 rfl) ?_
      refine lv_icmp_gt (tgt := 55) hx hb dX6_planRest_39 (by decide) (fun c27 => ?_) (fun c27 => ?_)
      · replace hf := it_t c27 hf
        refine lv_iload hx hb dX6_planRest_55 (lv_at hl 5 rfl) ?_
        refine lv_iconst (v := 1) hx hb dX6_planRest_57 (by decide) ?_
        refine lv_isub hx hb dX6_planRest_58 ?_
        refine lv_iload_n hx hb dX6_planRest_59 rfl (lv_at hl 2 rfl) ?_
        refine lv_iand hx hb dX6_planRest_60 ?_
        obtain ⟨x28, ex28, hf⟩ := nm_ok hf
        refine lv_ren ex28 ?_
        refine lv_istore (lv' := [(4, .int x28), (5, .int x26), (0, .ref t0), (1, .int v1), (2, .int v2), (3, .int v3)]) hx hb dX6_planRest_61 hl (by decide) rfl (fun ls hl => ?_)
        refine lv_goto (tgt := 6) hx hb dX6_planRest_63 (by decide) ?_
        exact ih t0 v1 v2 v3 x28 g13 _ _ _ hB (lv_sub hl [2, 3, 4, 5, 0] rfl) hf
      · replace hf := it_f c27 hf
        refine lv_iload hx hb dX6_planRest_42 (lv_at hl 0 rfl) ?_
        refine lv_istore_n (lv' := [(3, .int x26), (5, .int x26), (0, .ref t0), (1, .int v1), (2, .int v2), (4, .int v4)]) hx hb dX6_planRest_44 rfl hl (by decide) rfl (fun ls hl => ?_)
        refine lv_aload_n hx hb dX6_planRest_45 rfl (lv_at hl 2 rfl) ?_
        obtain ⟨a29, q30, hf⟩ := bd_ok hf
        refine gf_X6_42 cx hB k17 q30 dX6_planRest_46 ?_
        refine lv_iload_n hx hb dX6_planRest_49 rfl (lv_at hl 4 rfl) ?_
        obtain ⟨k31, hf⟩ := gk_ok hf
        obtain ⟨j32, hf⟩ := gd_ok hf
        obtain ⟨a33, q34, hf⟩ := bd_ok hf
        refine hp_aald cx hB 18 (.array .int) (by decide) rfl rfl k31 j32 (o := some a33) q34.symm dX6_planRest_50 ?_
        refine lv_iload_n hx hb dX6_planRest_51 rfl (lv_at hl 3 rfl) ?_
        refine lv_iload hx hb dX6_planRest_52 (lv_at hl 5 rfl) ?_
        obtain ⟨k35, hf⟩ := gk_ok hf
        obtain ⟨j36, hf⟩ := gd_ok hf
        obtain ⟨g37, eg37, hf⟩ := nm_ok hf
        refine hp_iast cx hB k35 j36 dX6_planRest_54 (fun H locs hB => ?_)
        rw [← eg37] at hB
        refine lv_iload hx hb dX6_planRest_55 (lv_at hl 5 rfl) ?_
        refine lv_iconst (v := 1) hx hb dX6_planRest_57 (by decide) ?_
        refine lv_isub hx hb dX6_planRest_58 ?_
        refine lv_iload_n hx hb dX6_planRest_59 rfl (lv_at hl 3 rfl) ?_
        refine lv_iand hx hb dX6_planRest_60 ?_
        obtain ⟨x38, ex38, hf⟩ := nm_ok hf
        refine lv_ren ex38 ?_
        refine lv_istore (lv' := [(4, .int x38), (3, .int x26), (5, .int x26), (0, .ref t0), (1, .int v1), (2, .int v2)]) hx hb dX6_planRest_61 hl (by decide) rfl (fun ls hl => ?_)
        refine lv_goto (tgt := 6) hx hb dX6_planRest_63 (by decide) ?_
        exact ih t0 v1 v2 x26 x38 g37 _ _ _ hB (lv_sub hl [3, 4, 5, 1, 0] rfl) hf
set_option maxHeartbeats 4000000 in
set_option maxRecDepth 100000 in
theorem tX6_planRest_0  (cx : CallFix p m c prog_8_method_6_code 6 s args tbG RX6) (hr : meth.sig.returnType = none) (hlk : meth.locks = false)  (t0 : Nat) (v1 : Int32) (v2 : Int32) (h : Hp) (H : Heap) (locs : List Loc) (ls : Array Slot) (hB : hp_B D cA (hp_A h0) s h H locs) (hl : lv_has ls 6 [(0, .ref t0), (1, .int v1), (2, .int v2)]) (hf : fX6_planRest  t0 v1 v2 h = some ((), h9)) : W p l e rmX6_planRest s m args below meth c H locs 0 0 (MQ below (hp_Qv D cA h0 h9) args s 0 0 (hp_A h0)) (F0 m 0 ls []) := by
  obtain ⟨hx, hb, -⟩ := id cx
  unfold fX6_planRest at hf
  refine lv_ldc (v := 500000000) hx hb cx.2.2.2.1 (cx.2.2.2.2 _ (tb_in qw_120 rfl)) dX6_planRest_0 ?_
  refine lv_istore_n (lv' := [(3, .int 500000000), (0, .ref t0), (1, .int v1), (2, .int v2)]) hx hb dX6_planRest_2 rfl hl (by decide) rfl (fun ls hl => ?_)
  refine lv_iload_n hx hb dX6_planRest_3 rfl (lv_at hl 2 rfl) ?_
  refine lv_istore (lv' := [(4, .int v1), (3, .int 500000000), (0, .ref t0), (1, .int v1), (2, .int v2)]) hx hb dX6_planRest_4 hl (by decide) rfl (fun ls hl => ?_)
  exact tX6_planRest_6 cx hr hlk  NF t0 v1 v2 500000000 v1 h _ _ _ hB (lv_sub hl [2, 3, 4, 1, 0] rfl) hf
end
set_option maxHeartbeats 4000000 in
set_option maxRecDepth 100000 in
theorem cX6_planRest (l : Launch) (D : va_G) (cA : Nat → ClassId) (t0 : Nat) (v1 : Int32) (v2 : Int32) (h : Hp) (_u : Unit) (h9 : Hp) (hf : fX6_planRest t0 v1 v2 h = some (_u, h9)) : hp_M l yX6_planRest prog_8_method_6_code 6 none rmX6_planRest D cA h [.ref t0, .int v1, .int v2] (hp_Qv D cA h h9) := by
  refine Met.ofW (cc := prog_8_method_6_code) (maxL := 6) (ret := none) (by decide) rfl ?_
  intro p e s m args below meth c s₁ B hml hv
  obtain ⟨rfl, hU⟩ := hv
  have hts := atoms_spec (ws := Cond.code yX6_planRest prog_8_method_6_code 6 none :: tbG) B.pre
  have hl := lv_entry ([.ref t0, .int v1, .int v2]) (n := 6) (Nat.le_of_ble_eq_true rfl)
  rw [lg_entry_eq]
  generalize (lg_sl ([.ref t0, .int v1, .int v2]) ++ List.replicate (6 - (lg_sl ([.ref t0, .int v1, .int v2])).length) Slot.unset).toArray = ls at hl ⊢
  exact tX6_planRest_0 ⟨B.exec, B.bytes, hml, findClass_of_methodNamed B.named, fun w hw => hts w (List.mem_cons_of_mem _ hw)⟩ B.returns B.notSynchronized t0 v1 v2 h _ _ _ (hp_B.entry hU) hl hf
section
variable {p : Program} {l : Launch} {e : Env} {R : Room} {s : State} {m : MethodId} {args : Array Value} {below : List Frame} {meth : Method} {c : Code} {H : Heap} {locs : List Loc} {cells slots : Nat} {Q : State → Prop}
variable {cc : ByteArray} {pc nL : Nat} {ls : Array Slot} {rest : List Value} {D : va_G} {cA : Nat → ClassId} {A : Nat → Prop} {a : Nat} {h : Hp}
theorem pf_X6_25 (cx : CallFix p m c cc nL s args tbG RX6) (hB : hp_B D cA A s h H locs) (hka : h.1 a = 7) {x : Int32} (hdg : decode cc pc = .ok (.putfield 25, 3)) (kk : ∀ (H1 : Heap) (locs1 : List Loc), hp_B D cA A s (hp_si h a 4 x) H1 locs1 → W p l e R s m args below meth c H1 locs1 cells slots Q (F0 m (pc + 3) ls rest)) : W p l e R s m args below meth c H locs cells slots Q (F0 m pc ls (.int x :: .ref a :: rest)) :=
  hp_putX cx hB (ci := 6) 4 tyX6 tyX6_ok nmX6 rfl inX6 (by decide) rfl (by decide) (Or.inl rfl) qw_128 hka (v := .int x) (hp_like_si h a 4 x) (hp_fs_si (by decide) rfl) rfl rfl hdg kk
theorem pf_X6_22 (cx : CallFix p m c cc nL s args tbG RX6) (hB : hp_B D cA A s h H locs) (hka : h.1 a = 7) {x : Int32} (hdg : decode cc pc = .ok (.putfield 22, 3)) (kk : ∀ (H1 : Heap) (locs1 : List Loc), hp_B D cA A s (hp_si h a 3 x) H1 locs1 → W p l e R s m args below meth c H1 locs1 cells slots Q (F0 m (pc + 3) ls rest)) : W p l e R s m args below meth c H locs cells slots Q (F0 m pc ls (.int x :: .ref a :: rest)) :=
  hp_putX cx hB (ci := 6) 3 tyX6 tyX6_ok nmX6 rfl inX6 (by decide) rfl (by decide) (Or.inl rfl) qw_127 hka (v := .int x) (hp_like_si h a 3 x) (hp_fs_si (by decide) rfl) rfl rfl hdg kk
theorem pf_X6_18 (cx : CallFix p m c cc nL s args tbG RX6) (hB : hp_B D cA A s h H locs) (hka : h.1 a = 7) {x : Int32} (hdg : decode cc pc = .ok (.putfield 18, 3)) (kk : ∀ (H1 : Heap) (locs1 : List Loc), hp_B D cA A s (hp_si h a 2 x) H1 locs1 → W p l e R s m args below meth c H1 locs1 cells slots Q (F0 m (pc + 3) ls rest)) : W p l e R s m args below meth c H locs cells slots Q (F0 m pc ls (.int x :: .ref a :: rest)) :=
  hp_putX cx hB (ci := 6) 2 tyX6 tyX6_ok nmX6 rfl inX6 (by decide) rfl (by decide) (Or.inl rfl) qw_125 hka (v := .int x) (hp_like_si h a 2 x) (hp_fs_si (by decide) rfl) rfl rfl hdg kk
theorem gf_X6_18 (cx : CallFix p m c cc nL s args tbG RX6) (hB : hp_B D cA A s h H locs) (hka : h.1 a = 7) (hdg : decode cc pc = .ok (.getfield 18, 3)) (kk : W p l e R s m args below meth c H locs cells slots Q (F0 m (pc + 3) ls (.int (h.2.2.1 a 2) :: rest))) : W p l e R s m args below meth c H locs cells slots Q (F0 m pc ls (.ref a :: rest)) :=
  hp_getI cx hB (ci := 6) 2 rfl inX6 (by decide) rfl (by decide) rfl qw_125 hka hdg kk
theorem gf_X6_15 (cx : CallFix p m c cc nL s args tbG RX6) (hB : hp_B D cA A s h H locs) (hka : h.1 a = 7) {b : Nat} (ho : h.2.2.2.1 a 1 = some b) (hdg : decode cc pc = .ok (.getfield 15, 3)) (kk : W p l e R s m args below meth c H locs cells slots Q (F0 m (pc + 3) ls (.ref b :: rest))) : W p l e R s m args below meth c H locs cells slots Q (F0 m pc ls (.ref a :: rest)) :=
  hp_getR cx hB (ci := 6) 1 rfl inX6 (by decide) rfl (by decide) rfl qw_123 hka (o := some b) ho.symm hdg kk
theorem cl_X6_58 {As st0 : List Value} {b : Nat} {Qc : Array Value → State → Outcome → State → Prop} (cx : CallFix p m c cc nL s args tbG RX6) (hB : hp_B D cA A s h H locs) (hM : hp_M l yX6_planMenu prog_8_method_5_code 4 none rmX6_planMenu D cA h (.ref b :: As) Qc) (hkb : h.1 b = 7) (hR : rmX6_planMenu.frames + 1 ≤ R.frames ∧ 8 + (4 + 11) + rmX6_planMenu.locals ≤ R.locals) (hn : As.length = 1) (hls : ls.size = nL) (hst : st0 = As.reverse ++ .ref b :: rest) (hW : (rest.map fun v => v.category).sum ≤ 8) (hf : cells + rmX6_planMenu.cells ≤ R.cells ∧ slots + rmX6_planMenu.slots ≤ R.slots) (hdg : decode cc pc = .ok (.invokevirtual 58, 3)) :
    va_Run p l e R s m args below meth c H locs cells slots rmX6_planMenu.cells rmX6_planMenu.slots (F0 m pc ls st0) rest (Qc (Value.ref b :: As).toArray) (hp_A h) :=
  hp_runV cx hB hM (ci := 6) rfl (by decide) hkb qw_698 qw_695 qw_697 qp_13 qw_7 (by decide +kernel) hR hn hls hst hW hf hdg
theorem cl_X6_62 {As st0 : List Value} {b : Nat} {Qc : Array Value → State → Outcome → State → Prop} (cx : CallFix p m c cc nL s args tbG RX6) (hB : hp_B D cA A s h H locs) (hM : hp_M l yX6_planRest prog_8_method_6_code 6 none rmX6_planRest D cA h (.ref b :: As) Qc) (hkb : h.1 b = 7) (hR : rmX6_planRest.frames + 1 ≤ R.frames ∧ 8 + (6 + 11) + rmX6_planRest.locals ≤ R.locals) (hn : As.length = 2) (hls : ls.size = nL) (hst : st0 = As.reverse ++ .ref b :: rest) (hW : (rest.map fun v => v.category).sum ≤ 8) (hf : cells + rmX6_planRest.cells ≤ R.cells ∧ slots + rmX6_planRest.slots ≤ R.slots) (hdg : decode cc pc = .ok (.invokevirtual 62, 3)) :
    va_Run p l e R s m args below meth c H locs cells slots rmX6_planRest.cells rmX6_planRest.slots (F0 m pc ls st0) rest (Qc (Value.ref b :: As).toArray) (hp_A h) :=
  hp_runV cx hB hM (ci := 6) rfl (by decide) hkb qw_709 qw_706 qw_708 qp_15 qw_7 (by decide +kernel) hR hn hls hst hW hf hdg
end
abbrev yX6_make : MethodName := ⟨"SpokenMenus$Planner", "make", "(III)I"⟩
theorem dX6_make_0 : decode prog_8_method_2_code 0 = .ok (.aload_n 0, 1) := by decide +kernel
theorem dX6_make_1 : decode prog_8_method_2_code 1 = .ok (.iload_n 2, 1) := by decide +kernel
theorem dX6_make_2 : decode prog_8_method_2_code 2 = .ok (.putfield 25, 3) := by decide +kernel
theorem dX6_make_5 : decode prog_8_method_2_code 5 = .ok (.aload_n 0, 1) := by decide +kernel
theorem dX6_make_6 : decode prog_8_method_2_code 6 = .ok (.iload_n 3, 1) := by decide +kernel
theorem dX6_make_7 : decode prog_8_method_2_code 7 = .ok (.putfield 22, 3) := by decide +kernel
theorem dX6_make_10 : decode prog_8_method_2_code 10 = .ok (.aload_n 0, 1) := by decide +kernel
theorem dX6_make_11 : decode prog_8_method_2_code 11 = .ok (.iconst 1, 1) := by decide +kernel
theorem dX6_make_12 : decode prog_8_method_2_code 12 = .ok (.iload_n 1, 1) := by decide +kernel
theorem dX6_make_13 : decode prog_8_method_2_code 13 = .ok (.ishl, 1) := by decide +kernel
theorem dX6_make_14 : decode prog_8_method_2_code 14 = .ok (.iconst 1, 1) := by decide +kernel
theorem dX6_make_15 : decode prog_8_method_2_code 15 = .ok (.isub, 1) := by decide +kernel
theorem dX6_make_16 : decode prog_8_method_2_code 16 = .ok (.putfield 18, 3) := by decide +kernel
theorem dX6_make_19 : decode prog_8_method_2_code 19 = .ok (.iconst 1, 1) := by decide +kernel
theorem dX6_make_20 : decode prog_8_method_2_code 20 = .ok (.istore 4, 2) := by decide +kernel
theorem dX6_make_22 : decode prog_8_method_2_code 22 = .ok (.iload 4, 2) := by decide +kernel
theorem dX6_make_24 : decode prog_8_method_2_code 24 = .ok (.aload_n 0, 1) := by decide +kernel
theorem dX6_make_25 : decode prog_8_method_2_code 25 = .ok (.getfield 18, 3) := by decide +kernel
theorem dX6_make_28 : decode prog_8_method_2_code 28 = .ok (.if_icmp .gt 75, 3) := by decide +kernel
theorem dX6_make_31 : decode prog_8_method_2_code 31 = .ok (.iload 4, 2) := by decide +kernel
theorem dX6_make_33 : decode prog_8_method_2_code 33 = .ok (.invokestatic 52, 3) := by decide +kernel
theorem dX6_make_36 : decode prog_8_method_2_code 36 = .ok (.istore 5, 2) := by decide +kernel
theorem dX6_make_38 : decode prog_8_method_2_code 38 = .ok (.aload_n 0, 1) := by decide +kernel
theorem dX6_make_39 : decode prog_8_method_2_code 39 = .ok (.getfield 28, 3) := by decide +kernel
theorem dX6_make_42 : decode prog_8_method_2_code 42 = .ok (.iload 4, 2) := by decide +kernel
theorem dX6_make_44 : decode prog_8_method_2_code 44 = .ok (.aload_n 0, 1) := by decide +kernel
theorem dX6_make_45 : decode prog_8_method_2_code 45 = .ok (.getfield 28, 3) := by decide +kernel
theorem dX6_make_48 : decode prog_8_method_2_code 48 = .ok (.iload 4, 2) := by decide +kernel
theorem dX6_make_50 : decode prog_8_method_2_code 50 = .ok (.iload 4, 2) := by decide +kernel
theorem dX6_make_52 : decode prog_8_method_2_code 52 = .ok (.iconst 1, 1) := by decide +kernel
theorem dX6_make_53 : decode prog_8_method_2_code 53 = .ok (.isub, 1) := by decide +kernel
theorem dX6_make_54 : decode prog_8_method_2_code 54 = .ok (.iand, 1) := by decide +kernel
theorem dX6_make_55 : decode prog_8_method_2_code 55 = .ok (.iaload, 1) := by decide +kernel
theorem dX6_make_56 : decode prog_8_method_2_code 56 = .ok (.aload_n 0, 1) := by decide +kernel
theorem dX6_make_57 : decode prog_8_method_2_code 57 = .ok (.getfield 15, 3) := by decide +kernel
theorem dX6_make_60 : decode prog_8_method_2_code 60 = .ok (.iload 5, 2) := by decide +kernel
theorem dX6_make_62 : decode prog_8_method_2_code 62 = .ok (.iaload, 1) := by decide +kernel
theorem dX6_make_63 : decode prog_8_method_2_code 63 = .ok (.iadd, 1) := by decide +kernel
theorem dX6_make_64 : decode prog_8_method_2_code 64 = .ok (.iastore, 1) := by decide +kernel
theorem dX6_make_65 : decode prog_8_method_2_code 65 = .ok (.aload_n 0, 1) := by decide +kernel
theorem dX6_make_66 : decode prog_8_method_2_code 66 = .ok (.iload 4, 2) := by decide +kernel
theorem dX6_make_68 : decode prog_8_method_2_code 68 = .ok (.invokevirtual 58, 3) := by decide +kernel
theorem dX6_make_71 : decode prog_8_method_2_code 71 = .ok (.iconst 1, 1) := by decide +kernel
theorem dX6_make_72 : decode prog_8_method_2_code 72 = .ok (.istore 6, 2) := by decide +kernel
theorem dX6_make_74 : decode prog_8_method_2_code 74 = .ok (.iload 6, 2) := by decide +kernel
theorem dX6_make_76 : decode prog_8_method_2_code 76 = .ok (.aload_n 0, 1) := by decide +kernel
theorem dX6_make_77 : decode prog_8_method_2_code 77 = .ok (.getfield 22, 3) := by decide +kernel
theorem dX6_make_80 : decode prog_8_method_2_code 80 = .ok (.if_icmp .ge 17, 3) := by decide +kernel
theorem dX6_make_83 : decode prog_8_method_2_code 83 = .ok (.aload_n 0, 1) := by decide +kernel
theorem dX6_make_84 : decode prog_8_method_2_code 84 = .ok (.iload 4, 2) := by decide +kernel
theorem dX6_make_86 : decode prog_8_method_2_code 86 = .ok (.iload 6, 2) := by decide +kernel
theorem dX6_make_88 : decode prog_8_method_2_code 88 = .ok (.invokevirtual 62, 3) := by decide +kernel
theorem dX6_make_91 : decode prog_8_method_2_code 91 = .ok (.iinc 6 1, 3) := by decide +kernel
theorem dX6_make_94 : decode prog_8_method_2_code 94 = .ok (.goto (-20), 3) := by decide +kernel
theorem dX6_make_97 : decode prog_8_method_2_code 97 = .ok (.iinc 4 1, 3) := by decide +kernel
theorem dX6_make_100 : decode prog_8_method_2_code 100 = .ok (.goto (-78), 3) := by decide +kernel
theorem dX6_make_103 : decode prog_8_method_2_code 103 = .ok (.aload_n 0, 1) := by decide +kernel
theorem dX6_make_104 : decode prog_8_method_2_code 104 = .ok (.getfield 31, 3) := by decide +kernel
theorem dX6_make_107 : decode prog_8_method_2_code 107 = .ok (.aload_n 0, 1) := by decide +kernel
theorem dX6_make_108 : decode prog_8_method_2_code 108 = .ok (.getfield 18, 3) := by decide +kernel
theorem dX6_make_111 : decode prog_8_method_2_code 111 = .ok (.iaload, 1) := by decide +kernel
theorem dX6_make_112 : decode prog_8_method_2_code 112 = .ok (.ireturn, 1) := by decide +kernel
abbrev rmX6_make : Room := { frames := 3, cells := 0, slots := 0, locals := 68 }
def bX6_make_74 (rc22 : Nat → Int32 → Hp → Option (Int32 × Hp)) (rc : Nat → Int32 → Int32 → Hp → Option (Int32 × Hp)) (t0 : Nat) (v4 : Int32) (v6 : Int32) (h : Hp) : Option (Int32 × Hp) :=
  gk (h.1 t0) 7 <|
  if (h.2.2.1 t0 3) ≤ v6 then
  (nm (v4 + 1) fun x3 =>
  rc22 t0 x3 h)
  else
  (b2 (fX6_planRest t0 v4 v6 h) fun _ g4 =>
  nm (v6 + 1) fun x8 =>
  rc t0 v4 x8 g4)
def fX6_make_74 (rc22 : Nat → Int32 → Hp → Option (Int32 × Hp)) : Nat → Int32 → Int32 → Hp → Option (Int32 × Hp) := fx (bX6_make_74 rc22) (fun _ _ _ _ => none) NF
def bX6_make_22  (rc : Nat → Int32 → Hp → Option (Int32 × Hp)) (t0 : Nat) (v4 : Int32) (h : Hp) : Option (Int32 × Hp) :=
  gk (h.1 t0) 7 <|
  if (h.2.2.1 t0 2) < v4 then
  (bd (h.2.2.2.1 t0 6) fun a3 =>
  gk (h.1 a3) 13 <|
  gd (ix (h.2.2.1 t0 2) (h.2.1 a3)) <|
  some (h.2.2.1 a3 (Int32.toNatClampNeg (h.2.2.1 t0 2)), h))
  else
  (b2 (fJ6_numberOfTrailingZeros_0f7a4 v4 h) fun r9 g7 =>
  gk (g7.1 t0) 7 <|
  bd (g7.2.2.2.1 t0 5) fun a12 =>
  gk (g7.1 a12) 13 <|
  gd (ix (v4 &&& (v4 - 1)) (g7.2.1 a12)) <|
  bd (g7.2.2.2.1 t0 1) fun a16 =>
  gk (g7.1 a16) 13 <|
  gd (ix r9 (g7.2.1 a16)) <|
  gd (ix v4 (g7.2.1 a12)) <|
  nm (hp_si g7 a12 (Int32.toNatClampNeg v4) ((g7.2.2.1 a12 (Int32.toNatClampNeg (v4 &&& (v4 - 1)))) + (g7.2.2.1 a16 (Int32.toNatClampNeg r9)))) fun g21 =>
  b2 (fX6_planMenu t0 v4 g21) fun _ g23 =>
  fX6_make_74 rc t0 v4 1 g23)
def fX6_make_22  : Nat → Int32 → Hp → Option (Int32 × Hp) := fx (bX6_make_22 ) (fun _ _ _ => none) NF
def fX6_make  (t0 : Nat) (v1 : Int32) (v2 : Int32) (v3 : Int32) (h : Hp) : Option (Int32 × Hp) :=
  gk (h.1 t0) 7 <|
  nm (hp_si h t0 4 v2) fun g2 =>
  nm (hp_si g2 t0 3 v3) fun g4 =>
  nm (hp_si g4 t0 2 ((1 <<< (v1 &&& 31)) - 1)) fun g6 =>
  fX6_make_22  t0 1 g6
section
variable {p : Program} {l : Launch} {e : Env} {s : State} {m : MethodId} {args : Array Value} {below : List Frame} {meth : Method} {c : Code} {D : va_G} {cA : Nat → ClassId} {h0 h9 : Hp}
set_option maxHeartbeats 4000000 in
set_option maxRecDepth 100000 in
theorem tX6_make_74 {rc22 : Nat → Int32 → Hp → Option (Int32 × Hp)} {r : Int32} (cx : CallFix p m c prog_8_method_2_code 7 s args tbG RX6) (hr : meth.sig.returnType = (Option.some FieldType.int)) (hlk : meth.locks = false) (hr22 : ∀ (t0 : Nat) (v4 : Int32) (h : Hp) (H : Heap) (locs : List Loc) (ls : Array Slot), hp_B D cA (hp_A h0) s h H locs → lv_has ls 7 [(0, .ref t0), (4, .int v4)] → rc22 t0 v4 h = some (r, h9) → W p l e rmX6_make s m args below meth c H locs 0 0 (MQ below (hp_Qi D cA h0 h9 r) args s 0 0 (hp_A h0)) (F0 m 22 ls [])) (n : Nat) : ∀ (t0 : Nat) (v4 : Int32) (v6 : Int32) (h : Hp) (H : Heap) (locs : List Loc) (ls : Array Slot), hp_B D cA (hp_A h0) s h H locs → lv_has ls 7 [(0, .ref t0), (4, .int v4), (6, .int v6)] → fx (bX6_make_74 rc22) (fun _ _ _ _ => none) n t0 v4 v6 h = some (r, h9) → W p l e rmX6_make s m args below meth c H locs 0 0 (MQ below (hp_Qi D cA h0 h9 r) args s 0 0 (hp_A h0)) (F0 m 74 ls []) := by
  obtain ⟨hx, hb, -⟩ := id cx
  induction n with
  | zero => intro t0 v4 v6 h H locs ls hB hl hf; cases hf
  | succ n ih =>
    intro t0 v4 v6 h H locs ls hB hl hf
    replace hf : bX6_make_74 rc22 (fx (bX6_make_74 rc22) (fun _ _ _ _ => none) n) t0 v4 v6 h = some (r, h9) := hf
    unfold bX6_make_74 at hf
    refine lv_iload hx hb dX6_make_74 (lv_at hl 2 rfl) ?_
    refine lv_aload_n hx hb dX6_make_76 rfl (lv_at hl 0 rfl) ?_
    obtain ⟨k1, hf⟩ := gk_ok hf
    refine gf_X6_22 cx hB k1 dX6_make_77 ?_
    refine lv_icmp_ge (tgt := 97) hx hb dX6_make_80 (by decide) (fun c2 => ?_) (fun c2 => ?_)
    · replace hf := it_t c2 hf
      obtain ⟨x3, ex3, hf⟩ := nm_ok hf
      refine lv_iinc (v := x3) (lv' := [(4, .int x3), (0, .ref t0), (6, .int v6)]) hx hb dX6_make_97 hl (k := 1) rfl (by rw [ex3]; rfl) (by decide) rfl (fun ls hl => ?_)
      refine lv_goto (tgt := 22) hx hb dX6_make_100 (by decide) ?_
      exact hr22 t0 x3 h _ _ _ hB (lv_sub hl [1, 0] rfl) hf
    · replace hf := it_f c2 hf
      refine lv_aload_n hx hb dX6_make_83 rfl (lv_at hl 0 rfl) ?_
      refine lv_iload hx hb dX6_make_84 (lv_at hl 1 rfl) ?_
      refine lv_iload hx hb dX6_make_86 (lv_at hl 2 rfl) ?_
      obtain ⟨uu, g4, m5, hf⟩ := b2_ok hf
      refine hp_cV0 (cl_X6_62 cx hB (cX6_planRest l D cA t0 v4 v6 h _ g4 m5) k1 ⟨Nat.le_of_ble_eq_true rfl, Nat.le_of_ble_eq_true rfl⟩ rfl hl.1 rfl (Nat.le_of_ble_eq_true rfl) ⟨Nat.le_of_ble_eq_true rfl, Nat.le_of_ble_eq_true rfl⟩ dX6_make_88) rfl rfl hB (fun H locs hB => ?_)
      obtain ⟨x8, ex8, hf⟩ := nm_ok hf
      refine lv_iinc (v := x8) (lv' := [(6, .int x8), (0, .ref t0), (4, .int v4)]) hx hb dX6_make_91 hl (k := 2) rfl (by rw [ex8]; rfl) (by decide) rfl (fun ls hl => ?_)
      refine lv_goto (tgt := 74) hx hb dX6_make_94 (by decide) ?_
      exact ih t0 v4 x8 g4 _ _ _ hB (lv_sub hl [1, 2, 0] rfl) hf
set_option maxHeartbeats 4000000 in
set_option maxRecDepth 100000 in
theorem tX6_make_22  {r : Int32} (cx : CallFix p m c prog_8_method_2_code 7 s args tbG RX6) (hr : meth.sig.returnType = (Option.some FieldType.int)) (hlk : meth.locks = false)  (n : Nat) : ∀ (t0 : Nat) (v4 : Int32) (h : Hp) (H : Heap) (locs : List Loc) (ls : Array Slot), hp_B D cA (hp_A h0) s h H locs → lv_has ls 7 [(0, .ref t0), (4, .int v4)] → fx (bX6_make_22 ) (fun _ _ _ => none) n t0 v4 h = some (r, h9) → W p l e rmX6_make s m args below meth c H locs 0 0 (MQ below (hp_Qi D cA h0 h9 r) args s 0 0 (hp_A h0)) (F0 m 22 ls []) := by
  obtain ⟨hx, hb, -⟩ := id cx
  induction n with
  | zero => intro t0 v4 h H locs ls hB hl hf; cases hf
  | succ n ih =>
    intro t0 v4 h H locs ls hB hl hf
    replace hf : bX6_make_22  (fx (bX6_make_22 ) (fun _ _ _ => none) n) t0 v4 h = some (r, h9) := hf
    unfold bX6_make_22 at hf
    refine lv_iload hx hb dX6_make_22 (lv_at hl 1 rfl) ?_
    refine lv_aload_n hx hb dX6_make_24 rfl (lv_at hl 0 rfl) ?_
    obtain ⟨k1, hf⟩ := gk_ok hf
    refine gf_X6_18 cx hB k1 dX6_make_25 ?_
    refine lv_icmp_gt (tgt := 103) hx hb dX6_make_28 (by decide) (fun c2 => ?_) (fun c2 => ?_)
    · replace hf := it_t c2 hf
      refine lv_aload_n hx hb dX6_make_103 rfl (lv_at hl 0 rfl) ?_
      obtain ⟨a3, q4, hf⟩ := bd_ok hf
      refine gf_X6_31 cx hB k1 q4 dX6_make_104 ?_
      refine lv_aload_n hx hb dX6_make_107 rfl (lv_at hl 0 rfl) ?_
      refine gf_X6_18 cx hB k1 dX6_make_108 ?_
      obtain ⟨k5, hf⟩ := gk_ok hf
      obtain ⟨j6, hf⟩ := gd_ok hf
      refine hp_iald cx hB k5 j6 dX6_make_111 ?_
      obtain ⟨rfl, rfl⟩ := rt_ok hf
      exact hp_iret cx hB hr hlk (Nat.le_of_ble_eq_true rfl) (Nat.le_of_ble_eq_true rfl) dX6_make_112
    · replace hf := it_f c2 hf
      refine lv_iload hx hb dX6_make_31 (lv_at hl 1 rfl) ?_
      obtain ⟨r9, g7, m8, hf⟩ := b2_ok hf
      refine hp_cI0 (cl_X6_52 cx hB (cJ6_numberOfTrailingZeros_0f7a4 l D cA v4 h _ g7 m8) ⟨Nat.le_of_ble_eq_true rfl, Nat.le_of_ble_eq_true rfl⟩ rfl hl.1 rfl (Nat.le_of_ble_eq_true rfl) ⟨Nat.le_of_ble_eq_true rfl, Nat.le_of_ble_eq_true rfl⟩ dX6_make_33) rfl rfl hB (fun H locs hB => ?_)
      refine lv_istore (lv' := [(5, .int r9), (0, .ref t0), (4, .int v4)]) hx hb dX6_make_36 hl (by decide) rfl (fun ls hl => ?_)
      refine lv_aload_n hx hb dX6_make_38 rfl (lv_at hl 1 rfl) ?_
      obtain ⟨k11, hf⟩ := gk_ok hf
      obtain ⟨a12, q13, hf⟩ := bd_ok hf
      refine gf_X6_28 cx hB k11 q13 dX6_make_39 ?_
      refine lv_iload hx hb dX6_make_42 (lv_at hl 2 rfl) ?_
      refine lv_aload_n hx hb dX6_make_44 rfl (lv_at hl 1 rfl) ?_
      refine gf_X6_28 cx hB k11 q13 dX6_make_45 ?_
      refine lv_iload hx hb dX6_make_48 (lv_at hl 2 rfl) ?_
      refine lv_iload hx hb dX6_make_50 (lv_at hl 2 rfl) ?_
      refine lv_iconst (v := 1) hx hb dX6_make_52 (by decide) ?_
      refine lv_isub hx hb dX6_make_53 ?_
      refine lv_iand hx hb dX6_make_54 ?_
      obtain ⟨k14, hf⟩ := gk_ok hf
      obtain ⟨j15, hf⟩ := gd_ok hf
      refine hp_iald cx hB k14 j15 dX6_make_55 ?_
      refine lv_aload_n hx hb dX6_make_56 rfl (lv_at hl 1 rfl) ?_
      obtain ⟨a16, q17, hf⟩ := bd_ok hf
      refine gf_X6_15 cx hB k11 q17 dX6_make_57 ?_
      refine lv_iload hx hb dX6_make_60 (lv_at hl 0 rfl) ?_
      obtain ⟨k18, hf⟩ := gk_ok hf
      obtain ⟨j19, hf⟩ := gd_ok hf
      refine hp_iald cx hB k18 j19 dX6_make_62 ?_
      refine lv_iadd hx hb dX6_make_63 ?_
      obtain ⟨j20, hf⟩ := gd_ok hf
      obtain ⟨g21, eg21, hf⟩ := nm_ok hf
      refine hp_iast cx hB k14 j20 dX6_make_64 (fun H locs hB => ?_)
      rw [← eg21] at hB
      refine lv_aload_n hx hb dX6_make_65 rfl (lv_at hl 1 rfl) ?_
      refine lv_iload hx hb dX6_make_66 (lv_at hl 2 rfl) ?_
      have k22 : g21.1 t0 = 7 := by rw [eg21]; exact k11
      obtain ⟨uu, g23, m24, hf⟩ := b2_ok hf
      refine hp_cV0 (cl_X6_58 cx hB (cX6_planMenu l D cA t0 v4 g21 _ g23 m24) k22 ⟨Nat.le_of_ble_eq_true rfl, Nat.le_of_ble_eq_true rfl⟩ rfl hl.1 rfl (Nat.le_of_ble_eq_true rfl) ⟨Nat.le_of_ble_eq_true rfl, Nat.le_of_ble_eq_true rfl⟩ dX6_make_68) rfl rfl hB (fun H locs hB => ?_)
      refine lv_iconst (v := 1) hx hb dX6_make_71 (by decide) ?_
      refine lv_istore (lv' := [(6, .int 1), (5, .int r9), (0, .ref t0), (4, .int v4)]) hx hb dX6_make_72 hl (by decide) rfl (fun ls hl => ?_)
      exact tX6_make_74 cx hr hlk ih NF t0 v4 1 g23 _ _ _ hB (lv_sub hl [2, 3, 0] rfl) hf
set_option maxHeartbeats 4000000 in
set_option maxRecDepth 100000 in
theorem tX6_make_0  {r : Int32} (cx : CallFix p m c prog_8_method_2_code 7 s args tbG RX6) (hr : meth.sig.returnType = (Option.some FieldType.int)) (hlk : meth.locks = false)  (t0 : Nat) (v1 : Int32) (v2 : Int32) (v3 : Int32) (h : Hp) (H : Heap) (locs : List Loc) (ls : Array Slot) (hB : hp_B D cA (hp_A h0) s h H locs) (hl : lv_has ls 7 [(0, .ref t0), (1, .int v1), (2, .int v2), (3, .int v3)]) (hf : fX6_make  t0 v1 v2 v3 h = some (r, h9)) : W p l e rmX6_make s m args below meth c H locs 0 0 (MQ below (hp_Qi D cA h0 h9 r) args s 0 0 (hp_A h0)) (F0 m 0 ls []) := by
  obtain ⟨hx, hb, -⟩ := id cx
  unfold fX6_make at hf
  refine lv_aload_n hx hb dX6_make_0 rfl (lv_at hl 0 rfl) ?_
  refine lv_iload_n hx hb dX6_make_1 rfl (lv_at hl 2 rfl) ?_
  obtain ⟨k1, hf⟩ := gk_ok hf
  obtain ⟨g2, eg2, hf⟩ := nm_ok hf
  refine pf_X6_25 cx hB k1 dX6_make_2 (fun H locs hB => ?_)
  rw [← eg2] at hB
  refine lv_aload_n hx hb dX6_make_5 rfl (lv_at hl 0 rfl) ?_
  refine lv_iload_n hx hb dX6_make_6 rfl (lv_at hl 3 rfl) ?_
  have k3 : g2.1 t0 = 7 := by rw [eg2]; exact k1
  obtain ⟨g4, eg4, hf⟩ := nm_ok hf
  refine pf_X6_22 cx hB k3 dX6_make_7 (fun H locs hB => ?_)
  rw [← eg4] at hB
  refine lv_aload_n hx hb dX6_make_10 rfl (lv_at hl 0 rfl) ?_
  refine lv_iconst (v := 1) hx hb dX6_make_11 (by decide) ?_
  refine lv_iload_n hx hb dX6_make_12 rfl (lv_at hl 1 rfl) ?_
  refine lv_ishl hx hb dX6_make_13 ?_
  refine lv_iconst (v := 1) hx hb dX6_make_14 (by decide) ?_
  refine lv_isub hx hb dX6_make_15 ?_
  have k5 : g4.1 t0 = 7 := by rw [eg4]; exact k3
  obtain ⟨g6, eg6, hf⟩ := nm_ok hf
  refine pf_X6_18 cx hB k5 dX6_make_16 (fun H locs hB => ?_)
  rw [← eg6] at hB
  refine lv_iconst (v := 1) hx hb dX6_make_19 (by decide) ?_
  refine lv_istore (lv' := [(4, .int 1), (0, .ref t0), (1, .int v1), (2, .int v2), (3, .int v3)]) hx hb dX6_make_20 hl (by decide) rfl (fun ls hl => ?_)
  exact tX6_make_22 cx hr hlk  NF t0 1 g6 _ _ _ hB (lv_sub hl [1, 0] rfl) hf
end
set_option maxHeartbeats 4000000 in
set_option maxRecDepth 100000 in
theorem cX6_make (l : Launch) (D : va_G) (cA : Nat → ClassId) (t0 : Nat) (v1 : Int32) (v2 : Int32) (v3 : Int32) (h : Hp) (r : Int32) (h9 : Hp) (hf : fX6_make t0 v1 v2 v3 h = some (r, h9)) : hp_M l yX6_make prog_8_method_2_code 7 (Option.some FieldType.int) rmX6_make D cA h [.ref t0, .int v1, .int v2, .int v3] (hp_Qi D cA h h9 r) := by
  refine Met.ofW (cc := prog_8_method_2_code) (maxL := 7) (ret := (Option.some FieldType.int)) (by decide) rfl ?_
  intro p e s m args below meth c s₁ B hml hv
  obtain ⟨rfl, hU⟩ := hv
  have hts := atoms_spec (ws := Cond.code yX6_make prog_8_method_2_code 7 (Option.some FieldType.int) :: tbG) B.pre
  have hl := lv_entry ([.ref t0, .int v1, .int v2, .int v3]) (n := 7) (Nat.le_of_ble_eq_true rfl)
  rw [lg_entry_eq]
  generalize (lg_sl ([.ref t0, .int v1, .int v2, .int v3]) ++ List.replicate (7 - (lg_sl ([.ref t0, .int v1, .int v2, .int v3])).length) Slot.unset).toArray = ls at hl ⊢
  exact tX6_make_0 ⟨B.exec, B.bytes, hml, findClass_of_methodNamed B.named, fun w hw => hts w (List.mem_cons_of_mem _ hw)⟩ B.returns B.notSynchronized t0 v1 v2 v3 h _ _ _ (hp_B.entry hU) hl hf
abbrev yX6_partOf : MethodName := ⟨"SpokenMenus$Planner", "partOf", "(II)I"⟩
theorem dX6_partOf_0 : decode prog_8_method_3_code 0 = .ok (.iload_n 2, 1) := by decide +kernel
theorem dX6_partOf_1 : decode prog_8_method_3_code 1 = .ok (.aload_n 0, 1) := by decide +kernel
theorem dX6_partOf_2 : decode prog_8_method_3_code 2 = .ok (.getfield 22, 3) := by decide +kernel
theorem dX6_partOf_5 : decode prog_8_method_3_code 5 = .ok (.if_icmp .ge 18, 3) := by decide +kernel
theorem dX6_partOf_8 : decode prog_8_method_3_code 8 = .ok (.iload_n 1, 1) := by decide +kernel
theorem dX6_partOf_9 : decode prog_8_method_3_code 9 = .ok (.invokestatic 66, 3) := by decide +kernel
theorem dX6_partOf_12 : decode prog_8_method_3_code 12 = .ok (.ifCond .eq 14, 3) := by decide +kernel
theorem dX6_partOf_15 : decode prog_8_method_3_code 15 = .ok (.iload_n 1, 1) := by decide +kernel
theorem dX6_partOf_16 : decode prog_8_method_3_code 16 = .ok (.aload_n 0, 1) := by decide +kernel
theorem dX6_partOf_17 : decode prog_8_method_3_code 17 = .ok (.getfield 18, 3) := by decide +kernel
theorem dX6_partOf_20 : decode prog_8_method_3_code 20 = .ok (.if_icmp .eq 6, 3) := by decide +kernel
theorem dX6_partOf_23 : decode prog_8_method_3_code 23 = .ok (.bipush (-4), 2) := by decide +kernel
theorem dX6_partOf_25 : decode prog_8_method_3_code 25 = .ok (.ireturn, 1) := by decide +kernel
theorem dX6_partOf_26 : decode prog_8_method_3_code 26 = .ok (.aload_n 0, 1) := by decide +kernel
theorem dX6_partOf_27 : decode prog_8_method_3_code 27 = .ok (.getfield 34, 3) := by decide +kernel
theorem dX6_partOf_30 : decode prog_8_method_3_code 30 = .ok (.iload_n 1, 1) := by decide +kernel
theorem dX6_partOf_31 : decode prog_8_method_3_code 31 = .ok (.iaload, 1) := by decide +kernel
theorem dX6_partOf_32 : decode prog_8_method_3_code 32 = .ok (.istore_n 3, 1) := by decide +kernel
theorem dX6_partOf_33 : decode prog_8_method_3_code 33 = .ok (.iload_n 1, 1) := by decide +kernel
theorem dX6_partOf_34 : decode prog_8_method_3_code 34 = .ok (.iload_n 3, 1) := by decide +kernel
theorem dX6_partOf_35 : decode prog_8_method_3_code 35 = .ok (.iconst (-1), 1) := by decide +kernel
theorem dX6_partOf_36 : decode prog_8_method_3_code 36 = .ok (.ixor, 1) := by decide +kernel
theorem dX6_partOf_37 : decode prog_8_method_3_code 37 = .ok (.iand, 1) := by decide +kernel
theorem dX6_partOf_38 : decode prog_8_method_3_code 38 = .ok (.istore 4, 2) := by decide +kernel
theorem dX6_partOf_40 : decode prog_8_method_3_code 40 = .ok (.iconst 1, 1) := by decide +kernel
theorem dX6_partOf_41 : decode prog_8_method_3_code 41 = .ok (.istore 5, 2) := by decide +kernel
theorem dX6_partOf_43 : decode prog_8_method_3_code 43 = .ok (.iload 5, 2) := by decide +kernel
theorem dX6_partOf_45 : decode prog_8_method_3_code 45 = .ok (.iload_n 2, 1) := by decide +kernel
theorem dX6_partOf_46 : decode prog_8_method_3_code 46 = .ok (.if_icmp .gt 46, 3) := by decide +kernel
theorem dX6_partOf_49 : decode prog_8_method_3_code 49 = .ok (.iload 4, 2) := by decide +kernel
theorem dX6_partOf_51 : decode prog_8_method_3_code 51 = .ok (.ifCond .eq 41, 3) := by decide +kernel
theorem dX6_partOf_54 : decode prog_8_method_3_code 54 = .ok (.aload_n 0, 1) := by decide +kernel
theorem dX6_partOf_55 : decode prog_8_method_3_code 55 = .ok (.getfield 42, 3) := by decide +kernel
theorem dX6_partOf_58 : decode prog_8_method_3_code 58 = .ok (.aload_n 0, 1) := by decide +kernel
theorem dX6_partOf_59 : decode prog_8_method_3_code 59 = .ok (.getfield 22, 3) := by decide +kernel
theorem dX6_partOf_62 : decode prog_8_method_3_code 62 = .ok (.iload 5, 2) := by decide +kernel
theorem dX6_partOf_64 : decode prog_8_method_3_code 64 = .ok (.isub, 1) := by decide +kernel
theorem dX6_partOf_65 : decode prog_8_method_3_code 65 = .ok (.aaload, 1) := by decide +kernel
theorem dX6_partOf_66 : decode prog_8_method_3_code 66 = .ok (.iload 4, 2) := by decide +kernel
theorem dX6_partOf_68 : decode prog_8_method_3_code 68 = .ok (.iaload, 1) := by decide +kernel
theorem dX6_partOf_69 : decode prog_8_method_3_code 69 = .ok (.istore_n 3, 1) := by decide +kernel
theorem dX6_partOf_70 : decode prog_8_method_3_code 70 = .ok (.iload 4, 2) := by decide +kernel
theorem dX6_partOf_72 : decode prog_8_method_3_code 72 = .ok (.iload_n 3, 1) := by decide +kernel
theorem dX6_partOf_73 : decode prog_8_method_3_code 73 = .ok (.iconst (-1), 1) := by decide +kernel
theorem dX6_partOf_74 : decode prog_8_method_3_code 74 = .ok (.ixor, 1) := by decide +kernel
theorem dX6_partOf_75 : decode prog_8_method_3_code 75 = .ok (.iand, 1) := by decide +kernel
theorem dX6_partOf_76 : decode prog_8_method_3_code 76 = .ok (.istore 4, 2) := by decide +kernel
theorem dX6_partOf_78 : decode prog_8_method_3_code 78 = .ok (.iload 5, 2) := by decide +kernel
theorem dX6_partOf_80 : decode prog_8_method_3_code 80 = .ok (.iload_n 2, 1) := by decide +kernel
theorem dX6_partOf_81 : decode prog_8_method_3_code 81 = .ok (.if_icmp .ne 5, 3) := by decide +kernel
theorem dX6_partOf_84 : decode prog_8_method_3_code 84 = .ok (.iload_n 3, 1) := by decide +kernel
theorem dX6_partOf_85 : decode prog_8_method_3_code 85 = .ok (.ireturn, 1) := by decide +kernel
theorem dX6_partOf_86 : decode prog_8_method_3_code 86 = .ok (.iinc 5 1, 3) := by decide +kernel
theorem dX6_partOf_89 : decode prog_8_method_3_code 89 = .ok (.goto (-46), 3) := by decide +kernel
theorem dX6_partOf_92 : decode prog_8_method_3_code 92 = .ok (.iload_n 2, 1) := by decide +kernel
theorem dX6_partOf_93 : decode prog_8_method_3_code 93 = .ok (.ifCond .ne 7, 3) := by decide +kernel
theorem dX6_partOf_96 : decode prog_8_method_3_code 96 = .ok (.iload_n 3, 1) := by decide +kernel
theorem dX6_partOf_97 : decode prog_8_method_3_code 97 = .ok (.goto 5, 3) := by decide +kernel
theorem dX6_partOf_100 : decode prog_8_method_3_code 100 = .ok (.bipush (-4), 2) := by decide +kernel
theorem dX6_partOf_102 : decode prog_8_method_3_code 102 = .ok (.ireturn, 1) := by decide +kernel
abbrev rmX6_partOf : Room := { frames := 1, cells := 0, slots := 0, locals := 20 }
def bX6_partOf_43  (rc : Nat → Int32 → Int32 → Int32 → Int32 → Hp → Option (Int32 × Hp)) (t0 : Nat) (v2 : Int32) (v3 : Int32) (v4 : Int32) (v5 : Int32) (h : Hp) : Option (Int32 × Hp) :=
  if v2 < v5 then
  (if v2 = 0 then
  (some (v3, h))
  else
  (some ((-4), h)))
  else
  (if v4 = 0 then
  (if v2 = 0 then
  (some (v3, h))
  else
  (some ((-4), h)))
  else
  (gk (h.1 t0) 7 <|
  bd (h.2.2.2.1 t0 9) fun a6 =>
  gk (h.1 a6) 18 <|
  gd (ix ((h.2.2.1 t0 3) - v5) (h.2.1 a6)) <|
  bd (h.2.2.2.1 a6 (Int32.toNatClampNeg ((h.2.2.1 t0 3) - v5))) fun a10 =>
  gk (h.1 a10) 13 <|
  gd (ix v4 (h.2.1 a10)) <|
  nm (h.2.2.1 a10 (Int32.toNatClampNeg v4)) fun x14 =>
  nm (v4 &&& (x14 ^^^ (-1))) fun x15 =>
  if v5 = v2 then
  (some (x14, h))
  else
  (nm (v5 + 1) fun x17 =>
  rc t0 v2 x14 x15 x17 h)))
def fX6_partOf_43  : Nat → Int32 → Int32 → Int32 → Int32 → Hp → Option (Int32 × Hp) := fx (bX6_partOf_43 ) (fun _ _ _ _ _ _ => none) NF
def fX6_partOf  (t0 : Nat) (v1 : Int32) (v2 : Int32) (h : Hp) : Option (Int32 × Hp) :=
  gk (h.1 t0) 7 <|
  if (h.2.2.1 t0 3) ≤ v2 then
  (some ((-4), h))
  else
  (b2 (fX6_isOne v1 h) fun r5 g3 =>
  if r5 = 0 then
  (gk (g3.1 t0) 7 <|
  bd (g3.2.2.2.1 t0 7) fun a9 =>
  gk (g3.1 a9) 13 <|
  gd (ix v1 (g3.2.1 a9)) <|
  nm (g3.2.2.1 a9 (Int32.toNatClampNeg v1)) fun x13 =>
  nm (v1 &&& (x13 ^^^ (-1))) fun x14 =>
  fX6_partOf_43  t0 v2 x13 x14 1 g3)
  else
  (gk (g3.1 t0) 7 <|
  if v1 = (g3.2.2.1 t0 2) then
  (bd (g3.2.2.2.1 t0 7) fun a17 =>
  gk (g3.1 a17) 13 <|
  gd (ix v1 (g3.2.1 a17)) <|
  nm (g3.2.2.1 a17 (Int32.toNatClampNeg v1)) fun x21 =>
  nm (v1 &&& (x21 ^^^ (-1))) fun x22 =>
  fX6_partOf_43  t0 v2 x21 x22 1 g3)
  else
  (some ((-4), g3))))
section
variable {p : Program} {l : Launch} {e : Env} {s : State} {m : MethodId} {args : Array Value} {below : List Frame} {meth : Method} {c : Code} {D : va_G} {cA : Nat → ClassId} {h0 h9 : Hp}
set_option maxHeartbeats 4000000 in
set_option maxRecDepth 100000 in
theorem tX6_partOf_43  {r : Int32} (cx : CallFix p m c prog_8_method_3_code 6 s args tbG RX6) (hr : meth.sig.returnType = (Option.some FieldType.int)) (hlk : meth.locks = false)  (n : Nat) : ∀ (t0 : Nat) (v2 : Int32) (v3 : Int32) (v4 : Int32) (v5 : Int32) (h : Hp) (H : Heap) (locs : List Loc) (ls : Array Slot), hp_B D cA (hp_A h0) s h H locs → lv_has ls 6 [(0, .ref t0), (2, .int v2), (3, .int v3), (4, .int v4), (5, .int v5)] → fx (bX6_partOf_43 ) (fun _ _ _ _ _ _ => none) n t0 v2 v3 v4 v5 h = some (r, h9) → W p l e rmX6_partOf s m args below meth c H locs 0 0 (MQ below (hp_Qi D cA h0 h9 r) args s 0 0 (hp_A h0)) (F0 m 43 ls []) := by
  obtain ⟨hx, hb, -⟩ := id cx
  induction n with
  | zero => intro t0 v2 v3 v4 v5 h H locs ls hB hl hf; cases hf
  | succ n ih =>
    intro t0 v2 v3 v4 v5 h H locs ls hB hl hf
    replace hf : bX6_partOf_43  (fx (bX6_partOf_43 ) (fun _ _ _ _ _ _ => none) n) t0 v2 v3 v4 v5 h = some (r, h9) := hf
    unfold bX6_partOf_43 at hf
    refine lv_iload hx hb dX6_partOf_43 (lv_at hl 4 rfl) ?_
    refine lv_iload_n hx hb dX6_partOf_45 rfl (lv_at hl 1 rfl) ?_
    refine lv_icmp_gt (tgt := 92) hx hb dX6_partOf_46 (by decide) (fun c1 => ?_) (fun c1 => ?_)
    · replace hf := it_t c1 hf
      refine lv_iload_n hx hb dX6_partOf_92 rfl (lv_at hl 1 rfl) ?_
      refine lv_if_ne (tgt := 100) hx hb dX6_partOf_93 (by decide) (fun c2 => ?_) (fun c2 => ?_)
      · replace hf := it_f c2 hf
        refine lv_bipush (v := (-4)) hx hb dX6_partOf_100 (by decide) ?_
        obtain ⟨rfl, rfl⟩ := rt_ok hf
        exact hp_iret cx hB hr hlk (Nat.le_of_ble_eq_true rfl) (Nat.le_of_ble_eq_true rfl) dX6_partOf_102
      · replace hf := it_t c2 hf
        refine lv_iload_n hx hb dX6_partOf_96 rfl (lv_at hl 2 rfl) ?_
        refine lv_goto (tgt := 102) hx hb dX6_partOf_97 (by decide) ?_
        obtain ⟨rfl, rfl⟩ := rt_ok hf
        exact hp_iret cx hB hr hlk (Nat.le_of_ble_eq_true rfl) (Nat.le_of_ble_eq_true rfl) dX6_partOf_102
    · replace hf := it_f c1 hf
      refine lv_iload hx hb dX6_partOf_49 (lv_at hl 3 rfl) ?_
      refine lv_if_eq (tgt := 92) hx hb dX6_partOf_51 (by decide) (fun c3 => ?_) (fun c3 => ?_)
      · replace hf := it_t c3 hf
        refine lv_iload_n hx hb dX6_partOf_92 rfl (lv_at hl 1 rfl) ?_
        refine lv_if_ne (tgt := 100) hx hb dX6_partOf_93 (by decide) (fun c4 => ?_) (fun c4 => ?_)
        · replace hf := it_f c4 hf
          refine lv_bipush (v := (-4)) hx hb dX6_partOf_100 (by decide) ?_
          obtain ⟨rfl, rfl⟩ := rt_ok hf
          exact hp_iret cx hB hr hlk (Nat.le_of_ble_eq_true rfl) (Nat.le_of_ble_eq_true rfl) dX6_partOf_102
        · replace hf := it_t c4 hf
          refine lv_iload_n hx hb dX6_partOf_96 rfl (lv_at hl 2 rfl) ?_
          refine lv_goto (tgt := 102) hx hb dX6_partOf_97 (by decide) ?_
          obtain ⟨rfl, rfl⟩ := rt_ok hf
          exact hp_iret cx hB hr hlk (Nat.le_of_ble_eq_true rfl) (Nat.le_of_ble_eq_true rfl) dX6_partOf_102
      · replace hf := it_f c3 hf
        refine lv_aload_n hx hb dX6_partOf_54 rfl (lv_at hl 0 rfl) ?_
        obtain ⟨k5, hf⟩ := gk_ok hf
        obtain ⟨a6, q7, hf⟩ := bd_ok hf
        refine gf_X6_42 cx hB k5 q7 dX6_partOf_55 ?_
        refine lv_aload_n hx hb dX6_partOf_58 rfl (lv_at hl 0 rfl) ?_
        refine gf_X6_22 cx hB k5 dX6_partOf_59 ?_
        refine lv_iload hx hb dX6_partOf_62 (lv_at hl 4 rfl) ?_
        refine lv_isub hx hb dX6_partOf_64 ?_
        obtain ⟨k8, hf⟩ := gk_ok hf
        obtain ⟨j9, hf⟩ := gd_ok hf
        obtain ⟨a10, q11, hf⟩ := bd_ok hf
        refine hp_aald cx hB 18 (.array .int) (by decide) rfl rfl k8 j9 (o := some a10) q11.symm dX6_partOf_65 ?_
        refine lv_iload hx hb dX6_partOf_66 (lv_at hl 3 rfl) ?_
        obtain ⟨k12, hf⟩ := gk_ok hf
        obtain ⟨j13, hf⟩ := gd_ok hf
        refine hp_iald cx hB k12 j13 dX6_partOf_68 ?_
        obtain ⟨x14, ex14, hf⟩ := nm_ok hf
        refine lv_ren ex14 ?_
        refine lv_istore_n (lv' := [(3, .int x14), (0, .ref t0), (2, .int v2), (4, .int v4), (5, .int v5)]) hx hb dX6_partOf_69 rfl hl (by decide) rfl (fun ls hl => ?_)
        refine lv_iload hx hb dX6_partOf_70 (lv_at hl 3 rfl) ?_
        refine lv_iload_n hx hb dX6_partOf_72 rfl (lv_at hl 0 rfl) ?_
        refine lv_iconst (v := (-1)) hx hb dX6_partOf_73 (by decide) ?_
        refine lv_ixor hx hb dX6_partOf_74 ?_
        refine lv_iand hx hb dX6_partOf_75 ?_
        obtain ⟨x15, ex15, hf⟩ := nm_ok hf
        refine lv_ren ex15 ?_
        refine lv_istore (lv' := [(4, .int x15), (3, .int x14), (0, .ref t0), (2, .int v2), (5, .int v5)]) hx hb dX6_partOf_76 hl (by decide) rfl (fun ls hl => ?_)
        refine lv_iload hx hb dX6_partOf_78 (lv_at hl 4 rfl) ?_
        refine lv_iload_n hx hb dX6_partOf_80 rfl (lv_at hl 3 rfl) ?_
        refine lv_icmp_ne (tgt := 86) hx hb dX6_partOf_81 (by decide) (fun c16 => ?_) (fun c16 => ?_)
        · replace hf := it_f c16 hf
          obtain ⟨x17, ex17, hf⟩ := nm_ok hf
          refine lv_iinc (v := x17) (lv' := [(5, .int x17), (4, .int x15), (3, .int x14), (0, .ref t0), (2, .int v2)]) hx hb dX6_partOf_86 hl (k := 4) rfl (by rw [ex17]; rfl) (by decide) rfl (fun ls hl => ?_)
          refine lv_goto (tgt := 43) hx hb dX6_partOf_89 (by decide) ?_
          exact ih t0 v2 x14 x15 x17 h _ _ _ hB (lv_sub hl [3, 4, 2, 1, 0] rfl) hf
        · replace hf := it_t c16 hf
          refine lv_iload_n hx hb dX6_partOf_84 rfl (lv_at hl 1 rfl) ?_
          obtain ⟨rfl, rfl⟩ := rt_ok hf
          exact hp_iret cx hB hr hlk (Nat.le_of_ble_eq_true rfl) (Nat.le_of_ble_eq_true rfl) dX6_partOf_85
set_option maxHeartbeats 4000000 in
set_option maxRecDepth 100000 in
theorem tX6_partOf_0  {r : Int32} (cx : CallFix p m c prog_8_method_3_code 6 s args tbG RX6) (hr : meth.sig.returnType = (Option.some FieldType.int)) (hlk : meth.locks = false)  (t0 : Nat) (v1 : Int32) (v2 : Int32) (h : Hp) (H : Heap) (locs : List Loc) (ls : Array Slot) (hB : hp_B D cA (hp_A h0) s h H locs) (hl : lv_has ls 6 [(0, .ref t0), (1, .int v1), (2, .int v2)]) (hf : fX6_partOf  t0 v1 v2 h = some (r, h9)) : W p l e rmX6_partOf s m args below meth c H locs 0 0 (MQ below (hp_Qi D cA h0 h9 r) args s 0 0 (hp_A h0)) (F0 m 0 ls []) := by
  obtain ⟨hx, hb, -⟩ := id cx
  unfold fX6_partOf at hf
  refine lv_iload_n hx hb dX6_partOf_0 rfl (lv_at hl 2 rfl) ?_
  refine lv_aload_n hx hb dX6_partOf_1 rfl (lv_at hl 0 rfl) ?_
  obtain ⟨k1, hf⟩ := gk_ok hf
  refine gf_X6_22 cx hB k1 dX6_partOf_2 ?_
  refine lv_icmp_ge (tgt := 23) hx hb dX6_partOf_5 (by decide) (fun c2 => ?_) (fun c2 => ?_)
  · replace hf := it_t c2 hf
    refine lv_bipush (v := (-4)) hx hb dX6_partOf_23 (by decide) ?_
    obtain ⟨rfl, rfl⟩ := rt_ok hf
    exact hp_iret cx hB hr hlk (Nat.le_of_ble_eq_true rfl) (Nat.le_of_ble_eq_true rfl) dX6_partOf_25
  · replace hf := it_f c2 hf
    refine lv_iload_n hx hb dX6_partOf_8 rfl (lv_at hl 1 rfl) ?_
    obtain ⟨r5, g3, m4, hf⟩ := b2_ok hf
    refine hp_cI0 (cl_X6_66 cx hB (cX6_isOne l D cA v1 h _ g3 m4) ⟨Nat.le_of_ble_eq_true rfl, Nat.le_of_ble_eq_true rfl⟩ rfl hl.1 rfl (Nat.le_of_ble_eq_true rfl) ⟨Nat.le_of_ble_eq_true rfl, Nat.le_of_ble_eq_true rfl⟩ dX6_partOf_9) rfl rfl hB (fun H locs hB => ?_)
    refine lv_if_eq (tgt := 26) hx hb dX6_partOf_12 (by decide) (fun c7 => ?_) (fun c7 => ?_)
    · replace hf := it_t c7 hf
      refine lv_aload_n hx hb dX6_partOf_26 rfl (lv_at hl 0 rfl) ?_
      obtain ⟨k8, hf⟩ := gk_ok hf
      obtain ⟨a9, q10, hf⟩ := bd_ok hf
      refine gf_X6_34 cx hB k8 q10 dX6_partOf_27 ?_
      refine lv_iload_n hx hb dX6_partOf_30 rfl (lv_at hl 1 rfl) ?_
      obtain ⟨k11, hf⟩ := gk_ok hf
      obtain ⟨j12, hf⟩ := gd_ok hf
      refine hp_iald cx hB k11 j12 dX6_partOf_31 ?_
      obtain ⟨x13, ex13, hf⟩ := nm_ok hf
      refine lv_ren ex13 ?_
      refine lv_istore_n (lv' := [(3, .int x13), (0, .ref t0), (1, .int v1), (2, .int v2)]) hx hb dX6_partOf_32 rfl hl (by decide) rfl (fun ls hl => ?_)
      refine lv_iload_n hx hb dX6_partOf_33 rfl (lv_at hl 2 rfl) ?_
      refine lv_iload_n hx hb dX6_partOf_34 rfl (lv_at hl 0 rfl) ?_
      refine lv_iconst (v := (-1)) hx hb dX6_partOf_35 (by decide) ?_
      refine lv_ixor hx hb dX6_partOf_36 ?_
      refine lv_iand hx hb dX6_partOf_37 ?_
      obtain ⟨x14, ex14, hf⟩ := nm_ok hf
      refine lv_ren ex14 ?_
      refine lv_istore (lv' := [(4, .int x14), (3, .int x13), (0, .ref t0), (1, .int v1), (2, .int v2)]) hx hb dX6_partOf_38 hl (by decide) rfl (fun ls hl => ?_)
      refine lv_iconst (v := 1) hx hb dX6_partOf_40 (by decide) ?_
      refine lv_istore (lv' := [(5, .int 1), (4, .int x14), (3, .int x13), (0, .ref t0), (1, .int v1), (2, .int v2)]) hx hb dX6_partOf_41 hl (by decide) rfl (fun ls hl => ?_)
      exact tX6_partOf_43 cx hr hlk  NF t0 v2 x13 x14 1 g3 _ _ _ hB (lv_sub hl [3, 5, 2, 1, 0] rfl) hf
    · replace hf := it_f c7 hf
      refine lv_iload_n hx hb dX6_partOf_15 rfl (lv_at hl 1 rfl) ?_
      refine lv_aload_n hx hb dX6_partOf_16 rfl (lv_at hl 0 rfl) ?_
      obtain ⟨k15, hf⟩ := gk_ok hf
      refine gf_X6_18 cx hB k15 dX6_partOf_17 ?_
      refine lv_icmp_eq (tgt := 26) hx hb dX6_partOf_20 (by decide) (fun c16 => ?_) (fun c16 => ?_)
      · replace hf := it_t c16 hf
        refine lv_aload_n hx hb dX6_partOf_26 rfl (lv_at hl 0 rfl) ?_
        obtain ⟨a17, q18, hf⟩ := bd_ok hf
        refine gf_X6_34 cx hB k15 q18 dX6_partOf_27 ?_
        refine lv_iload_n hx hb dX6_partOf_30 rfl (lv_at hl 1 rfl) ?_
        obtain ⟨k19, hf⟩ := gk_ok hf
        obtain ⟨j20, hf⟩ := gd_ok hf
        refine hp_iald cx hB k19 j20 dX6_partOf_31 ?_
        obtain ⟨x21, ex21, hf⟩ := nm_ok hf
        refine lv_ren ex21 ?_
        refine lv_istore_n (lv' := [(3, .int x21), (0, .ref t0), (1, .int v1), (2, .int v2)]) hx hb dX6_partOf_32 rfl hl (by decide) rfl (fun ls hl => ?_)
        refine lv_iload_n hx hb dX6_partOf_33 rfl (lv_at hl 2 rfl) ?_
        refine lv_iload_n hx hb dX6_partOf_34 rfl (lv_at hl 0 rfl) ?_
        refine lv_iconst (v := (-1)) hx hb dX6_partOf_35 (by decide) ?_
        refine lv_ixor hx hb dX6_partOf_36 ?_
        refine lv_iand hx hb dX6_partOf_37 ?_
        obtain ⟨x22, ex22, hf⟩ := nm_ok hf
        refine lv_ren ex22 ?_
        refine lv_istore (lv' := [(4, .int x22), (3, .int x21), (0, .ref t0), (1, .int v1), (2, .int v2)]) hx hb dX6_partOf_38 hl (by decide) rfl (fun ls hl => ?_)
        refine lv_iconst (v := 1) hx hb dX6_partOf_40 (by decide) ?_
        refine lv_istore (lv' := [(5, .int 1), (4, .int x22), (3, .int x21), (0, .ref t0), (1, .int v1), (2, .int v2)]) hx hb dX6_partOf_41 hl (by decide) rfl (fun ls hl => ?_)
        exact tX6_partOf_43 cx hr hlk  NF t0 v2 x21 x22 1 g3 _ _ _ hB (lv_sub hl [3, 5, 2, 1, 0] rfl) hf
      · replace hf := it_f c16 hf
        refine lv_bipush (v := (-4)) hx hb dX6_partOf_23 (by decide) ?_
        obtain ⟨rfl, rfl⟩ := rt_ok hf
        exact hp_iret cx hB hr hlk (Nat.le_of_ble_eq_true rfl) (Nat.le_of_ble_eq_true rfl) dX6_partOf_25
end
set_option maxHeartbeats 4000000 in
set_option maxRecDepth 100000 in
theorem cX6_partOf (l : Launch) (D : va_G) (cA : Nat → ClassId) (t0 : Nat) (v1 : Int32) (v2 : Int32) (h : Hp) (r : Int32) (h9 : Hp) (hf : fX6_partOf t0 v1 v2 h = some (r, h9)) : hp_M l yX6_partOf prog_8_method_3_code 6 (Option.some FieldType.int) rmX6_partOf D cA h [.ref t0, .int v1, .int v2] (hp_Qi D cA h h9 r) := by
  refine Met.ofW (cc := prog_8_method_3_code) (maxL := 6) (ret := (Option.some FieldType.int)) (by decide) rfl ?_
  intro p e s m args below meth c s₁ B hml hv
  obtain ⟨rfl, hU⟩ := hv
  have hts := atoms_spec (ws := Cond.code yX6_partOf prog_8_method_3_code 6 (Option.some FieldType.int) :: tbG) B.pre
  have hl := lv_entry ([.ref t0, .int v1, .int v2]) (n := 6) (Nat.le_of_ble_eq_true rfl)
  rw [lg_entry_eq]
  generalize (lg_sl ([.ref t0, .int v1, .int v2]) ++ List.replicate (6 - (lg_sl ([.ref t0, .int v1, .int v2])).length) Slot.unset).toArray = ls at hl ⊢
  exact tX6_partOf_0 ⟨B.exec, B.bytes, hml, findClass_of_methodNamed B.named, fun w hw => hts w (List.mem_cons_of_mem _ hw)⟩ B.returns B.notSynchronized t0 v1 v2 h _ _ _ (hp_B.entry hU) hl hf
section
variable {p : Program} {l : Launch} {e : Env} {R : Room} {s : State} {m : MethodId} {args : Array Value} {below : List Frame} {meth : Method} {c : Code} {H : Heap} {locs : List Loc} {cells slots : Nat} {Q : State → Prop}
variable {cc : ByteArray} {pc nL : Nat} {ls : Array Slot} {rest : List Value} {D : va_G} {cA : Nat → ClassId} {A : Nat → Prop} {a : Nat} {h : Hp}
theorem pf_X7_9 (cx : CallFix p m c cc nL s args tbG RX7) (hB : hp_B D cA A s h H locs) (hnm : meth.name = "<init>") (hka : h.1 a = 8) {b : Nat} (hdg : decode cc pc = .ok (.putfield 9, 3)) (kk : ∀ (H1 : Heap) (locs1 : List Loc), hp_B D cA A s (hp_sr h a 0 (some b)) H1 locs1 → W p l e R s m args below meth c H1 locs1 cells slots Q (F0 m (pc + 3) ls rest)) : W p l e R s m args below meth c H locs cells slots Q (F0 m pc ls (.ref b :: .ref a :: rest)) :=
  hp_putX cx hB (ci := 7) 0 tyX7 tyX7_ok nmX7 rfl inX7 (by decide) rfl (by decide) (Or.inr ⟨rfl, hnm, rfl⟩) qw_61 hka (v := va_rf (some b)) (hp_like_sr h a 0 (some b)) (hp_fs_sr (by decide) rfl) rfl rfl hdg kk
theorem pf_X7_15 (cx : CallFix p m c cc nL s args tbG RX7) (hB : hp_B D cA A s h H locs) (hnm : meth.name = "<init>") (hka : h.1 a = 8) {b : Nat} (hdg : decode cc pc = .ok (.putfield 15, 3)) (kk : ∀ (H1 : Heap) (locs1 : List Loc), hp_B D cA A s (hp_sr h a 1 (some b)) H1 locs1 → W p l e R s m args below meth c H1 locs1 cells slots Q (F0 m (pc + 3) ls rest)) : W p l e R s m args below meth c H locs cells slots Q (F0 m pc ls (.ref b :: .ref a :: rest)) :=
  hp_putX cx hB (ci := 7) 1 tyX7 tyX7_ok nmX7 rfl inX7 (by decide) rfl (by decide) (Or.inr ⟨rfl, hnm, rfl⟩) qw_62 hka (v := va_rf (some b)) (hp_like_sr h a 1 (some b)) (hp_fs_sr (by decide) rfl) rfl rfl hdg kk
end
abbrev yX7_init : MethodName := ⟨"SpokenMenus$Traps", "<init>", "()V"⟩
theorem dX7_init_0 : decode prog_9_method_1_code 0 = .ok (.aload_n 0, 1) := by decide +kernel
theorem dX7_init_1 : decode prog_9_method_1_code 1 = .ok (.invokespecial 3, 3) := by decide +kernel
theorem dX7_init_4 : decode prog_9_method_1_code 4 = .ok (.aload_n 0, 1) := by decide +kernel
theorem dX7_init_5 : decode prog_9_method_1_code 5 = .ok (.bipush 40, 2) := by decide +kernel
theorem dX7_init_7 : decode prog_9_method_1_code 7 = .ok (.newarray .boolean, 2) := by decide +kernel
theorem dX7_init_9 : decode prog_9_method_1_code 9 = .ok (.putfield 9, 3) := by decide +kernel
theorem dX7_init_12 : decode prog_9_method_1_code 12 = .ok (.aload_n 0, 1) := by decide +kernel
theorem dX7_init_13 : decode prog_9_method_1_code 13 = .ok (.bipush 40, 2) := by decide +kernel
theorem dX7_init_15 : decode prog_9_method_1_code 15 = .ok (.newarray .boolean, 2) := by decide +kernel
theorem dX7_init_17 : decode prog_9_method_1_code 17 = .ok (.putfield 15, 3) := by decide +kernel
theorem dX7_init_20 : decode prog_9_method_1_code 20 = .ok (.return_, 1) := by decide +kernel
abbrev rmX7_init : Room := { frames := 1, cells := 2, slots := 80, locals := 20 }
def fX7_init  (t0 : Nat) (h : Hp) : Option (Unit × Hp) :=
  nm h.2.2.2.2 fun a1 =>
  nm (hp_nw h 14 40) fun g2 =>
  gk (g2.1 t0) 8 <|
  nm (hp_sr g2 t0 0 (some a1)) fun g5 =>
  nm g5.2.2.2.2 fun a6 =>
  nm (hp_nw g5 14 40) fun g7 =>
  gk (g7.1 t0) 8 <|
  nm (hp_sr g7 t0 1 (some a6)) fun g10 =>
  some ((), g10)
section
variable {p : Program} {l : Launch} {e : Env} {s : State} {m : MethodId} {args : Array Value} {below : List Frame} {meth : Method} {c : Code} {D : va_G} {cA : Nat → ClassId} {h0 h9 : Hp}
set_option maxHeartbeats 4000000 in
set_option maxRecDepth 100000 in
theorem tX7_init_0  (cx : CallFix p m c prog_9_method_1_code 1 s args tbG RX7) (hr : meth.sig.returnType = none) (hlk : meth.locks = false) (hnm : meth.name = "<init>")  (t0 : Nat) (h : Hp) (H : Heap) (locs : List Loc) (ls : Array Slot) (hB : hp_B D cA (hp_A h0) s h H locs) (hl : lv_has ls 1 [(0, .ref t0)]) (hf : fX7_init  t0 h = some ((), h9)) : W p l e rmX7_init s m args below meth c H locs 0 0 (MQ below (hp_Qv D cA h0 h9) args s 2 80 (hp_A h0)) (F0 m 0 ls []) := by
  obtain ⟨hx, hb, -⟩ := id cx
  unfold fX7_init at hf
  refine lv_aload_n hx hb dX7_init_0 rfl (lv_at hl 0 rfl) ?_
  refine W.objInit hx hb cx.2.2.2.1 (cx.2.2.2.2 _ (tb_in qw_60 rfl)) (cx.2.2.2.2 _ (tb_in qw_22 rfl)) (cx.2.2.2.2 _ (tb_in qw_23 rfl)) rfl (by rw [cx.2.2.1]; exact hl.1) rfl dX7_init_1 (Nat.le_of_ble_eq_true rfl) (Nat.le_of_ble_eq_true rfl) ?_
  refine W.eq (g2 := F0 m 4 ls []) rfl ?_
  refine lv_aload_n hx hb dX7_init_4 rfl (lv_at hl 0 rfl) ?_
  refine lv_bipush (v := 40) hx hb dX7_init_5 (by decide) ?_
  obtain ⟨a1, ea1, hf⟩ := nm_ok hf
  obtain ⟨g2, eg2, hf⟩ := nm_ok hf
  refine hp_newa cx hB 14 (N' := 40) (ty := .boolean) rfl (by decide) rfl (fun h9 => h9) rfl qw_68 ea1 (by decide) (by decide) (by decide) (Nat.le_of_ble_eq_true rfl) (Nat.le_of_ble_eq_true rfl) dX7_init_7 (fun H hB => ?_)
  rw [← eg2] at hB
  have k3 : g2.1 a1 = 14 := by rw [eg2, ea1]; exact va_up_self _ _ _
  obtain ⟨k4, hf⟩ := gk_ok hf
  obtain ⟨g5, eg5, hf⟩ := nm_ok hf
  refine pf_X7_9 cx hB hnm k4 dX7_init_9 (fun H locs hB => ?_)
  rw [← eg5] at hB
  refine lv_aload_n hx hb dX7_init_12 rfl (lv_at hl 0 rfl) ?_
  refine lv_bipush (v := 40) hx hb dX7_init_13 (by decide) ?_
  obtain ⟨a6, ea6, hf⟩ := nm_ok hf
  obtain ⟨g7, eg7, hf⟩ := nm_ok hf
  refine hp_newa cx hB 14 (N' := 40) (ty := .boolean) rfl (by decide) rfl (fun h9 => h9) rfl qw_68 ea6 (by decide) (by decide) (by decide) (Nat.le_of_ble_eq_true rfl) (Nat.le_of_ble_eq_true rfl) dX7_init_15 (fun H hB => ?_)
  rw [← eg7] at hB
  have k8 : g7.1 a6 = 14 := by rw [eg7, ea6]; exact va_up_self _ _ _
  obtain ⟨k9, hf⟩ := gk_ok hf
  obtain ⟨g10, eg10, hf⟩ := nm_ok hf
  refine pf_X7_15 cx hB hnm k9 dX7_init_17 (fun H locs hB => ?_)
  rw [← eg10] at hB
  obtain ⟨-, rfl⟩ := rt_ok hf
  exact hp_vret cx hB hr hlk (Nat.le_of_ble_eq_true rfl) (Nat.le_of_ble_eq_true rfl) dX7_init_20
end
set_option maxHeartbeats 4000000 in
set_option maxRecDepth 100000 in
theorem cX7_init (l : Launch) (D : va_G) (cA : Nat → ClassId) (t0 : Nat) (h : Hp) (_u : Unit) (h9 : Hp) (hf : fX7_init t0 h = some (_u, h9)) : hp_M l yX7_init prog_9_method_1_code 1 none rmX7_init D cA h [.ref t0] (hp_Qv D cA h h9) := by
  refine Met.ofW (cc := prog_9_method_1_code) (maxL := 1) (ret := none) (by decide) rfl ?_
  intro p e s m args below meth c s₁ B hml hv
  obtain ⟨rfl, hU⟩ := hv
  have hts := atoms_spec (ws := Cond.code yX7_init prog_9_method_1_code 1 none :: tbG) B.pre
  have hl := lv_entry ([.ref t0]) (n := 1) (Nat.le_of_ble_eq_true rfl)
  rw [lg_entry_eq]
  generalize (lg_sl ([.ref t0]) ++ List.replicate (1 - (lg_sl ([.ref t0])).length) Slot.unset).toArray = ls at hl ⊢
  exact tX7_init_0 ⟨B.exec, B.bytes, hml, findClass_of_methodNamed B.named, fun w hw => hts w (List.mem_cons_of_mem _ hw)⟩ B.returns B.notSynchronized ((name_of_methodNamed B.named B.method).1) t0 h _ _ _ (hp_B.entry hU) hl hf
abbrev yX10_clear : MethodName := ⟨"SpokenMenus", "clear", "([Z)V"⟩
theorem dX10_clear_0 : decode prog_1_method_33_code 0 = .ok (.iconst 0, 1) := by decide +kernel
theorem dX10_clear_1 : decode prog_1_method_33_code 1 = .ok (.istore_n 1, 1) := by decide +kernel
theorem dX10_clear_2 : decode prog_1_method_33_code 2 = .ok (.iload_n 1, 1) := by decide +kernel
theorem dX10_clear_3 : decode prog_1_method_33_code 3 = .ok (.aload_n 0, 1) := by decide +kernel
theorem dX10_clear_4 : decode prog_1_method_33_code 4 = .ok (.arraylength, 1) := by decide +kernel
theorem dX10_clear_5 : decode prog_1_method_33_code 5 = .ok (.if_icmp .ge 13, 3) := by decide +kernel
theorem dX10_clear_8 : decode prog_1_method_33_code 8 = .ok (.aload_n 0, 1) := by decide +kernel
theorem dX10_clear_9 : decode prog_1_method_33_code 9 = .ok (.iload_n 1, 1) := by decide +kernel
theorem dX10_clear_10 : decode prog_1_method_33_code 10 = .ok (.iconst 0, 1) := by decide +kernel
theorem dX10_clear_11 : decode prog_1_method_33_code 11 = .ok (.bastore, 1) := by decide +kernel
theorem dX10_clear_12 : decode prog_1_method_33_code 12 = .ok (.iinc 1 1, 3) := by decide +kernel
theorem dX10_clear_15 : decode prog_1_method_33_code 15 = .ok (.goto (-13), 3) := by decide +kernel
theorem dX10_clear_18 : decode prog_1_method_33_code 18 = .ok (.return_, 1) := by decide +kernel
abbrev rmX10_clear : Room := { frames := 0, cells := 0, slots := 0, locals := 0 }
def bX10_clear_2  (rc : Option Nat → Int32 → Hp → Option (Unit × Hp)) (w0 : Option Nat) (v1 : Int32) (h : Hp) : Option (Unit × Hp) :=
  bd w0 fun a1 =>
  gk (h.1 a1) 14 <|
  if (Int32.ofNat (h.2.1 a1)) ≤ v1 then
  (some ((), h))
  else
  (gd (ix v1 (h.2.1 a1)) <|
  nm (hp_si h a1 (Int32.toNatClampNeg v1) 0) fun g5 =>
  nm (v1 + 1) fun x6 =>
  rc (some a1) x6 g5)
def fX10_clear_2  : Option Nat → Int32 → Hp → Option (Unit × Hp) := fx (bX10_clear_2 ) (fun _ _ _ => none) NF
def fX10_clear  (w0 : Option Nat) (h : Hp) : Option (Unit × Hp) :=
  fX10_clear_2  w0 0 h
section
variable {p : Program} {l : Launch} {e : Env} {s : State} {m : MethodId} {args : Array Value} {below : List Frame} {meth : Method} {c : Code} {D : va_G} {cA : Nat → ClassId} {h0 h9 : Hp}
set_option maxHeartbeats 4000000 in
set_option maxRecDepth 100000 in
theorem tX10_clear_2  (cx : CallFix p m c prog_1_method_33_code 2 s args tbG RX10) (hr : meth.sig.returnType = none) (hlk : meth.locks = false)  (n : Nat) : ∀ (w0 : Option Nat) (v1 : Int32) (h : Hp) (H : Heap) (locs : List Loc) (ls : Array Slot), hp_B D cA (hp_A h0) s h H locs → lv_has ls 2 [(0, va_rf w0), (1, .int v1)] → fx (bX10_clear_2 ) (fun _ _ _ => none) n w0 v1 h = some ((), h9) → W p l e rmX10_clear s m args below meth c H locs 0 0 (MQ below (hp_Qv D cA h0 h9) args s 0 0 (hp_A h0)) (F0 m 2 ls []) := by
  obtain ⟨hx, hb, -⟩ := id cx
  induction n with
  | zero => intro w0 v1 h H locs ls hB hl hf; cases hf
  | succ n ih =>
    intro w0 v1 h H locs ls hB hl hf
    replace hf : bX10_clear_2  (fx (bX10_clear_2 ) (fun _ _ _ => none) n) w0 v1 h = some ((), h9) := hf
    unfold bX10_clear_2 at hf
    refine lv_iload_n hx hb dX10_clear_2 rfl (lv_at hl 1 rfl) ?_
    refine lq_aload_n hx hb dX10_clear_3 rfl (lv_at hl 0 rfl) ?_
    obtain ⟨a1, eo, hf⟩ := bd_ok hf
    subst eo
    obtain ⟨k2, hf⟩ := gk_ok hf
    refine hp_alen cx hB 14 .boolean (by decide) rfl k2 dX10_clear_4 ?_
    refine lv_icmp_ge (tgt := 18) hx hb dX10_clear_5 (by decide) (fun c3 => ?_) (fun c3 => ?_)
    · replace hf := it_t c3 hf
      obtain ⟨-, rfl⟩ := rt_ok hf
      exact hp_vret cx hB hr hlk (Nat.le_of_ble_eq_true rfl) (Nat.le_of_ble_eq_true rfl) dX10_clear_18
    · replace hf := it_f c3 hf
      refine lv_aload_n hx hb dX10_clear_8 rfl (lv_at hl 0 rfl) ?_
      refine lv_iload_n hx hb dX10_clear_9 rfl (lv_at hl 1 rfl) ?_
      refine lv_iconst (v := 0) hx hb dX10_clear_10 (by decide) ?_
      obtain ⟨j4, hf⟩ := gd_ok hf
      obtain ⟨g5, eg5, hf⟩ := nm_ok hf
      refine hp_zast cx hB k2 j4 rfl dX10_clear_11 (fun H locs hB => ?_)
      rw [← eg5] at hB
      obtain ⟨x6, ex6, hf⟩ := nm_ok hf
      refine lv_iinc (v := x6) (lv' := [(1, .int x6), (0, .ref a1)]) hx hb dX10_clear_12 hl (k := 1) rfl (by rw [ex6]; rfl) (by decide) rfl (fun ls hl => ?_)
      refine lv_goto (tgt := 2) hx hb dX10_clear_15 (by decide) ?_
      exact ih (some a1) x6 g5 _ _ _ hB (lv_sub hl [1, 0] rfl) hf
set_option maxHeartbeats 4000000 in
set_option maxRecDepth 100000 in
theorem tX10_clear_0  (cx : CallFix p m c prog_1_method_33_code 2 s args tbG RX10) (hr : meth.sig.returnType = none) (hlk : meth.locks = false)  (w0 : Option Nat) (h : Hp) (H : Heap) (locs : List Loc) (ls : Array Slot) (hB : hp_B D cA (hp_A h0) s h H locs) (hl : lv_has ls 2 [(0, va_rf w0)]) (hf : fX10_clear  w0 h = some ((), h9)) : W p l e rmX10_clear s m args below meth c H locs 0 0 (MQ below (hp_Qv D cA h0 h9) args s 0 0 (hp_A h0)) (F0 m 0 ls []) := by
  obtain ⟨hx, hb, -⟩ := id cx
  unfold fX10_clear at hf
  refine lv_iconst (v := 0) hx hb dX10_clear_0 (by decide) ?_
  refine lv_istore_n (lv' := [(1, .int 0), (0, va_rf w0)]) hx hb dX10_clear_1 rfl hl (by decide) (by cases w0 <;> rfl) (fun ls hl => ?_)
  exact tX10_clear_2 cx hr hlk  NF w0 0 h _ _ _ hB (lv_sub hl [1, 0] rfl) hf
end
set_option maxHeartbeats 4000000 in
set_option maxRecDepth 100000 in
theorem cX10_clear (l : Launch) (D : va_G) (cA : Nat → ClassId) (w0 : Option Nat) (h : Hp) (_u : Unit) (h9 : Hp) (hf : fX10_clear w0 h = some (_u, h9)) : hp_M l yX10_clear prog_1_method_33_code 2 none rmX10_clear D cA h [va_rf w0] (hp_Qv D cA h h9) := by
  refine Met.ofW (cc := prog_1_method_33_code) (maxL := 2) (ret := none) (by decide) rfl ?_
  intro p e s m args below meth c s₁ B hml hv
  obtain ⟨rfl, hU⟩ := hv
  have hts := atoms_spec (ws := Cond.code yX10_clear prog_1_method_33_code 2 none :: tbG) B.pre
  have hl := lv_entry ([va_rf w0]) (n := 2) (by simp [lg_sl, va_rf_cat, cat_i, cat_r, cat_n])
  rw [show lv_args 0 ([va_rf w0]) = [(0, va_rf w0)] by simp [lv_args, va_rf_cat, cat_i, cat_r, cat_n]] at hl
  rw [lg_entry_eq]
  generalize (lg_sl ([va_rf w0]) ++ List.replicate (2 - (lg_sl ([va_rf w0])).length) Slot.unset).toArray = ls at hl ⊢
  exact tX10_clear_0 ⟨B.exec, B.bytes, hml, findClass_of_methodNamed B.named, fun w hw => hts w (List.mem_cons_of_mem _ hw)⟩ B.returns B.notSynchronized w0 h _ _ _ (hp_B.entry hU) hl hf
section
variable {p : Program} {l : Launch} {e : Env} {R : Room} {s : State} {m : MethodId} {args : Array Value} {below : List Frame} {meth : Method} {c : Code} {H : Heap} {locs : List Loc} {cells slots : Nat} {Q : State → Prop}
variable {cc : ByteArray} {pc nL : Nat} {ls : Array Slot} {rest : List Value} {D : va_G} {cA : Nat → ClassId} {A : Nat → Prop} {a : Nat} {h : Hp}
theorem gf_X7_40 (cx : CallFix p m c cc nL s args tbG RX7) (hB : hp_B D cA A s h H locs) (hka : h.1 a = 6) (hdg : decode cc pc = .ok (.getfield 40, 3)) (kk : W p l e R s m args below meth c H locs cells slots Q (F0 m (pc + 3) ls (.int (h.2.2.1 a 0) :: rest))) : W p l e R s m args below meth c H locs cells slots Q (F0 m pc ls (.ref a :: rest)) :=
  hp_getI cx hB (ci := 5) 0 rfl inX5 (by decide) rfl (by decide) rfl qw_250 hka hdg kk
theorem cl_X7_45 {As st0 : List Value} {b : Nat} {Qc : Array Value → State → Outcome → State → Prop} (cx : CallFix p m c cc nL s args tbG RX7) (hB : hp_B D cA A s h H locs) (hM : hp_M l yX5_exits prog_7_method_12_code 1 (Option.some FieldType.int) rmX5_exits D cA h (.ref b :: As) Qc) (hkb : h.1 b = 6) (hR : rmX5_exits.frames + 1 ≤ R.frames ∧ 8 + (1 + 11) + rmX5_exits.locals ≤ R.locals) (hn : As.length = 0) (hls : ls.size = nL) (hst : st0 = As.reverse ++ .ref b :: rest) (hW : (rest.map fun v => v.category).sum ≤ 8) (hf : cells + rmX5_exits.cells ≤ R.cells ∧ slots + rmX5_exits.slots ≤ R.slots) (hdg : decode cc pc = .ok (.invokevirtual 45, 3)) :
    va_Run p l e R s m args below meth c H locs cells slots rmX5_exits.cells rmX5_exits.slots (F0 m pc ls st0) rest (Qc (Value.ref b :: As).toArray) (hp_A h) :=
  hp_runV cx hB hM (ci := 5) rfl (by decide) hkb qw_594 qw_591 qw_592 qw_593 qw_11 (by decide +kernel) hR hn hls hst hW hf hdg
theorem gf_X7_15 (cx : CallFix p m c cc nL s args tbG RX7) (hB : hp_B D cA A s h H locs) (hka : h.1 a = 8) {b : Nat} (ho : h.2.2.2.1 a 1 = some b) (hdg : decode cc pc = .ok (.getfield 15, 3)) (kk : W p l e R s m args below meth c H locs cells slots Q (F0 m (pc + 3) ls (.ref b :: rest))) : W p l e R s m args below meth c H locs cells slots Q (F0 m pc ls (.ref a :: rest)) :=
  hp_getR cx hB (ci := 7) 1 rfl inX7 (by decide) rfl (by decide) rfl qw_62 hka (o := some b) ho.symm hdg kk
theorem cl_X7_49 {As st0 : List Value} {b : Nat} {Qc : Array Value → State → Outcome → State → Prop} (cx : CallFix p m c cc nL s args tbG RX7) (hB : hp_B D cA A s h H locs) (hM : hp_M l yX5_exitAt prog_7_method_13_code 3 (Option.some FieldType.int) rmX5_exitAt D cA h (.ref b :: As) Qc) (hkb : h.1 b = 6) (hR : rmX5_exitAt.frames + 1 ≤ R.frames ∧ 8 + (3 + 11) + rmX5_exitAt.locals ≤ R.locals) (hn : As.length = 2) (hls : ls.size = nL) (hst : st0 = As.reverse ++ .ref b :: rest) (hW : (rest.map fun v => v.category).sum ≤ 8) (hf : cells + rmX5_exitAt.cells ≤ R.cells ∧ slots + rmX5_exitAt.slots ≤ R.slots) (hdg : decode cc pc = .ok (.invokevirtual 49, 3)) :
    va_Run p l e R s m args below meth c H locs cells slots rmX5_exitAt.cells rmX5_exitAt.slots (F0 m pc ls st0) rest (Qc (Value.ref b :: As).toArray) (hp_A h) :=
  hp_runV cx hB hM (ci := 5) rfl (by decide) hkb qw_598 qw_595 qw_596 qw_597 qw_11 (by decide +kernel) hR hn hls hst hW hf hdg
theorem gf_X7_9 (cx : CallFix p m c cc nL s args tbG RX7) (hB : hp_B D cA A s h H locs) (hka : h.1 a = 8) {b : Nat} (ho : h.2.2.2.1 a 0 = some b) (hdg : decode cc pc = .ok (.getfield 9, 3)) (kk : W p l e R s m args below meth c H locs cells slots Q (F0 m (pc + 3) ls (.ref b :: rest))) : W p l e R s m args below meth c H locs cells slots Q (F0 m pc ls (.ref a :: rest)) :=
  hp_getR cx hB (ci := 7) 0 rfl inX7 (by decide) rfl (by decide) rfl qw_61 hka (o := some b) ho.symm hdg kk
end
abbrev yX7_spread : MethodName := ⟨"SpokenMenus$Traps", "spread", "(LSpokenMenus$Place;II)Z"⟩
theorem dX7_spread_0 : decode prog_9_method_6_code 0 = .ok (.iconst 0, 1) := by decide +kernel
theorem dX7_spread_1 : decode prog_9_method_6_code 1 = .ok (.istore 4, 2) := by decide +kernel
theorem dX7_spread_3 : decode prog_9_method_6_code 3 = .ok (.aload_n 1, 1) := by decide +kernel
theorem dX7_spread_4 : decode prog_9_method_6_code 4 = .ok (.getfield 40, 3) := by decide +kernel
theorem dX7_spread_7 : decode prog_9_method_6_code 7 = .ok (.iconst 1, 1) := by decide +kernel
theorem dX7_spread_8 : decode prog_9_method_6_code 8 = .ok (.if_icmp .ne 7, 3) := by decide +kernel
theorem dX7_spread_11 : decode prog_9_method_6_code 11 = .ok (.iconst 1, 1) := by decide +kernel
theorem dX7_spread_12 : decode prog_9_method_6_code 12 = .ok (.goto 4, 3) := by decide +kernel
theorem dX7_spread_15 : decode prog_9_method_6_code 15 = .ok (.iconst 0, 1) := by decide +kernel
theorem dX7_spread_16 : decode prog_9_method_6_code 16 = .ok (.istore 5, 2) := by decide +kernel
theorem dX7_spread_18 : decode prog_9_method_6_code 18 = .ok (.iconst 0, 1) := by decide +kernel
theorem dX7_spread_19 : decode prog_9_method_6_code 19 = .ok (.istore 6, 2) := by decide +kernel
theorem dX7_spread_21 : decode prog_9_method_6_code 21 = .ok (.iload 6, 2) := by decide +kernel
theorem dX7_spread_23 : decode prog_9_method_6_code 23 = .ok (.aload_n 1, 1) := by decide +kernel
theorem dX7_spread_24 : decode prog_9_method_6_code 24 = .ok (.invokevirtual 45, 3) := by decide +kernel
theorem dX7_spread_27 : decode prog_9_method_6_code 27 = .ok (.if_icmp .ge 85, 3) := by decide +kernel
theorem dX7_spread_30 : decode prog_9_method_6_code 30 = .ok (.aload_n 1, 1) := by decide +kernel
theorem dX7_spread_31 : decode prog_9_method_6_code 31 = .ok (.iload 6, 2) := by decide +kernel
theorem dX7_spread_33 : decode prog_9_method_6_code 33 = .ok (.iload_n 3, 1) := by decide +kernel
theorem dX7_spread_34 : decode prog_9_method_6_code 34 = .ok (.invokevirtual 49, 3) := by decide +kernel
theorem dX7_spread_37 : decode prog_9_method_6_code 37 = .ok (.istore 7, 2) := by decide +kernel
theorem dX7_spread_39 : decode prog_9_method_6_code 39 = .ok (.iload 7, 2) := by decide +kernel
theorem dX7_spread_41 : decode prog_9_method_6_code 41 = .ok (.ifCond .lt 65, 3) := by decide +kernel
theorem dX7_spread_44 : decode prog_9_method_6_code 44 = .ok (.iload 7, 2) := by decide +kernel
theorem dX7_spread_46 : decode prog_9_method_6_code 46 = .ok (.bipush 40, 2) := by decide +kernel
theorem dX7_spread_48 : decode prog_9_method_6_code 48 = .ok (.if_icmp .lt 6, 3) := by decide +kernel
theorem dX7_spread_51 : decode prog_9_method_6_code 51 = .ok (.goto 55, 3) := by decide +kernel
theorem dX7_spread_54 : decode prog_9_method_6_code 54 = .ok (.iload 5, 2) := by decide +kernel
theorem dX7_spread_56 : decode prog_9_method_6_code 56 = .ok (.ifCond .ne 13, 3) := by decide +kernel
theorem dX7_spread_59 : decode prog_9_method_6_code 59 = .ok (.aload_n 0, 1) := by decide +kernel
theorem dX7_spread_60 : decode prog_9_method_6_code 60 = .ok (.getfield 15, 3) := by decide +kernel
theorem dX7_spread_63 : decode prog_9_method_6_code 63 = .ok (.iload 7, 2) := by decide +kernel
theorem dX7_spread_65 : decode prog_9_method_6_code 65 = .ok (.baload, 1) := by decide +kernel
theorem dX7_spread_66 : decode prog_9_method_6_code 66 = .ok (.ifCond .eq 7, 3) := by decide +kernel
theorem dX7_spread_69 : decode prog_9_method_6_code 69 = .ok (.iconst 1, 1) := by decide +kernel
theorem dX7_spread_70 : decode prog_9_method_6_code 70 = .ok (.goto 4, 3) := by decide +kernel
theorem dX7_spread_73 : decode prog_9_method_6_code 73 = .ok (.iconst 0, 1) := by decide +kernel
theorem dX7_spread_74 : decode prog_9_method_6_code 74 = .ok (.istore 5, 2) := by decide +kernel
theorem dX7_spread_76 : decode prog_9_method_6_code 76 = .ok (.aload_n 0, 1) := by decide +kernel
theorem dX7_spread_77 : decode prog_9_method_6_code 77 = .ok (.getfield 9, 3) := by decide +kernel
theorem dX7_spread_80 : decode prog_9_method_6_code 80 = .ok (.iload_n 2, 1) := by decide +kernel
theorem dX7_spread_81 : decode prog_9_method_6_code 81 = .ok (.baload, 1) := by decide +kernel
theorem dX7_spread_82 : decode prog_9_method_6_code 82 = .ok (.ifCond .eq 24, 3) := by decide +kernel
theorem dX7_spread_85 : decode prog_9_method_6_code 85 = .ok (.aload_n 0, 1) := by decide +kernel
theorem dX7_spread_86 : decode prog_9_method_6_code 86 = .ok (.getfield 9, 3) := by decide +kernel
theorem dX7_spread_89 : decode prog_9_method_6_code 89 = .ok (.iload 7, 2) := by decide +kernel
theorem dX7_spread_91 : decode prog_9_method_6_code 91 = .ok (.baload, 1) := by decide +kernel
theorem dX7_spread_92 : decode prog_9_method_6_code 92 = .ok (.ifCond .ne 14, 3) := by decide +kernel
theorem dX7_spread_95 : decode prog_9_method_6_code 95 = .ok (.aload_n 0, 1) := by decide +kernel
theorem dX7_spread_96 : decode prog_9_method_6_code 96 = .ok (.getfield 9, 3) := by decide +kernel
theorem dX7_spread_99 : decode prog_9_method_6_code 99 = .ok (.iload 7, 2) := by decide +kernel
theorem dX7_spread_101 : decode prog_9_method_6_code 101 = .ok (.iconst 1, 1) := by decide +kernel
theorem dX7_spread_102 : decode prog_9_method_6_code 102 = .ok (.bastore, 1) := by decide +kernel
theorem dX7_spread_103 : decode prog_9_method_6_code 103 = .ok (.iconst 1, 1) := by decide +kernel
theorem dX7_spread_104 : decode prog_9_method_6_code 104 = .ok (.istore 4, 2) := by decide +kernel
theorem dX7_spread_106 : decode prog_9_method_6_code 106 = .ok (.iinc 6 1, 3) := by decide +kernel
theorem dX7_spread_109 : decode prog_9_method_6_code 109 = .ok (.goto (-88), 3) := by decide +kernel
theorem dX7_spread_112 : decode prog_9_method_6_code 112 = .ok (.iload 5, 2) := by decide +kernel
theorem dX7_spread_114 : decode prog_9_method_6_code 114 = .ok (.ifCond .eq 22, 3) := by decide +kernel
theorem dX7_spread_117 : decode prog_9_method_6_code 117 = .ok (.aload_n 0, 1) := by decide +kernel
theorem dX7_spread_118 : decode prog_9_method_6_code 118 = .ok (.getfield 15, 3) := by decide +kernel
theorem dX7_spread_121 : decode prog_9_method_6_code 121 = .ok (.iload_n 2, 1) := by decide +kernel
theorem dX7_spread_122 : decode prog_9_method_6_code 122 = .ok (.baload, 1) := by decide +kernel
theorem dX7_spread_123 : decode prog_9_method_6_code 123 = .ok (.ifCond .ne 13, 3) := by decide +kernel
theorem dX7_spread_126 : decode prog_9_method_6_code 126 = .ok (.aload_n 0, 1) := by decide +kernel
theorem dX7_spread_127 : decode prog_9_method_6_code 127 = .ok (.getfield 15, 3) := by decide +kernel
theorem dX7_spread_130 : decode prog_9_method_6_code 130 = .ok (.iload_n 2, 1) := by decide +kernel
theorem dX7_spread_131 : decode prog_9_method_6_code 131 = .ok (.iconst 1, 1) := by decide +kernel
theorem dX7_spread_132 : decode prog_9_method_6_code 132 = .ok (.bastore, 1) := by decide +kernel
theorem dX7_spread_133 : decode prog_9_method_6_code 133 = .ok (.iconst 1, 1) := by decide +kernel
theorem dX7_spread_134 : decode prog_9_method_6_code 134 = .ok (.istore 4, 2) := by decide +kernel
theorem dX7_spread_136 : decode prog_9_method_6_code 136 = .ok (.iload 4, 2) := by decide +kernel
theorem dX7_spread_138 : decode prog_9_method_6_code 138 = .ok (.ireturn, 1) := by decide +kernel
abbrev rmX7_spread : Room := { frames := 2, cells := 0, slots := 0, locals := 44 }
def fX7_spread_74 (rc21 : Nat → Nat → Int32 → Int32 → Int32 → Int32 → Int32 → Hp → Option (Int32 × Hp)) (t0 : Nat) (t1 : Nat) (v2 : Int32) (v3 : Int32) (v4 : Int32) (v6 : Int32) (v7 : Int32) (s0 : Int32) (h : Hp) : Option (Int32 × Hp) :=
  gk (h.1 t0) 8 <|
  bd (h.2.2.2.1 t0 0) fun a2 =>
  gk (h.1 a2) 14 <|
  gd (ix v2 (h.2.1 a2)) <|
  if (h.2.2.1 a2 (Int32.toNatClampNeg v2)) = 0 then
  (nm (v6 + 1) fun x7 =>
  rc21 t0 t1 v2 v3 v4 s0 x7 h)
  else
  (gd (ix v7 (h.2.1 a2)) <|
  if (h.2.2.1 a2 (Int32.toNatClampNeg v7)) = 0 then
  (gd (ix v7 (h.2.1 a2)) <|
  nm (hp_si h a2 (Int32.toNatClampNeg v7) 1) fun g12 =>
  nm (v6 + 1) fun x13 =>
  rc21 t0 t1 v2 v3 1 s0 x13 g12)
  else
  (nm (v6 + 1) fun x10 =>
  rc21 t0 t1 v2 v3 v4 s0 x10 h))
def bX7_spread_21  (rc : Nat → Nat → Int32 → Int32 → Int32 → Int32 → Int32 → Hp → Option (Int32 × Hp)) (t0 : Nat) (t1 : Nat) (v2 : Int32) (v3 : Int32) (v4 : Int32) (v5 : Int32) (v6 : Int32) (h : Hp) : Option (Int32 × Hp) :=
  gk (h.1 t1) 6 <|
  b2 (fX5_exits t1 h) fun r4 g2 =>
  if r4 ≤ v6 then
  (if v5 = 0 then
  (gd (zb v4) <|
  some (v4, g2))
  else
  (gk (g2.1 t0) 8 <|
  bd (g2.2.2.2.1 t0 1) fun a10 =>
  gk (g2.1 a10) 14 <|
  gd (ix v2 (g2.2.1 a10)) <|
  if (g2.2.2.1 a10 (Int32.toNatClampNeg v2)) = 0 then
  (gd (ix v2 (g2.2.1 a10)) <|
  nm (hp_si g2 a10 (Int32.toNatClampNeg v2) 1) fun g17 =>
  some (1, g17))
  else
  (gd (zb v4) <|
  some (v4, g2))))
  else
  (gk (g2.1 t1) 6 <|
  b2 (fX5_exitAt t1 v6 v3 g2) fun r21 g19 =>
  if r21 < 0 then
  (nm (v6 + 1) fun x24 =>
  rc t0 t1 v2 v3 v4 v5 x24 g19)
  else
  (if r21 < 40 then
  (if v5 = 0 then
  (gk (g19.1 t0) 8 <|
  bd (g19.2.2.2.1 t0 1) fun a28 =>
  gk (g19.1 a28) 14 <|
  gd (ix r21 (g19.2.1 a28)) <|
  if (g19.2.2.1 a28 (Int32.toNatClampNeg r21)) = 0 then
  (fX7_spread_74 rc t0 t1 v2 v3 v4 v6 r21 0 g19)
  else
  (fX7_spread_74 rc t0 t1 v2 v3 v4 v6 r21 1 g19))
  else
  (fX7_spread_74 rc t0 t1 v2 v3 v4 v6 r21 1 g19))
  else
  (nm (v6 + 1) fun x33 =>
  rc t0 t1 v2 v3 v4 v5 x33 g19)))
def fX7_spread_21  : Nat → Nat → Int32 → Int32 → Int32 → Int32 → Int32 → Hp → Option (Int32 × Hp) := fx (bX7_spread_21 ) (fun _ _ _ _ _ _ _ _ => none) NF
def fX7_spread  (t0 : Nat) (w1 : Option Nat) (v2 : Int32) (v3 : Int32) (h : Hp) : Option (Int32 × Hp) :=
  bd w1 fun a1 =>
  gk (h.1 a1) 6 <|
  if (h.2.2.1 a1 0) = 1 then
  (fX7_spread_21  t0 a1 v2 v3 0 1 0 h)
  else
  (fX7_spread_21  t0 a1 v2 v3 0 0 0 h)
section
variable {p : Program} {l : Launch} {e : Env} {s : State} {m : MethodId} {args : Array Value} {below : List Frame} {meth : Method} {c : Code} {D : va_G} {cA : Nat → ClassId} {h0 h9 : Hp}
set_option maxHeartbeats 4000000 in
set_option maxRecDepth 100000 in
theorem tX7_spread_74 {rc21 : Nat → Nat → Int32 → Int32 → Int32 → Int32 → Int32 → Hp → Option (Int32 × Hp)} {r : Int32} (cx : CallFix p m c prog_9_method_6_code 8 s args tbG RX7) (hr : meth.sig.returnType = (Option.some FieldType.boolean)) (hlk : meth.locks = false) (hr21 : ∀ (t0 : Nat) (t1 : Nat) (v2 : Int32) (v3 : Int32) (v4 : Int32) (v5 : Int32) (v6 : Int32) (h : Hp) (H : Heap) (locs : List Loc) (ls : Array Slot), hp_B D cA (hp_A h0) s h H locs → lv_has ls 8 [(0, .ref t0), (1, .ref t1), (2, .int v2), (3, .int v3), (4, .int v4), (5, .int v5), (6, .int v6)] → rc21 t0 t1 v2 v3 v4 v5 v6 h = some (r, h9) → W p l e rmX7_spread s m args below meth c H locs 0 0 (MQ below (hp_Qi D cA h0 h9 r) args s 0 0 (hp_A h0)) (F0 m 21 ls [])) (t0 : Nat) (t1 : Nat) (v2 : Int32) (v3 : Int32) (v4 : Int32) (v6 : Int32) (v7 : Int32) (s0 : Int32) (h : Hp) (H : Heap) (locs : List Loc) (ls : Array Slot) (hB : hp_B D cA (hp_A h0) s h H locs) (hl : lv_has ls 8 [(0, .ref t0), (1, .ref t1), (2, .int v2), (3, .int v3), (4, .int v4), (6, .int v6), (7, .int v7)]) (hf : fX7_spread_74 rc21 t0 t1 v2 v3 v4 v6 v7 s0 h = some (r, h9)) : W p l e rmX7_spread s m args below meth c H locs 0 0 (MQ below (hp_Qi D cA h0 h9 r) args s 0 0 (hp_A h0)) (F0 m 74 ls [.int s0]) := by
  obtain ⟨hx, hb, -⟩ := id cx
  unfold fX7_spread_74 at hf
  refine lv_istore (lv' := [(5, .int s0), (0, .ref t0), (1, .ref t1), (2, .int v2), (3, .int v3), (4, .int v4), (6, .int v6), (7, .int v7)]) hx hb dX7_spread_74 hl (by decide) rfl (fun ls hl => ?_)
  refine lv_aload_n hx hb dX7_spread_76 rfl (lv_at hl 1 rfl) ?_
  obtain ⟨k1, hf⟩ := gk_ok hf
  obtain ⟨a2, q3, hf⟩ := bd_ok hf
  refine gf_X7_9 cx hB k1 q3 dX7_spread_77 ?_
  refine lv_iload_n hx hb dX7_spread_80 rfl (lv_at hl 3 rfl) ?_
  obtain ⟨k4, hf⟩ := gk_ok hf
  obtain ⟨j5, hf⟩ := gd_ok hf
  refine hp_zald cx hB k4 j5 dX7_spread_81 ?_
  refine lv_if_eq (tgt := 106) hx hb dX7_spread_82 (by decide) (fun c6 => ?_) (fun c6 => ?_)
  · replace hf := it_t c6 hf
    obtain ⟨x7, ex7, hf⟩ := nm_ok hf
    refine lv_iinc (v := x7) (lv' := [(6, .int x7), (5, .int s0), (0, .ref t0), (1, .ref t1), (2, .int v2), (3, .int v3), (4, .int v4), (7, .int v7)]) hx hb dX7_spread_106 hl (k := 6) rfl (by rw [ex7]; rfl) (by decide) rfl (fun ls hl => ?_)
    refine lv_goto (tgt := 21) hx hb dX7_spread_109 (by decide) ?_
    exact hr21 t0 t1 v2 v3 v4 s0 x7 h _ _ _ hB (lv_sub hl [2, 3, 4, 5, 6, 1, 0] rfl) hf
  · replace hf := it_f c6 hf
    refine lv_aload_n hx hb dX7_spread_85 rfl (lv_at hl 1 rfl) ?_
    refine gf_X7_9 cx hB k1 q3 dX7_spread_86 ?_
    refine lv_iload hx hb dX7_spread_89 (lv_at hl 7 rfl) ?_
    obtain ⟨j8, hf⟩ := gd_ok hf
    refine hp_zald cx hB k4 j8 dX7_spread_91 ?_
    refine lv_if_ne (tgt := 106) hx hb dX7_spread_92 (by decide) (fun c9 => ?_) (fun c9 => ?_)
    · replace hf := it_f c9 hf
      obtain ⟨x10, ex10, hf⟩ := nm_ok hf
      refine lv_iinc (v := x10) (lv' := [(6, .int x10), (5, .int s0), (0, .ref t0), (1, .ref t1), (2, .int v2), (3, .int v3), (4, .int v4), (7, .int v7)]) hx hb dX7_spread_106 hl (k := 6) rfl (by rw [ex10]; rfl) (by decide) rfl (fun ls hl => ?_)
      refine lv_goto (tgt := 21) hx hb dX7_spread_109 (by decide) ?_
      exact hr21 t0 t1 v2 v3 v4 s0 x10 h _ _ _ hB (lv_sub hl [2, 3, 4, 5, 6, 1, 0] rfl) hf
    · replace hf := it_t c9 hf
      refine lv_aload_n hx hb dX7_spread_95 rfl (lv_at hl 1 rfl) ?_
      refine gf_X7_9 cx hB k1 q3 dX7_spread_96 ?_
      refine lv_iload hx hb dX7_spread_99 (lv_at hl 7 rfl) ?_
      refine lv_iconst (v := 1) hx hb dX7_spread_101 (by decide) ?_
      obtain ⟨j11, hf⟩ := gd_ok hf
      obtain ⟨g12, eg12, hf⟩ := nm_ok hf
      refine hp_zast cx hB k4 j11 rfl dX7_spread_102 (fun H locs hB => ?_)
      rw [← eg12] at hB
      refine lv_iconst (v := 1) hx hb dX7_spread_103 (by decide) ?_
      refine lv_istore (lv' := [(4, .int 1), (5, .int s0), (0, .ref t0), (1, .ref t1), (2, .int v2), (3, .int v3), (6, .int v6), (7, .int v7)]) hx hb dX7_spread_104 hl (by decide) rfl (fun ls hl => ?_)
      obtain ⟨x13, ex13, hf⟩ := nm_ok hf
      refine lv_iinc (v := x13) (lv' := [(6, .int x13), (4, .int 1), (5, .int s0), (0, .ref t0), (1, .ref t1), (2, .int v2), (3, .int v3), (7, .int v7)]) hx hb dX7_spread_106 hl (k := 6) rfl (by rw [ex13]; rfl) (by decide) rfl (fun ls hl => ?_)
      refine lv_goto (tgt := 21) hx hb dX7_spread_109 (by decide) ?_
      exact hr21 t0 t1 v2 v3 1 s0 x13 g12 _ _ _ hB (lv_sub hl [3, 4, 5, 6, 1, 2, 0] rfl) hf
set_option maxHeartbeats 4000000 in
set_option maxRecDepth 100000 in
theorem tX7_spread_21  {r : Int32} (cx : CallFix p m c prog_9_method_6_code 8 s args tbG RX7) (hr : meth.sig.returnType = (Option.some FieldType.boolean)) (hlk : meth.locks = false)  (n : Nat) : ∀ (t0 : Nat) (t1 : Nat) (v2 : Int32) (v3 : Int32) (v4 : Int32) (v5 : Int32) (v6 : Int32) (h : Hp) (H : Heap) (locs : List Loc) (ls : Array Slot), hp_B D cA (hp_A h0) s h H locs → lv_has ls 8 [(0, .ref t0), (1, .ref t1), (2, .int v2), (3, .int v3), (4, .int v4), (5, .int v5), (6, .int v6)] → fx (bX7_spread_21 ) (fun _ _ _ _ _ _ _ _ => none) n t0 t1 v2 v3 v4 v5 v6 h = some (r, h9) → W p l e rmX7_spread s m args below meth c H locs 0 0 (MQ below (hp_Qi D cA h0 h9 r) args s 0 0 (hp_A h0)) (F0 m 21 ls []) := by
  obtain ⟨hx, hb, -⟩ := id cx
  induction n with
  | zero => intro t0 t1 v2 v3 v4 v5 v6 h H locs ls hB hl hf; cases hf
  | succ n ih =>
    intro t0 t1 v2 v3 v4 v5 v6 h H locs ls hB hl hf
    replace hf : bX7_spread_21  (fx (bX7_spread_21 ) (fun _ _ _ _ _ _ _ _ => none) n) t0 t1 v2 v3 v4 v5 v6 h = some (r, h9) := hf
    unfold bX7_spread_21 at hf
    refine lv_iload hx hb dX7_spread_21 (lv_at hl 6 rfl) ?_
    refine lv_aload_n hx hb dX7_spread_23 rfl (lv_at hl 1 rfl) ?_
    obtain ⟨k1, hf⟩ := gk_ok hf
    obtain ⟨r4, g2, m3, hf⟩ := b2_ok hf
    refine hp_cI0 (cl_X7_45 cx hB (cX5_exits l D cA t1 h _ g2 m3) k1 ⟨Nat.le_of_ble_eq_true rfl, Nat.le_of_ble_eq_true rfl⟩ rfl hl.1 rfl (Nat.le_of_ble_eq_true rfl) ⟨Nat.le_of_ble_eq_true rfl, Nat.le_of_ble_eq_true rfl⟩ dX7_spread_24) rfl rfl hB (fun H locs hB => ?_)
    refine lv_icmp_ge (tgt := 112) hx hb dX7_spread_27 (by decide) (fun c6 => ?_) (fun c6 => ?_)
    · replace hf := it_t c6 hf
      refine lv_iload hx hb dX7_spread_112 (lv_at hl 5 rfl) ?_
      refine lv_if_eq (tgt := 136) hx hb dX7_spread_114 (by decide) (fun c7 => ?_) (fun c7 => ?_)
      · replace hf := it_t c7 hf
        refine lv_iload hx hb dX7_spread_136 (lv_at hl 4 rfl) ?_
        obtain ⟨c8, hf⟩ := gd_ok hf
        obtain ⟨rfl, rfl⟩ := rt_ok hf
        exact hp_zret cx hB hr hlk (Nat.le_of_ble_eq_true rfl) (Nat.le_of_ble_eq_true rfl) c8 dX7_spread_138
      · replace hf := it_f c7 hf
        refine lv_aload_n hx hb dX7_spread_117 rfl (lv_at hl 0 rfl) ?_
        obtain ⟨k9, hf⟩ := gk_ok hf
        obtain ⟨a10, q11, hf⟩ := bd_ok hf
        refine gf_X7_15 cx hB k9 q11 dX7_spread_118 ?_
        refine lv_iload_n hx hb dX7_spread_121 rfl (lv_at hl 2 rfl) ?_
        obtain ⟨k12, hf⟩ := gk_ok hf
        obtain ⟨j13, hf⟩ := gd_ok hf
        refine hp_zald cx hB k12 j13 dX7_spread_122 ?_
        refine lv_if_ne (tgt := 136) hx hb dX7_spread_123 (by decide) (fun c14 => ?_) (fun c14 => ?_)
        · replace hf := it_f c14 hf
          refine lv_iload hx hb dX7_spread_136 (lv_at hl 4 rfl) ?_
          obtain ⟨c15, hf⟩ := gd_ok hf
          obtain ⟨rfl, rfl⟩ := rt_ok hf
          exact hp_zret cx hB hr hlk (Nat.le_of_ble_eq_true rfl) (Nat.le_of_ble_eq_true rfl) c15 dX7_spread_138
        · replace hf := it_t c14 hf
          refine lv_aload_n hx hb dX7_spread_126 rfl (lv_at hl 0 rfl) ?_
          refine gf_X7_15 cx hB k9 q11 dX7_spread_127 ?_
          refine lv_iload_n hx hb dX7_spread_130 rfl (lv_at hl 2 rfl) ?_
          refine lv_iconst (v := 1) hx hb dX7_spread_131 (by decide) ?_
          obtain ⟨j16, hf⟩ := gd_ok hf
          obtain ⟨g17, eg17, hf⟩ := nm_ok hf
          refine hp_zast cx hB k12 j16 rfl dX7_spread_132 (fun H locs hB => ?_)
          rw [← eg17] at hB
          refine lv_iconst (v := 1) hx hb dX7_spread_133 (by decide) ?_
          refine lv_istore (lv' := [(4, .int 1), (0, .ref t0), (1, .ref t1), (2, .int v2), (3, .int v3), (5, .int v5), (6, .int v6)]) hx hb dX7_spread_134 hl (by decide) rfl (fun ls hl => ?_)
          refine lv_iload hx hb dX7_spread_136 (lv_at hl 0 rfl) ?_
          obtain ⟨rfl, rfl⟩ := rt_ok hf
          exact hp_zret cx hB hr hlk (Nat.le_of_ble_eq_true rfl) (Nat.le_of_ble_eq_true rfl) rfl dX7_spread_138
    · replace hf := it_f c6 hf
      refine lv_aload_n hx hb dX7_spread_30 rfl (lv_at hl 1 rfl) ?_
      refine lv_iload hx hb dX7_spread_31 (lv_at hl 6 rfl) ?_
      refine lv_iload_n hx hb dX7_spread_33 rfl (lv_at hl 3 rfl) ?_
      obtain ⟨k18, hf⟩ := gk_ok hf
      obtain ⟨r21, g19, m20, hf⟩ := b2_ok hf
      refine hp_cI0 (cl_X7_49 cx hB (cX5_exitAt l D cA t1 v6 v3 g2 _ g19 m20) k18 ⟨Nat.le_of_ble_eq_true rfl, Nat.le_of_ble_eq_true rfl⟩ rfl hl.1 rfl (Nat.le_of_ble_eq_true rfl) ⟨Nat.le_of_ble_eq_true rfl, Nat.le_of_ble_eq_true rfl⟩ dX7_spread_34) rfl rfl hB (fun H locs hB => ?_)
      refine lv_istore (lv' := [(7, .int r21), (0, .ref t0), (1, .ref t1), (2, .int v2), (3, .int v3), (4, .int v4), (5, .int v5), (6, .int v6)]) hx hb dX7_spread_37 hl (by decide) rfl (fun ls hl => ?_)
      refine lv_iload hx hb dX7_spread_39 (lv_at hl 0 rfl) ?_
      refine lv_if_lt (tgt := 106) hx hb dX7_spread_41 (by decide) (fun c23 => ?_) (fun c23 => ?_)
      · replace hf := it_t c23 hf
        obtain ⟨x24, ex24, hf⟩ := nm_ok hf
        refine lv_iinc (v := x24) (lv' := [(6, .int x24), (7, .int r21), (0, .ref t0), (1, .ref t1), (2, .int v2), (3, .int v3), (4, .int v4), (5, .int v5)]) hx hb dX7_spread_106 hl (k := 7) rfl (by rw [ex24]; rfl) (by decide) rfl (fun ls hl => ?_)
        refine lv_goto (tgt := 21) hx hb dX7_spread_109 (by decide) ?_
        exact ih t0 t1 v2 v3 v4 v5 x24 g19 _ _ _ hB (lv_sub hl [2, 3, 4, 5, 6, 7, 0] rfl) hf
      · replace hf := it_f c23 hf
        refine lv_iload hx hb dX7_spread_44 (lv_at hl 0 rfl) ?_
        refine lv_bipush (v := 40) hx hb dX7_spread_46 (by decide) ?_
        refine lv_icmp_lt (tgt := 54) hx hb dX7_spread_48 (by decide) (fun c25 => ?_) (fun c25 => ?_)
        · replace hf := it_t c25 hf
          refine lv_iload hx hb dX7_spread_54 (lv_at hl 6 rfl) ?_
          refine lv_if_ne (tgt := 69) hx hb dX7_spread_56 (by decide) (fun c26 => ?_) (fun c26 => ?_)
          · replace hf := it_f c26 hf
            refine lv_iconst (v := 1) hx hb dX7_spread_69 (by decide) ?_
            refine lv_goto (tgt := 74) hx hb dX7_spread_70 (by decide) ?_
            exact tX7_spread_74 cx hr hlk ih t0 t1 v2 v3 v4 v6 r21 1 g19 _ _ _ hB (lv_sub hl [1, 2, 3, 4, 5, 7, 0] rfl) hf
          · replace hf := it_t c26 hf
            refine lv_aload_n hx hb dX7_spread_59 rfl (lv_at hl 1 rfl) ?_
            obtain ⟨k27, hf⟩ := gk_ok hf
            obtain ⟨a28, q29, hf⟩ := bd_ok hf
            refine gf_X7_15 cx hB k27 q29 dX7_spread_60 ?_
            refine lv_iload hx hb dX7_spread_63 (lv_at hl 0 rfl) ?_
            obtain ⟨k30, hf⟩ := gk_ok hf
            obtain ⟨j31, hf⟩ := gd_ok hf
            refine hp_zald cx hB k30 j31 dX7_spread_65 ?_
            refine lv_if_eq (tgt := 73) hx hb dX7_spread_66 (by decide) (fun c32 => ?_) (fun c32 => ?_)
            · replace hf := it_t c32 hf
              refine lv_iconst (v := 0) hx hb dX7_spread_73 (by decide) ?_
              exact tX7_spread_74 cx hr hlk ih t0 t1 v2 v3 v4 v6 r21 0 g19 _ _ _ hB (lv_sub hl [1, 2, 3, 4, 5, 7, 0] rfl) hf
            · replace hf := it_f c32 hf
              refine lv_iconst (v := 1) hx hb dX7_spread_69 (by decide) ?_
              refine lv_goto (tgt := 74) hx hb dX7_spread_70 (by decide) ?_
              exact tX7_spread_74 cx hr hlk ih t0 t1 v2 v3 v4 v6 r21 1 g19 _ _ _ hB (lv_sub hl [1, 2, 3, 4, 5, 7, 0] rfl) hf
        · replace hf := it_f c25 hf
          refine lv_goto (tgt := 106) hx hb dX7_spread_51 (by decide) ?_
          obtain ⟨x33, ex33, hf⟩ := nm_ok hf
          refine lv_iinc (v := x33) (lv' := [(6, .int x33), (7, .int r21), (0, .ref t0), (1, .ref t1), (2, .int v2), (3, .int v3), (4, .int v4), (5, .int v5)]) hx hb dX7_spread_106 hl (k := 7) rfl (by rw [ex33]; rfl) (by decide) rfl (fun ls hl => ?_)
          refine lv_goto (tgt := 21) hx hb dX7_spread_109 (by decide) ?_
          exact ih t0 t1 v2 v3 v4 v5 x33 g19 _ _ _ hB (lv_sub hl [2, 3, 4, 5, 6, 7, 0] rfl) hf
set_option maxHeartbeats 4000000 in
set_option maxRecDepth 100000 in
theorem tX7_spread_0  {r : Int32} (cx : CallFix p m c prog_9_method_6_code 8 s args tbG RX7) (hr : meth.sig.returnType = (Option.some FieldType.boolean)) (hlk : meth.locks = false)  (t0 : Nat) (w1 : Option Nat) (v2 : Int32) (v3 : Int32) (h : Hp) (H : Heap) (locs : List Loc) (ls : Array Slot) (hB : hp_B D cA (hp_A h0) s h H locs) (hl : lv_has ls 8 [(0, .ref t0), (1, va_rf w1), (2, .int v2), (3, .int v3)]) (hf : fX7_spread  t0 w1 v2 v3 h = some (r, h9)) : W p l e rmX7_spread s m args below meth c H locs 0 0 (MQ below (hp_Qi D cA h0 h9 r) args s 0 0 (hp_A h0)) (F0 m 0 ls []) := by
  obtain ⟨hx, hb, -⟩ := id cx
  unfold fX7_spread at hf
  refine lv_iconst (v := 0) hx hb dX7_spread_0 (by decide) ?_
  refine lv_istore (lv' := [(4, .int 0), (0, .ref t0), (1, va_rf w1), (2, .int v2), (3, .int v3)]) hx hb dX7_spread_1 hl (by decide) rfl (fun ls hl => ?_)
  refine lq_aload_n hx hb dX7_spread_3 rfl (lv_at hl 2 rfl) ?_
  obtain ⟨a1, eo, hf⟩ := bd_ok hf
  subst eo
  obtain ⟨k2, hf⟩ := gk_ok hf
  refine gf_X7_40 cx hB k2 dX7_spread_4 ?_
  refine lv_iconst (v := 1) hx hb dX7_spread_7 (by decide) ?_
  refine lv_icmp_ne (tgt := 15) hx hb dX7_spread_8 (by decide) (fun c3 => ?_) (fun c3 => ?_)
  · replace hf := it_f c3 hf
    refine lv_iconst (v := 0) hx hb dX7_spread_15 (by decide) ?_
    refine lv_istore (lv' := [(5, .int 0), (4, .int 0), (0, .ref t0), (1, .ref a1), (2, .int v2), (3, .int v3)]) hx hb dX7_spread_16 hl (by decide) rfl (fun ls hl => ?_)
    refine lv_iconst (v := 0) hx hb dX7_spread_18 (by decide) ?_
    refine lv_istore (lv' := [(6, .int 0), (5, .int 0), (4, .int 0), (0, .ref t0), (1, .ref a1), (2, .int v2), (3, .int v3)]) hx hb dX7_spread_19 hl (by decide) rfl (fun ls hl => ?_)
    exact tX7_spread_21 cx hr hlk  NF t0 a1 v2 v3 0 0 0 h _ _ _ hB (lv_sub hl [3, 4, 5, 6, 2, 1, 0] rfl) hf
  · replace hf := it_t c3 hf
    refine lv_iconst (v := 1) hx hb dX7_spread_11 (by decide) ?_
    refine lv_goto (tgt := 16) hx hb dX7_spread_12 (by decide) ?_
    refine lv_istore (lv' := [(5, .int 1), (4, .int 0), (0, .ref t0), (1, .ref a1), (2, .int v2), (3, .int v3)]) hx hb dX7_spread_16 hl (by decide) rfl (fun ls hl => ?_)
    refine lv_iconst (v := 0) hx hb dX7_spread_18 (by decide) ?_
    refine lv_istore (lv' := [(6, .int 0), (5, .int 1), (4, .int 0), (0, .ref t0), (1, .ref a1), (2, .int v2), (3, .int v3)]) hx hb dX7_spread_19 hl (by decide) rfl (fun ls hl => ?_)
    exact tX7_spread_21 cx hr hlk  NF t0 a1 v2 v3 0 1 0 h _ _ _ hB (lv_sub hl [3, 4, 5, 6, 2, 1, 0] rfl) hf
end
set_option maxHeartbeats 4000000 in
set_option maxRecDepth 100000 in
theorem cX7_spread (l : Launch) (D : va_G) (cA : Nat → ClassId) (t0 : Nat) (w1 : Option Nat) (v2 : Int32) (v3 : Int32) (h : Hp) (r : Int32) (h9 : Hp) (hf : fX7_spread t0 w1 v2 v3 h = some (r, h9)) : hp_M l yX7_spread prog_9_method_6_code 8 (Option.some FieldType.boolean) rmX7_spread D cA h [.ref t0, va_rf w1, .int v2, .int v3] (hp_Qi D cA h h9 r) := by
  refine Met.ofW (cc := prog_9_method_6_code) (maxL := 8) (ret := (Option.some FieldType.boolean)) (by decide) rfl ?_
  intro p e s m args below meth c s₁ B hml hv
  obtain ⟨rfl, hU⟩ := hv
  have hts := atoms_spec (ws := Cond.code yX7_spread prog_9_method_6_code 8 (Option.some FieldType.boolean) :: tbG) B.pre
  have hl := lv_entry ([.ref t0, va_rf w1, .int v2, .int v3]) (n := 8) (by simp [lg_sl, va_rf_cat, cat_i, cat_r, cat_n])
  rw [show lv_args 0 ([.ref t0, va_rf w1, .int v2, .int v3]) = [(0, .ref t0), (1, va_rf w1), (2, .int v2), (3, .int v3)] by simp [lv_args, va_rf_cat, cat_i, cat_r, cat_n]] at hl
  rw [lg_entry_eq]
  generalize (lg_sl ([.ref t0, va_rf w1, .int v2, .int v3]) ++ List.replicate (8 - (lg_sl ([.ref t0, va_rf w1, .int v2, .int v3])).length) Slot.unset).toArray = ls at hl ⊢
  exact tX7_spread_0 ⟨B.exec, B.bytes, hml, findClass_of_methodNamed B.named, fun w hw => hts w (List.mem_cons_of_mem _ hw)⟩ B.returns B.notSynchronized t0 w1 v2 v3 h _ _ _ (hp_B.entry hU) hl hf
section
variable {p : Program} {l : Launch} {e : Env} {R : Room} {s : State} {m : MethodId} {args : Array Value} {below : List Frame} {meth : Method} {c : Code} {H : Heap} {locs : List Loc} {cells slots : Nat} {Q : State → Prop}
variable {cc : ByteArray} {pc nL : Nat} {ls : Array Slot} {rest : List Value} {D : va_G} {cA : Nat → ClassId} {A : Nat → Prop} {a : Nat} {h : Hp}
theorem cl_X7_18 {As st0 : List Value} {Qc : Array Value → State → Outcome → State → Prop} (cx : CallFix p m c cc nL s args tbG RX7) (hB : hp_B D cA A s h H locs) (hM : hp_M l yX10_clear prog_1_method_33_code 2 none rmX10_clear D cA h As Qc) (hR : rmX10_clear.frames + 1 ≤ R.frames ∧ 8 + (2 + 11) + rmX10_clear.locals ≤ R.locals) (hn : As.length = 1) (hls : ls.size = nL) (hst : st0 = As.reverse ++ rest) (hW : (rest.map fun v => v.category).sum ≤ 8) (hf : cells + rmX10_clear.cells ≤ R.cells ∧ slots + rmX10_clear.slots ≤ R.slots) (hdg : decode cc pc = .ok (.invokestatic 18, 3)) :
    va_Run p l e R s m args below meth c H locs cells slots rmX10_clear.cells rmX10_clear.slots (F0 m pc ls st0) rest (Qc As.toArray) (hp_A h) :=
  hp_runSN (host := "SpokenMenus") cx hB hM qw_512 (by decide +kernel) qw_511 qw_1 (by decide +kernel) hR hn hls hst hW hf hdg
theorem gf_X7_22 (cx : CallFix p m c cc nL s args tbG RX7) (hB : hp_B D cA A s h H locs) (hka : h.1 a = 3) (hdg : decode cc pc = .ok (.getfield 22, 3)) (kk : W p l e R s m args below meth c H locs cells slots Q (F0 m (pc + 3) ls (.int (h.2.2.1 a 1) :: rest))) : W p l e R s m args below meth c H locs cells slots Q (F0 m pc ls (.ref a :: rest)) :=
  hp_getI cx hB (ci := 2) 1 rfl inX2 (by decide) rfl (by decide) rfl qw_37 hka hdg kk
theorem gf_X7_28 (cx : CallFix p m c cc nL s args tbG RX7) (hB : hp_B D cA A s h H locs) (hka : h.1 a = 3) {b : Nat} (ho : h.2.2.2.1 a 0 = some b) (hdg : decode cc pc = .ok (.getfield 28, 3)) (kk : W p l e R s m args below meth c H locs cells slots Q (F0 m (pc + 3) ls (.ref b :: rest))) : W p l e R s m args below meth c H locs cells slots Q (F0 m pc ls (.ref a :: rest)) :=
  hp_getR cx hB (ci := 2) 0 rfl inX2 (by decide) rfl (by decide) rfl qw_34 hka (o := some b) ho.symm hdg kk
theorem cl_X7_32 {As st0 : List Value} {b : Nat} {Qc : Array Value → State → Outcome → State → Prop} (cx : CallFix p m c cc nL s args tbG RX7) (hB : hp_B D cA A s h H locs) (hM : hp_M l yX7_spread prog_9_method_6_code 8 (Option.some FieldType.boolean) rmX7_spread D cA h (.ref b :: As) Qc) (hkb : h.1 b = 8) (hR : rmX7_spread.frames + 1 ≤ R.frames ∧ 8 + (8 + 11) + rmX7_spread.locals ≤ R.locals) (hn : As.length = 3) (hls : ls.size = nL) (hst : st0 = As.reverse ++ .ref b :: rest) (hW : (rest.map fun v => v.category).sum ≤ 8) (hf : cells + rmX7_spread.cells ≤ R.cells ∧ slots + rmX7_spread.slots ≤ R.slots) (hdg : decode cc pc = .ok (.invokevirtual 32, 3)) :
    va_Run p l e R s m args below meth c H locs cells slots rmX7_spread.cells rmX7_spread.slots (F0 m pc ls st0) rest (Qc (Value.ref b :: As).toArray) (hp_A h) :=
  hp_runV cx hB hM (ci := 7) rfl (by decide) hkb qw_590 qw_587 qw_589 qp_9 qw_4 (by decide +kernel) hR hn hls hst hW hf hdg
end
abbrev yX7_look : MethodName := ⟨"SpokenMenus$Traps", "look", "(LSpokenMenus$House;I)V"⟩
theorem dX7_look_0 : decode prog_9_method_2_code 0 = .ok (.aload_n 0, 1) := by decide +kernel
theorem dX7_look_1 : decode prog_9_method_2_code 1 = .ok (.getfield 9, 3) := by decide +kernel
theorem dX7_look_4 : decode prog_9_method_2_code 4 = .ok (.invokestatic 18, 3) := by decide +kernel
theorem dX7_look_7 : decode prog_9_method_2_code 7 = .ok (.aload_n 0, 1) := by decide +kernel
theorem dX7_look_8 : decode prog_9_method_2_code 8 = .ok (.getfield 15, 3) := by decide +kernel
theorem dX7_look_11 : decode prog_9_method_2_code 11 = .ok (.invokestatic 18, 3) := by decide +kernel
theorem dX7_look_14 : decode prog_9_method_2_code 14 = .ok (.aload_n 0, 1) := by decide +kernel
theorem dX7_look_15 : decode prog_9_method_2_code 15 = .ok (.getfield 9, 3) := by decide +kernel
theorem dX7_look_18 : decode prog_9_method_2_code 18 = .ok (.iconst 0, 1) := by decide +kernel
theorem dX7_look_19 : decode prog_9_method_2_code 19 = .ok (.iconst 1, 1) := by decide +kernel
theorem dX7_look_20 : decode prog_9_method_2_code 20 = .ok (.bastore, 1) := by decide +kernel
theorem dX7_look_21 : decode prog_9_method_2_code 21 = .ok (.iconst 1, 1) := by decide +kernel
theorem dX7_look_22 : decode prog_9_method_2_code 22 = .ok (.istore_n 3, 1) := by decide +kernel
theorem dX7_look_23 : decode prog_9_method_2_code 23 = .ok (.iconst 0, 1) := by decide +kernel
theorem dX7_look_24 : decode prog_9_method_2_code 24 = .ok (.istore 4, 2) := by decide +kernel
theorem dX7_look_26 : decode prog_9_method_2_code 26 = .ok (.iload 4, 2) := by decide +kernel
theorem dX7_look_28 : decode prog_9_method_2_code 28 = .ok (.aload_n 1, 1) := by decide +kernel
theorem dX7_look_29 : decode prog_9_method_2_code 29 = .ok (.getfield 22, 3) := by decide +kernel
theorem dX7_look_32 : decode prog_9_method_2_code 32 = .ok (.if_icmp .gt 52, 3) := by decide +kernel
theorem dX7_look_35 : decode prog_9_method_2_code 35 = .ok (.iload_n 3, 1) := by decide +kernel
theorem dX7_look_36 : decode prog_9_method_2_code 36 = .ok (.ifCond .eq 48, 3) := by decide +kernel
theorem dX7_look_39 : decode prog_9_method_2_code 39 = .ok (.iconst 0, 1) := by decide +kernel
theorem dX7_look_40 : decode prog_9_method_2_code 40 = .ok (.istore_n 3, 1) := by decide +kernel
theorem dX7_look_41 : decode prog_9_method_2_code 41 = .ok (.iconst 0, 1) := by decide +kernel
theorem dX7_look_42 : decode prog_9_method_2_code 42 = .ok (.istore 5, 2) := by decide +kernel
theorem dX7_look_44 : decode prog_9_method_2_code 44 = .ok (.iload 5, 2) := by decide +kernel
theorem dX7_look_46 : decode prog_9_method_2_code 46 = .ok (.aload_n 1, 1) := by decide +kernel
theorem dX7_look_47 : decode prog_9_method_2_code 47 = .ok (.getfield 22, 3) := by decide +kernel
theorem dX7_look_50 : decode prog_9_method_2_code 50 = .ok (.if_icmp .ge 28, 3) := by decide +kernel
theorem dX7_look_53 : decode prog_9_method_2_code 53 = .ok (.aload_n 0, 1) := by decide +kernel
theorem dX7_look_54 : decode prog_9_method_2_code 54 = .ok (.aload_n 1, 1) := by decide +kernel
theorem dX7_look_55 : decode prog_9_method_2_code 55 = .ok (.getfield 28, 3) := by decide +kernel
theorem dX7_look_58 : decode prog_9_method_2_code 58 = .ok (.iload 5, 2) := by decide +kernel
theorem dX7_look_60 : decode prog_9_method_2_code 60 = .ok (.aaload, 1) := by decide +kernel
theorem dX7_look_61 : decode prog_9_method_2_code 61 = .ok (.iload 5, 2) := by decide +kernel
theorem dX7_look_63 : decode prog_9_method_2_code 63 = .ok (.iload_n 2, 1) := by decide +kernel
theorem dX7_look_64 : decode prog_9_method_2_code 64 = .ok (.invokevirtual 32, 3) := by decide +kernel
theorem dX7_look_67 : decode prog_9_method_2_code 67 = .ok (.ifCond .eq 5, 3) := by decide +kernel
theorem dX7_look_70 : decode prog_9_method_2_code 70 = .ok (.iconst 1, 1) := by decide +kernel
theorem dX7_look_71 : decode prog_9_method_2_code 71 = .ok (.istore_n 3, 1) := by decide +kernel
theorem dX7_look_72 : decode prog_9_method_2_code 72 = .ok (.iinc 5 1, 3) := by decide +kernel
theorem dX7_look_75 : decode prog_9_method_2_code 75 = .ok (.goto (-31), 3) := by decide +kernel
theorem dX7_look_78 : decode prog_9_method_2_code 78 = .ok (.iinc 4 1, 3) := by decide +kernel
theorem dX7_look_81 : decode prog_9_method_2_code 81 = .ok (.goto (-55), 3) := by decide +kernel
theorem dX7_look_84 : decode prog_9_method_2_code 84 = .ok (.return_, 1) := by decide +kernel
abbrev rmX7_look : Room := { frames := 3, cells := 0, slots := 0, locals := 71 }
def bX7_look_44 (rc26 : Nat → Option Nat → Int32 → Int32 → Int32 → Hp → Option (Unit × Hp)) (rc : Nat → Nat → Int32 → Int32 → Int32 → Int32 → Hp → Option (Unit × Hp)) (t0 : Nat) (t1 : Nat) (v2 : Int32) (v3 : Int32) (v4 : Int32) (v5 : Int32) (h : Hp) : Option (Unit × Hp) :=
  gk (h.1 t1) 3 <|
  if (h.2.2.1 t1 1) ≤ v5 then
  (nm (v4 + 1) fun x3 =>
  rc26 t0 (some t1) v2 v3 x3 h)
  else
  (bd (h.2.2.2.1 t1 0) fun a4 =>
  gk (h.1 a4) 17 <|
  gd (ix v5 (h.2.1 a4)) <|
  bd (h.2.2.2.1 a4 (Int32.toNatClampNeg v5)) fun a8 =>
  gk (h.1 t0) 8 <|
  b2 (fX7_spread t0 (some a8) v5 v2 h) fun r13 g11 =>
  if r13 = 0 then
  (nm (v5 + 1) fun x16 =>
  rc t0 t1 v2 v3 v4 x16 g11)
  else
  (nm (v5 + 1) fun x17 =>
  rc t0 t1 v2 1 v4 x17 g11))
def fX7_look_44 (rc26 : Nat → Option Nat → Int32 → Int32 → Int32 → Hp → Option (Unit × Hp)) : Nat → Nat → Int32 → Int32 → Int32 → Int32 → Hp → Option (Unit × Hp) := fx (bX7_look_44 rc26) (fun _ _ _ _ _ _ _ => none) NF
def bX7_look_26  (rc : Nat → Option Nat → Int32 → Int32 → Int32 → Hp → Option (Unit × Hp)) (t0 : Nat) (w1 : Option Nat) (v2 : Int32) (v3 : Int32) (v4 : Int32) (h : Hp) : Option (Unit × Hp) :=
  bd w1 fun a1 =>
  gk (h.1 a1) 3 <|
  if (h.2.2.1 a1 1) < v4 then
  (some ((), h))
  else
  (if v3 = 0 then
  (some ((), h))
  else
  (fX7_look_44 rc t0 a1 v2 0 v4 0 h))
def fX7_look_26  : Nat → Option Nat → Int32 → Int32 → Int32 → Hp → Option (Unit × Hp) := fx (bX7_look_26 ) (fun _ _ _ _ _ _ => none) NF
def fX7_look  (t0 : Nat) (w1 : Option Nat) (v2 : Int32) (h : Hp) : Option (Unit × Hp) :=
  gk (h.1 t0) 8 <|
  bd (h.2.2.2.1 t0 0) fun a2 =>
  b2 (fX10_clear (some a2) h) fun _ g4 =>
  gk (g4.1 t0) 8 <|
  bd (g4.2.2.2.1 t0 1) fun a9 =>
  b2 (fX10_clear (some a9) g4) fun _ g11 =>
  gk (g11.1 t0) 8 <|
  bd (g11.2.2.2.1 t0 0) fun a16 =>
  gk (g11.1 a16) 14 <|
  gd (ix 0 (g11.2.1 a16)) <|
  nm (hp_si g11 a16 (Int32.toNatClampNeg 0) 1) fun g20 =>
  fX7_look_26  t0 w1 v2 1 0 g20
section
variable {p : Program} {l : Launch} {e : Env} {s : State} {m : MethodId} {args : Array Value} {below : List Frame} {meth : Method} {c : Code} {D : va_G} {cA : Nat → ClassId} {h0 h9 : Hp}
set_option maxHeartbeats 4000000 in
set_option maxRecDepth 100000 in
theorem tX7_look_44 {rc26 : Nat → Option Nat → Int32 → Int32 → Int32 → Hp → Option (Unit × Hp)} (cx : CallFix p m c prog_9_method_2_code 6 s args tbG RX7) (hr : meth.sig.returnType = none) (hlk : meth.locks = false) (hr26 : ∀ (t0 : Nat) (w1 : Option Nat) (v2 : Int32) (v3 : Int32) (v4 : Int32) (h : Hp) (H : Heap) (locs : List Loc) (ls : Array Slot), hp_B D cA (hp_A h0) s h H locs → lv_has ls 6 [(0, .ref t0), (1, va_rf w1), (2, .int v2), (3, .int v3), (4, .int v4)] → rc26 t0 w1 v2 v3 v4 h = some ((), h9) → W p l e rmX7_look s m args below meth c H locs 0 0 (MQ below (hp_Qv D cA h0 h9) args s 0 0 (hp_A h0)) (F0 m 26 ls [])) (n : Nat) : ∀ (t0 : Nat) (t1 : Nat) (v2 : Int32) (v3 : Int32) (v4 : Int32) (v5 : Int32) (h : Hp) (H : Heap) (locs : List Loc) (ls : Array Slot), hp_B D cA (hp_A h0) s h H locs → lv_has ls 6 [(0, .ref t0), (1, .ref t1), (2, .int v2), (3, .int v3), (4, .int v4), (5, .int v5)] → fx (bX7_look_44 rc26) (fun _ _ _ _ _ _ _ => none) n t0 t1 v2 v3 v4 v5 h = some ((), h9) → W p l e rmX7_look s m args below meth c H locs 0 0 (MQ below (hp_Qv D cA h0 h9) args s 0 0 (hp_A h0)) (F0 m 44 ls []) := by
  obtain ⟨hx, hb, -⟩ := id cx
  induction n with
  | zero => intro t0 t1 v2 v3 v4 v5 h H locs ls hB hl hf; cases hf
  | succ n ih =>
    intro t0 t1 v2 v3 v4 v5 h H locs ls hB hl hf
    replace hf : bX7_look_44 rc26 (fx (bX7_look_44 rc26) (fun _ _ _ _ _ _ _ => none) n) t0 t1 v2 v3 v4 v5 h = some ((), h9) := hf
    unfold bX7_look_44 at hf
    refine lv_iload hx hb dX7_look_44 (lv_at hl 5 rfl) ?_
    refine lv_aload_n hx hb dX7_look_46 rfl (lv_at hl 1 rfl) ?_
    obtain ⟨k1, hf⟩ := gk_ok hf
    refine gf_X7_22 cx hB k1 dX7_look_47 ?_
    refine lv_icmp_ge (tgt := 78) hx hb dX7_look_50 (by decide) (fun c2 => ?_) (fun c2 => ?_)
    · replace hf := it_t c2 hf
      obtain ⟨x3, ex3, hf⟩ := nm_ok hf
      refine lv_iinc (v := x3) (lv' := [(4, .int x3), (0, .ref t0), (1, .ref t1), (2, .int v2), (3, .int v3), (5, .int v5)]) hx hb dX7_look_78 hl (k := 4) rfl (by rw [ex3]; rfl) (by decide) rfl (fun ls hl => ?_)
      refine lv_goto (tgt := 26) hx hb dX7_look_81 (by decide) ?_
      exact hr26 t0 (some t1) v2 v3 x3 h _ _ _ hB (lv_sub hl [1, 2, 3, 4, 0] rfl) hf
    · replace hf := it_f c2 hf
      refine lv_aload_n hx hb dX7_look_53 rfl (lv_at hl 0 rfl) ?_
      refine lv_aload_n hx hb dX7_look_54 rfl (lv_at hl 1 rfl) ?_
      obtain ⟨a4, q5, hf⟩ := bd_ok hf
      refine gf_X7_28 cx hB k1 q5 dX7_look_55 ?_
      refine lv_iload hx hb dX7_look_58 (lv_at hl 5 rfl) ?_
      obtain ⟨k6, hf⟩ := gk_ok hf
      obtain ⟨j7, hf⟩ := gd_ok hf
      obtain ⟨a8, q9, hf⟩ := bd_ok hf
      refine hp_aald cx hB 17 (.object RX5) (by decide) rfl rfl k6 j7 (o := some a8) q9.symm dX7_look_60 ?_
      refine lv_iload hx hb dX7_look_61 (lv_at hl 5 rfl) ?_
      refine lv_iload_n hx hb dX7_look_63 rfl (lv_at hl 2 rfl) ?_
      obtain ⟨k10, hf⟩ := gk_ok hf
      obtain ⟨r13, g11, m12, hf⟩ := b2_ok hf
      refine hp_cI0 (cl_X7_32 cx hB (cX7_spread l D cA t0 (some a8) v5 v2 h _ g11 m12) k10 ⟨Nat.le_of_ble_eq_true rfl, Nat.le_of_ble_eq_true rfl⟩ rfl hl.1 rfl (Nat.le_of_ble_eq_true rfl) ⟨Nat.le_of_ble_eq_true rfl, Nat.le_of_ble_eq_true rfl⟩ dX7_look_64) rfl rfl hB (fun H locs hB => ?_)
      refine lv_if_eq (tgt := 72) hx hb dX7_look_67 (by decide) (fun c15 => ?_) (fun c15 => ?_)
      · replace hf := it_t c15 hf
        obtain ⟨x16, ex16, hf⟩ := nm_ok hf
        refine lv_iinc (v := x16) (lv' := [(5, .int x16), (0, .ref t0), (1, .ref t1), (2, .int v2), (3, .int v3), (4, .int v4)]) hx hb dX7_look_72 hl (k := 5) rfl (by rw [ex16]; rfl) (by decide) rfl (fun ls hl => ?_)
        refine lv_goto (tgt := 44) hx hb dX7_look_75 (by decide) ?_
        exact ih t0 t1 v2 v3 v4 x16 g11 _ _ _ hB (lv_sub hl [1, 2, 3, 4, 5, 0] rfl) hf
      · replace hf := it_f c15 hf
        refine lv_iconst (v := 1) hx hb dX7_look_70 (by decide) ?_
        refine lv_istore_n (lv' := [(3, .int 1), (0, .ref t0), (1, .ref t1), (2, .int v2), (4, .int v4), (5, .int v5)]) hx hb dX7_look_71 rfl hl (by decide) rfl (fun ls hl => ?_)
        obtain ⟨x17, ex17, hf⟩ := nm_ok hf
        refine lv_iinc (v := x17) (lv' := [(5, .int x17), (3, .int 1), (0, .ref t0), (1, .ref t1), (2, .int v2), (4, .int v4)]) hx hb dX7_look_72 hl (k := 5) rfl (by rw [ex17]; rfl) (by decide) rfl (fun ls hl => ?_)
        refine lv_goto (tgt := 44) hx hb dX7_look_75 (by decide) ?_
        exact ih t0 t1 v2 1 v4 x17 g11 _ _ _ hB (lv_sub hl [2, 3, 4, 1, 5, 0] rfl) hf
set_option maxHeartbeats 4000000 in
set_option maxRecDepth 100000 in
theorem tX7_look_26  (cx : CallFix p m c prog_9_method_2_code 6 s args tbG RX7) (hr : meth.sig.returnType = none) (hlk : meth.locks = false)  (n : Nat) : ∀ (t0 : Nat) (w1 : Option Nat) (v2 : Int32) (v3 : Int32) (v4 : Int32) (h : Hp) (H : Heap) (locs : List Loc) (ls : Array Slot), hp_B D cA (hp_A h0) s h H locs → lv_has ls 6 [(0, .ref t0), (1, va_rf w1), (2, .int v2), (3, .int v3), (4, .int v4)] → fx (bX7_look_26 ) (fun _ _ _ _ _ _ => none) n t0 w1 v2 v3 v4 h = some ((), h9) → W p l e rmX7_look s m args below meth c H locs 0 0 (MQ below (hp_Qv D cA h0 h9) args s 0 0 (hp_A h0)) (F0 m 26 ls []) := by
  obtain ⟨hx, hb, -⟩ := id cx
  induction n with
  | zero => intro t0 w1 v2 v3 v4 h H locs ls hB hl hf; cases hf
  | succ n ih =>
    intro t0 w1 v2 v3 v4 h H locs ls hB hl hf
    replace hf : bX7_look_26  (fx (bX7_look_26 ) (fun _ _ _ _ _ _ => none) n) t0 w1 v2 v3 v4 h = some ((), h9) := hf
    unfold bX7_look_26 at hf
    refine lv_iload hx hb dX7_look_26 (lv_at hl 4 rfl) ?_
    refine lq_aload_n hx hb dX7_look_28 rfl (lv_at hl 1 rfl) ?_
    obtain ⟨a1, eo, hf⟩ := bd_ok hf
    subst eo
    obtain ⟨k2, hf⟩ := gk_ok hf
    refine gf_X7_22 cx hB k2 dX7_look_29 ?_
    refine lv_icmp_gt (tgt := 84) hx hb dX7_look_32 (by decide) (fun c3 => ?_) (fun c3 => ?_)
    · replace hf := it_t c3 hf
      obtain ⟨-, rfl⟩ := rt_ok hf
      exact hp_vret cx hB hr hlk (Nat.le_of_ble_eq_true rfl) (Nat.le_of_ble_eq_true rfl) dX7_look_84
    · replace hf := it_f c3 hf
      refine lv_iload_n hx hb dX7_look_35 rfl (lv_at hl 3 rfl) ?_
      refine lv_if_eq (tgt := 84) hx hb dX7_look_36 (by decide) (fun c4 => ?_) (fun c4 => ?_)
      · replace hf := it_t c4 hf
        obtain ⟨-, rfl⟩ := rt_ok hf
        exact hp_vret cx hB hr hlk (Nat.le_of_ble_eq_true rfl) (Nat.le_of_ble_eq_true rfl) dX7_look_84
      · replace hf := it_f c4 hf
        refine lv_iconst (v := 0) hx hb dX7_look_39 (by decide) ?_
        refine lv_istore_n (lv' := [(3, .int 0), (0, .ref t0), (1, .ref a1), (2, .int v2), (4, .int v4)]) hx hb dX7_look_40 rfl hl (by decide) rfl (fun ls hl => ?_)
        refine lv_iconst (v := 0) hx hb dX7_look_41 (by decide) ?_
        refine lv_istore (lv' := [(5, .int 0), (3, .int 0), (0, .ref t0), (1, .ref a1), (2, .int v2), (4, .int v4)]) hx hb dX7_look_42 hl (by decide) rfl (fun ls hl => ?_)
        exact tX7_look_44 cx hr hlk ih NF t0 a1 v2 0 v4 0 h _ _ _ hB (lv_sub hl [2, 3, 4, 1, 5, 0] rfl) hf
set_option maxHeartbeats 4000000 in
set_option maxRecDepth 100000 in
theorem tX7_look_0  (cx : CallFix p m c prog_9_method_2_code 6 s args tbG RX7) (hr : meth.sig.returnType = none) (hlk : meth.locks = false)  (t0 : Nat) (w1 : Option Nat) (v2 : Int32) (h : Hp) (H : Heap) (locs : List Loc) (ls : Array Slot) (hB : hp_B D cA (hp_A h0) s h H locs) (hl : lv_has ls 6 [(0, .ref t0), (1, va_rf w1), (2, .int v2)]) (hf : fX7_look  t0 w1 v2 h = some ((), h9)) : W p l e rmX7_look s m args below meth c H locs 0 0 (MQ below (hp_Qv D cA h0 h9) args s 0 0 (hp_A h0)) (F0 m 0 ls []) := by
  obtain ⟨hx, hb, -⟩ := id cx
  unfold fX7_look at hf
  refine lv_aload_n hx hb dX7_look_0 rfl (lv_at hl 0 rfl) ?_
  obtain ⟨k1, hf⟩ := gk_ok hf
  obtain ⟨a2, q3, hf⟩ := bd_ok hf
  refine gf_X7_9 cx hB k1 q3 dX7_look_1 ?_
  obtain ⟨uu, g4, m5, hf⟩ := b2_ok hf
  refine hp_cV0 (cl_X7_18 cx hB (cX10_clear l D cA (some a2) h _ g4 m5) ⟨Nat.le_of_ble_eq_true rfl, Nat.le_of_ble_eq_true rfl⟩ rfl hl.1 rfl (Nat.le_of_ble_eq_true rfl) ⟨Nat.le_of_ble_eq_true rfl, Nat.le_of_ble_eq_true rfl⟩ dX7_look_4) rfl rfl hB (fun H locs hB => ?_)
  refine lv_aload_n hx hb dX7_look_7 rfl (lv_at hl 0 rfl) ?_
  obtain ⟨k8, hf⟩ := gk_ok hf
  obtain ⟨a9, q10, hf⟩ := bd_ok hf
  refine gf_X7_15 cx hB k8 q10 dX7_look_8 ?_
  obtain ⟨uu, g11, m12, hf⟩ := b2_ok hf
  refine hp_cV0 (cl_X7_18 cx hB (cX10_clear l D cA (some a9) g4 _ g11 m12) ⟨Nat.le_of_ble_eq_true rfl, Nat.le_of_ble_eq_true rfl⟩ rfl hl.1 rfl (Nat.le_of_ble_eq_true rfl) ⟨Nat.le_of_ble_eq_true rfl, Nat.le_of_ble_eq_true rfl⟩ dX7_look_11) rfl rfl hB (fun H locs hB => ?_)
  refine lv_aload_n hx hb dX7_look_14 rfl (lv_at hl 0 rfl) ?_
  obtain ⟨k15, hf⟩ := gk_ok hf
  obtain ⟨a16, q17, hf⟩ := bd_ok hf
  refine gf_X7_9 cx hB k15 q17 dX7_look_15 ?_
  refine lv_iconst (v := 0) hx hb dX7_look_18 (by decide) ?_
  refine lv_iconst (v := 1) hx hb dX7_look_19 (by decide) ?_
  obtain ⟨k18, hf⟩ := gk_ok hf
  obtain ⟨j19, hf⟩ := gd_ok hf
  obtain ⟨g20, eg20, hf⟩ := nm_ok hf
  refine hp_zast cx hB k18 j19 rfl dX7_look_20 (fun H locs hB => ?_)
  rw [← eg20] at hB
  refine lv_iconst (v := 1) hx hb dX7_look_21 (by decide) ?_
  refine lv_istore_n (lv' := [(3, .int 1), (0, .ref t0), (1, va_rf w1), (2, .int v2)]) hx hb dX7_look_22 rfl hl (by decide) rfl (fun ls hl => ?_)
  refine lv_iconst (v := 0) hx hb dX7_look_23 (by decide) ?_
  refine lv_istore (lv' := [(4, .int 0), (3, .int 1), (0, .ref t0), (1, va_rf w1), (2, .int v2)]) hx hb dX7_look_24 hl (by decide) rfl (fun ls hl => ?_)
  exact tX7_look_26 cx hr hlk  NF t0 w1 v2 1 0 g20 _ _ _ hB (lv_sub hl [2, 3, 4, 1, 0] rfl) hf
end
set_option maxHeartbeats 4000000 in
set_option maxRecDepth 100000 in
theorem cX7_look (l : Launch) (D : va_G) (cA : Nat → ClassId) (t0 : Nat) (w1 : Option Nat) (v2 : Int32) (h : Hp) (_u : Unit) (h9 : Hp) (hf : fX7_look t0 w1 v2 h = some (_u, h9)) : hp_M l yX7_look prog_9_method_2_code 6 none rmX7_look D cA h [.ref t0, va_rf w1, .int v2] (hp_Qv D cA h h9) := by
  refine Met.ofW (cc := prog_9_method_2_code) (maxL := 6) (ret := none) (by decide) rfl ?_
  intro p e s m args below meth c s₁ B hml hv
  obtain ⟨rfl, hU⟩ := hv
  have hts := atoms_spec (ws := Cond.code yX7_look prog_9_method_2_code 6 none :: tbG) B.pre
  have hl := lv_entry ([.ref t0, va_rf w1, .int v2]) (n := 6) (by simp [lg_sl, va_rf_cat, cat_i, cat_r, cat_n])
  rw [show lv_args 0 ([.ref t0, va_rf w1, .int v2]) = [(0, .ref t0), (1, va_rf w1), (2, .int v2)] by simp [lv_args, va_rf_cat, cat_i, cat_r, cat_n]] at hl
  rw [lg_entry_eq]
  generalize (lg_sl ([.ref t0, va_rf w1, .int v2]) ++ List.replicate (6 - (lg_sl ([.ref t0, va_rf w1, .int v2])).length) Slot.unset).toArray = ls at hl ⊢
  exact tX7_look_0 ⟨B.exec, B.bytes, hml, findClass_of_methodNamed B.named, fun w hw => hts w (List.mem_cons_of_mem _ hw)⟩ B.returns B.notSynchronized t0 w1 v2 h _ _ _ (hp_B.entry hU) hl hf
abbrev yX7_isTrap : MethodName := ⟨"SpokenMenus$Traps", "isTrap", "(I)Z"⟩
theorem dX7_isTrap_0 : decode prog_9_method_5_code 0 = .ok (.aload_n 0, 1) := by decide +kernel
theorem dX7_isTrap_1 : decode prog_9_method_5_code 1 = .ok (.getfield 9, 3) := by decide +kernel
theorem dX7_isTrap_4 : decode prog_9_method_5_code 4 = .ok (.iload_n 1, 1) := by decide +kernel
theorem dX7_isTrap_5 : decode prog_9_method_5_code 5 = .ok (.baload, 1) := by decide +kernel
theorem dX7_isTrap_6 : decode prog_9_method_5_code 6 = .ok (.ifCond .eq 16, 3) := by decide +kernel
theorem dX7_isTrap_9 : decode prog_9_method_5_code 9 = .ok (.aload_n 0, 1) := by decide +kernel
theorem dX7_isTrap_10 : decode prog_9_method_5_code 10 = .ok (.getfield 15, 3) := by decide +kernel
theorem dX7_isTrap_13 : decode prog_9_method_5_code 13 = .ok (.iload_n 1, 1) := by decide +kernel
theorem dX7_isTrap_14 : decode prog_9_method_5_code 14 = .ok (.baload, 1) := by decide +kernel
theorem dX7_isTrap_15 : decode prog_9_method_5_code 15 = .ok (.ifCond .ne 7, 3) := by decide +kernel
theorem dX7_isTrap_18 : decode prog_9_method_5_code 18 = .ok (.iconst 1, 1) := by decide +kernel
theorem dX7_isTrap_19 : decode prog_9_method_5_code 19 = .ok (.goto 4, 3) := by decide +kernel
theorem dX7_isTrap_22 : decode prog_9_method_5_code 22 = .ok (.iconst 0, 1) := by decide +kernel
theorem dX7_isTrap_23 : decode prog_9_method_5_code 23 = .ok (.ireturn, 1) := by decide +kernel
abbrev rmX7_isTrap : Room := { frames := 0, cells := 0, slots := 0, locals := 0 }
def fX7_isTrap  (t0 : Nat) (v1 : Int32) (h : Hp) : Option (Int32 × Hp) :=
  gk (h.1 t0) 8 <|
  bd (h.2.2.2.1 t0 0) fun a2 =>
  gk (h.1 a2) 14 <|
  gd (ix v1 (h.2.1 a2)) <|
  if (h.2.2.1 a2 (Int32.toNatClampNeg v1)) = 0 then
  (some (0, h))
  else
  (bd (h.2.2.2.1 t0 1) fun a7 =>
  gk (h.1 a7) 14 <|
  gd (ix v1 (h.2.1 a7)) <|
  if (h.2.2.1 a7 (Int32.toNatClampNeg v1)) = 0 then
  (some (1, h))
  else
  (some (0, h)))
section
variable {p : Program} {l : Launch} {e : Env} {s : State} {m : MethodId} {args : Array Value} {below : List Frame} {meth : Method} {c : Code} {D : va_G} {cA : Nat → ClassId} {h0 h9 : Hp}
set_option maxHeartbeats 4000000 in
set_option maxRecDepth 100000 in
theorem tX7_isTrap_0  {r : Int32} (cx : CallFix p m c prog_9_method_5_code 2 s args tbG RX7) (hr : meth.sig.returnType = (Option.some FieldType.boolean)) (hlk : meth.locks = false)  (t0 : Nat) (v1 : Int32) (h : Hp) (H : Heap) (locs : List Loc) (ls : Array Slot) (hB : hp_B D cA (hp_A h0) s h H locs) (hl : lv_has ls 2 [(0, .ref t0), (1, .int v1)]) (hf : fX7_isTrap  t0 v1 h = some (r, h9)) : W p l e rmX7_isTrap s m args below meth c H locs 0 0 (MQ below (hp_Qi D cA h0 h9 r) args s 0 0 (hp_A h0)) (F0 m 0 ls []) := by
  obtain ⟨hx, hb, -⟩ := id cx
  unfold fX7_isTrap at hf
  refine lv_aload_n hx hb dX7_isTrap_0 rfl (lv_at hl 0 rfl) ?_
  obtain ⟨k1, hf⟩ := gk_ok hf
  obtain ⟨a2, q3, hf⟩ := bd_ok hf
  refine gf_X7_9 cx hB k1 q3 dX7_isTrap_1 ?_
  refine lv_iload_n hx hb dX7_isTrap_4 rfl (lv_at hl 1 rfl) ?_
  obtain ⟨k4, hf⟩ := gk_ok hf
  obtain ⟨j5, hf⟩ := gd_ok hf
  refine hp_zald cx hB k4 j5 dX7_isTrap_5 ?_
  refine lv_if_eq (tgt := 22) hx hb dX7_isTrap_6 (by decide) (fun c6 => ?_) (fun c6 => ?_)
  · replace hf := it_t c6 hf
    refine lv_iconst (v := 0) hx hb dX7_isTrap_22 (by decide) ?_
    obtain ⟨rfl, rfl⟩ := rt_ok hf
    exact hp_zret cx hB hr hlk (Nat.le_of_ble_eq_true rfl) (Nat.le_of_ble_eq_true rfl) rfl dX7_isTrap_23
  · replace hf := it_f c6 hf
    refine lv_aload_n hx hb dX7_isTrap_9 rfl (lv_at hl 0 rfl) ?_
    obtain ⟨a7, q8, hf⟩ := bd_ok hf
    refine gf_X7_15 cx hB k1 q8 dX7_isTrap_10 ?_
    refine lv_iload_n hx hb dX7_isTrap_13 rfl (lv_at hl 1 rfl) ?_
    obtain ⟨k9, hf⟩ := gk_ok hf
    obtain ⟨j10, hf⟩ := gd_ok hf
    refine hp_zald cx hB k9 j10 dX7_isTrap_14 ?_
    refine lv_if_ne (tgt := 22) hx hb dX7_isTrap_15 (by decide) (fun c11 => ?_) (fun c11 => ?_)
    · replace hf := it_f c11 hf
      refine lv_iconst (v := 0) hx hb dX7_isTrap_22 (by decide) ?_
      obtain ⟨rfl, rfl⟩ := rt_ok hf
      exact hp_zret cx hB hr hlk (Nat.le_of_ble_eq_true rfl) (Nat.le_of_ble_eq_true rfl) rfl dX7_isTrap_23
    · replace hf := it_t c11 hf
      refine lv_iconst (v := 1) hx hb dX7_isTrap_18 (by decide) ?_
      refine lv_goto (tgt := 23) hx hb dX7_isTrap_19 (by decide) ?_
      obtain ⟨rfl, rfl⟩ := rt_ok hf
      exact hp_zret cx hB hr hlk (Nat.le_of_ble_eq_true rfl) (Nat.le_of_ble_eq_true rfl) rfl dX7_isTrap_23
end
set_option maxHeartbeats 4000000 in
set_option maxRecDepth 100000 in
theorem cX7_isTrap (l : Launch) (D : va_G) (cA : Nat → ClassId) (t0 : Nat) (v1 : Int32) (h : Hp) (r : Int32) (h9 : Hp) (hf : fX7_isTrap t0 v1 h = some (r, h9)) : hp_M l yX7_isTrap prog_9_method_5_code 2 (Option.some FieldType.boolean) rmX7_isTrap D cA h [.ref t0, .int v1] (hp_Qi D cA h h9 r) := by
  refine Met.ofW (cc := prog_9_method_5_code) (maxL := 2) (ret := (Option.some FieldType.boolean)) (by decide) rfl ?_
  intro p e s m args below meth c s₁ B hml hv
  obtain ⟨rfl, hU⟩ := hv
  have hts := atoms_spec (ws := Cond.code yX7_isTrap prog_9_method_5_code 2 (Option.some FieldType.boolean) :: tbG) B.pre
  have hl := lv_entry ([.ref t0, .int v1]) (n := 2) (Nat.le_of_ble_eq_true rfl)
  rw [lg_entry_eq]
  generalize (lg_sl ([.ref t0, .int v1]) ++ List.replicate (2 - (lg_sl ([.ref t0, .int v1])).length) Slot.unset).toArray = ls at hl ⊢
  exact tX7_isTrap_0 ⟨B.exec, B.bytes, hml, findClass_of_methodNamed B.named, fun w hw => hts w (List.mem_cons_of_mem _ hw)⟩ B.returns B.notSynchronized t0 v1 h _ _ _ (hp_B.entry hU) hl hf
section
variable {p : Program} {l : Launch} {e : Env} {R : Room} {s : State} {m : MethodId} {args : Array Value} {below : List Frame} {meth : Method} {c : Code} {H : Heap} {locs : List Loc} {cells slots : Nat} {Q : State → Prop}
variable {cc : ByteArray} {pc nL : Nat} {ls : Array Slot} {rest : List Value} {D : va_G} {cA : Nat → ClassId} {A : Nat → Prop} {a : Nat} {h : Hp}
theorem cl_X7_36 {As st0 : List Value} {b : Nat} {Qc : Array Value → State → Outcome → State → Prop} (cx : CallFix p m c cc nL s args tbG RX7) (hB : hp_B D cA A s h H locs) (hM : hp_M l yX7_isTrap prog_9_method_5_code 2 (Option.some FieldType.boolean) rmX7_isTrap D cA h (.ref b :: As) Qc) (hkb : h.1 b = 8) (hR : rmX7_isTrap.frames + 1 ≤ R.frames ∧ 8 + (2 + 11) + rmX7_isTrap.locals ≤ R.locals) (hn : As.length = 1) (hls : ls.size = nL) (hst : st0 = As.reverse ++ .ref b :: rest) (hW : (rest.map fun v => v.category).sum ≤ 8) (hf : cells + rmX7_isTrap.cells ≤ R.cells ∧ slots + rmX7_isTrap.slots ≤ R.slots) (hdg : decode cc pc = .ok (.invokevirtual 36, 3)) :
    va_Run p l e R s m args below meth c H locs cells slots rmX7_isTrap.cells rmX7_isTrap.slots (F0 m pc ls st0) rest (Qc (Value.ref b :: As).toArray) (hp_A h) :=
  hp_runV cx hB hM (ci := 7) rfl (by decide) hkb qw_607 qw_604 qw_606 qp_10 qw_4 (by decide +kernel) hR hn hls hst hW hf hdg
end
abbrev yX7_howMany : MethodName := ⟨"SpokenMenus$Traps", "howMany", "(LSpokenMenus$House;)I"⟩
theorem dX7_howMany_0 : decode prog_9_method_3_code 0 = .ok (.iconst 0, 1) := by decide +kernel
theorem dX7_howMany_1 : decode prog_9_method_3_code 1 = .ok (.istore_n 2, 1) := by decide +kernel
theorem dX7_howMany_2 : decode prog_9_method_3_code 2 = .ok (.iconst 0, 1) := by decide +kernel
theorem dX7_howMany_3 : decode prog_9_method_3_code 3 = .ok (.istore_n 3, 1) := by decide +kernel
theorem dX7_howMany_4 : decode prog_9_method_3_code 4 = .ok (.iload_n 3, 1) := by decide +kernel
theorem dX7_howMany_5 : decode prog_9_method_3_code 5 = .ok (.aload_n 1, 1) := by decide +kernel
theorem dX7_howMany_6 : decode prog_9_method_3_code 6 = .ok (.getfield 22, 3) := by decide +kernel
theorem dX7_howMany_9 : decode prog_9_method_3_code 9 = .ok (.if_icmp .ge 20, 3) := by decide +kernel
theorem dX7_howMany_12 : decode prog_9_method_3_code 12 = .ok (.aload_n 0, 1) := by decide +kernel
theorem dX7_howMany_13 : decode prog_9_method_3_code 13 = .ok (.iload_n 3, 1) := by decide +kernel
theorem dX7_howMany_14 : decode prog_9_method_3_code 14 = .ok (.invokevirtual 36, 3) := by decide +kernel
theorem dX7_howMany_17 : decode prog_9_method_3_code 17 = .ok (.ifCond .eq 6, 3) := by decide +kernel
theorem dX7_howMany_20 : decode prog_9_method_3_code 20 = .ok (.iinc 2 1, 3) := by decide +kernel
theorem dX7_howMany_23 : decode prog_9_method_3_code 23 = .ok (.iinc 3 1, 3) := by decide +kernel
theorem dX7_howMany_26 : decode prog_9_method_3_code 26 = .ok (.goto (-22), 3) := by decide +kernel
theorem dX7_howMany_29 : decode prog_9_method_3_code 29 = .ok (.iload_n 2, 1) := by decide +kernel
theorem dX7_howMany_30 : decode prog_9_method_3_code 30 = .ok (.ireturn, 1) := by decide +kernel
abbrev rmX7_howMany : Room := { frames := 1, cells := 0, slots := 0, locals := 21 }
def bX7_howMany_4  (rc : Nat → Option Nat → Int32 → Int32 → Hp → Option (Int32 × Hp)) (t0 : Nat) (w1 : Option Nat) (v2 : Int32) (v3 : Int32) (h : Hp) : Option (Int32 × Hp) :=
  bd w1 fun a1 =>
  gk (h.1 a1) 3 <|
  if (h.2.2.1 a1 1) ≤ v3 then
  (some (v2, h))
  else
  (gk (h.1 t0) 8 <|
  b2 (fX7_isTrap t0 v3 h) fun r7 g5 =>
  if r7 = 0 then
  (nm (v3 + 1) fun x10 =>
  rc t0 (some a1) v2 x10 g5)
  else
  (nm (v2 + 1) fun x11 =>
  nm (v3 + 1) fun x12 =>
  rc t0 (some a1) x11 x12 g5))
def fX7_howMany_4  : Nat → Option Nat → Int32 → Int32 → Hp → Option (Int32 × Hp) := fx (bX7_howMany_4 ) (fun _ _ _ _ _ => none) NF
def fX7_howMany  (t0 : Nat) (w1 : Option Nat) (h : Hp) : Option (Int32 × Hp) :=
  fX7_howMany_4  t0 w1 0 0 h
section
variable {p : Program} {l : Launch} {e : Env} {s : State} {m : MethodId} {args : Array Value} {below : List Frame} {meth : Method} {c : Code} {D : va_G} {cA : Nat → ClassId} {h0 h9 : Hp}
set_option maxHeartbeats 4000000 in
set_option maxRecDepth 100000 in
theorem tX7_howMany_4  {r : Int32} (cx : CallFix p m c prog_9_method_3_code 4 s args tbG RX7) (hr : meth.sig.returnType = (Option.some FieldType.int)) (hlk : meth.locks = false)  (n : Nat) : ∀ (t0 : Nat) (w1 : Option Nat) (v2 : Int32) (v3 : Int32) (h : Hp) (H : Heap) (locs : List Loc) (ls : Array Slot), hp_B D cA (hp_A h0) s h H locs → lv_has ls 4 [(0, .ref t0), (1, va_rf w1), (2, .int v2), (3, .int v3)] → fx (bX7_howMany_4 ) (fun _ _ _ _ _ => none) n t0 w1 v2 v3 h = some (r, h9) → W p l e rmX7_howMany s m args below meth c H locs 0 0 (MQ below (hp_Qi D cA h0 h9 r) args s 0 0 (hp_A h0)) (F0 m 4 ls []) := by
  obtain ⟨hx, hb, -⟩ := id cx
  induction n with
  | zero => intro t0 w1 v2 v3 h H locs ls hB hl hf; cases hf
  | succ n ih =>
    intro t0 w1 v2 v3 h H locs ls hB hl hf
    replace hf : bX7_howMany_4  (fx (bX7_howMany_4 ) (fun _ _ _ _ _ => none) n) t0 w1 v2 v3 h = some (r, h9) := hf
    unfold bX7_howMany_4 at hf
    refine lv_iload_n hx hb dX7_howMany_4 rfl (lv_at hl 3 rfl) ?_
    refine lq_aload_n hx hb dX7_howMany_5 rfl (lv_at hl 1 rfl) ?_
    obtain ⟨a1, eo, hf⟩ := bd_ok hf
    subst eo
    obtain ⟨k2, hf⟩ := gk_ok hf
    refine gf_X7_22 cx hB k2 dX7_howMany_6 ?_
    refine lv_icmp_ge (tgt := 29) hx hb dX7_howMany_9 (by decide) (fun c3 => ?_) (fun c3 => ?_)
    · replace hf := it_t c3 hf
      refine lv_iload_n hx hb dX7_howMany_29 rfl (lv_at hl 2 rfl) ?_
      obtain ⟨rfl, rfl⟩ := rt_ok hf
      exact hp_iret cx hB hr hlk (Nat.le_of_ble_eq_true rfl) (Nat.le_of_ble_eq_true rfl) dX7_howMany_30
    · replace hf := it_f c3 hf
      refine lv_aload_n hx hb dX7_howMany_12 rfl (lv_at hl 0 rfl) ?_
      refine lv_iload_n hx hb dX7_howMany_13 rfl (lv_at hl 3 rfl) ?_
      obtain ⟨k4, hf⟩ := gk_ok hf
      obtain ⟨r7, g5, m6, hf⟩ := b2_ok hf
      refine hp_cI0 (cl_X7_36 cx hB (cX7_isTrap l D cA t0 v3 h _ g5 m6) k4 ⟨Nat.le_of_ble_eq_true rfl, Nat.le_of_ble_eq_true rfl⟩ rfl hl.1 rfl (Nat.le_of_ble_eq_true rfl) ⟨Nat.le_of_ble_eq_true rfl, Nat.le_of_ble_eq_true rfl⟩ dX7_howMany_14) rfl rfl hB (fun H locs hB => ?_)
      refine lv_if_eq (tgt := 23) hx hb dX7_howMany_17 (by decide) (fun c9 => ?_) (fun c9 => ?_)
      · replace hf := it_t c9 hf
        obtain ⟨x10, ex10, hf⟩ := nm_ok hf
        refine lv_iinc (v := x10) (lv' := [(3, .int x10), (0, .ref t0), (1, .ref a1), (2, .int v2)]) hx hb dX7_howMany_23 hl (k := 3) rfl (by rw [ex10]; rfl) (by decide) rfl (fun ls hl => ?_)
        refine lv_goto (tgt := 4) hx hb dX7_howMany_26 (by decide) ?_
        exact ih t0 (some a1) v2 x10 g5 _ _ _ hB (lv_sub hl [1, 2, 3, 0] rfl) hf
      · replace hf := it_f c9 hf
        obtain ⟨x11, ex11, hf⟩ := nm_ok hf
        refine lv_iinc (v := x11) (lv' := [(2, .int x11), (0, .ref t0), (1, .ref a1), (3, .int v3)]) hx hb dX7_howMany_20 hl (k := 2) rfl (by rw [ex11]; rfl) (by decide) rfl (fun ls hl => ?_)
        obtain ⟨x12, ex12, hf⟩ := nm_ok hf
        refine lv_iinc (v := x12) (lv' := [(3, .int x12), (2, .int x11), (0, .ref t0), (1, .ref a1)]) hx hb dX7_howMany_23 hl (k := 3) rfl (by rw [ex12]; rfl) (by decide) rfl (fun ls hl => ?_)
        refine lv_goto (tgt := 4) hx hb dX7_howMany_26 (by decide) ?_
        exact ih t0 (some a1) x11 x12 g5 _ _ _ hB (lv_sub hl [2, 3, 1, 0] rfl) hf
set_option maxHeartbeats 4000000 in
set_option maxRecDepth 100000 in
theorem tX7_howMany_0  {r : Int32} (cx : CallFix p m c prog_9_method_3_code 4 s args tbG RX7) (hr : meth.sig.returnType = (Option.some FieldType.int)) (hlk : meth.locks = false)  (t0 : Nat) (w1 : Option Nat) (h : Hp) (H : Heap) (locs : List Loc) (ls : Array Slot) (hB : hp_B D cA (hp_A h0) s h H locs) (hl : lv_has ls 4 [(0, .ref t0), (1, va_rf w1)]) (hf : fX7_howMany  t0 w1 h = some (r, h9)) : W p l e rmX7_howMany s m args below meth c H locs 0 0 (MQ below (hp_Qi D cA h0 h9 r) args s 0 0 (hp_A h0)) (F0 m 0 ls []) := by
  obtain ⟨hx, hb, -⟩ := id cx
  unfold fX7_howMany at hf
  refine lv_iconst (v := 0) hx hb dX7_howMany_0 (by decide) ?_
  refine lv_istore_n (lv' := [(2, .int 0), (0, .ref t0), (1, va_rf w1)]) hx hb dX7_howMany_1 rfl hl (by decide) (by cases w1 <;> rfl) (fun ls hl => ?_)
  refine lv_iconst (v := 0) hx hb dX7_howMany_2 (by decide) ?_
  refine lv_istore_n (lv' := [(3, .int 0), (2, .int 0), (0, .ref t0), (1, va_rf w1)]) hx hb dX7_howMany_3 rfl hl (by decide) rfl (fun ls hl => ?_)
  exact tX7_howMany_4 cx hr hlk  NF t0 w1 0 0 h _ _ _ hB (lv_sub hl [2, 3, 1, 0] rfl) hf
end
set_option maxHeartbeats 4000000 in
set_option maxRecDepth 100000 in
theorem cX7_howMany (l : Launch) (D : va_G) (cA : Nat → ClassId) (t0 : Nat) (w1 : Option Nat) (h : Hp) (r : Int32) (h9 : Hp) (hf : fX7_howMany t0 w1 h = some (r, h9)) : hp_M l yX7_howMany prog_9_method_3_code 4 (Option.some FieldType.int) rmX7_howMany D cA h [.ref t0, va_rf w1] (hp_Qi D cA h h9 r) := by
  refine Met.ofW (cc := prog_9_method_3_code) (maxL := 4) (ret := (Option.some FieldType.int)) (by decide) rfl ?_
  intro p e s m args below meth c s₁ B hml hv
  obtain ⟨rfl, hU⟩ := hv
  have hts := atoms_spec (ws := Cond.code yX7_howMany prog_9_method_3_code 4 (Option.some FieldType.int) :: tbG) B.pre
  have hl := lv_entry ([.ref t0, va_rf w1]) (n := 4) (by simp [lg_sl, va_rf_cat, cat_i, cat_r, cat_n])
  rw [show lv_args 0 ([.ref t0, va_rf w1]) = [(0, .ref t0), (1, va_rf w1)] by simp [lv_args, va_rf_cat, cat_i, cat_r, cat_n]] at hl
  rw [lg_entry_eq]
  generalize (lg_sl ([.ref t0, va_rf w1]) ++ List.replicate (4 - (lg_sl ([.ref t0, va_rf w1])).length) Slot.unset).toArray = ls at hl ⊢
  exact tX7_howMany_0 ⟨B.exec, B.bytes, hml, findClass_of_methodNamed B.named, fun w hw => hts w (List.mem_cons_of_mem _ hw)⟩ B.returns B.notSynchronized t0 w1 h _ _ _ (hp_B.entry hU) hl hf
abbrev yX7_numberOf : MethodName := ⟨"SpokenMenus$Traps", "numberOf", "(LSpokenMenus$House;I)I"⟩
theorem dX7_numberOf_0 : decode prog_9_method_4_code 0 = .ok (.iconst 0, 1) := by decide +kernel
theorem dX7_numberOf_1 : decode prog_9_method_4_code 1 = .ok (.istore_n 3, 1) := by decide +kernel
theorem dX7_numberOf_2 : decode prog_9_method_4_code 2 = .ok (.iconst 0, 1) := by decide +kernel
theorem dX7_numberOf_3 : decode prog_9_method_4_code 3 = .ok (.istore 4, 2) := by decide +kernel
theorem dX7_numberOf_5 : decode prog_9_method_4_code 5 = .ok (.iload 4, 2) := by decide +kernel
theorem dX7_numberOf_7 : decode prog_9_method_4_code 7 = .ok (.aload_n 1, 1) := by decide +kernel
theorem dX7_numberOf_8 : decode prog_9_method_4_code 8 = .ok (.getfield 22, 3) := by decide +kernel
theorem dX7_numberOf_11 : decode prog_9_method_4_code 11 = .ok (.if_icmp .ge 29, 3) := by decide +kernel
theorem dX7_numberOf_14 : decode prog_9_method_4_code 14 = .ok (.aload_n 0, 1) := by decide +kernel
theorem dX7_numberOf_15 : decode prog_9_method_4_code 15 = .ok (.iload 4, 2) := by decide +kernel
theorem dX7_numberOf_17 : decode prog_9_method_4_code 17 = .ok (.invokevirtual 36, 3) := by decide +kernel
theorem dX7_numberOf_20 : decode prog_9_method_4_code 20 = .ok (.ifCond .eq 14, 3) := by decide +kernel
theorem dX7_numberOf_23 : decode prog_9_method_4_code 23 = .ok (.iload_n 3, 1) := by decide +kernel
theorem dX7_numberOf_24 : decode prog_9_method_4_code 24 = .ok (.iload_n 2, 1) := by decide +kernel
theorem dX7_numberOf_25 : decode prog_9_method_4_code 25 = .ok (.if_icmp .ne 6, 3) := by decide +kernel
theorem dX7_numberOf_28 : decode prog_9_method_4_code 28 = .ok (.iload 4, 2) := by decide +kernel
theorem dX7_numberOf_30 : decode prog_9_method_4_code 30 = .ok (.ireturn, 1) := by decide +kernel
theorem dX7_numberOf_31 : decode prog_9_method_4_code 31 = .ok (.iinc 3 1, 3) := by decide +kernel
theorem dX7_numberOf_34 : decode prog_9_method_4_code 34 = .ok (.iinc 4 1, 3) := by decide +kernel
theorem dX7_numberOf_37 : decode prog_9_method_4_code 37 = .ok (.goto (-32), 3) := by decide +kernel
theorem dX7_numberOf_40 : decode prog_9_method_4_code 40 = .ok (.bipush (-4), 2) := by decide +kernel
theorem dX7_numberOf_42 : decode prog_9_method_4_code 42 = .ok (.ireturn, 1) := by decide +kernel
abbrev rmX7_numberOf : Room := { frames := 1, cells := 0, slots := 0, locals := 21 }
def bX7_numberOf_5  (rc : Nat → Option Nat → Int32 → Int32 → Int32 → Hp → Option (Int32 × Hp)) (t0 : Nat) (w1 : Option Nat) (v2 : Int32) (v3 : Int32) (v4 : Int32) (h : Hp) : Option (Int32 × Hp) :=
  bd w1 fun a1 =>
  gk (h.1 a1) 3 <|
  if (h.2.2.1 a1 1) ≤ v4 then
  (some ((-4), h))
  else
  (gk (h.1 t0) 8 <|
  b2 (fX7_isTrap t0 v4 h) fun r7 g5 =>
  if r7 = 0 then
  (nm (v4 + 1) fun x10 =>
  rc t0 (some a1) v2 v3 x10 g5)
  else
  (if v3 = v2 then
  (some (v4, g5))
  else
  (nm (v3 + 1) fun x12 =>
  nm (v4 + 1) fun x13 =>
  rc t0 (some a1) v2 x12 x13 g5)))
def fX7_numberOf_5  : Nat → Option Nat → Int32 → Int32 → Int32 → Hp → Option (Int32 × Hp) := fx (bX7_numberOf_5 ) (fun _ _ _ _ _ _ => none) NF
def fX7_numberOf  (t0 : Nat) (w1 : Option Nat) (v2 : Int32) (h : Hp) : Option (Int32 × Hp) :=
  fX7_numberOf_5  t0 w1 v2 0 0 h
section
variable {p : Program} {l : Launch} {e : Env} {s : State} {m : MethodId} {args : Array Value} {below : List Frame} {meth : Method} {c : Code} {D : va_G} {cA : Nat → ClassId} {h0 h9 : Hp}
set_option maxHeartbeats 4000000 in
set_option maxRecDepth 100000 in
theorem tX7_numberOf_5  {r : Int32} (cx : CallFix p m c prog_9_method_4_code 5 s args tbG RX7) (hr : meth.sig.returnType = (Option.some FieldType.int)) (hlk : meth.locks = false)  (n : Nat) : ∀ (t0 : Nat) (w1 : Option Nat) (v2 : Int32) (v3 : Int32) (v4 : Int32) (h : Hp) (H : Heap) (locs : List Loc) (ls : Array Slot), hp_B D cA (hp_A h0) s h H locs → lv_has ls 5 [(0, .ref t0), (1, va_rf w1), (2, .int v2), (3, .int v3), (4, .int v4)] → fx (bX7_numberOf_5 ) (fun _ _ _ _ _ _ => none) n t0 w1 v2 v3 v4 h = some (r, h9) → W p l e rmX7_numberOf s m args below meth c H locs 0 0 (MQ below (hp_Qi D cA h0 h9 r) args s 0 0 (hp_A h0)) (F0 m 5 ls []) := by
  obtain ⟨hx, hb, -⟩ := id cx
  induction n with
  | zero => intro t0 w1 v2 v3 v4 h H locs ls hB hl hf; cases hf
  | succ n ih =>
    intro t0 w1 v2 v3 v4 h H locs ls hB hl hf
    replace hf : bX7_numberOf_5  (fx (bX7_numberOf_5 ) (fun _ _ _ _ _ _ => none) n) t0 w1 v2 v3 v4 h = some (r, h9) := hf
    unfold bX7_numberOf_5 at hf
    refine lv_iload hx hb dX7_numberOf_5 (lv_at hl 4 rfl) ?_
    refine lq_aload_n hx hb dX7_numberOf_7 rfl (lv_at hl 1 rfl) ?_
    obtain ⟨a1, eo, hf⟩ := bd_ok hf
    subst eo
    obtain ⟨k2, hf⟩ := gk_ok hf
    refine gf_X7_22 cx hB k2 dX7_numberOf_8 ?_
    refine lv_icmp_ge (tgt := 40) hx hb dX7_numberOf_11 (by decide) (fun c3 => ?_) (fun c3 => ?_)
    · replace hf := it_t c3 hf
      refine lv_bipush (v := (-4)) hx hb dX7_numberOf_40 (by decide) ?_
      obtain ⟨rfl, rfl⟩ := rt_ok hf
      exact hp_iret cx hB hr hlk (Nat.le_of_ble_eq_true rfl) (Nat.le_of_ble_eq_true rfl) dX7_numberOf_42
    · replace hf := it_f c3 hf
      refine lv_aload_n hx hb dX7_numberOf_14 rfl (lv_at hl 0 rfl) ?_
      refine lv_iload hx hb dX7_numberOf_15 (lv_at hl 4 rfl) ?_
      obtain ⟨k4, hf⟩ := gk_ok hf
      obtain ⟨r7, g5, m6, hf⟩ := b2_ok hf
      refine hp_cI0 (cl_X7_36 cx hB (cX7_isTrap l D cA t0 v4 h _ g5 m6) k4 ⟨Nat.le_of_ble_eq_true rfl, Nat.le_of_ble_eq_true rfl⟩ rfl hl.1 rfl (Nat.le_of_ble_eq_true rfl) ⟨Nat.le_of_ble_eq_true rfl, Nat.le_of_ble_eq_true rfl⟩ dX7_numberOf_17) rfl rfl hB (fun H locs hB => ?_)
      refine lv_if_eq (tgt := 34) hx hb dX7_numberOf_20 (by decide) (fun c9 => ?_) (fun c9 => ?_)
      · replace hf := it_t c9 hf
        obtain ⟨x10, ex10, hf⟩ := nm_ok hf
        refine lv_iinc (v := x10) (lv' := [(4, .int x10), (0, .ref t0), (1, .ref a1), (2, .int v2), (3, .int v3)]) hx hb dX7_numberOf_34 hl (k := 4) rfl (by rw [ex10]; rfl) (by decide) rfl (fun ls hl => ?_)
        refine lv_goto (tgt := 5) hx hb dX7_numberOf_37 (by decide) ?_
        exact ih t0 (some a1) v2 v3 x10 g5 _ _ _ hB (lv_sub hl [1, 2, 3, 4, 0] rfl) hf
      · replace hf := it_f c9 hf
        refine lv_iload_n hx hb dX7_numberOf_23 rfl (lv_at hl 3 rfl) ?_
        refine lv_iload_n hx hb dX7_numberOf_24 rfl (lv_at hl 2 rfl) ?_
        refine lv_icmp_ne (tgt := 31) hx hb dX7_numberOf_25 (by decide) (fun c11 => ?_) (fun c11 => ?_)
        · replace hf := it_f c11 hf
          obtain ⟨x12, ex12, hf⟩ := nm_ok hf
          refine lv_iinc (v := x12) (lv' := [(3, .int x12), (0, .ref t0), (1, .ref a1), (2, .int v2), (4, .int v4)]) hx hb dX7_numberOf_31 hl (k := 3) rfl (by rw [ex12]; rfl) (by decide) rfl (fun ls hl => ?_)
          obtain ⟨x13, ex13, hf⟩ := nm_ok hf
          refine lv_iinc (v := x13) (lv' := [(4, .int x13), (3, .int x12), (0, .ref t0), (1, .ref a1), (2, .int v2)]) hx hb dX7_numberOf_34 hl (k := 4) rfl (by rw [ex13]; rfl) (by decide) rfl (fun ls hl => ?_)
          refine lv_goto (tgt := 5) hx hb dX7_numberOf_37 (by decide) ?_
          exact ih t0 (some a1) v2 x12 x13 g5 _ _ _ hB (lv_sub hl [2, 3, 4, 1, 0] rfl) hf
        · replace hf := it_t c11 hf
          refine lv_iload hx hb dX7_numberOf_28 (lv_at hl 4 rfl) ?_
          obtain ⟨rfl, rfl⟩ := rt_ok hf
          exact hp_iret cx hB hr hlk (Nat.le_of_ble_eq_true rfl) (Nat.le_of_ble_eq_true rfl) dX7_numberOf_30
set_option maxHeartbeats 4000000 in
set_option maxRecDepth 100000 in
theorem tX7_numberOf_0  {r : Int32} (cx : CallFix p m c prog_9_method_4_code 5 s args tbG RX7) (hr : meth.sig.returnType = (Option.some FieldType.int)) (hlk : meth.locks = false)  (t0 : Nat) (w1 : Option Nat) (v2 : Int32) (h : Hp) (H : Heap) (locs : List Loc) (ls : Array Slot) (hB : hp_B D cA (hp_A h0) s h H locs) (hl : lv_has ls 5 [(0, .ref t0), (1, va_rf w1), (2, .int v2)]) (hf : fX7_numberOf  t0 w1 v2 h = some (r, h9)) : W p l e rmX7_numberOf s m args below meth c H locs 0 0 (MQ below (hp_Qi D cA h0 h9 r) args s 0 0 (hp_A h0)) (F0 m 0 ls []) := by
  obtain ⟨hx, hb, -⟩ := id cx
  unfold fX7_numberOf at hf
  refine lv_iconst (v := 0) hx hb dX7_numberOf_0 (by decide) ?_
  refine lv_istore_n (lv' := [(3, .int 0), (0, .ref t0), (1, va_rf w1), (2, .int v2)]) hx hb dX7_numberOf_1 rfl hl (by decide) rfl (fun ls hl => ?_)
  refine lv_iconst (v := 0) hx hb dX7_numberOf_2 (by decide) ?_
  refine lv_istore (lv' := [(4, .int 0), (3, .int 0), (0, .ref t0), (1, va_rf w1), (2, .int v2)]) hx hb dX7_numberOf_3 hl (by decide) rfl (fun ls hl => ?_)
  exact tX7_numberOf_5 cx hr hlk  NF t0 w1 v2 0 0 h _ _ _ hB (lv_sub hl [2, 3, 4, 1, 0] rfl) hf
end
set_option maxHeartbeats 4000000 in
set_option maxRecDepth 100000 in
theorem cX7_numberOf (l : Launch) (D : va_G) (cA : Nat → ClassId) (t0 : Nat) (w1 : Option Nat) (v2 : Int32) (h : Hp) (r : Int32) (h9 : Hp) (hf : fX7_numberOf t0 w1 v2 h = some (r, h9)) : hp_M l yX7_numberOf prog_9_method_4_code 5 (Option.some FieldType.int) rmX7_numberOf D cA h [.ref t0, va_rf w1, .int v2] (hp_Qi D cA h h9 r) := by
  refine Met.ofW (cc := prog_9_method_4_code) (maxL := 5) (ret := (Option.some FieldType.int)) (by decide) rfl ?_
  intro p e s m args below meth c s₁ B hml hv
  obtain ⟨rfl, hU⟩ := hv
  have hts := atoms_spec (ws := Cond.code yX7_numberOf prog_9_method_4_code 5 (Option.some FieldType.int) :: tbG) B.pre
  have hl := lv_entry ([.ref t0, va_rf w1, .int v2]) (n := 5) (by simp [lg_sl, va_rf_cat, cat_i, cat_r, cat_n])
  rw [show lv_args 0 ([.ref t0, va_rf w1, .int v2]) = [(0, .ref t0), (1, va_rf w1), (2, .int v2)] by simp [lv_args, va_rf_cat, cat_i, cat_r, cat_n]] at hl
  rw [lg_entry_eq]
  generalize (lg_sl ([.ref t0, va_rf w1, .int v2]) ++ List.replicate (5 - (lg_sl ([.ref t0, va_rf w1, .int v2])).length) Slot.unset).toArray = ls at hl ⊢
  exact tX7_numberOf_0 ⟨B.exec, B.bytes, hml, findClass_of_methodNamed B.named, fun w hw => hts w (List.mem_cons_of_mem _ hw)⟩ B.returns B.notSynchronized t0 w1 v2 h _ _ _ (hp_B.entry hU) hl hf
section
variable {p : Program} {l : Launch} {e : Env} {R : Room} {s : State} {m : MethodId} {args : Array Value} {below : List Frame} {meth : Method} {c : Code} {H : Heap} {locs : List Loc} {cells slots : Nat} {Q : State → Prop}
variable {cc : ByteArray} {pc nL : Nat} {ls : Array Slot} {rest : List Value} {D : va_G} {cA : Nat → ClassId} {A : Nat → Prop} {a : Nat} {h : Hp}
theorem pf_X8_9 (cx : CallFix p m c cc nL s args tbG RX8) (hB : hp_B D cA A s h H locs) (hka : h.1 a = 9) {x : Int32} (hz : zb x = true) (hdg : decode cc pc = .ok (.putfield 9, 3)) (kk : ∀ (H1 : Heap) (locs1 : List Loc), hp_B D cA A s (hp_si h a 0 x) H1 locs1 → W p l e R s m args below meth c H1 locs1 cells slots Q (F0 m (pc + 3) ls rest)) : W p l e R s m args below meth c H locs cells slots Q (F0 m pc ls (.int x :: .ref a :: rest)) :=
  hp_putX cx hB (ci := 8) 0 tyX8 tyX8_ok nmX8 rfl inX8 (by decide) rfl (by decide) (Or.inl rfl) qw_161 hka (v := .int x) (hp_like_si h a 0 x) (hp_fs_si (by decide) rfl) (zb_nar hz) (zb_fit hz) hdg kk
theorem pf_X8_15 (cx : CallFix p m c cc nL s args tbG RX8) (hB : hp_B D cA A s h H locs) (hka : h.1 a = 9) {x : Int32} (hdg : decode cc pc = .ok (.putfield 15, 3)) (kk : ∀ (H1 : Heap) (locs1 : List Loc), hp_B D cA A s (hp_si h a 1 x) H1 locs1 → W p l e R s m args below meth c H1 locs1 cells slots Q (F0 m (pc + 3) ls rest)) : W p l e R s m args below meth c H locs cells slots Q (F0 m pc ls (.int x :: .ref a :: rest)) :=
  hp_putX cx hB (ci := 8) 1 tyX8 tyX8_ok nmX8 rfl inX8 (by decide) rfl (by decide) (Or.inl rfl) qw_163 hka (v := .int x) (hp_like_si h a 1 x) (hp_fs_si (by decide) rfl) rfl rfl hdg kk
theorem pf_X8_19 (cx : CallFix p m c cc nL s args tbG RX8) (hB : hp_B D cA A s h H locs) (hka : h.1 a = 9) {x : Int32} (hdg : decode cc pc = .ok (.putfield 19, 3)) (kk : ∀ (H1 : Heap) (locs1 : List Loc), hp_B D cA A s (hp_si h a 2 x) H1 locs1 → W p l e R s m args below meth c H1 locs1 cells slots Q (F0 m (pc + 3) ls rest)) : W p l e R s m args below meth c H locs cells slots Q (F0 m pc ls (.int x :: .ref a :: rest)) :=
  hp_putX cx hB (ci := 8) 2 tyX8 tyX8_ok nmX8 rfl inX8 (by decide) rfl (by decide) (Or.inl rfl) qw_165 hka (v := .int x) (hp_like_si h a 2 x) (hp_fs_si (by decide) rfl) rfl rfl hdg kk
theorem pf_X8_22 (cx : CallFix p m c cc nL s args tbG RX8) (hB : hp_B D cA A s h H locs) (hka : h.1 a = 9) {x : Int32} (hdg : decode cc pc = .ok (.putfield 22, 3)) (kk : ∀ (H1 : Heap) (locs1 : List Loc), hp_B D cA A s (hp_si h a 3 x) H1 locs1 → W p l e R s m args below meth c H1 locs1 cells slots Q (F0 m (pc + 3) ls rest)) : W p l e R s m args below meth c H locs cells slots Q (F0 m pc ls (.int x :: .ref a :: rest)) :=
  hp_putX cx hB (ci := 8) 3 tyX8 tyX8_ok nmX8 rfl inX8 (by decide) rfl (by decide) (Or.inl rfl) qw_167 hka (v := .int x) (hp_like_si h a 3 x) (hp_fs_si (by decide) rfl) rfl rfl hdg kk
theorem pf_X8_25 (cx : CallFix p m c cc nL s args tbG RX8) (hB : hp_B D cA A s h H locs) (hka : h.1 a = 9) {x : Int32} (hdg : decode cc pc = .ok (.putfield 25, 3)) (kk : ∀ (H1 : Heap) (locs1 : List Loc), hp_B D cA A s (hp_si h a 4 x) H1 locs1 → W p l e R s m args below meth c H1 locs1 cells slots Q (F0 m (pc + 3) ls rest)) : W p l e R s m args below meth c H locs cells slots Q (F0 m pc ls (.int x :: .ref a :: rest)) :=
  hp_putX cx hB (ci := 8) 4 tyX8 tyX8_ok nmX8 rfl inX8 (by decide) rfl (by decide) (Or.inl rfl) qw_169 hka (v := .int x) (hp_like_si h a 4 x) (hp_fs_si (by decide) rfl) rfl rfl hdg kk
theorem pf_X8_28 (cx : CallFix p m c cc nL s args tbG RX8) (hB : hp_B D cA A s h H locs) (hka : h.1 a = 9) {x : Int32} (hdg : decode cc pc = .ok (.putfield 28, 3)) (kk : ∀ (H1 : Heap) (locs1 : List Loc), hp_B D cA A s (hp_si h a 5 x) H1 locs1 → W p l e R s m args below meth c H1 locs1 cells slots Q (F0 m (pc + 3) ls rest)) : W p l e R s m args below meth c H locs cells slots Q (F0 m pc ls (.int x :: .ref a :: rest)) :=
  hp_putX cx hB (ci := 8) 5 tyX8 tyX8_ok nmX8 rfl inX8 (by decide) rfl (by decide) (Or.inl rfl) qw_171 hka (v := .int x) (hp_like_si h a 5 x) (hp_fs_si (by decide) rfl) rfl rfl hdg kk
theorem pf_X8_31 (cx : CallFix p m c cc nL s args tbG RX8) (hB : hp_B D cA A s h H locs) (hnm : meth.name = "<init>") (hka : h.1 a = 9) {b : Nat} (hdg : decode cc pc = .ok (.putfield 31, 3)) (kk : ∀ (H1 : Heap) (locs1 : List Loc), hp_B D cA A s (hp_sr h a 6 (some b)) H1 locs1 → W p l e R s m args below meth c H1 locs1 cells slots Q (F0 m (pc + 3) ls rest)) : W p l e R s m args below meth c H locs cells slots Q (F0 m pc ls (.ref b :: .ref a :: rest)) :=
  hp_putX cx hB (ci := 8) 6 tyX8 tyX8_ok nmX8 rfl inX8 (by decide) rfl (by decide) (Or.inr ⟨rfl, hnm, rfl⟩) qw_173 hka (v := va_rf (some b)) (hp_like_sr h a 6 (some b)) (hp_fs_sr (by decide) rfl) rfl rfl hdg kk
theorem pf_X8_35 (cx : CallFix p m c cc nL s args tbG RX8) (hB : hp_B D cA A s h H locs) (hnm : meth.name = "<init>") (hka : h.1 a = 9) {b : Nat} (hdg : decode cc pc = .ok (.putfield 35, 3)) (kk : ∀ (H1 : Heap) (locs1 : List Loc), hp_B D cA A s (hp_sr h a 7 (some b)) H1 locs1 → W p l e R s m args below meth c H1 locs1 cells slots Q (F0 m (pc + 3) ls rest)) : W p l e R s m args below meth c H locs cells slots Q (F0 m pc ls (.ref b :: .ref a :: rest)) :=
  hp_putX cx hB (ci := 8) 7 tyX8 tyX8_ok nmX8 rfl inX8 (by decide) rfl (by decide) (Or.inr ⟨rfl, hnm, rfl⟩) qw_175 hka (v := va_rf (some b)) (hp_like_sr h a 7 (some b)) (hp_fs_sr (by decide) rfl) rfl rfl hdg kk
theorem pf_X8_38 (cx : CallFix p m c cc nL s args tbG RX8) (hB : hp_B D cA A s h H locs) (hnm : meth.name = "<init>") (hka : h.1 a = 9) {b : Nat} (hdg : decode cc pc = .ok (.putfield 38, 3)) (kk : ∀ (H1 : Heap) (locs1 : List Loc), hp_B D cA A s (hp_sr h a 8 (some b)) H1 locs1 → W p l e R s m args below meth c H1 locs1 cells slots Q (F0 m (pc + 3) ls rest)) : W p l e R s m args below meth c H locs cells slots Q (F0 m pc ls (.ref b :: .ref a :: rest)) :=
  hp_putX cx hB (ci := 8) 8 tyX8 tyX8_ok nmX8 rfl inX8 (by decide) rfl (by decide) (Or.inr ⟨rfl, hnm, rfl⟩) qw_177 hka (v := va_rf (some b)) (hp_like_sr h a 8 (some b)) (hp_fs_sr (by decide) rfl) rfl rfl hdg kk
theorem pf_X8_42 (cx : CallFix p m c cc nL s args tbG RX8) (hB : hp_B D cA A s h H locs) (hka : h.1 a = 9) {x : Int32} (hdg : decode cc pc = .ok (.putfield 42, 3)) (kk : ∀ (H1 : Heap) (locs1 : List Loc), hp_B D cA A s (hp_si h a 9 x) H1 locs1 → W p l e R s m args below meth c H1 locs1 cells slots Q (F0 m (pc + 3) ls rest)) : W p l e R s m args below meth c H locs cells slots Q (F0 m pc ls (.int x :: .ref a :: rest)) :=
  hp_putX cx hB (ci := 8) 9 tyX8 tyX8_ok nmX8 rfl inX8 (by decide) rfl (by decide) (Or.inl rfl) qw_178 hka (v := .int x) (hp_like_si h a 9 x) (hp_fs_si (by decide) rfl) rfl rfl hdg kk
end
abbrev yX8_init : MethodName := ⟨"SpokenMenus$Walk", "<init>", "()V"⟩
theorem dX8_init_0 : decode prog_10_method_1_code 0 = .ok (.aload_n 0, 1) := by decide +kernel
theorem dX8_init_1 : decode prog_10_method_1_code 1 = .ok (.invokespecial 3, 3) := by decide +kernel
theorem dX8_init_4 : decode prog_10_method_1_code 4 = .ok (.aload_n 0, 1) := by decide +kernel
theorem dX8_init_5 : decode prog_10_method_1_code 5 = .ok (.iconst 0, 1) := by decide +kernel
theorem dX8_init_6 : decode prog_10_method_1_code 6 = .ok (.putfield 9, 3) := by decide +kernel
theorem dX8_init_9 : decode prog_10_method_1_code 9 = .ok (.aload_n 0, 1) := by decide +kernel
theorem dX8_init_10 : decode prog_10_method_1_code 10 = .ok (.iconst (-1), 1) := by decide +kernel
theorem dX8_init_11 : decode prog_10_method_1_code 11 = .ok (.putfield 15, 3) := by decide +kernel
theorem dX8_init_14 : decode prog_10_method_1_code 14 = .ok (.aload_n 0, 1) := by decide +kernel
theorem dX8_init_15 : decode prog_10_method_1_code 15 = .ok (.iconst 0, 1) := by decide +kernel
theorem dX8_init_16 : decode prog_10_method_1_code 16 = .ok (.putfield 19, 3) := by decide +kernel
theorem dX8_init_19 : decode prog_10_method_1_code 19 = .ok (.aload_n 0, 1) := by decide +kernel
theorem dX8_init_20 : decode prog_10_method_1_code 20 = .ok (.iconst 0, 1) := by decide +kernel
theorem dX8_init_21 : decode prog_10_method_1_code 21 = .ok (.putfield 22, 3) := by decide +kernel
theorem dX8_init_24 : decode prog_10_method_1_code 24 = .ok (.aload_n 0, 1) := by decide +kernel
theorem dX8_init_25 : decode prog_10_method_1_code 25 = .ok (.iconst 0, 1) := by decide +kernel
theorem dX8_init_26 : decode prog_10_method_1_code 26 = .ok (.putfield 25, 3) := by decide +kernel
theorem dX8_init_29 : decode prog_10_method_1_code 29 = .ok (.aload_n 0, 1) := by decide +kernel
theorem dX8_init_30 : decode prog_10_method_1_code 30 = .ok (.iconst 0, 1) := by decide +kernel
theorem dX8_init_31 : decode prog_10_method_1_code 31 = .ok (.putfield 28, 3) := by decide +kernel
theorem dX8_init_34 : decode prog_10_method_1_code 34 = .ok (.aload_n 0, 1) := by decide +kernel
theorem dX8_init_35 : decode prog_10_method_1_code 35 = .ok (.bipush 60, 2) := by decide +kernel
theorem dX8_init_37 : decode prog_10_method_1_code 37 = .ok (.newarray .int, 2) := by decide +kernel
theorem dX8_init_39 : decode prog_10_method_1_code 39 = .ok (.putfield 31, 3) := by decide +kernel
theorem dX8_init_42 : decode prog_10_method_1_code 42 = .ok (.aload_n 0, 1) := by decide +kernel
theorem dX8_init_43 : decode prog_10_method_1_code 43 = .ok (.bipush 60, 2) := by decide +kernel
theorem dX8_init_45 : decode prog_10_method_1_code 45 = .ok (.newarray .int, 2) := by decide +kernel
theorem dX8_init_47 : decode prog_10_method_1_code 47 = .ok (.putfield 35, 3) := by decide +kernel
theorem dX8_init_50 : decode prog_10_method_1_code 50 = .ok (.aload_n 0, 1) := by decide +kernel
theorem dX8_init_51 : decode prog_10_method_1_code 51 = .ok (.bipush 40, 2) := by decide +kernel
theorem dX8_init_53 : decode prog_10_method_1_code 53 = .ok (.newarray .boolean, 2) := by decide +kernel
theorem dX8_init_55 : decode prog_10_method_1_code 55 = .ok (.putfield 38, 3) := by decide +kernel
theorem dX8_init_58 : decode prog_10_method_1_code 58 = .ok (.aload_n 0, 1) := by decide +kernel
theorem dX8_init_59 : decode prog_10_method_1_code 59 = .ok (.iconst 0, 1) := by decide +kernel
theorem dX8_init_60 : decode prog_10_method_1_code 60 = .ok (.putfield 42, 3) := by decide +kernel
theorem dX8_init_63 : decode prog_10_method_1_code 63 = .ok (.return_, 1) := by decide +kernel
abbrev rmX8_init : Room := { frames := 1, cells := 3, slots := 160, locals := 20 }
def fX8_init  (t0 : Nat) (h : Hp) : Option (Unit × Hp) :=
  gk (h.1 t0) 9 <|
  nm (hp_si h t0 0 0) fun g2 =>
  nm (hp_si g2 t0 1 (-1)) fun g4 =>
  nm (hp_si g4 t0 2 0) fun g6 =>
  nm (hp_si g6 t0 3 0) fun g8 =>
  nm (hp_si g8 t0 4 0) fun g10 =>
  nm (hp_si g10 t0 5 0) fun g12 =>
  nm g12.2.2.2.2 fun a13 =>
  nm (hp_nw g12 13 60) fun g14 =>
  gk (g14.1 t0) 9 <|
  nm (hp_sr g14 t0 6 (some a13)) fun g17 =>
  nm g17.2.2.2.2 fun a18 =>
  nm (hp_nw g17 13 60) fun g19 =>
  gk (g19.1 t0) 9 <|
  nm (hp_sr g19 t0 7 (some a18)) fun g22 =>
  nm g22.2.2.2.2 fun a23 =>
  nm (hp_nw g22 14 40) fun g24 =>
  gk (g24.1 t0) 9 <|
  nm (hp_sr g24 t0 8 (some a23)) fun g27 =>
  nm (hp_si g27 t0 9 0) fun g29 =>
  some ((), g29)
section
variable {p : Program} {l : Launch} {e : Env} {s : State} {m : MethodId} {args : Array Value} {below : List Frame} {meth : Method} {c : Code} {D : va_G} {cA : Nat → ClassId} {h0 h9 : Hp}
set_option maxHeartbeats 4000000 in
set_option maxRecDepth 100000 in
theorem tX8_init_0  (cx : CallFix p m c prog_10_method_1_code 1 s args tbG RX8) (hr : meth.sig.returnType = none) (hlk : meth.locks = false) (hnm : meth.name = "<init>")  (t0 : Nat) (h : Hp) (H : Heap) (locs : List Loc) (ls : Array Slot) (hB : hp_B D cA (hp_A h0) s h H locs) (hl : lv_has ls 1 [(0, .ref t0)]) (hf : fX8_init  t0 h = some ((), h9)) : W p l e rmX8_init s m args below meth c H locs 0 0 (MQ below (hp_Qv D cA h0 h9) args s 3 160 (hp_A h0)) (F0 m 0 ls []) := by
  obtain ⟨hx, hb, -⟩ := id cx
  unfold fX8_init at hf
  refine lv_aload_n hx hb dX8_init_0 rfl (lv_at hl 0 rfl) ?_
  refine W.objInit hx hb cx.2.2.2.1 (cx.2.2.2.2 _ (tb_in qw_160 rfl)) (cx.2.2.2.2 _ (tb_in qw_22 rfl)) (cx.2.2.2.2 _ (tb_in qw_23 rfl)) rfl (by rw [cx.2.2.1]; exact hl.1) rfl dX8_init_1 (Nat.le_of_ble_eq_true rfl) (Nat.le_of_ble_eq_true rfl) ?_
  refine W.eq (g2 := F0 m 4 ls []) rfl ?_
  refine lv_aload_n hx hb dX8_init_4 rfl (lv_at hl 0 rfl) ?_
  refine lv_iconst (v := 0) hx hb dX8_init_5 (by decide) ?_
  obtain ⟨k1, hf⟩ := gk_ok hf
  obtain ⟨g2, eg2, hf⟩ := nm_ok hf
  refine pf_X8_9 cx hB k1 rfl dX8_init_6 (fun H locs hB => ?_)
  rw [← eg2] at hB
  refine lv_aload_n hx hb dX8_init_9 rfl (lv_at hl 0 rfl) ?_
  refine lv_iconst (v := (-1)) hx hb dX8_init_10 (by decide) ?_
  have k3 : g2.1 t0 = 9 := by rw [eg2]; exact k1
  obtain ⟨g4, eg4, hf⟩ := nm_ok hf
  refine pf_X8_15 cx hB k3 dX8_init_11 (fun H locs hB => ?_)
  rw [← eg4] at hB
  refine lv_aload_n hx hb dX8_init_14 rfl (lv_at hl 0 rfl) ?_
  refine lv_iconst (v := 0) hx hb dX8_init_15 (by decide) ?_
  have k5 : g4.1 t0 = 9 := by rw [eg4]; exact k3
  obtain ⟨g6, eg6, hf⟩ := nm_ok hf
  refine pf_X8_19 cx hB k5 dX8_init_16 (fun H locs hB => ?_)
  rw [← eg6] at hB
  refine lv_aload_n hx hb dX8_init_19 rfl (lv_at hl 0 rfl) ?_
  refine lv_iconst (v := 0) hx hb dX8_init_20 (by decide) ?_
  have k7 : g6.1 t0 = 9 := by rw [eg6]; exact k5
  obtain ⟨g8, eg8, hf⟩ := nm_ok hf
  refine pf_X8_22 cx hB k7 dX8_init_21 (fun H locs hB => ?_)
  rw [← eg8] at hB
  refine lv_aload_n hx hb dX8_init_24 rfl (lv_at hl 0 rfl) ?_
  refine lv_iconst (v := 0) hx hb dX8_init_25 (by decide) ?_
  have k9 : g8.1 t0 = 9 := by rw [eg8]; exact k7
  obtain ⟨g10, eg10, hf⟩ := nm_ok hf
  refine pf_X8_25 cx hB k9 dX8_init_26 (fun H locs hB => ?_)
  rw [← eg10] at hB
  refine lv_aload_n hx hb dX8_init_29 rfl (lv_at hl 0 rfl) ?_
  refine lv_iconst (v := 0) hx hb dX8_init_30 (by decide) ?_
  have k11 : g10.1 t0 = 9 := by rw [eg10]; exact k9
  obtain ⟨g12, eg12, hf⟩ := nm_ok hf
  refine pf_X8_28 cx hB k11 dX8_init_31 (fun H locs hB => ?_)
  rw [← eg12] at hB
  refine lv_aload_n hx hb dX8_init_34 rfl (lv_at hl 0 rfl) ?_
  refine lv_bipush (v := 60) hx hb dX8_init_35 (by decide) ?_
  obtain ⟨a13, ea13, hf⟩ := nm_ok hf
  obtain ⟨g14, eg14, hf⟩ := nm_ok hf
  refine hp_newa cx hB 13 (N' := 60) (ty := .int) rfl (by decide) rfl (fun h9 => h9) rfl qw_54 ea13 (by decide) (by decide) (by decide) (Nat.le_of_ble_eq_true rfl) (Nat.le_of_ble_eq_true rfl) dX8_init_37 (fun H hB => ?_)
  rw [← eg14] at hB
  have k15 : g14.1 a13 = 13 := by rw [eg14, ea13]; exact va_up_self _ _ _
  obtain ⟨k16, hf⟩ := gk_ok hf
  obtain ⟨g17, eg17, hf⟩ := nm_ok hf
  refine pf_X8_31 cx hB hnm k16 dX8_init_39 (fun H locs hB => ?_)
  rw [← eg17] at hB
  refine lv_aload_n hx hb dX8_init_42 rfl (lv_at hl 0 rfl) ?_
  refine lv_bipush (v := 60) hx hb dX8_init_43 (by decide) ?_
  obtain ⟨a18, ea18, hf⟩ := nm_ok hf
  obtain ⟨g19, eg19, hf⟩ := nm_ok hf
  refine hp_newa cx hB 13 (N' := 60) (ty := .int) rfl (by decide) rfl (fun h9 => h9) rfl qw_54 ea18 (by decide) (by decide) (by decide) (Nat.le_of_ble_eq_true rfl) (Nat.le_of_ble_eq_true rfl) dX8_init_45 (fun H hB => ?_)
  rw [← eg19] at hB
  have k20 : g19.1 a18 = 13 := by rw [eg19, ea18]; exact va_up_self _ _ _
  obtain ⟨k21, hf⟩ := gk_ok hf
  obtain ⟨g22, eg22, hf⟩ := nm_ok hf
  refine pf_X8_35 cx hB hnm k21 dX8_init_47 (fun H locs hB => ?_)
  rw [← eg22] at hB
  refine lv_aload_n hx hb dX8_init_50 rfl (lv_at hl 0 rfl) ?_
  refine lv_bipush (v := 40) hx hb dX8_init_51 (by decide) ?_
  obtain ⟨a23, ea23, hf⟩ := nm_ok hf
  obtain ⟨g24, eg24, hf⟩ := nm_ok hf
  refine hp_newa cx hB 14 (N' := 40) (ty := .boolean) rfl (by decide) rfl (fun h9 => h9) rfl qw_68 ea23 (by decide) (by decide) (by decide) (Nat.le_of_ble_eq_true rfl) (Nat.le_of_ble_eq_true rfl) dX8_init_53 (fun H hB => ?_)
  rw [← eg24] at hB
  have k25 : g24.1 a23 = 14 := by rw [eg24, ea23]; exact va_up_self _ _ _
  obtain ⟨k26, hf⟩ := gk_ok hf
  obtain ⟨g27, eg27, hf⟩ := nm_ok hf
  refine pf_X8_38 cx hB hnm k26 dX8_init_55 (fun H locs hB => ?_)
  rw [← eg27] at hB
  refine lv_aload_n hx hb dX8_init_58 rfl (lv_at hl 0 rfl) ?_
  refine lv_iconst (v := 0) hx hb dX8_init_59 (by decide) ?_
  have k28 : g27.1 t0 = 9 := by rw [eg27]; exact k26
  obtain ⟨g29, eg29, hf⟩ := nm_ok hf
  refine pf_X8_42 cx hB k28 dX8_init_60 (fun H locs hB => ?_)
  rw [← eg29] at hB
  obtain ⟨-, rfl⟩ := rt_ok hf
  exact hp_vret cx hB hr hlk (Nat.le_of_ble_eq_true rfl) (Nat.le_of_ble_eq_true rfl) dX8_init_63
end
set_option maxHeartbeats 4000000 in
set_option maxRecDepth 100000 in
theorem cX8_init (l : Launch) (D : va_G) (cA : Nat → ClassId) (t0 : Nat) (h : Hp) (_u : Unit) (h9 : Hp) (hf : fX8_init t0 h = some (_u, h9)) : hp_M l yX8_init prog_10_method_1_code 1 none rmX8_init D cA h [.ref t0] (hp_Qv D cA h h9) := by
  refine Met.ofW (cc := prog_10_method_1_code) (maxL := 1) (ret := none) (by decide) rfl ?_
  intro p e s m args below meth c s₁ B hml hv
  obtain ⟨rfl, hU⟩ := hv
  have hts := atoms_spec (ws := Cond.code yX8_init prog_10_method_1_code 1 none :: tbG) B.pre
  have hl := lv_entry ([.ref t0]) (n := 1) (Nat.le_of_ble_eq_true rfl)
  rw [lg_entry_eq]
  generalize (lg_sl ([.ref t0]) ++ List.replicate (1 - (lg_sl ([.ref t0])).length) Slot.unset).toArray = ls at hl ⊢
  exact tX8_init_0 ⟨B.exec, B.bytes, hml, findClass_of_methodNamed B.named, fun w hw => hts w (List.mem_cons_of_mem _ hw)⟩ B.returns B.notSynchronized ((name_of_methodNamed B.named B.method).1) t0 h _ _ _ (hp_B.entry hU) hl hf
section
variable {p : Program} {l : Launch} {e : Env} {R : Room} {s : State} {m : MethodId} {args : Array Value} {below : List Frame} {meth : Method} {c : Code} {H : Heap} {locs : List Loc} {cells slots : Nat} {Q : State → Prop}
variable {cc : ByteArray} {pc nL : Nat} {ls : Array Slot} {rest : List Value} {D : va_G} {cA : Nat → ClassId} {A : Nat → Prop} {a : Nat} {h : Hp}
theorem gf_X9_9 (cx : CallFix p m c cc nL s args tbG RX9) (hB : hp_B D cA A s h H locs) (hka : h.1 a = 10) {b : Nat} (ho : h.2.2.2.1 a 0 = some b) (hdg : decode cc pc = .ok (.getfield 9, 3)) (kk : W p l e R s m args below meth c H locs cells slots Q (F0 m (pc + 3) ls (.ref b :: rest))) : W p l e R s m args below meth c H locs cells slots Q (F0 m pc ls (.ref a :: rest)) :=
  hp_getR cx hB (ci := 9) 0 rfl inX9 (by decide) rfl (by decide) rfl qw_50 hka (o := some b) ho.symm hdg kk
end
abbrev yX9_ticksFrom : MethodName := ⟨"SpokenMenus$Ways", "ticksFrom", "(I)I"⟩
theorem dX9_ticksFrom_0 : decode prog_11_method_3_code 0 = .ok (.iload_n 1, 1) := by decide +kernel
theorem dX9_ticksFrom_1 : decode prog_11_method_3_code 1 = .ok (.ifCond .lt 18, 3) := by decide +kernel
theorem dX9_ticksFrom_4 : decode prog_11_method_3_code 4 = .ok (.iload_n 1, 1) := by decide +kernel
theorem dX9_ticksFrom_5 : decode prog_11_method_3_code 5 = .ok (.bipush 40, 2) := by decide +kernel
theorem dX9_ticksFrom_7 : decode prog_11_method_3_code 7 = .ok (.if_icmp .ge 12, 3) := by decide +kernel
theorem dX9_ticksFrom_10 : decode prog_11_method_3_code 10 = .ok (.aload_n 0, 1) := by decide +kernel
theorem dX9_ticksFrom_11 : decode prog_11_method_3_code 11 = .ok (.getfield 9, 3) := by decide +kernel
theorem dX9_ticksFrom_14 : decode prog_11_method_3_code 14 = .ok (.iload_n 1, 1) := by decide +kernel
theorem dX9_ticksFrom_15 : decode prog_11_method_3_code 15 = .ok (.iaload, 1) := by decide +kernel
theorem dX9_ticksFrom_16 : decode prog_11_method_3_code 16 = .ok (.goto 5, 3) := by decide +kernel
theorem dX9_ticksFrom_19 : decode prog_11_method_3_code 19 = .ok (.ldc 15, 2) := by decide +kernel
theorem dX9_ticksFrom_21 : decode prog_11_method_3_code 21 = .ok (.ireturn, 1) := by decide +kernel
abbrev rmX9_ticksFrom : Room := { frames := 0, cells := 0, slots := 0, locals := 0 }
def fX9_ticksFrom  (t0 : Nat) (v1 : Int32) (h : Hp) : Option (Int32 × Hp) :=
  if v1 < 0 then
  (some (1000000, h))
  else
  (if 40 ≤ v1 then
  (some (1000000, h))
  else
  (gk (h.1 t0) 10 <|
  bd (h.2.2.2.1 t0 0) fun a4 =>
  gk (h.1 a4) 13 <|
  gd (ix v1 (h.2.1 a4)) <|
  some (h.2.2.1 a4 (Int32.toNatClampNeg v1), h)))
section
variable {p : Program} {l : Launch} {e : Env} {s : State} {m : MethodId} {args : Array Value} {below : List Frame} {meth : Method} {c : Code} {D : va_G} {cA : Nat → ClassId} {h0 h9 : Hp}
set_option maxHeartbeats 4000000 in
set_option maxRecDepth 100000 in
theorem tX9_ticksFrom_0  {r : Int32} (cx : CallFix p m c prog_11_method_3_code 2 s args tbG RX9) (hr : meth.sig.returnType = (Option.some FieldType.int)) (hlk : meth.locks = false)  (t0 : Nat) (v1 : Int32) (h : Hp) (H : Heap) (locs : List Loc) (ls : Array Slot) (hB : hp_B D cA (hp_A h0) s h H locs) (hl : lv_has ls 2 [(0, .ref t0), (1, .int v1)]) (hf : fX9_ticksFrom  t0 v1 h = some (r, h9)) : W p l e rmX9_ticksFrom s m args below meth c H locs 0 0 (MQ below (hp_Qi D cA h0 h9 r) args s 0 0 (hp_A h0)) (F0 m 0 ls []) := by
  obtain ⟨hx, hb, -⟩ := id cx
  unfold fX9_ticksFrom at hf
  refine lv_iload_n hx hb dX9_ticksFrom_0 rfl (lv_at hl 1 rfl) ?_
  refine lv_if_lt (tgt := 19) hx hb dX9_ticksFrom_1 (by decide) (fun c1 => ?_) (fun c1 => ?_)
  · replace hf := it_t c1 hf
    refine lv_ldc (v := 1000000) hx hb cx.2.2.2.1 (cx.2.2.2.2 _ (tb_in qw_455 rfl)) dX9_ticksFrom_19 ?_
    obtain ⟨rfl, rfl⟩ := rt_ok hf
    exact hp_iret cx hB hr hlk (Nat.le_of_ble_eq_true rfl) (Nat.le_of_ble_eq_true rfl) dX9_ticksFrom_21
  · replace hf := it_f c1 hf
    refine lv_iload_n hx hb dX9_ticksFrom_4 rfl (lv_at hl 1 rfl) ?_
    refine lv_bipush (v := 40) hx hb dX9_ticksFrom_5 (by decide) ?_
    refine lv_icmp_ge (tgt := 19) hx hb dX9_ticksFrom_7 (by decide) (fun c2 => ?_) (fun c2 => ?_)
    · replace hf := it_t c2 hf
      refine lv_ldc (v := 1000000) hx hb cx.2.2.2.1 (cx.2.2.2.2 _ (tb_in qw_455 rfl)) dX9_ticksFrom_19 ?_
      obtain ⟨rfl, rfl⟩ := rt_ok hf
      exact hp_iret cx hB hr hlk (Nat.le_of_ble_eq_true rfl) (Nat.le_of_ble_eq_true rfl) dX9_ticksFrom_21
    · replace hf := it_f c2 hf
      refine lv_aload_n hx hb dX9_ticksFrom_10 rfl (lv_at hl 0 rfl) ?_
      obtain ⟨k3, hf⟩ := gk_ok hf
      obtain ⟨a4, q5, hf⟩ := bd_ok hf
      refine gf_X9_9 cx hB k3 q5 dX9_ticksFrom_11 ?_
      refine lv_iload_n hx hb dX9_ticksFrom_14 rfl (lv_at hl 1 rfl) ?_
      obtain ⟨k6, hf⟩ := gk_ok hf
      obtain ⟨j7, hf⟩ := gd_ok hf
      refine hp_iald cx hB k6 j7 dX9_ticksFrom_15 ?_
      refine lv_goto (tgt := 21) hx hb dX9_ticksFrom_16 (by decide) ?_
      obtain ⟨rfl, rfl⟩ := rt_ok hf
      exact hp_iret cx hB hr hlk (Nat.le_of_ble_eq_true rfl) (Nat.le_of_ble_eq_true rfl) dX9_ticksFrom_21
end
set_option maxHeartbeats 4000000 in
set_option maxRecDepth 100000 in
theorem cX9_ticksFrom (l : Launch) (D : va_G) (cA : Nat → ClassId) (t0 : Nat) (v1 : Int32) (h : Hp) (r : Int32) (h9 : Hp) (hf : fX9_ticksFrom t0 v1 h = some (r, h9)) : hp_M l yX9_ticksFrom prog_11_method_3_code 2 (Option.some FieldType.int) rmX9_ticksFrom D cA h [.ref t0, .int v1] (hp_Qi D cA h h9 r) := by
  refine Met.ofW (cc := prog_11_method_3_code) (maxL := 2) (ret := (Option.some FieldType.int)) (by decide) rfl ?_
  intro p e s m args below meth c s₁ B hml hv
  obtain ⟨rfl, hU⟩ := hv
  have hts := atoms_spec (ws := Cond.code yX9_ticksFrom prog_11_method_3_code 2 (Option.some FieldType.int) :: tbG) B.pre
  have hl := lv_entry ([.ref t0, .int v1]) (n := 2) (Nat.le_of_ble_eq_true rfl)
  rw [lg_entry_eq]
  generalize (lg_sl ([.ref t0, .int v1]) ++ List.replicate (2 - (lg_sl ([.ref t0, .int v1])).length) Slot.unset).toArray = ls at hl ⊢
  exact tX9_ticksFrom_0 ⟨B.exec, B.bytes, hml, findClass_of_methodNamed B.named, fun w hw => hts w (List.mem_cons_of_mem _ hw)⟩ B.returns B.notSynchronized t0 v1 h _ _ _ (hp_B.entry hU) hl hf
section
variable {p : Program} {l : Launch} {e : Env} {R : Room} {s : State} {m : MethodId} {args : Array Value} {below : List Frame} {meth : Method} {c : Code} {H : Heap} {locs : List Loc} {cells slots : Nat} {Q : State → Prop}
variable {cc : ByteArray} {pc nL : Nat} {ls : Array Slot} {rest : List Value} {D : va_G} {cA : Nat → ClassId} {A : Nat → Prop} {a : Nat} {h : Hp}
theorem cl_X9_87 {As st0 : List Value} {b : Nat} {Qc : Array Value → State → Outcome → State → Prop} (cx : CallFix p m c cc nL s args tbG RX9) (hB : hp_B D cA A s h H locs) (hM : hp_M l yX5_ticksOfHearingAll prog_7_method_6_code 1 (Option.some FieldType.int) rmX5_ticksOfHearingAll D cA h (.ref b :: As) Qc) (hkb : h.1 b = 6) (hR : rmX5_ticksOfHearingAll.frames + 1 ≤ R.frames ∧ 8 + (1 + 11) + rmX5_ticksOfHearingAll.locals ≤ R.locals) (hn : As.length = 0) (hls : ls.size = nL) (hst : st0 = As.reverse ++ .ref b :: rest) (hW : (rest.map fun v => v.category).sum ≤ 8) (hf : cells + rmX5_ticksOfHearingAll.cells ≤ R.cells ∧ slots + rmX5_ticksOfHearingAll.slots ≤ R.slots) (hdg : decode cc pc = .ok (.invokevirtual 87, 3)) :
    va_Run p l e R s m args below meth c H locs cells slots rmX5_ticksOfHearingAll.cells rmX5_ticksOfHearingAll.slots (F0 m pc ls st0) rest (Qc (Value.ref b :: As).toArray) (hp_A h) :=
  hp_runV cx hB hM (ci := 5) rfl (by decide) hkb qw_468 qw_465 qw_466 qw_467 qw_11 (by decide +kernel) hR hn hls hst hW hf hdg
theorem gf_X9_70 (cx : CallFix p m c cc nL s args tbG RX9) (hB : hp_B D cA A s h H locs) (hka : h.1 a = 6) (hdg : decode cc pc = .ok (.getfield 70, 3)) (kk : W p l e R s m args below meth c H locs cells slots Q (F0 m (pc + 3) ls (.int (h.2.2.1 a 3) :: rest))) : W p l e R s m args below meth c H locs cells slots Q (F0 m pc ls (.ref a :: rest)) :=
  hp_getI cx hB (ci := 5) 3 rfl inX5 (by decide) rfl (by decide) rfl qw_259 hka hdg kk
theorem cl_X9_36 {As st0 : List Value} {b : Nat} {Qc : Array Value → State → Outcome → State → Prop} (cx : CallFix p m c cc nL s args tbG RX9) (hB : hp_B D cA A s h H locs) (hM : hp_M l yX9_ticksFrom prog_11_method_3_code 2 (Option.some FieldType.int) rmX9_ticksFrom D cA h (.ref b :: As) Qc) (hkb : h.1 b = 10) (hR : rmX9_ticksFrom.frames + 1 ≤ R.frames ∧ 8 + (2 + 11) + rmX9_ticksFrom.locals ≤ R.locals) (hn : As.length = 1) (hls : ls.size = nL) (hst : st0 = As.reverse ++ .ref b :: rest) (hW : (rest.map fun v => v.category).sum ≤ 8) (hf : cells + rmX9_ticksFrom.cells ≤ R.cells ∧ slots + rmX9_ticksFrom.slots ≤ R.slots) (hdg : decode cc pc = .ok (.invokevirtual 36, 3)) :
    va_Run p l e R s m args below meth c H locs cells slots rmX9_ticksFrom.cells rmX9_ticksFrom.slots (F0 m pc ls st0) rest (Qc (Value.ref b :: As).toArray) (hp_A h) :=
  hp_runV cx hB hM (ci := 9) rfl (by decide) hkb qw_476 qw_473 qw_474 qw_475 qw_3 (by decide +kernel) hR hn hls hst hW hf hdg
theorem gf_X9_40 (cx : CallFix p m c cc nL s args tbG RX9) (hB : hp_B D cA A s h H locs) (hka : h.1 a = 6) (hdg : decode cc pc = .ok (.getfield 40, 3)) (kk : W p l e R s m args below meth c H locs cells slots Q (F0 m (pc + 3) ls (.int (h.2.2.1 a 6) :: rest))) : W p l e R s m args below meth c H locs cells slots Q (F0 m pc ls (.ref a :: rest)) :=
  hp_getI cx hB (ci := 5) 6 rfl inX5 (by decide) rfl (by decide) rfl qw_273 hka hdg kk
theorem gf_X9_43 (cx : CallFix p m c cc nL s args tbG RX9) (hB : hp_B D cA A s h H locs) (hka : h.1 a = 6) {b : Nat} (ho : h.2.2.2.1 a 5 = some b) (hdg : decode cc pc = .ok (.getfield 43, 3)) (kk : W p l e R s m args below meth c H locs cells slots Q (F0 m (pc + 3) ls (.ref b :: rest))) : W p l e R s m args below meth c H locs cells slots Q (F0 m pc ls (.ref a :: rest)) :=
  hp_getR cx hB (ci := 5) 5 rfl inX5 (by decide) rfl (by decide) rfl qw_265 hka (o := some b) ho.symm hdg kk
theorem gf_X9_47 (cx : CallFix p m c cc nL s args tbG RX9) (hB : hp_B D cA A s h H locs) (hka : h.1 a = 4) (hdg : decode cc pc = .ok (.getfield 47, 3)) (kk : W p l e R s m args below meth c H locs cells slots Q (F0 m (pc + 3) ls (.int (h.2.2.1 a 3) :: rest))) : W p l e R s m args below meth c H locs cells slots Q (F0 m pc ls (.ref a :: rest)) :=
  hp_getI cx hB (ci := 3) 3 rfl inX3 (by decide) rfl (by decide) rfl qw_346 hka hdg kk
end
abbrev yX9_leastAtMenu : MethodName := ⟨"SpokenMenus$Ways", "leastAtMenu", "(LSpokenMenus$Place;)I"⟩
theorem dX9_leastAtMenu_0 : decode prog_11_method_6_code 0 = .ok (.aload_n 1, 1) := by decide +kernel
theorem dX9_leastAtMenu_1 : decode prog_11_method_6_code 1 = .ok (.invokevirtual 87, 3) := by decide +kernel
theorem dX9_leastAtMenu_4 : decode prog_11_method_6_code 4 = .ok (.aload_n 0, 1) := by decide +kernel
theorem dX9_leastAtMenu_5 : decode prog_11_method_6_code 5 = .ok (.aload_n 1, 1) := by decide +kernel
theorem dX9_leastAtMenu_6 : decode prog_11_method_6_code 6 = .ok (.getfield 70, 3) := by decide +kernel
theorem dX9_leastAtMenu_9 : decode prog_11_method_6_code 9 = .ok (.invokevirtual 36, 3) := by decide +kernel
theorem dX9_leastAtMenu_12 : decode prog_11_method_6_code 12 = .ok (.iadd, 1) := by decide +kernel
theorem dX9_leastAtMenu_13 : decode prog_11_method_6_code 13 = .ok (.istore_n 2, 1) := by decide +kernel
theorem dX9_leastAtMenu_14 : decode prog_11_method_6_code 14 = .ok (.iconst 0, 1) := by decide +kernel
theorem dX9_leastAtMenu_15 : decode prog_11_method_6_code 15 = .ok (.istore_n 3, 1) := by decide +kernel
theorem dX9_leastAtMenu_16 : decode prog_11_method_6_code 16 = .ok (.iload_n 3, 1) := by decide +kernel
theorem dX9_leastAtMenu_17 : decode prog_11_method_6_code 17 = .ok (.aload_n 1, 1) := by decide +kernel
theorem dX9_leastAtMenu_18 : decode prog_11_method_6_code 18 = .ok (.getfield 40, 3) := by decide +kernel
theorem dX9_leastAtMenu_21 : decode prog_11_method_6_code 21 = .ok (.if_icmp .ge 29, 3) := by decide +kernel
theorem dX9_leastAtMenu_24 : decode prog_11_method_6_code 24 = .ok (.iload_n 2, 1) := by decide +kernel
theorem dX9_leastAtMenu_25 : decode prog_11_method_6_code 25 = .ok (.iconst 1, 1) := by decide +kernel
theorem dX9_leastAtMenu_26 : decode prog_11_method_6_code 26 = .ok (.aload_n 0, 1) := by decide +kernel
theorem dX9_leastAtMenu_27 : decode prog_11_method_6_code 27 = .ok (.aload_n 1, 1) := by decide +kernel
theorem dX9_leastAtMenu_28 : decode prog_11_method_6_code 28 = .ok (.getfield 43, 3) := by decide +kernel
theorem dX9_leastAtMenu_31 : decode prog_11_method_6_code 31 = .ok (.iload_n 3, 1) := by decide +kernel
theorem dX9_leastAtMenu_32 : decode prog_11_method_6_code 32 = .ok (.aaload, 1) := by decide +kernel
theorem dX9_leastAtMenu_33 : decode prog_11_method_6_code 33 = .ok (.getfield 47, 3) := by decide +kernel
theorem dX9_leastAtMenu_36 : decode prog_11_method_6_code 36 = .ok (.invokevirtual 36, 3) := by decide +kernel
theorem dX9_leastAtMenu_39 : decode prog_11_method_6_code 39 = .ok (.iadd, 1) := by decide +kernel
theorem dX9_leastAtMenu_40 : decode prog_11_method_6_code 40 = .ok (.invokestatic 91, 3) := by decide +kernel
theorem dX9_leastAtMenu_43 : decode prog_11_method_6_code 43 = .ok (.istore_n 2, 1) := by decide +kernel
theorem dX9_leastAtMenu_44 : decode prog_11_method_6_code 44 = .ok (.iinc 3 1, 3) := by decide +kernel
theorem dX9_leastAtMenu_47 : decode prog_11_method_6_code 47 = .ok (.goto (-31), 3) := by decide +kernel
theorem dX9_leastAtMenu_50 : decode prog_11_method_6_code 50 = .ok (.iload_n 2, 1) := by decide +kernel
theorem dX9_leastAtMenu_51 : decode prog_11_method_6_code 51 = .ok (.ireturn, 1) := by decide +kernel
abbrev rmX9_leastAtMenu : Room := { frames := 2, cells := 0, slots := 0, locals := 43 }
def bX9_leastAtMenu_16  (rc : Nat → Nat → Int32 → Int32 → Hp → Option (Int32 × Hp)) (t0 : Nat) (t1 : Nat) (v2 : Int32) (v3 : Int32) (h : Hp) : Option (Int32 × Hp) :=
  gk (h.1 t1) 6 <|
  if (h.2.2.1 t1 6) ≤ v3 then
  (some (v2, h))
  else
  (bd (h.2.2.2.1 t1 5) fun a3 =>
  gk (h.1 a3) 16 <|
  gd (ix v3 (h.2.1 a3)) <|
  bd (h.2.2.2.1 a3 (Int32.toNatClampNeg v3)) fun a7 =>
  gk (h.1 a7) 4 <|
  gk (h.1 t0) 10 <|
  b2 (fX9_ticksFrom t0 (h.2.2.1 a7 3) h) fun r13 g11 =>
  nm (if (1 + r13) < v2 then (1 + r13) else v2) fun x15 =>
  nm (v3 + 1) fun x16 =>
  rc t0 t1 x15 x16 g11)
def fX9_leastAtMenu_16  : Nat → Nat → Int32 → Int32 → Hp → Option (Int32 × Hp) := fx (bX9_leastAtMenu_16 ) (fun _ _ _ _ _ => none) NF
def fX9_leastAtMenu  (t0 : Nat) (w1 : Option Nat) (h : Hp) : Option (Int32 × Hp) :=
  bd w1 fun a1 =>
  gk (h.1 a1) 6 <|
  b2 (fX5_ticksOfHearingAll a1 h) fun r5 g3 =>
  gk (g3.1 a1) 6 <|
  gk (g3.1 t0) 10 <|
  b2 (fX9_ticksFrom t0 (g3.2.2.1 a1 3) g3) fun r11 g9 =>
  nm (r5 + r11) fun x13 =>
  fX9_leastAtMenu_16  t0 a1 x13 0 g9
section
variable {p : Program} {l : Launch} {e : Env} {s : State} {m : MethodId} {args : Array Value} {below : List Frame} {meth : Method} {c : Code} {D : va_G} {cA : Nat → ClassId} {h0 h9 : Hp}
set_option maxHeartbeats 4000000 in
set_option maxRecDepth 100000 in
theorem tX9_leastAtMenu_16  {r : Int32} (cx : CallFix p m c prog_11_method_6_code 4 s args tbG RX9) (hr : meth.sig.returnType = (Option.some FieldType.int)) (hlk : meth.locks = false)  (n : Nat) : ∀ (t0 : Nat) (t1 : Nat) (v2 : Int32) (v3 : Int32) (h : Hp) (H : Heap) (locs : List Loc) (ls : Array Slot), hp_B D cA (hp_A h0) s h H locs → lv_has ls 4 [(0, .ref t0), (1, .ref t1), (2, .int v2), (3, .int v3)] → fx (bX9_leastAtMenu_16 ) (fun _ _ _ _ _ => none) n t0 t1 v2 v3 h = some (r, h9) → W p l e rmX9_leastAtMenu s m args below meth c H locs 0 0 (MQ below (hp_Qi D cA h0 h9 r) args s 0 0 (hp_A h0)) (F0 m 16 ls []) := by
  obtain ⟨hx, hb, -⟩ := id cx
  induction n with
  | zero => intro t0 t1 v2 v3 h H locs ls hB hl hf; cases hf
  | succ n ih =>
    intro t0 t1 v2 v3 h H locs ls hB hl hf
    replace hf : bX9_leastAtMenu_16  (fx (bX9_leastAtMenu_16 ) (fun _ _ _ _ _ => none) n) t0 t1 v2 v3 h = some (r, h9) := hf
    unfold bX9_leastAtMenu_16 at hf
    refine lv_iload_n hx hb dX9_leastAtMenu_16 rfl (lv_at hl 3 rfl) ?_
    refine lv_aload_n hx hb dX9_leastAtMenu_17 rfl (lv_at hl 1 rfl) ?_
    obtain ⟨k1, hf⟩ := gk_ok hf
    refine gf_X9_40 cx hB k1 dX9_leastAtMenu_18 ?_
    refine lv_icmp_ge (tgt := 50) hx hb dX9_leastAtMenu_21 (by decide) (fun c2 => ?_) (fun c2 => ?_)
    · replace hf := it_t c2 hf
      refine lv_iload_n hx hb dX9_leastAtMenu_50 rfl (lv_at hl 2 rfl) ?_
      obtain ⟨rfl, rfl⟩ := rt_ok hf
      exact hp_iret cx hB hr hlk (Nat.le_of_ble_eq_true rfl) (Nat.le_of_ble_eq_true rfl) dX9_leastAtMenu_51
    · replace hf := it_f c2 hf
      refine lv_iload_n hx hb dX9_leastAtMenu_24 rfl (lv_at hl 2 rfl) ?_
      refine lv_iconst (v := 1) hx hb dX9_leastAtMenu_25 (by decide) ?_
      refine lv_aload_n hx hb dX9_leastAtMenu_26 rfl (lv_at hl 0 rfl) ?_
      refine lv_aload_n hx hb dX9_leastAtMenu_27 rfl (lv_at hl 1 rfl) ?_
      obtain ⟨a3, q4, hf⟩ := bd_ok hf
      refine gf_X9_43 cx hB k1 q4 dX9_leastAtMenu_28 ?_
      refine lv_iload_n hx hb dX9_leastAtMenu_31 rfl (lv_at hl 3 rfl) ?_
      obtain ⟨k5, hf⟩ := gk_ok hf
      obtain ⟨j6, hf⟩ := gd_ok hf
      obtain ⟨a7, q8, hf⟩ := bd_ok hf
      refine hp_aald cx hB 16 (.object RX3) (by decide) rfl rfl k5 j6 (o := some a7) q8.symm dX9_leastAtMenu_32 ?_
      obtain ⟨k9, hf⟩ := gk_ok hf
      refine gf_X9_47 cx hB k9 dX9_leastAtMenu_33 ?_
      obtain ⟨k10, hf⟩ := gk_ok hf
      obtain ⟨r13, g11, m12, hf⟩ := b2_ok hf
      refine hp_cI0 (cl_X9_36 cx hB (cX9_ticksFrom l D cA t0 (h.2.2.1 a7 3) h _ g11 m12) k10 ⟨Nat.le_of_ble_eq_true rfl, Nat.le_of_ble_eq_true rfl⟩ rfl hl.1 rfl (Nat.le_of_ble_eq_true rfl) ⟨Nat.le_of_ble_eq_true rfl, Nat.le_of_ble_eq_true rfl⟩ dX9_leastAtMenu_36) rfl rfl hB (fun H locs hB => ?_)
      refine lv_iadd hx hb dX9_leastAtMenu_39 ?_
      refine va_mmin hx hb (by rw [cx.2.2.1, hl.1]) cx.2.2.2.1 (cx.2.2.2.2 _ (tb_in qw_477 rfl)) (cx.2.2.2.2 _ (tb_in qw_478 rfl)) (cx.2.2.2.2 _ (tb_in qw_14 rfl)) (cx.2.2.2.2 _ (tb_in qw_479 rfl)) (Nat.le_of_ble_eq_true rfl) (Nat.le_of_ble_eq_true rfl) (Nat.le_of_ble_eq_true rfl) (Nat.le_of_ble_eq_true rfl) dX9_leastAtMenu_40 ?_
      obtain ⟨x15, ex15, hf⟩ := nm_ok hf
      refine lv_ren ex15 ?_
      refine lv_istore_n (lv' := [(2, .int x15), (0, .ref t0), (1, .ref t1), (3, .int v3)]) hx hb dX9_leastAtMenu_43 rfl hl (by decide) rfl (fun ls hl => ?_)
      obtain ⟨x16, ex16, hf⟩ := nm_ok hf
      refine lv_iinc (v := x16) (lv' := [(3, .int x16), (2, .int x15), (0, .ref t0), (1, .ref t1)]) hx hb dX9_leastAtMenu_44 hl (k := 3) rfl (by rw [ex16]; rfl) (by decide) rfl (fun ls hl => ?_)
      refine lv_goto (tgt := 16) hx hb dX9_leastAtMenu_47 (by decide) ?_
      exact ih t0 t1 x15 x16 g11 _ _ _ hB (lv_sub hl [2, 3, 1, 0] rfl) hf
set_option maxHeartbeats 4000000 in
set_option maxRecDepth 100000 in
theorem tX9_leastAtMenu_0  {r : Int32} (cx : CallFix p m c prog_11_method_6_code 4 s args tbG RX9) (hr : meth.sig.returnType = (Option.some FieldType.int)) (hlk : meth.locks = false)  (t0 : Nat) (w1 : Option Nat) (h : Hp) (H : Heap) (locs : List Loc) (ls : Array Slot) (hB : hp_B D cA (hp_A h0) s h H locs) (hl : lv_has ls 4 [(0, .ref t0), (1, va_rf w1)]) (hf : fX9_leastAtMenu  t0 w1 h = some (r, h9)) : W p l e rmX9_leastAtMenu s m args below meth c H locs 0 0 (MQ below (hp_Qi D cA h0 h9 r) args s 0 0 (hp_A h0)) (F0 m 0 ls []) := by
  obtain ⟨hx, hb, -⟩ := id cx
  unfold fX9_leastAtMenu at hf
  refine lq_aload_n hx hb dX9_leastAtMenu_0 rfl (lv_at hl 1 rfl) ?_
  obtain ⟨a1, eo, hf⟩ := bd_ok hf
  subst eo
  obtain ⟨k2, hf⟩ := gk_ok hf
  obtain ⟨r5, g3, m4, hf⟩ := b2_ok hf
  refine hp_cI0 (cl_X9_87 cx hB (cX5_ticksOfHearingAll l D cA a1 h _ g3 m4) k2 ⟨Nat.le_of_ble_eq_true rfl, Nat.le_of_ble_eq_true rfl⟩ rfl hl.1 rfl (Nat.le_of_ble_eq_true rfl) ⟨Nat.le_of_ble_eq_true rfl, Nat.le_of_ble_eq_true rfl⟩ dX9_leastAtMenu_1) rfl rfl hB (fun H locs hB => ?_)
  refine lv_aload_n hx hb dX9_leastAtMenu_4 rfl (lv_at hl 0 rfl) ?_
  refine lv_aload_n hx hb dX9_leastAtMenu_5 rfl (lv_at hl 1 rfl) ?_
  obtain ⟨k7, hf⟩ := gk_ok hf
  refine gf_X9_70 cx hB k7 dX9_leastAtMenu_6 ?_
  obtain ⟨k8, hf⟩ := gk_ok hf
  obtain ⟨r11, g9, m10, hf⟩ := b2_ok hf
  refine hp_cI0 (cl_X9_36 cx hB (cX9_ticksFrom l D cA t0 (g3.2.2.1 a1 3) g3 _ g9 m10) k8 ⟨Nat.le_of_ble_eq_true rfl, Nat.le_of_ble_eq_true rfl⟩ rfl hl.1 rfl (Nat.le_of_ble_eq_true rfl) ⟨Nat.le_of_ble_eq_true rfl, Nat.le_of_ble_eq_true rfl⟩ dX9_leastAtMenu_9) rfl rfl hB (fun H locs hB => ?_)
  refine lv_iadd hx hb dX9_leastAtMenu_12 ?_
  obtain ⟨x13, ex13, hf⟩ := nm_ok hf
  refine lv_ren ex13 ?_
  refine lv_istore_n (lv' := [(2, .int x13), (0, .ref t0), (1, .ref a1)]) hx hb dX9_leastAtMenu_13 rfl hl (by decide) rfl (fun ls hl => ?_)
  refine lv_iconst (v := 0) hx hb dX9_leastAtMenu_14 (by decide) ?_
  refine lv_istore_n (lv' := [(3, .int 0), (2, .int x13), (0, .ref t0), (1, .ref a1)]) hx hb dX9_leastAtMenu_15 rfl hl (by decide) rfl (fun ls hl => ?_)
  exact tX9_leastAtMenu_16 cx hr hlk  NF t0 a1 x13 0 g9 _ _ _ hB (lv_sub hl [2, 3, 1, 0] rfl) hf
end
set_option maxHeartbeats 4000000 in
set_option maxRecDepth 100000 in
theorem cX9_leastAtMenu (l : Launch) (D : va_G) (cA : Nat → ClassId) (t0 : Nat) (w1 : Option Nat) (h : Hp) (r : Int32) (h9 : Hp) (hf : fX9_leastAtMenu t0 w1 h = some (r, h9)) : hp_M l yX9_leastAtMenu prog_11_method_6_code 4 (Option.some FieldType.int) rmX9_leastAtMenu D cA h [.ref t0, va_rf w1] (hp_Qi D cA h h9 r) := by
  refine Met.ofW (cc := prog_11_method_6_code) (maxL := 4) (ret := (Option.some FieldType.int)) (by decide) rfl ?_
  intro p e s m args below meth c s₁ B hml hv
  obtain ⟨rfl, hU⟩ := hv
  have hts := atoms_spec (ws := Cond.code yX9_leastAtMenu prog_11_method_6_code 4 (Option.some FieldType.int) :: tbG) B.pre
  have hl := lv_entry ([.ref t0, va_rf w1]) (n := 4) (by simp [lg_sl, va_rf_cat, cat_i, cat_r, cat_n])
  rw [show lv_args 0 ([.ref t0, va_rf w1]) = [(0, .ref t0), (1, va_rf w1)] by simp [lv_args, va_rf_cat, cat_i, cat_r, cat_n]] at hl
  rw [lg_entry_eq]
  generalize (lg_sl ([.ref t0, va_rf w1]) ++ List.replicate (4 - (lg_sl ([.ref t0, va_rf w1])).length) Slot.unset).toArray = ls at hl ⊢
  exact tX9_leastAtMenu_0 ⟨B.exec, B.bytes, hml, findClass_of_methodNamed B.named, fun w hw => hts w (List.mem_cons_of_mem _ hw)⟩ B.returns B.notSynchronized t0 w1 h _ _ _ (hp_B.entry hU) hl hf
