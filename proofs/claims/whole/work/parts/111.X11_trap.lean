section
variable {p : Program} {l : Launch} {e : Env} {R : Room} {s : State} {m : MethodId} {args : Array Value} {below : List Frame} {meth : Method} {c : Code} {H : Heap} {locs : List Loc} {cells slots : Nat} {Q : State → Prop}
variable {cc : ByteArray} {pc nL : Nat} {ls : Array Slot} {rest : List Value} {D : va_G} {cA : Nat → ClassId} {A : Nat → Prop} {a : Nat} {h : Hp}
theorem cl_X11_261 {As st0 : List Value} {b : Nat} {Qc : Array Value → State → Outcome → State → Prop} (cx : CallFix p m c cc nL s args tbG RX11) (hB : hp_B D cA A s h H locs) (hM : hp_M l yX11_layTraps prog_13_method_41_code 4 none rmX11_layTraps D cA h (.ref b :: As) Qc) (hkb : h.1 b = 12) (hR : rmX11_layTraps.frames + 1 ≤ R.frames ∧ 8 + (4 + 11) + rmX11_layTraps.locals ≤ R.locals) (hn : As.length = 0) (hls : ls.size = nL) (hst : st0 = As.reverse ++ .ref b :: rest) (hW : (rest.map fun v => v.category).sum ≤ 8) (hf : cells + rmX11_layTraps.cells ≤ R.cells ∧ slots + rmX11_layTraps.slots ≤ R.slots) (hdg : decode cc pc = .ok (.invokevirtual 261, 3)) :
    va_Run p l e R s m args below meth c H locs cells slots rmX11_layTraps.cells rmX11_layTraps.slots (F0 m pc ls st0) rest (Qc (Value.ref b :: As).toArray) (hp_A h) :=
  hp_runV cx hB hM (ci := 11) rfl (by decide) hkb qw_1061 qw_1058 qw_1060 qp_34 qw_10 (by decide +kernel) hR hn hls hst hW hf hdg
end
abbrev yX11_trap : MethodName := ⟨"SpokenMenusModel", "trap", "(II)I"⟩
theorem dX11_trap_0 : decode prog_13_method_42_code 0 = .ok (.iload_n 1, 1) := by decide +kernel
theorem dX11_trap_1 : decode prog_13_method_42_code 1 = .ok (.iconst 0, 1) := by decide +kernel
theorem dX11_trap_2 : decode prog_13_method_42_code 2 = .ok (.bipush 23, 2) := by decide +kernel
theorem dX11_trap_4 : decode prog_13_method_42_code 4 = .ok (.invokestatic 129, 3) := by decide +kernel
theorem dX11_trap_7 : decode prog_13_method_42_code 7 = .ok (.ifCond .eq 8, 3) := by decide +kernel
theorem dX11_trap_10 : decode prog_13_method_42_code 10 = .ok (.iload_n 2, 1) := by decide +kernel
theorem dX11_trap_11 : decode prog_13_method_42_code 11 = .ok (.iconst (-1), 1) := by decide +kernel
theorem dX11_trap_12 : decode prog_13_method_42_code 12 = .ok (.if_icmp .ge 5, 3) := by decide +kernel
theorem dX11_trap_15 : decode prog_13_method_42_code 15 = .ok (.iconst (-1), 1) := by decide +kernel
theorem dX11_trap_16 : decode prog_13_method_42_code 16 = .ok (.ireturn, 1) := by decide +kernel
theorem dX11_trap_17 : decode prog_13_method_42_code 17 = .ok (.aload_n 0, 1) := by decide +kernel
theorem dX11_trap_18 : decode prog_13_method_42_code 18 = .ok (.getfield 125, 3) := by decide +kernel
theorem dX11_trap_21 : decode prog_13_method_42_code 21 = .ok (.ifCond .ne 6, 3) := by decide +kernel
theorem dX11_trap_24 : decode prog_13_method_42_code 24 = .ok (.bipush (-2), 2) := by decide +kernel
theorem dX11_trap_26 : decode prog_13_method_42_code 26 = .ok (.ireturn, 1) := by decide +kernel
theorem dX11_trap_27 : decode prog_13_method_42_code 27 = .ok (.aload_n 0, 1) := by decide +kernel
theorem dX11_trap_28 : decode prog_13_method_42_code 28 = .ok (.iload_n 1, 1) := by decide +kernel
theorem dX11_trap_29 : decode prog_13_method_42_code 29 = .ok (.putfield 163, 3) := by decide +kernel
theorem dX11_trap_32 : decode prog_13_method_42_code 32 = .ok (.aload_n 0, 1) := by decide +kernel
theorem dX11_trap_33 : decode prog_13_method_42_code 33 = .ok (.invokevirtual 261, 3) := by decide +kernel
theorem dX11_trap_36 : decode prog_13_method_42_code 36 = .ok (.iconst 0, 1) := by decide +kernel
theorem dX11_trap_37 : decode prog_13_method_42_code 37 = .ok (.istore_n 3, 1) := by decide +kernel
theorem dX11_trap_38 : decode prog_13_method_42_code 38 = .ok (.iconst 0, 1) := by decide +kernel
theorem dX11_trap_39 : decode prog_13_method_42_code 39 = .ok (.istore 4, 2) := by decide +kernel
theorem dX11_trap_41 : decode prog_13_method_42_code 41 = .ok (.iload 4, 2) := by decide +kernel
theorem dX11_trap_43 : decode prog_13_method_42_code 43 = .ok (.aload_n 0, 1) := by decide +kernel
theorem dX11_trap_44 : decode prog_13_method_42_code 44 = .ok (.getfield 125, 3) := by decide +kernel
theorem dX11_trap_47 : decode prog_13_method_42_code 47 = .ok (.if_icmp .ge 40, 3) := by decide +kernel
theorem dX11_trap_50 : decode prog_13_method_42_code 50 = .ok (.aload_n 0, 1) := by decide +kernel
theorem dX11_trap_51 : decode prog_13_method_42_code 51 = .ok (.getfield 95, 3) := by decide +kernel
theorem dX11_trap_54 : decode prog_13_method_42_code 54 = .ok (.iload 4, 2) := by decide +kernel
theorem dX11_trap_56 : decode prog_13_method_42_code 56 = .ok (.baload, 1) := by decide +kernel
theorem dX11_trap_57 : decode prog_13_method_42_code 57 = .ok (.ifCond .eq 24, 3) := by decide +kernel
theorem dX11_trap_60 : decode prog_13_method_42_code 60 = .ok (.aload_n 0, 1) := by decide +kernel
theorem dX11_trap_61 : decode prog_13_method_42_code 61 = .ok (.getfield 98, 3) := by decide +kernel
theorem dX11_trap_64 : decode prog_13_method_42_code 64 = .ok (.iload 4, 2) := by decide +kernel
theorem dX11_trap_66 : decode prog_13_method_42_code 66 = .ok (.baload, 1) := by decide +kernel
theorem dX11_trap_67 : decode prog_13_method_42_code 67 = .ok (.ifCond .ne 14, 3) := by decide +kernel
theorem dX11_trap_70 : decode prog_13_method_42_code 70 = .ok (.iload_n 3, 1) := by decide +kernel
theorem dX11_trap_71 : decode prog_13_method_42_code 71 = .ok (.iload_n 2, 1) := by decide +kernel
theorem dX11_trap_72 : decode prog_13_method_42_code 72 = .ok (.if_icmp .ne 6, 3) := by decide +kernel
theorem dX11_trap_75 : decode prog_13_method_42_code 75 = .ok (.iload 4, 2) := by decide +kernel
theorem dX11_trap_77 : decode prog_13_method_42_code 77 = .ok (.ireturn, 1) := by decide +kernel
theorem dX11_trap_78 : decode prog_13_method_42_code 78 = .ok (.iinc 3 1, 3) := by decide +kernel
theorem dX11_trap_81 : decode prog_13_method_42_code 81 = .ok (.iinc 4 1, 3) := by decide +kernel
theorem dX11_trap_84 : decode prog_13_method_42_code 84 = .ok (.goto (-43), 3) := by decide +kernel
theorem dX11_trap_87 : decode prog_13_method_42_code 87 = .ok (.iload_n 2, 1) := by decide +kernel
theorem dX11_trap_88 : decode prog_13_method_42_code 88 = .ok (.ifCond .ge 7, 3) := by decide +kernel
theorem dX11_trap_91 : decode prog_13_method_42_code 91 = .ok (.iload_n 3, 1) := by decide +kernel
theorem dX11_trap_92 : decode prog_13_method_42_code 92 = .ok (.goto 5, 3) := by decide +kernel
theorem dX11_trap_95 : decode prog_13_method_42_code 95 = .ok (.bipush (-4), 2) := by decide +kernel
theorem dX11_trap_97 : decode prog_13_method_42_code 97 = .ok (.ireturn, 1) := by decide +kernel
abbrev rmX11_trap : Room := { frames := 4, cells := 0, slots := 0, locals := 91 }
def bX11_trap_41  (rc : Nat → Int32 → Int32 → Int32 → Hp → Option (Int32 × Hp)) (t0 : Nat) (v2 : Int32) (v3 : Int32) (v4 : Int32) (h : Hp) : Option (Int32 × Hp) :=
  gk (h.1 t0) 12 <|
  if (h.2.2.1 t0 0) ≤ v4 then
  (if 0 ≤ v2 then
  (some ((-4), h))
  else
  (some (v3, h)))
  else
  (bd (h.2.2.2.1 t0 45) fun a4 =>
  gk (h.1 a4) 14 <|
  gd (ix v4 (h.2.1 a4)) <|
  if (h.2.2.1 a4 (Int32.toNatClampNeg v4)) = 0 then
  (nm (v4 + 1) fun x9 =>
  rc t0 v2 v3 x9 h)
  else
  (bd (h.2.2.2.1 t0 46) fun a10 =>
  gk (h.1 a10) 14 <|
  gd (ix v4 (h.2.1 a10)) <|
  if (h.2.2.1 a10 (Int32.toNatClampNeg v4)) = 0 then
  (if v3 = v2 then
  (some (v4, h))
  else
  (nm (v3 + 1) fun x17 =>
  nm (v4 + 1) fun x18 =>
  rc t0 v2 x17 x18 h))
  else
  (nm (v4 + 1) fun x15 =>
  rc t0 v2 v3 x15 h)))
def fX11_trap_41  : Nat → Int32 → Int32 → Int32 → Hp → Option (Int32 × Hp) := fx (bX11_trap_41 ) (fun _ _ _ _ _ => none) NF
def fX11_trap  (t0 : Nat) (v1 : Int32) (v2 : Int32) (h : Hp) : Option (Int32 × Hp) :=
  b2 (fX11_in v1 0 23 h) fun r3 g1 =>
  if r3 = 0 then
  (some ((-1), g1))
  else
  (if (-1) ≤ v2 then
  (gk (g1.1 t0) 12 <|
  if (g1.2.2.1 t0 0) = 0 then
  (some ((-2), g1))
  else
  (nm (hp_si g1 t0 35 v1) fun g9 =>
  b2 (fX11_layTraps t0 g9) fun _ g11 =>
  fX11_trap_41  t0 v2 0 0 g11))
  else
  (some ((-1), g1)))
section
variable {p : Program} {l : Launch} {e : Env} {s : State} {m : MethodId} {args : Array Value} {below : List Frame} {meth : Method} {c : Code} {D : va_G} {cA : Nat → ClassId} {h0 h9 : Hp}
set_option maxHeartbeats 4000000 in
set_option maxRecDepth 100000 in
theorem tX11_trap_41  {r : Int32} (cx : CallFix p m c prog_13_method_42_code 5 s args tbG RX11) (hr : meth.sig.returnType = (Option.some FieldType.int)) (hlk : meth.locks = false)  (n : Nat) : ∀ (t0 : Nat) (v2 : Int32) (v3 : Int32) (v4 : Int32) (h : Hp) (H : Heap) (locs : List Loc) (ls : Array Slot), hp_B D cA (hp_A h0) s h H locs → lv_has ls 5 [(0, .ref t0), (2, .int v2), (3, .int v3), (4, .int v4)] → fx (bX11_trap_41 ) (fun _ _ _ _ _ => none) n t0 v2 v3 v4 h = some (r, h9) → W p l e rmX11_trap s m args below meth c H locs 0 0 (MQ below (hp_Qi D cA h0 h9 r) args s 0 0 (hp_A h0)) (F0 m 41 ls []) := by
  obtain ⟨hx, hb, -⟩ := id cx
  induction n with
  | zero => intro t0 v2 v3 v4 h H locs ls hB hl hf; cases hf
  | succ n ih =>
    intro t0 v2 v3 v4 h H locs ls hB hl hf
    replace hf : bX11_trap_41  (fx (bX11_trap_41 ) (fun _ _ _ _ _ => none) n) t0 v2 v3 v4 h = some (r, h9) := hf
    unfold bX11_trap_41 at hf
    refine lv_iload hx hb dX11_trap_41 (lv_at hl 3 rfl) ?_
    refine lv_aload_n hx hb dX11_trap_43 rfl (lv_at hl 0 rfl) ?_
    obtain ⟨k1, hf⟩ := gk_ok hf
    refine gf_X11_125 cx hB k1 dX11_trap_44 ?_
    refine lv_icmp_ge (tgt := 87) hx hb dX11_trap_47 (by decide) (fun c2 => ?_) (fun c2 => ?_)
    · replace hf := it_t c2 hf
      refine lv_iload_n hx hb dX11_trap_87 rfl (lv_at hl 1 rfl) ?_
      refine lv_if_ge (tgt := 95) hx hb dX11_trap_88 (by decide) (fun c3 => ?_) (fun c3 => ?_)
      · replace hf := it_t c3 hf
        refine lv_bipush (v := (-4)) hx hb dX11_trap_95 (by decide) ?_
        obtain ⟨rfl, rfl⟩ := rt_ok hf
        exact hp_iret cx hB hr hlk (Nat.le_of_ble_eq_true rfl) (Nat.le_of_ble_eq_true rfl) dX11_trap_97
      · replace hf := it_f c3 hf
        refine lv_iload_n hx hb dX11_trap_91 rfl (lv_at hl 2 rfl) ?_
        refine lv_goto (tgt := 97) hx hb dX11_trap_92 (by decide) ?_
        obtain ⟨rfl, rfl⟩ := rt_ok hf
        exact hp_iret cx hB hr hlk (Nat.le_of_ble_eq_true rfl) (Nat.le_of_ble_eq_true rfl) dX11_trap_97
    · replace hf := it_f c2 hf
      refine lv_aload_n hx hb dX11_trap_50 rfl (lv_at hl 0 rfl) ?_
      obtain ⟨a4, q5, hf⟩ := bd_ok hf
      refine gf_X11_95 cx hB k1 q5 dX11_trap_51 ?_
      refine lv_iload hx hb dX11_trap_54 (lv_at hl 3 rfl) ?_
      obtain ⟨k6, hf⟩ := gk_ok hf
      obtain ⟨j7, hf⟩ := gd_ok hf
      refine hp_zald cx hB k6 j7 dX11_trap_56 ?_
      refine lv_if_eq (tgt := 81) hx hb dX11_trap_57 (by decide) (fun c8 => ?_) (fun c8 => ?_)
      · replace hf := it_t c8 hf
        obtain ⟨x9, ex9, hf⟩ := nm_ok hf
        refine lv_iinc (v := x9) (lv' := [(4, .int x9), (0, .ref t0), (2, .int v2), (3, .int v3)]) hx hb dX11_trap_81 hl (k := 3) rfl (by rw [ex9]; rfl) (by decide) rfl (fun ls hl => ?_)
        refine lv_goto (tgt := 41) hx hb dX11_trap_84 (by decide) ?_
        exact ih t0 v2 v3 x9 h _ _ _ hB (lv_sub hl [1, 2, 3, 0] rfl) hf
      · replace hf := it_f c8 hf
        refine lv_aload_n hx hb dX11_trap_60 rfl (lv_at hl 0 rfl) ?_
        obtain ⟨a10, q11, hf⟩ := bd_ok hf
        refine gf_X11_98 cx hB k1 q11 dX11_trap_61 ?_
        refine lv_iload hx hb dX11_trap_64 (lv_at hl 3 rfl) ?_
        obtain ⟨k12, hf⟩ := gk_ok hf
        obtain ⟨j13, hf⟩ := gd_ok hf
        refine hp_zald cx hB k12 j13 dX11_trap_66 ?_
        refine lv_if_ne (tgt := 81) hx hb dX11_trap_67 (by decide) (fun c14 => ?_) (fun c14 => ?_)
        · replace hf := it_f c14 hf
          obtain ⟨x15, ex15, hf⟩ := nm_ok hf
          refine lv_iinc (v := x15) (lv' := [(4, .int x15), (0, .ref t0), (2, .int v2), (3, .int v3)]) hx hb dX11_trap_81 hl (k := 3) rfl (by rw [ex15]; rfl) (by decide) rfl (fun ls hl => ?_)
          refine lv_goto (tgt := 41) hx hb dX11_trap_84 (by decide) ?_
          exact ih t0 v2 v3 x15 h _ _ _ hB (lv_sub hl [1, 2, 3, 0] rfl) hf
        · replace hf := it_t c14 hf
          refine lv_iload_n hx hb dX11_trap_70 rfl (lv_at hl 2 rfl) ?_
          refine lv_iload_n hx hb dX11_trap_71 rfl (lv_at hl 1 rfl) ?_
          refine lv_icmp_ne (tgt := 78) hx hb dX11_trap_72 (by decide) (fun c16 => ?_) (fun c16 => ?_)
          · replace hf := it_f c16 hf
            obtain ⟨x17, ex17, hf⟩ := nm_ok hf
            refine lv_iinc (v := x17) (lv' := [(3, .int x17), (0, .ref t0), (2, .int v2), (4, .int v4)]) hx hb dX11_trap_78 hl (k := 2) rfl (by rw [ex17]; rfl) (by decide) rfl (fun ls hl => ?_)
            obtain ⟨x18, ex18, hf⟩ := nm_ok hf
            refine lv_iinc (v := x18) (lv' := [(4, .int x18), (3, .int x17), (0, .ref t0), (2, .int v2)]) hx hb dX11_trap_81 hl (k := 3) rfl (by rw [ex18]; rfl) (by decide) rfl (fun ls hl => ?_)
            refine lv_goto (tgt := 41) hx hb dX11_trap_84 (by decide) ?_
            exact ih t0 v2 x17 x18 h _ _ _ hB (lv_sub hl [2, 3, 1, 0] rfl) hf
          · replace hf := it_t c16 hf
            refine lv_iload hx hb dX11_trap_75 (lv_at hl 3 rfl) ?_
            obtain ⟨rfl, rfl⟩ := rt_ok hf
            exact hp_iret cx hB hr hlk (Nat.le_of_ble_eq_true rfl) (Nat.le_of_ble_eq_true rfl) dX11_trap_77
set_option maxHeartbeats 4000000 in
set_option maxRecDepth 100000 in
theorem tX11_trap_0  {r : Int32} (cx : CallFix p m c prog_13_method_42_code 5 s args tbG RX11) (hr : meth.sig.returnType = (Option.some FieldType.int)) (hlk : meth.locks = false)  (t0 : Nat) (v1 : Int32) (v2 : Int32) (h : Hp) (H : Heap) (locs : List Loc) (ls : Array Slot) (hB : hp_B D cA (hp_A h0) s h H locs) (hl : lv_has ls 5 [(0, .ref t0), (1, .int v1), (2, .int v2)]) (hf : fX11_trap  t0 v1 v2 h = some (r, h9)) : W p l e rmX11_trap s m args below meth c H locs 0 0 (MQ below (hp_Qi D cA h0 h9 r) args s 0 0 (hp_A h0)) (F0 m 0 ls []) := by
  obtain ⟨hx, hb, -⟩ := id cx
  unfold fX11_trap at hf
  refine lv_iload_n hx hb dX11_trap_0 rfl (lv_at hl 1 rfl) ?_
  refine lv_iconst (v := 0) hx hb dX11_trap_1 (by decide) ?_
  refine lv_bipush (v := 23) hx hb dX11_trap_2 (by decide) ?_
  obtain ⟨r3, g1, m2, hf⟩ := b2_ok hf
  refine hp_cI0 (cl_X11_129 cx hB (cX11_in l D cA v1 0 23 h _ g1 m2) ⟨Nat.le_of_ble_eq_true rfl, Nat.le_of_ble_eq_true rfl⟩ rfl hl.1 rfl (Nat.le_of_ble_eq_true rfl) ⟨Nat.le_of_ble_eq_true rfl, Nat.le_of_ble_eq_true rfl⟩ dX11_trap_4) rfl rfl hB (fun H locs hB => ?_)
  refine lv_if_eq (tgt := 15) hx hb dX11_trap_7 (by decide) (fun c5 => ?_) (fun c5 => ?_)
  · replace hf := it_t c5 hf
    refine lv_iconst (v := (-1)) hx hb dX11_trap_15 (by decide) ?_
    obtain ⟨rfl, rfl⟩ := rt_ok hf
    exact hp_iret cx hB hr hlk (Nat.le_of_ble_eq_true rfl) (Nat.le_of_ble_eq_true rfl) dX11_trap_16
  · replace hf := it_f c5 hf
    refine lv_iload_n hx hb dX11_trap_10 rfl (lv_at hl 2 rfl) ?_
    refine lv_iconst (v := (-1)) hx hb dX11_trap_11 (by decide) ?_
    refine lv_icmp_ge (tgt := 17) hx hb dX11_trap_12 (by decide) (fun c6 => ?_) (fun c6 => ?_)
    · replace hf := it_t c6 hf
      refine lv_aload_n hx hb dX11_trap_17 rfl (lv_at hl 0 rfl) ?_
      obtain ⟨k7, hf⟩ := gk_ok hf
      refine gf_X11_125 cx hB k7 dX11_trap_18 ?_
      refine lv_if_ne (tgt := 27) hx hb dX11_trap_21 (by decide) (fun c8 => ?_) (fun c8 => ?_)
      · replace hf := it_f c8 hf
        refine lv_aload_n hx hb dX11_trap_27 rfl (lv_at hl 0 rfl) ?_
        refine lv_iload_n hx hb dX11_trap_28 rfl (lv_at hl 1 rfl) ?_
        obtain ⟨g9, eg9, hf⟩ := nm_ok hf
        refine pf_X11_163 cx hB k7 dX11_trap_29 (fun H locs hB => ?_)
        rw [← eg9] at hB
        refine lv_aload_n hx hb dX11_trap_32 rfl (lv_at hl 0 rfl) ?_
        have k10 : g9.1 t0 = 12 := by rw [eg9]; exact k7
        obtain ⟨uu, g11, m12, hf⟩ := b2_ok hf
        refine hp_cV0 (cl_X11_261 cx hB (cX11_layTraps l D cA t0 g9 _ g11 m12) k10 ⟨Nat.le_of_ble_eq_true rfl, Nat.le_of_ble_eq_true rfl⟩ rfl hl.1 rfl (Nat.le_of_ble_eq_true rfl) ⟨Nat.le_of_ble_eq_true rfl, Nat.le_of_ble_eq_true rfl⟩ dX11_trap_33) rfl rfl hB (fun H locs hB => ?_)
        refine lv_iconst (v := 0) hx hb dX11_trap_36 (by decide) ?_
        refine lv_istore_n (lv' := [(3, .int 0), (0, .ref t0), (1, .int v1), (2, .int v2)]) hx hb dX11_trap_37 rfl hl (by decide) rfl (fun ls hl => ?_)
        refine lv_iconst (v := 0) hx hb dX11_trap_38 (by decide) ?_
        refine lv_istore (lv' := [(4, .int 0), (3, .int 0), (0, .ref t0), (1, .int v1), (2, .int v2)]) hx hb dX11_trap_39 hl (by decide) rfl (fun ls hl => ?_)
        exact tX11_trap_41 cx hr hlk  NF t0 v2 0 0 g11 _ _ _ hB (lv_sub hl [2, 4, 1, 0] rfl) hf
      · replace hf := it_t c8 hf
        refine lv_bipush (v := (-2)) hx hb dX11_trap_24 (by decide) ?_
        obtain ⟨rfl, rfl⟩ := rt_ok hf
        exact hp_iret cx hB hr hlk (Nat.le_of_ble_eq_true rfl) (Nat.le_of_ble_eq_true rfl) dX11_trap_26
    · replace hf := it_f c6 hf
      refine lv_iconst (v := (-1)) hx hb dX11_trap_15 (by decide) ?_
      obtain ⟨rfl, rfl⟩ := rt_ok hf
      exact hp_iret cx hB hr hlk (Nat.le_of_ble_eq_true rfl) (Nat.le_of_ble_eq_true rfl) dX11_trap_16
end
set_option maxHeartbeats 4000000 in
set_option maxRecDepth 100000 in
theorem cX11_trap (l : Launch) (D : va_G) (cA : Nat → ClassId) (t0 : Nat) (v1 : Int32) (v2 : Int32) (h : Hp) (r : Int32) (h9 : Hp) (hf : fX11_trap t0 v1 v2 h = some (r, h9)) : hp_M l yX11_trap prog_13_method_42_code 5 (Option.some FieldType.int) rmX11_trap D cA h [.ref t0, .int v1, .int v2] (hp_Qi D cA h h9 r) := by
  refine Met.ofW (cc := prog_13_method_42_code) (maxL := 5) (ret := (Option.some FieldType.int)) (by decide) rfl ?_
  intro p e s m args below meth c s₁ B hml hv
  obtain ⟨rfl, hU⟩ := hv
  have hts := atoms_spec (ws := Cond.code yX11_trap prog_13_method_42_code 5 (Option.some FieldType.int) :: tbG) B.pre
  have hl := lv_entry ([.ref t0, .int v1, .int v2]) (n := 5) (Nat.le_of_ble_eq_true rfl)
  rw [lg_entry_eq]
  generalize (lg_sl ([.ref t0, .int v1, .int v2]) ++ List.replicate (5 - (lg_sl ([.ref t0, .int v1, .int v2])).length) Slot.unset).toArray = ls at hl ⊢
  exact tX11_trap_0 ⟨B.exec, B.bytes, hml, findClass_of_methodNamed B.named, fun w hw => hts w (List.mem_cons_of_mem _ hw)⟩ B.returns B.notSynchronized t0 v1 v2 h _ _ _ (hp_B.entry hU) hl hf
section
variable {p : Program} {l : Launch} {e : Env} {R : Room} {s : State} {m : MethodId} {args : Array Value} {below : List Frame} {meth : Method} {c : Code} {H : Heap} {locs : List Loc} {cells slots : Nat} {Q : State → Prop}
variable {cc : ByteArray} {pc nL : Nat} {ls : Array Slot} {rest : List Value} {D : va_G} {cA : Nat → ClassId} {A : Nat → Prop} {a : Nat} {h : Hp}
theorem gf_X11_264 (cx : CallFix p m c cc nL s args tbG RX11) (hB : hp_B D cA A s h H locs) (hka : h.1 a = 12) (hdg : decode cc pc = .ok (.getfield 264, 3)) (kk : W p l e R s m args below meth c H locs cells slots Q (F0 m (pc + 3) ls (.int (h.2.2.1 a 15) :: rest))) : W p l e R s m args below meth c H locs cells slots Q (F0 m pc ls (.ref a :: rest)) :=
  hp_getI cx hB (ci := 11) 15 rfl inX11 (by decide) rfl (by decide) rfl qw_747 hka hdg kk
theorem gf_X11_52 (cx : CallFix p m c cc nL s args tbG RX11) (hB : hp_B D cA A s h H locs) (hka : h.1 a = 12) {b : Nat} (ho : h.2.2.2.1 a 16 = some b) (hdg : decode cc pc = .ok (.getfield 52, 3)) (kk : W p l e R s m args below meth c H locs cells slots Q (F0 m (pc + 3) ls (.ref b :: rest))) : W p l e R s m args below meth c H locs cells slots Q (F0 m pc ls (.ref a :: rest)) :=
  hp_getR cx hB (ci := 11) 16 rfl inX11 (by decide) rfl (by decide) rfl qw_748 hka (o := some b) ho.symm hdg kk
theorem gf_X11_55 (cx : CallFix p m c cc nL s args tbG RX11) (hB : hp_B D cA A s h H locs) (hka : h.1 a = 12) {b : Nat} (ho : h.2.2.2.1 a 17 = some b) (hdg : decode cc pc = .ok (.getfield 55, 3)) (kk : W p l e R s m args below meth c H locs cells slots Q (F0 m (pc + 3) ls (.ref b :: rest))) : W p l e R s m args below meth c H locs cells slots Q (F0 m pc ls (.ref a :: rest)) :=
  hp_getR cx hB (ci := 11) 17 rfl inX11 (by decide) rfl (by decide) rfl qw_749 hka (o := some b) ho.symm hdg kk
theorem gf_X11_58 (cx : CallFix p m c cc nL s args tbG RX11) (hB : hp_B D cA A s h H locs) (hka : h.1 a = 12) {b : Nat} (ho : h.2.2.2.1 a 18 = some b) (hdg : decode cc pc = .ok (.getfield 58, 3)) (kk : W p l e R s m args below meth c H locs cells slots Q (F0 m (pc + 3) ls (.ref b :: rest))) : W p l e R s m args below meth c H locs cells slots Q (F0 m pc ls (.ref a :: rest)) :=
  hp_getR cx hB (ci := 11) 18 rfl inX11 (by decide) rfl (by decide) rfl qw_750 hka (o := some b) ho.symm hdg kk
theorem gf_X11_61 (cx : CallFix p m c cc nL s args tbG RX11) (hB : hp_B D cA A s h H locs) (hka : h.1 a = 12) {b : Nat} (ho : h.2.2.2.1 a 19 = some b) (hdg : decode cc pc = .ok (.getfield 61, 3)) (kk : W p l e R s m args below meth c H locs cells slots Q (F0 m (pc + 3) ls (.ref b :: rest))) : W p l e R s m args below meth c H locs cells slots Q (F0 m pc ls (.ref a :: rest)) :=
  hp_getR cx hB (ci := 11) 19 rfl inX11 (by decide) rfl (by decide) rfl qw_751 hka (o := some b) ho.symm hdg kk
theorem gf_X11_64 (cx : CallFix p m c cc nL s args tbG RX11) (hB : hp_B D cA A s h H locs) (hka : h.1 a = 12) {b : Nat} (ho : h.2.2.2.1 a 20 = some b) (hdg : decode cc pc = .ok (.getfield 64, 3)) (kk : W p l e R s m args below meth c H locs cells slots Q (F0 m (pc + 3) ls (.ref b :: rest))) : W p l e R s m args below meth c H locs cells slots Q (F0 m pc ls (.ref a :: rest)) :=
  hp_getR cx hB (ci := 11) 20 rfl inX11 (by decide) rfl (by decide) rfl qw_752 hka (o := some b) ho.symm hdg kk
theorem gf_X11_67 (cx : CallFix p m c cc nL s args tbG RX11) (hB : hp_B D cA A s h H locs) (hka : h.1 a = 12) {b : Nat} (ho : h.2.2.2.1 a 21 = some b) (hdg : decode cc pc = .ok (.getfield 67, 3)) (kk : W p l e R s m args below meth c H locs cells slots Q (F0 m (pc + 3) ls (.ref b :: rest))) : W p l e R s m args below meth c H locs cells slots Q (F0 m pc ls (.ref a :: rest)) :=
  hp_getR cx hB (ci := 11) 21 rfl inX11 (by decide) rfl (by decide) rfl qw_753 hka (o := some b) ho.symm hdg kk
theorem pf_X11_264 (cx : CallFix p m c cc nL s args tbG RX11) (hB : hp_B D cA A s h H locs) (hka : h.1 a = 12) {x : Int32} (hdg : decode cc pc = .ok (.putfield 264, 3)) (kk : ∀ (H1 : Heap) (locs1 : List Loc), hp_B D cA A s (hp_si h a 15 x) H1 locs1 → W p l e R s m args below meth c H1 locs1 cells slots Q (F0 m (pc + 3) ls rest)) : W p l e R s m args below meth c H locs cells slots Q (F0 m pc ls (.int x :: .ref a :: rest)) :=
  hp_putX cx hB (ci := 11) 15 tyX11 tyX11_ok nmX11 rfl inX11 (by decide) rfl (by decide) (Or.inl rfl) qw_747 hka (v := .int x) (hp_like_si h a 15 x) (hp_fs_si (by decide) rfl) rfl rfl hdg kk
end
abbrev yX11_group : MethodName := ⟨"SpokenMenusModel", "group", "(IIIIII)I"⟩
theorem dX11_group_0 : decode prog_13_method_43_code 0 = .ok (.iload_n 1, 1) := by decide +kernel
theorem dX11_group_1 : decode prog_13_method_43_code 1 = .ok (.iconst 1, 1) := by decide +kernel
theorem dX11_group_2 : decode prog_13_method_43_code 2 = .ok (.sipush 1000, 3) := by decide +kernel
theorem dX11_group_5 : decode prog_13_method_43_code 5 = .ok (.invokestatic 129, 3) := by decide +kernel
theorem dX11_group_8 : decode prog_13_method_43_code 8 = .ok (.ifCond .eq 17, 3) := by decide +kernel
theorem dX11_group_11 : decode prog_13_method_43_code 11 = .ok (.iload_n 2, 1) := by decide +kernel
theorem dX11_group_12 : decode prog_13_method_43_code 12 = .ok (.iload_n 3, 1) := by decide +kernel
theorem dX11_group_13 : decode prog_13_method_43_code 13 = .ok (.iload 4, 2) := by decide +kernel
theorem dX11_group_15 : decode prog_13_method_43_code 15 = .ok (.iload 5, 2) := by decide +kernel
theorem dX11_group_17 : decode prog_13_method_43_code 17 = .ok (.iload 6, 2) := by decide +kernel
theorem dX11_group_19 : decode prog_13_method_43_code 19 = .ok (.invokestatic 233, 3) := by decide +kernel
theorem dX11_group_22 : decode prog_13_method_43_code 22 = .ok (.ifCond .ne 5, 3) := by decide +kernel
theorem dX11_group_25 : decode prog_13_method_43_code 25 = .ok (.iconst (-1), 1) := by decide +kernel
theorem dX11_group_26 : decode prog_13_method_43_code 26 = .ok (.ireturn, 1) := by decide +kernel
theorem dX11_group_27 : decode prog_13_method_43_code 27 = .ok (.aload_n 0, 1) := by decide +kernel
theorem dX11_group_28 : decode prog_13_method_43_code 28 = .ok (.getfield 264, 3) := by decide +kernel
theorem dX11_group_31 : decode prog_13_method_43_code 31 = .ok (.bipush 12, 2) := by decide +kernel
theorem dX11_group_33 : decode prog_13_method_43_code 33 = .ok (.if_icmp .ne 6, 3) := by decide +kernel
theorem dX11_group_36 : decode prog_13_method_43_code 36 = .ok (.bipush (-3), 2) := by decide +kernel
theorem dX11_group_38 : decode prog_13_method_43_code 38 = .ok (.ireturn, 1) := by decide +kernel
theorem dX11_group_39 : decode prog_13_method_43_code 39 = .ok (.aload_n 0, 1) := by decide +kernel
theorem dX11_group_40 : decode prog_13_method_43_code 40 = .ok (.getfield 52, 3) := by decide +kernel
theorem dX11_group_43 : decode prog_13_method_43_code 43 = .ok (.aload_n 0, 1) := by decide +kernel
theorem dX11_group_44 : decode prog_13_method_43_code 44 = .ok (.getfield 264, 3) := by decide +kernel
theorem dX11_group_47 : decode prog_13_method_43_code 47 = .ok (.iload_n 1, 1) := by decide +kernel
theorem dX11_group_48 : decode prog_13_method_43_code 48 = .ok (.iastore, 1) := by decide +kernel
theorem dX11_group_49 : decode prog_13_method_43_code 49 = .ok (.aload_n 0, 1) := by decide +kernel
theorem dX11_group_50 : decode prog_13_method_43_code 50 = .ok (.getfield 55, 3) := by decide +kernel
theorem dX11_group_53 : decode prog_13_method_43_code 53 = .ok (.aload_n 0, 1) := by decide +kernel
theorem dX11_group_54 : decode prog_13_method_43_code 54 = .ok (.getfield 264, 3) := by decide +kernel
theorem dX11_group_57 : decode prog_13_method_43_code 57 = .ok (.iload_n 2, 1) := by decide +kernel
theorem dX11_group_58 : decode prog_13_method_43_code 58 = .ok (.iastore, 1) := by decide +kernel
theorem dX11_group_59 : decode prog_13_method_43_code 59 = .ok (.aload_n 0, 1) := by decide +kernel
theorem dX11_group_60 : decode prog_13_method_43_code 60 = .ok (.getfield 58, 3) := by decide +kernel
theorem dX11_group_63 : decode prog_13_method_43_code 63 = .ok (.aload_n 0, 1) := by decide +kernel
theorem dX11_group_64 : decode prog_13_method_43_code 64 = .ok (.getfield 264, 3) := by decide +kernel
theorem dX11_group_67 : decode prog_13_method_43_code 67 = .ok (.iload_n 3, 1) := by decide +kernel
theorem dX11_group_68 : decode prog_13_method_43_code 68 = .ok (.iastore, 1) := by decide +kernel
theorem dX11_group_69 : decode prog_13_method_43_code 69 = .ok (.aload_n 0, 1) := by decide +kernel
theorem dX11_group_70 : decode prog_13_method_43_code 70 = .ok (.getfield 61, 3) := by decide +kernel
theorem dX11_group_73 : decode prog_13_method_43_code 73 = .ok (.aload_n 0, 1) := by decide +kernel
theorem dX11_group_74 : decode prog_13_method_43_code 74 = .ok (.getfield 264, 3) := by decide +kernel
theorem dX11_group_77 : decode prog_13_method_43_code 77 = .ok (.iload 4, 2) := by decide +kernel
theorem dX11_group_79 : decode prog_13_method_43_code 79 = .ok (.iastore, 1) := by decide +kernel
theorem dX11_group_80 : decode prog_13_method_43_code 80 = .ok (.aload_n 0, 1) := by decide +kernel
theorem dX11_group_81 : decode prog_13_method_43_code 81 = .ok (.getfield 64, 3) := by decide +kernel
theorem dX11_group_84 : decode prog_13_method_43_code 84 = .ok (.aload_n 0, 1) := by decide +kernel
theorem dX11_group_85 : decode prog_13_method_43_code 85 = .ok (.getfield 264, 3) := by decide +kernel
theorem dX11_group_88 : decode prog_13_method_43_code 88 = .ok (.iload 5, 2) := by decide +kernel
theorem dX11_group_90 : decode prog_13_method_43_code 90 = .ok (.iastore, 1) := by decide +kernel
theorem dX11_group_91 : decode prog_13_method_43_code 91 = .ok (.aload_n 0, 1) := by decide +kernel
theorem dX11_group_92 : decode prog_13_method_43_code 92 = .ok (.getfield 67, 3) := by decide +kernel
theorem dX11_group_95 : decode prog_13_method_43_code 95 = .ok (.aload_n 0, 1) := by decide +kernel
theorem dX11_group_96 : decode prog_13_method_43_code 96 = .ok (.getfield 264, 3) := by decide +kernel
theorem dX11_group_99 : decode prog_13_method_43_code 99 = .ok (.iload 6, 2) := by decide +kernel
theorem dX11_group_101 : decode prog_13_method_43_code 101 = .ok (.iastore, 1) := by decide +kernel
theorem dX11_group_102 : decode prog_13_method_43_code 102 = .ok (.aload_n 0, 1) := by decide +kernel
theorem dX11_group_103 : decode prog_13_method_43_code 103 = .ok (.dup, 1) := by decide +kernel
theorem dX11_group_104 : decode prog_13_method_43_code 104 = .ok (.getfield 264, 3) := by decide +kernel
theorem dX11_group_107 : decode prog_13_method_43_code 107 = .ok (.iconst 1, 1) := by decide +kernel
theorem dX11_group_108 : decode prog_13_method_43_code 108 = .ok (.iadd, 1) := by decide +kernel
theorem dX11_group_109 : decode prog_13_method_43_code 109 = .ok (.putfield 264, 3) := by decide +kernel
theorem dX11_group_112 : decode prog_13_method_43_code 112 = .ok (.aload_n 0, 1) := by decide +kernel
theorem dX11_group_113 : decode prog_13_method_43_code 113 = .ok (.getfield 264, 3) := by decide +kernel
theorem dX11_group_116 : decode prog_13_method_43_code 116 = .ok (.ireturn, 1) := by decide +kernel
abbrev rmX11_group : Room := { frames := 2, cells := 0, slots := 0, locals := 46 }
def fX11_group  (t0 : Nat) (v1 : Int32) (v2 : Int32) (v3 : Int32) (v4 : Int32) (v5 : Int32) (v6 : Int32) (h : Hp) : Option (Int32 × Hp) :=
  b2 (fX11_in v1 1 1000 h) fun r3 g1 =>
  if r3 = 0 then
  (some ((-1), g1))
  else
  (b2 (fX11_isCaller v2 v3 v4 v5 v6 g1) fun r8 g6 =>
  if r8 = 0 then
  (some ((-1), g6))
  else
  (gk (g6.1 t0) 12 <|
  if (g6.2.2.1 t0 15) = 12 then
  (some ((-3), g6))
  else
  (bd (g6.2.2.2.1 t0 16) fun a13 =>
  gk (g6.1 a13) 13 <|
  gd (ix (g6.2.2.1 t0 15) (g6.2.1 a13)) <|
  nm (hp_si g6 a13 (Int32.toNatClampNeg (g6.2.2.1 t0 15)) v1) fun g17 =>
  bd (g17.2.2.2.1 t0 17) fun a19 =>
  gk (g17.1 a19) 13 <|
  gd (ix (g17.2.2.1 t0 15) (g17.2.1 a19)) <|
  nm (hp_si g17 a19 (Int32.toNatClampNeg (g17.2.2.1 t0 15)) v2) fun g23 =>
  bd (g23.2.2.2.1 t0 18) fun a25 =>
  gk (g23.1 a25) 13 <|
  gd (ix (g23.2.2.1 t0 15) (g23.2.1 a25)) <|
  nm (hp_si g23 a25 (Int32.toNatClampNeg (g23.2.2.1 t0 15)) v3) fun g29 =>
  bd (g29.2.2.2.1 t0 19) fun a31 =>
  gk (g29.1 a31) 13 <|
  gd (ix (g29.2.2.1 t0 15) (g29.2.1 a31)) <|
  nm (hp_si g29 a31 (Int32.toNatClampNeg (g29.2.2.1 t0 15)) v4) fun g35 =>
  bd (g35.2.2.2.1 t0 20) fun a37 =>
  gk (g35.1 a37) 13 <|
  gd (ix (g35.2.2.1 t0 15) (g35.2.1 a37)) <|
  nm (hp_si g35 a37 (Int32.toNatClampNeg (g35.2.2.1 t0 15)) v5) fun g41 =>
  bd (g41.2.2.2.1 t0 21) fun a43 =>
  gk (g41.1 a43) 13 <|
  gd (ix (g41.2.2.1 t0 15) (g41.2.1 a43)) <|
  nm (hp_si g41 a43 (Int32.toNatClampNeg (g41.2.2.1 t0 15)) v6) fun g47 =>
  nm (hp_si g47 t0 15 ((g47.2.2.1 t0 15) + 1)) fun g49 =>
  some (g49.2.2.1 t0 15, g49))))
section
variable {p : Program} {l : Launch} {e : Env} {s : State} {m : MethodId} {args : Array Value} {below : List Frame} {meth : Method} {c : Code} {D : va_G} {cA : Nat → ClassId} {h0 h9 : Hp}
set_option maxHeartbeats 4000000 in
set_option maxRecDepth 100000 in
theorem tX11_group_0  {r : Int32} (cx : CallFix p m c prog_13_method_43_code 7 s args tbG RX11) (hr : meth.sig.returnType = (Option.some FieldType.int)) (hlk : meth.locks = false)  (t0 : Nat) (v1 : Int32) (v2 : Int32) (v3 : Int32) (v4 : Int32) (v5 : Int32) (v6 : Int32) (h : Hp) (H : Heap) (locs : List Loc) (ls : Array Slot) (hB : hp_B D cA (hp_A h0) s h H locs) (hl : lv_has ls 7 [(0, .ref t0), (1, .int v1), (2, .int v2), (3, .int v3), (4, .int v4), (5, .int v5), (6, .int v6)]) (hf : fX11_group  t0 v1 v2 v3 v4 v5 v6 h = some (r, h9)) : W p l e rmX11_group s m args below meth c H locs 0 0 (MQ below (hp_Qi D cA h0 h9 r) args s 0 0 (hp_A h0)) (F0 m 0 ls []) := by
  obtain ⟨hx, hb, -⟩ := id cx
  unfold fX11_group at hf
  refine lv_iload_n hx hb dX11_group_0 rfl (lv_at hl 1 rfl) ?_
  refine lv_iconst (v := 1) hx hb dX11_group_1 (by decide) ?_
  refine lv_sipush (v := 1000) hx hb dX11_group_2 (by decide) ?_
  obtain ⟨r3, g1, m2, hf⟩ := b2_ok hf
  refine hp_cI0 (cl_X11_129 cx hB (cX11_in l D cA v1 1 1000 h _ g1 m2) ⟨Nat.le_of_ble_eq_true rfl, Nat.le_of_ble_eq_true rfl⟩ rfl hl.1 rfl (Nat.le_of_ble_eq_true rfl) ⟨Nat.le_of_ble_eq_true rfl, Nat.le_of_ble_eq_true rfl⟩ dX11_group_5) rfl rfl hB (fun H locs hB => ?_)
  refine lv_if_eq (tgt := 25) hx hb dX11_group_8 (by decide) (fun c5 => ?_) (fun c5 => ?_)
  · replace hf := it_t c5 hf
    refine lv_iconst (v := (-1)) hx hb dX11_group_25 (by decide) ?_
    obtain ⟨rfl, rfl⟩ := rt_ok hf
    exact hp_iret cx hB hr hlk (Nat.le_of_ble_eq_true rfl) (Nat.le_of_ble_eq_true rfl) dX11_group_26
  · replace hf := it_f c5 hf
    refine lv_iload_n hx hb dX11_group_11 rfl (lv_at hl 2 rfl) ?_
    refine lv_iload_n hx hb dX11_group_12 rfl (lv_at hl 3 rfl) ?_
    refine lv_iload hx hb dX11_group_13 (lv_at hl 4 rfl) ?_
    refine lv_iload hx hb dX11_group_15 (lv_at hl 5 rfl) ?_
    refine lv_iload hx hb dX11_group_17 (lv_at hl 6 rfl) ?_
    obtain ⟨r8, g6, m7, hf⟩ := b2_ok hf
    refine hp_cI0 (cl_X11_233 cx hB (cX11_isCaller l D cA v2 v3 v4 v5 v6 g1 _ g6 m7) ⟨Nat.le_of_ble_eq_true rfl, Nat.le_of_ble_eq_true rfl⟩ rfl hl.1 rfl (Nat.le_of_ble_eq_true rfl) ⟨Nat.le_of_ble_eq_true rfl, Nat.le_of_ble_eq_true rfl⟩ dX11_group_19) rfl rfl hB (fun H locs hB => ?_)
    refine lv_if_ne (tgt := 27) hx hb dX11_group_22 (by decide) (fun c10 => ?_) (fun c10 => ?_)
    · replace hf := it_f c10 hf
      refine lv_aload_n hx hb dX11_group_27 rfl (lv_at hl 0 rfl) ?_
      obtain ⟨k11, hf⟩ := gk_ok hf
      refine gf_X11_264 cx hB k11 dX11_group_28 ?_
      refine lv_bipush (v := 12) hx hb dX11_group_31 (by decide) ?_
      refine lv_icmp_ne (tgt := 39) hx hb dX11_group_33 (by decide) (fun c12 => ?_) (fun c12 => ?_)
      · replace hf := it_f c12 hf
        refine lv_aload_n hx hb dX11_group_39 rfl (lv_at hl 0 rfl) ?_
        obtain ⟨a13, q14, hf⟩ := bd_ok hf
        refine gf_X11_52 cx hB k11 q14 dX11_group_40 ?_
        refine lv_aload_n hx hb dX11_group_43 rfl (lv_at hl 0 rfl) ?_
        refine gf_X11_264 cx hB k11 dX11_group_44 ?_
        refine lv_iload_n hx hb dX11_group_47 rfl (lv_at hl 1 rfl) ?_
        obtain ⟨k15, hf⟩ := gk_ok hf
        obtain ⟨j16, hf⟩ := gd_ok hf
        obtain ⟨g17, eg17, hf⟩ := nm_ok hf
        refine hp_iast cx hB k15 j16 dX11_group_48 (fun H locs hB => ?_)
        rw [← eg17] at hB
        refine lv_aload_n hx hb dX11_group_49 rfl (lv_at hl 0 rfl) ?_
        have k18 : g17.1 t0 = 12 := by rw [eg17]; exact k11
        obtain ⟨a19, q20, hf⟩ := bd_ok hf
        refine gf_X11_55 cx hB k18 q20 dX11_group_50 ?_
        refine lv_aload_n hx hb dX11_group_53 rfl (lv_at hl 0 rfl) ?_
        refine gf_X11_264 cx hB k18 dX11_group_54 ?_
        refine lv_iload_n hx hb dX11_group_57 rfl (lv_at hl 2 rfl) ?_
        obtain ⟨k21, hf⟩ := gk_ok hf
        obtain ⟨j22, hf⟩ := gd_ok hf
        obtain ⟨g23, eg23, hf⟩ := nm_ok hf
        refine hp_iast cx hB k21 j22 dX11_group_58 (fun H locs hB => ?_)
        rw [← eg23] at hB
        refine lv_aload_n hx hb dX11_group_59 rfl (lv_at hl 0 rfl) ?_
        have k24 : g23.1 t0 = 12 := by rw [eg23]; exact k18
        obtain ⟨a25, q26, hf⟩ := bd_ok hf
        refine gf_X11_58 cx hB k24 q26 dX11_group_60 ?_
        refine lv_aload_n hx hb dX11_group_63 rfl (lv_at hl 0 rfl) ?_
        refine gf_X11_264 cx hB k24 dX11_group_64 ?_
        refine lv_iload_n hx hb dX11_group_67 rfl (lv_at hl 3 rfl) ?_
        obtain ⟨k27, hf⟩ := gk_ok hf
        obtain ⟨j28, hf⟩ := gd_ok hf
        obtain ⟨g29, eg29, hf⟩ := nm_ok hf
        refine hp_iast cx hB k27 j28 dX11_group_68 (fun H locs hB => ?_)
        rw [← eg29] at hB
        refine lv_aload_n hx hb dX11_group_69 rfl (lv_at hl 0 rfl) ?_
        have k30 : g29.1 t0 = 12 := by rw [eg29]; exact k24
        obtain ⟨a31, q32, hf⟩ := bd_ok hf
        refine gf_X11_61 cx hB k30 q32 dX11_group_70 ?_
        refine lv_aload_n hx hb dX11_group_73 rfl (lv_at hl 0 rfl) ?_
        refine gf_X11_264 cx hB k30 dX11_group_74 ?_
        refine lv_iload hx hb dX11_group_77 (lv_at hl 4 rfl) ?_
        obtain ⟨k33, hf⟩ := gk_ok hf
        obtain ⟨j34, hf⟩ := gd_ok hf
        obtain ⟨g35, eg35, hf⟩ := nm_ok hf
        refine hp_iast cx hB k33 j34 dX11_group_79 (fun H locs hB => ?_)
        rw [← eg35] at hB
        refine lv_aload_n hx hb dX11_group_80 rfl (lv_at hl 0 rfl) ?_
        have k36 : g35.1 t0 = 12 := by rw [eg35]; exact k30
        obtain ⟨a37, q38, hf⟩ := bd_ok hf
        refine gf_X11_64 cx hB k36 q38 dX11_group_81 ?_
        refine lv_aload_n hx hb dX11_group_84 rfl (lv_at hl 0 rfl) ?_
        refine gf_X11_264 cx hB k36 dX11_group_85 ?_
        refine lv_iload hx hb dX11_group_88 (lv_at hl 5 rfl) ?_
        obtain ⟨k39, hf⟩ := gk_ok hf
        obtain ⟨j40, hf⟩ := gd_ok hf
        obtain ⟨g41, eg41, hf⟩ := nm_ok hf
        refine hp_iast cx hB k39 j40 dX11_group_90 (fun H locs hB => ?_)
        rw [← eg41] at hB
        refine lv_aload_n hx hb dX11_group_91 rfl (lv_at hl 0 rfl) ?_
        have k42 : g41.1 t0 = 12 := by rw [eg41]; exact k36
        obtain ⟨a43, q44, hf⟩ := bd_ok hf
        refine gf_X11_67 cx hB k42 q44 dX11_group_92 ?_
        refine lv_aload_n hx hb dX11_group_95 rfl (lv_at hl 0 rfl) ?_
        refine gf_X11_264 cx hB k42 dX11_group_96 ?_
        refine lv_iload hx hb dX11_group_99 (lv_at hl 6 rfl) ?_
        obtain ⟨k45, hf⟩ := gk_ok hf
        obtain ⟨j46, hf⟩ := gd_ok hf
        obtain ⟨g47, eg47, hf⟩ := nm_ok hf
        refine hp_iast cx hB k45 j46 dX11_group_101 (fun H locs hB => ?_)
        rw [← eg47] at hB
        refine lv_aload_n hx hb dX11_group_102 rfl (lv_at hl 0 rfl) ?_
        refine lv_dup hx hb dX11_group_103 rfl ?_
        have k48 : g47.1 t0 = 12 := by rw [eg47]; exact k42
        refine gf_X11_264 cx hB k48 dX11_group_104 ?_
        refine lv_iconst (v := 1) hx hb dX11_group_107 (by decide) ?_
        refine lv_iadd hx hb dX11_group_108 ?_
        obtain ⟨g49, eg49, hf⟩ := nm_ok hf
        refine pf_X11_264 cx hB k48 dX11_group_109 (fun H locs hB => ?_)
        rw [← eg49] at hB
        refine lv_aload_n hx hb dX11_group_112 rfl (lv_at hl 0 rfl) ?_
        have k50 : g49.1 t0 = 12 := by rw [eg49]; exact k48
        refine gf_X11_264 cx hB k50 dX11_group_113 ?_
        obtain ⟨rfl, rfl⟩ := rt_ok hf
        exact hp_iret cx hB hr hlk (Nat.le_of_ble_eq_true rfl) (Nat.le_of_ble_eq_true rfl) dX11_group_116
      · replace hf := it_t c12 hf
        refine lv_bipush (v := (-3)) hx hb dX11_group_36 (by decide) ?_
        obtain ⟨rfl, rfl⟩ := rt_ok hf
        exact hp_iret cx hB hr hlk (Nat.le_of_ble_eq_true rfl) (Nat.le_of_ble_eq_true rfl) dX11_group_38
    · replace hf := it_t c10 hf
      refine lv_iconst (v := (-1)) hx hb dX11_group_25 (by decide) ?_
      obtain ⟨rfl, rfl⟩ := rt_ok hf
      exact hp_iret cx hB hr hlk (Nat.le_of_ble_eq_true rfl) (Nat.le_of_ble_eq_true rfl) dX11_group_26
end
set_option maxHeartbeats 4000000 in
set_option maxRecDepth 100000 in
theorem cX11_group (l : Launch) (D : va_G) (cA : Nat → ClassId) (t0 : Nat) (v1 : Int32) (v2 : Int32) (v3 : Int32) (v4 : Int32) (v5 : Int32) (v6 : Int32) (h : Hp) (r : Int32) (h9 : Hp) (hf : fX11_group t0 v1 v2 v3 v4 v5 v6 h = some (r, h9)) : hp_M l yX11_group prog_13_method_43_code 7 (Option.some FieldType.int) rmX11_group D cA h [.ref t0, .int v1, .int v2, .int v3, .int v4, .int v5, .int v6] (hp_Qi D cA h h9 r) := by
  refine Met.ofW (cc := prog_13_method_43_code) (maxL := 7) (ret := (Option.some FieldType.int)) (by decide) rfl ?_
  intro p e s m args below meth c s₁ B hml hv
  obtain ⟨rfl, hU⟩ := hv
  have hts := atoms_spec (ws := Cond.code yX11_group prog_13_method_43_code 7 (Option.some FieldType.int) :: tbG) B.pre
  have hl := lv_entry ([.ref t0, .int v1, .int v2, .int v3, .int v4, .int v5, .int v6]) (n := 7) (Nat.le_of_ble_eq_true rfl)
  rw [lg_entry_eq]
  generalize (lg_sl ([.ref t0, .int v1, .int v2, .int v3, .int v4, .int v5, .int v6]) ++ List.replicate (7 - (lg_sl ([.ref t0, .int v1, .int v2, .int v3, .int v4, .int v5, .int v6])).length) Slot.unset).toArray = ls at hl ⊢
  exact tX11_group_0 ⟨B.exec, B.bytes, hml, findClass_of_methodNamed B.named, fun w hw => hts w (List.mem_cons_of_mem _ hw)⟩ B.returns B.notSynchronized t0 v1 v2 v3 v4 v5 v6 h _ _ _ (hp_B.entry hU) hl hf
abbrev yX11_noGroups : MethodName := ⟨"SpokenMenusModel", "noGroups", "()I"⟩
theorem dX11_noGroups_0 : decode prog_13_method_44_code 0 = .ok (.aload_n 0, 1) := by decide +kernel
theorem dX11_noGroups_1 : decode prog_13_method_44_code 1 = .ok (.getfield 264, 3) := by decide +kernel
theorem dX11_noGroups_4 : decode prog_13_method_44_code 4 = .ok (.istore_n 1, 1) := by decide +kernel
theorem dX11_noGroups_5 : decode prog_13_method_44_code 5 = .ok (.aload_n 0, 1) := by decide +kernel
theorem dX11_noGroups_6 : decode prog_13_method_44_code 6 = .ok (.iconst 0, 1) := by decide +kernel
theorem dX11_noGroups_7 : decode prog_13_method_44_code 7 = .ok (.putfield 264, 3) := by decide +kernel
theorem dX11_noGroups_10 : decode prog_13_method_44_code 10 = .ok (.iload_n 1, 1) := by decide +kernel
theorem dX11_noGroups_11 : decode prog_13_method_44_code 11 = .ok (.ireturn, 1) := by decide +kernel
abbrev rmX11_noGroups : Room := { frames := 0, cells := 0, slots := 0, locals := 0 }
def fX11_noGroups  (t0 : Nat) (h : Hp) : Option (Int32 × Hp) :=
  gk (h.1 t0) 12 <|
  nm (h.2.2.1 t0 15) fun x2 =>
  nm (hp_si h t0 15 0) fun g3 =>
  some (x2, g3)
section
variable {p : Program} {l : Launch} {e : Env} {s : State} {m : MethodId} {args : Array Value} {below : List Frame} {meth : Method} {c : Code} {D : va_G} {cA : Nat → ClassId} {h0 h9 : Hp}
set_option maxHeartbeats 4000000 in
set_option maxRecDepth 100000 in
theorem tX11_noGroups_0  {r : Int32} (cx : CallFix p m c prog_13_method_44_code 2 s args tbG RX11) (hr : meth.sig.returnType = (Option.some FieldType.int)) (hlk : meth.locks = false)  (t0 : Nat) (h : Hp) (H : Heap) (locs : List Loc) (ls : Array Slot) (hB : hp_B D cA (hp_A h0) s h H locs) (hl : lv_has ls 2 [(0, .ref t0)]) (hf : fX11_noGroups  t0 h = some (r, h9)) : W p l e rmX11_noGroups s m args below meth c H locs 0 0 (MQ below (hp_Qi D cA h0 h9 r) args s 0 0 (hp_A h0)) (F0 m 0 ls []) := by
  obtain ⟨hx, hb, -⟩ := id cx
  unfold fX11_noGroups at hf
  refine lv_aload_n hx hb dX11_noGroups_0 rfl (lv_at hl 0 rfl) ?_
  obtain ⟨k1, hf⟩ := gk_ok hf
  refine gf_X11_264 cx hB k1 dX11_noGroups_1 ?_
  obtain ⟨x2, ex2, hf⟩ := nm_ok hf
  refine lv_ren ex2 ?_
  refine lv_istore_n (lv' := [(1, .int x2), (0, .ref t0)]) hx hb dX11_noGroups_4 rfl hl (by decide) rfl (fun ls hl => ?_)
  refine lv_aload_n hx hb dX11_noGroups_5 rfl (lv_at hl 1 rfl) ?_
  refine lv_iconst (v := 0) hx hb dX11_noGroups_6 (by decide) ?_
  obtain ⟨g3, eg3, hf⟩ := nm_ok hf
  refine pf_X11_264 cx hB k1 dX11_noGroups_7 (fun H locs hB => ?_)
  rw [← eg3] at hB
  refine lv_iload_n hx hb dX11_noGroups_10 rfl (lv_at hl 0 rfl) ?_
  obtain ⟨rfl, rfl⟩ := rt_ok hf
  exact hp_iret cx hB hr hlk (Nat.le_of_ble_eq_true rfl) (Nat.le_of_ble_eq_true rfl) dX11_noGroups_11
end
set_option maxHeartbeats 4000000 in
set_option maxRecDepth 100000 in
theorem cX11_noGroups (l : Launch) (D : va_G) (cA : Nat → ClassId) (t0 : Nat) (h : Hp) (r : Int32) (h9 : Hp) (hf : fX11_noGroups t0 h = some (r, h9)) : hp_M l yX11_noGroups prog_13_method_44_code 2 (Option.some FieldType.int) rmX11_noGroups D cA h [.ref t0] (hp_Qi D cA h h9 r) := by
  refine Met.ofW (cc := prog_13_method_44_code) (maxL := 2) (ret := (Option.some FieldType.int)) (by decide) rfl ?_
  intro p e s m args below meth c s₁ B hml hv
  obtain ⟨rfl, hU⟩ := hv
  have hts := atoms_spec (ws := Cond.code yX11_noGroups prog_13_method_44_code 2 (Option.some FieldType.int) :: tbG) B.pre
  have hl := lv_entry ([.ref t0]) (n := 2) (Nat.le_of_ble_eq_true rfl)
  rw [lg_entry_eq]
  generalize (lg_sl ([.ref t0]) ++ List.replicate (2 - (lg_sl ([.ref t0])).length) Slot.unset).toArray = ls at hl ⊢
  exact tX11_noGroups_0 ⟨B.exec, B.bytes, hml, findClass_of_methodNamed B.named, fun w hw => hts w (List.mem_cons_of_mem _ hw)⟩ B.returns B.notSynchronized t0 h _ _ _ (hp_B.entry hU) hl hf
abbrev yX11_callOf : MethodName := ⟨"SpokenMenusModel", "callOf", "(I)I"⟩
theorem dX11_callOf_0 : decode prog_13_method_45_code 0 = .ok (.aload_n 0, 1) := by decide +kernel
theorem dX11_callOf_1 : decode prog_13_method_45_code 1 = .ok (.aload_n 0, 1) := by decide +kernel
theorem dX11_callOf_2 : decode prog_13_method_45_code 2 = .ok (.getfield 55, 3) := by decide +kernel
theorem dX11_callOf_5 : decode prog_13_method_45_code 5 = .ok (.iload_n 1, 1) := by decide +kernel
theorem dX11_callOf_6 : decode prog_13_method_45_code 6 = .ok (.iaload, 1) := by decide +kernel
theorem dX11_callOf_7 : decode prog_13_method_45_code 7 = .ok (.aload_n 0, 1) := by decide +kernel
theorem dX11_callOf_8 : decode prog_13_method_45_code 8 = .ok (.getfield 58, 3) := by decide +kernel
theorem dX11_callOf_11 : decode prog_13_method_45_code 11 = .ok (.iload_n 1, 1) := by decide +kernel
theorem dX11_callOf_12 : decode prog_13_method_45_code 12 = .ok (.iaload, 1) := by decide +kernel
theorem dX11_callOf_13 : decode prog_13_method_45_code 13 = .ok (.aload_n 0, 1) := by decide +kernel
theorem dX11_callOf_14 : decode prog_13_method_45_code 14 = .ok (.getfield 61, 3) := by decide +kernel
theorem dX11_callOf_17 : decode prog_13_method_45_code 17 = .ok (.iload_n 1, 1) := by decide +kernel
theorem dX11_callOf_18 : decode prog_13_method_45_code 18 = .ok (.iaload, 1) := by decide +kernel
theorem dX11_callOf_19 : decode prog_13_method_45_code 19 = .ok (.aload_n 0, 1) := by decide +kernel
theorem dX11_callOf_20 : decode prog_13_method_45_code 20 = .ok (.getfield 64, 3) := by decide +kernel
theorem dX11_callOf_23 : decode prog_13_method_45_code 23 = .ok (.iload_n 1, 1) := by decide +kernel
theorem dX11_callOf_24 : decode prog_13_method_45_code 24 = .ok (.iaload, 1) := by decide +kernel
theorem dX11_callOf_25 : decode prog_13_method_45_code 25 = .ok (.aload_n 0, 1) := by decide +kernel
theorem dX11_callOf_26 : decode prog_13_method_45_code 26 = .ok (.getfield 67, 3) := by decide +kernel
theorem dX11_callOf_29 : decode prog_13_method_45_code 29 = .ok (.iload_n 1, 1) := by decide +kernel
theorem dX11_callOf_30 : decode prog_13_method_45_code 30 = .ok (.iaload, 1) := by decide +kernel
theorem dX11_callOf_31 : decode prog_13_method_45_code 31 = .ok (.iconst 1, 1) := by decide +kernel
theorem dX11_callOf_32 : decode prog_13_method_45_code 32 = .ok (.if_icmp .ne 7, 3) := by decide +kernel
theorem dX11_callOf_35 : decode prog_13_method_45_code 35 = .ok (.iconst 1, 1) := by decide +kernel
theorem dX11_callOf_36 : decode prog_13_method_45_code 36 = .ok (.goto 4, 3) := by decide +kernel
theorem dX11_callOf_39 : decode prog_13_method_45_code 39 = .ok (.iconst 0, 1) := by decide +kernel
theorem dX11_callOf_40 : decode prog_13_method_45_code 40 = .ok (.invokevirtual 237, 3) := by decide +kernel
theorem dX11_callOf_43 : decode prog_13_method_45_code 43 = .ok (.ireturn, 1) := by decide +kernel
abbrev rmX11_callOf : Room := { frames := 7, cells := 0, slots := 0, locals := 163 }
def fX11_callOf  (t0 : Nat) (v1 : Int32) (h : Hp) : Option (Int32 × Hp) :=
  gk (h.1 t0) 12 <|
  bd (h.2.2.2.1 t0 17) fun a2 =>
  gk (h.1 a2) 13 <|
  gd (ix v1 (h.2.1 a2)) <|
  bd (h.2.2.2.1 t0 18) fun a6 =>
  gk (h.1 a6) 13 <|
  gd (ix v1 (h.2.1 a6)) <|
  bd (h.2.2.2.1 t0 19) fun a10 =>
  gk (h.1 a10) 13 <|
  gd (ix v1 (h.2.1 a10)) <|
  bd (h.2.2.2.1 t0 20) fun a14 =>
  gk (h.1 a14) 13 <|
  gd (ix v1 (h.2.1 a14)) <|
  bd (h.2.2.2.1 t0 21) fun a18 =>
  gk (h.1 a18) 13 <|
  gd (ix v1 (h.2.1 a18)) <|
  if (h.2.2.1 a18 (Int32.toNatClampNeg v1)) = 1 then
  (b2 (fX11_goThrough t0 (h.2.2.1 a2 (Int32.toNatClampNeg v1)) (h.2.2.1 a6 (Int32.toNatClampNeg v1)) (h.2.2.1 a10 (Int32.toNatClampNeg v1)) (h.2.2.1 a14 (Int32.toNatClampNeg v1)) 1 h) fun r29 g27 =>
  some (r29, g27))
  else
  (b2 (fX11_goThrough t0 (h.2.2.1 a2 (Int32.toNatClampNeg v1)) (h.2.2.1 a6 (Int32.toNatClampNeg v1)) (h.2.2.1 a10 (Int32.toNatClampNeg v1)) (h.2.2.1 a14 (Int32.toNatClampNeg v1)) 0 h) fun r25 g23 =>
  some (r25, g23))
section
variable {p : Program} {l : Launch} {e : Env} {s : State} {m : MethodId} {args : Array Value} {below : List Frame} {meth : Method} {c : Code} {D : va_G} {cA : Nat → ClassId} {h0 h9 : Hp}
set_option maxHeartbeats 4000000 in
set_option maxRecDepth 100000 in
theorem tX11_callOf_0  {r : Int32} (cx : CallFix p m c prog_13_method_45_code 2 s args tbG RX11) (hr : meth.sig.returnType = (Option.some FieldType.int)) (hlk : meth.locks = false)  (t0 : Nat) (v1 : Int32) (h : Hp) (H : Heap) (locs : List Loc) (ls : Array Slot) (hB : hp_B D cA (hp_A h0) s h H locs) (hl : lv_has ls 2 [(0, .ref t0), (1, .int v1)]) (hf : fX11_callOf  t0 v1 h = some (r, h9)) : W p l e rmX11_callOf s m args below meth c H locs 0 0 (MQ below (hp_Qi D cA h0 h9 r) args s 0 0 (hp_A h0)) (F0 m 0 ls []) := by
  obtain ⟨hx, hb, -⟩ := id cx
  unfold fX11_callOf at hf
  refine lv_aload_n hx hb dX11_callOf_0 rfl (lv_at hl 0 rfl) ?_
  refine lv_aload_n hx hb dX11_callOf_1 rfl (lv_at hl 0 rfl) ?_
  obtain ⟨k1, hf⟩ := gk_ok hf
  obtain ⟨a2, q3, hf⟩ := bd_ok hf
  refine gf_X11_55 cx hB k1 q3 dX11_callOf_2 ?_
  refine lv_iload_n hx hb dX11_callOf_5 rfl (lv_at hl 1 rfl) ?_
  obtain ⟨k4, hf⟩ := gk_ok hf
  obtain ⟨j5, hf⟩ := gd_ok hf
  refine hp_iald cx hB k4 j5 dX11_callOf_6 ?_
  refine lv_aload_n hx hb dX11_callOf_7 rfl (lv_at hl 0 rfl) ?_
  obtain ⟨a6, q7, hf⟩ := bd_ok hf
  refine gf_X11_58 cx hB k1 q7 dX11_callOf_8 ?_
  refine lv_iload_n hx hb dX11_callOf_11 rfl (lv_at hl 1 rfl) ?_
  obtain ⟨k8, hf⟩ := gk_ok hf
  obtain ⟨j9, hf⟩ := gd_ok hf
  refine hp_iald cx hB k8 j9 dX11_callOf_12 ?_
  refine lv_aload_n hx hb dX11_callOf_13 rfl (lv_at hl 0 rfl) ?_
  obtain ⟨a10, q11, hf⟩ := bd_ok hf
  refine gf_X11_61 cx hB k1 q11 dX11_callOf_14 ?_
  refine lv_iload_n hx hb dX11_callOf_17 rfl (lv_at hl 1 rfl) ?_
  obtain ⟨k12, hf⟩ := gk_ok hf
  obtain ⟨j13, hf⟩ := gd_ok hf
  refine hp_iald cx hB k12 j13 dX11_callOf_18 ?_
  refine lv_aload_n hx hb dX11_callOf_19 rfl (lv_at hl 0 rfl) ?_
  obtain ⟨a14, q15, hf⟩ := bd_ok hf
  refine gf_X11_64 cx hB k1 q15 dX11_callOf_20 ?_
  refine lv_iload_n hx hb dX11_callOf_23 rfl (lv_at hl 1 rfl) ?_
  obtain ⟨k16, hf⟩ := gk_ok hf
  obtain ⟨j17, hf⟩ := gd_ok hf
  refine hp_iald cx hB k16 j17 dX11_callOf_24 ?_
  refine lv_aload_n hx hb dX11_callOf_25 rfl (lv_at hl 0 rfl) ?_
  obtain ⟨a18, q19, hf⟩ := bd_ok hf
  refine gf_X11_67 cx hB k1 q19 dX11_callOf_26 ?_
  refine lv_iload_n hx hb dX11_callOf_29 rfl (lv_at hl 1 rfl) ?_
  obtain ⟨k20, hf⟩ := gk_ok hf
  obtain ⟨j21, hf⟩ := gd_ok hf
  refine hp_iald cx hB k20 j21 dX11_callOf_30 ?_
  refine lv_iconst (v := 1) hx hb dX11_callOf_31 (by decide) ?_
  refine lv_icmp_ne (tgt := 39) hx hb dX11_callOf_32 (by decide) (fun c22 => ?_) (fun c22 => ?_)
  · replace hf := it_f c22 hf
    refine lv_iconst (v := 0) hx hb dX11_callOf_39 (by decide) ?_
    obtain ⟨r25, g23, m24, hf⟩ := b2_ok hf
    refine hp_cI0 (cl_X11_237 cx hB (cX11_goThrough l D cA t0 (h.2.2.1 a2 (Int32.toNatClampNeg v1)) (h.2.2.1 a6 (Int32.toNatClampNeg v1)) (h.2.2.1 a10 (Int32.toNatClampNeg v1)) (h.2.2.1 a14 (Int32.toNatClampNeg v1)) 0 h _ g23 m24) k1 ⟨Nat.le_of_ble_eq_true rfl, Nat.le_of_ble_eq_true rfl⟩ rfl hl.1 rfl (Nat.le_of_ble_eq_true rfl) ⟨Nat.le_of_ble_eq_true rfl, Nat.le_of_ble_eq_true rfl⟩ dX11_callOf_40) rfl rfl hB (fun H locs hB => ?_)
    obtain ⟨rfl, rfl⟩ := rt_ok hf
    exact hp_iret cx hB hr hlk (Nat.le_of_ble_eq_true rfl) (Nat.le_of_ble_eq_true rfl) dX11_callOf_43
  · replace hf := it_t c22 hf
    refine lv_iconst (v := 1) hx hb dX11_callOf_35 (by decide) ?_
    refine lv_goto (tgt := 40) hx hb dX11_callOf_36 (by decide) ?_
    obtain ⟨r29, g27, m28, hf⟩ := b2_ok hf
    refine hp_cI0 (cl_X11_237 cx hB (cX11_goThrough l D cA t0 (h.2.2.1 a2 (Int32.toNatClampNeg v1)) (h.2.2.1 a6 (Int32.toNatClampNeg v1)) (h.2.2.1 a10 (Int32.toNatClampNeg v1)) (h.2.2.1 a14 (Int32.toNatClampNeg v1)) 1 h _ g27 m28) k1 ⟨Nat.le_of_ble_eq_true rfl, Nat.le_of_ble_eq_true rfl⟩ rfl hl.1 rfl (Nat.le_of_ble_eq_true rfl) ⟨Nat.le_of_ble_eq_true rfl, Nat.le_of_ble_eq_true rfl⟩ dX11_callOf_40) rfl rfl hB (fun H locs hB => ?_)
    obtain ⟨rfl, rfl⟩ := rt_ok hf
    exact hp_iret cx hB hr hlk (Nat.le_of_ble_eq_true rfl) (Nat.le_of_ble_eq_true rfl) dX11_callOf_43
end
set_option maxHeartbeats 4000000 in
set_option maxRecDepth 100000 in
theorem cX11_callOf (l : Launch) (D : va_G) (cA : Nat → ClassId) (t0 : Nat) (v1 : Int32) (h : Hp) (r : Int32) (h9 : Hp) (hf : fX11_callOf t0 v1 h = some (r, h9)) : hp_M l yX11_callOf prog_13_method_45_code 2 (Option.some FieldType.int) rmX11_callOf D cA h [.ref t0, .int v1] (hp_Qi D cA h h9 r) := by
  refine Met.ofW (cc := prog_13_method_45_code) (maxL := 2) (ret := (Option.some FieldType.int)) (by decide) rfl ?_
  intro p e s m args below meth c s₁ B hml hv
  obtain ⟨rfl, hU⟩ := hv
  have hts := atoms_spec (ws := Cond.code yX11_callOf prog_13_method_45_code 2 (Option.some FieldType.int) :: tbG) B.pre
  have hl := lv_entry ([.ref t0, .int v1]) (n := 2) (Nat.le_of_ble_eq_true rfl)
  rw [lg_entry_eq]
  generalize (lg_sl ([.ref t0, .int v1]) ++ List.replicate (2 - (lg_sl ([.ref t0, .int v1])).length) Slot.unset).toArray = ls at hl ⊢
  exact tX11_callOf_0 ⟨B.exec, B.bytes, hml, findClass_of_methodNamed B.named, fun w hw => hts w (List.mem_cons_of_mem _ hw)⟩ B.returns B.notSynchronized t0 v1 h _ _ _ (hp_B.entry hU) hl hf
section
variable {p : Program} {l : Launch} {e : Env} {R : Room} {s : State} {m : MethodId} {args : Array Value} {below : List Frame} {meth : Method} {c : Code} {H : Heap} {locs : List Loc} {cells slots : Nat} {Q : State → Prop}
variable {cc : ByteArray} {pc nL : Nat} {ls : Array Slot} {rest : List Value} {D : va_G} {cA : Nat → ClassId} {A : Nat → Prop} {a : Nat} {h : Hp}
theorem cl_X11_267 {As st0 : List Value} {b : Nat} {Qc : Array Value → State → Outcome → State → Prop} (cx : CallFix p m c cc nL s args tbG RX11) (hB : hp_B D cA A s h H locs) (hM : hp_M l yX11_callOf prog_13_method_45_code 2 (Option.some FieldType.int) rmX11_callOf D cA h (.ref b :: As) Qc) (hkb : h.1 b = 12) (hR : rmX11_callOf.frames + 1 ≤ R.frames ∧ 8 + (2 + 11) + rmX11_callOf.locals ≤ R.locals) (hn : As.length = 1) (hls : ls.size = nL) (hst : st0 = As.reverse ++ .ref b :: rest) (hW : (rest.map fun v => v.category).sum ≤ 8) (hf : cells + rmX11_callOf.cells ≤ R.cells ∧ slots + rmX11_callOf.slots ≤ R.slots) (hdg : decode cc pc = .ok (.invokevirtual 267, 3)) :
    va_Run p l e R s m args below meth c H locs cells slots rmX11_callOf.cells rmX11_callOf.slots (F0 m pc ls st0) rest (Qc (Value.ref b :: As).toArray) (hp_A h) :=
  hp_runV cx hB hM (ci := 11) rfl (by decide) hkb qw_1081 qw_1078 qw_1080 qp_36 qw_10 (by decide +kernel) hR hn hls hst hW hf hdg
end
abbrev yX11_sum : MethodName := ⟨"SpokenMenusModel", "sum", "(I)I"⟩
theorem dX11_sum_0 : decode prog_13_method_46_code 0 = .ok (.iload_n 1, 1) := by decide +kernel
theorem dX11_sum_1 : decode prog_13_method_46_code 1 = .ok (.iconst 0, 1) := by decide +kernel
theorem dX11_sum_2 : decode prog_13_method_46_code 2 = .ok (.iconst 4, 1) := by decide +kernel
theorem dX11_sum_3 : decode prog_13_method_46_code 3 = .ok (.invokestatic 129, 3) := by decide +kernel
theorem dX11_sum_6 : decode prog_13_method_46_code 6 = .ok (.ifCond .ne 5, 3) := by decide +kernel
theorem dX11_sum_9 : decode prog_13_method_46_code 9 = .ok (.iconst (-1), 1) := by decide +kernel
theorem dX11_sum_10 : decode prog_13_method_46_code 10 = .ok (.ireturn, 1) := by decide +kernel
theorem dX11_sum_11 : decode prog_13_method_46_code 11 = .ok (.aload_n 0, 1) := by decide +kernel
theorem dX11_sum_12 : decode prog_13_method_46_code 12 = .ok (.getfield 125, 3) := by decide +kernel
theorem dX11_sum_15 : decode prog_13_method_46_code 15 = .ok (.ifCond .ne 6, 3) := by decide +kernel
theorem dX11_sum_18 : decode prog_13_method_46_code 18 = .ok (.bipush (-2), 2) := by decide +kernel
theorem dX11_sum_20 : decode prog_13_method_46_code 20 = .ok (.ireturn, 1) := by decide +kernel
theorem dX11_sum_21 : decode prog_13_method_46_code 21 = .ok (.iconst 0, 1) := by decide +kernel
theorem dX11_sum_22 : decode prog_13_method_46_code 22 = .ok (.istore_n 2, 1) := by decide +kernel
theorem dX11_sum_23 : decode prog_13_method_46_code 23 = .ok (.iconst 0, 1) := by decide +kernel
theorem dX11_sum_24 : decode prog_13_method_46_code 24 = .ok (.istore_n 3, 1) := by decide +kernel
theorem dX11_sum_25 : decode prog_13_method_46_code 25 = .ok (.iload_n 3, 1) := by decide +kernel
theorem dX11_sum_26 : decode prog_13_method_46_code 26 = .ok (.aload_n 0, 1) := by decide +kernel
theorem dX11_sum_27 : decode prog_13_method_46_code 27 = .ok (.getfield 264, 3) := by decide +kernel
theorem dX11_sum_30 : decode prog_13_method_46_code 30 = .ok (.if_icmp .ge 55, 3) := by decide +kernel
theorem dX11_sum_33 : decode prog_13_method_46_code 33 = .ok (.aload_n 0, 1) := by decide +kernel
theorem dX11_sum_34 : decode prog_13_method_46_code 34 = .ok (.iload_n 3, 1) := by decide +kernel
theorem dX11_sum_35 : decode prog_13_method_46_code 35 = .ok (.invokevirtual 267, 3) := by decide +kernel
theorem dX11_sum_38 : decode prog_13_method_46_code 38 = .ok (.istore 4, 2) := by decide +kernel
theorem dX11_sum_40 : decode prog_13_method_46_code 40 = .ok (.iload_n 2, 1) := by decide +kernel
theorem dX11_sum_41 : decode prog_13_method_46_code 41 = .ok (.iload_n 1, 1) := by decide +kernel
theorem dX11_sum_42 : decode prog_13_method_46_code 42 = .ok (.ifCond .ne 17, 3) := by decide +kernel
theorem dX11_sum_45 : decode prog_13_method_46_code 45 = .ok (.aload_n 0, 1) := by decide +kernel
theorem dX11_sum_46 : decode prog_13_method_46_code 46 = .ok (.getfield 52, 3) := by decide +kernel
theorem dX11_sum_49 : decode prog_13_method_46_code 49 = .ok (.iload_n 3, 1) := by decide +kernel
theorem dX11_sum_50 : decode prog_13_method_46_code 50 = .ok (.iaload, 1) := by decide +kernel
theorem dX11_sum_51 : decode prog_13_method_46_code 51 = .ok (.aload_n 0, 1) := by decide +kernel
theorem dX11_sum_52 : decode prog_13_method_46_code 52 = .ok (.getfield 196, 3) := by decide +kernel
theorem dX11_sum_55 : decode prog_13_method_46_code 55 = .ok (.imul, 1) := by decide +kernel
theorem dX11_sum_56 : decode prog_13_method_46_code 56 = .ok (.goto 21, 3) := by decide +kernel
theorem dX11_sum_59 : decode prog_13_method_46_code 59 = .ok (.iload 4, 2) := by decide +kernel
theorem dX11_sum_61 : decode prog_13_method_46_code 61 = .ok (.iload_n 1, 1) := by decide +kernel
theorem dX11_sum_62 : decode prog_13_method_46_code 62 = .ok (.iconst 1, 1) := by decide +kernel
theorem dX11_sum_63 : decode prog_13_method_46_code 63 = .ok (.isub, 1) := by decide +kernel
theorem dX11_sum_64 : decode prog_13_method_46_code 64 = .ok (.if_icmp .ne 12, 3) := by decide +kernel
theorem dX11_sum_67 : decode prog_13_method_46_code 67 = .ok (.aload_n 0, 1) := by decide +kernel
theorem dX11_sum_68 : decode prog_13_method_46_code 68 = .ok (.getfield 52, 3) := by decide +kernel
theorem dX11_sum_71 : decode prog_13_method_46_code 71 = .ok (.iload_n 3, 1) := by decide +kernel
theorem dX11_sum_72 : decode prog_13_method_46_code 72 = .ok (.iaload, 1) := by decide +kernel
theorem dX11_sum_73 : decode prog_13_method_46_code 73 = .ok (.goto 4, 3) := by decide +kernel
theorem dX11_sum_76 : decode prog_13_method_46_code 76 = .ok (.iconst 0, 1) := by decide +kernel
theorem dX11_sum_77 : decode prog_13_method_46_code 77 = .ok (.iadd, 1) := by decide +kernel
theorem dX11_sum_78 : decode prog_13_method_46_code 78 = .ok (.istore_n 2, 1) := by decide +kernel
theorem dX11_sum_79 : decode prog_13_method_46_code 79 = .ok (.iinc 3 1, 3) := by decide +kernel
theorem dX11_sum_82 : decode prog_13_method_46_code 82 = .ok (.goto (-57), 3) := by decide +kernel
theorem dX11_sum_85 : decode prog_13_method_46_code 85 = .ok (.iload_n 2, 1) := by decide +kernel
theorem dX11_sum_86 : decode prog_13_method_46_code 86 = .ok (.ireturn, 1) := by decide +kernel
abbrev rmX11_sum : Room := { frames := 8, cells := 0, slots := 0, locals := 184 }
def bX11_sum_25  (rc : Nat → Int32 → Int32 → Int32 → Hp → Option (Int32 × Hp)) (t0 : Nat) (v1 : Int32) (v2 : Int32) (v3 : Int32) (h : Hp) : Option (Int32 × Hp) :=
  gk (h.1 t0) 12 <|
  if (h.2.2.1 t0 15) ≤ v3 then
  (some (v2, h))
  else
  (b2 (fX11_callOf t0 v3 h) fun r5 g3 =>
  if v1 = 0 then
  (gk (g3.1 t0) 12 <|
  bd (g3.2.2.2.1 t0 16) fun a19 =>
  gk (g3.1 a19) 13 <|
  gd (ix v3 (g3.2.1 a19)) <|
  nm (v2 + ((g3.2.2.1 a19 (Int32.toNatClampNeg v3)) * (g3.2.2.1 t0 37))) fun x23 =>
  nm (v3 + 1) fun x24 =>
  rc t0 v1 x23 x24 g3)
  else
  (if r5 = (v1 - 1) then
  (gk (g3.1 t0) 12 <|
  bd (g3.2.2.2.1 t0 16) fun a12 =>
  gk (g3.1 a12) 13 <|
  gd (ix v3 (g3.2.1 a12)) <|
  nm (v2 + (g3.2.2.1 a12 (Int32.toNatClampNeg v3))) fun x16 =>
  nm (v3 + 1) fun x17 =>
  rc t0 v1 x16 x17 g3)
  else
  (nm (v2 + 0) fun x9 =>
  nm (v3 + 1) fun x10 =>
  rc t0 v1 x9 x10 g3)))
def fX11_sum_25  : Nat → Int32 → Int32 → Int32 → Hp → Option (Int32 × Hp) := fx (bX11_sum_25 ) (fun _ _ _ _ _ => none) NF
def fX11_sum  (t0 : Nat) (v1 : Int32) (h : Hp) : Option (Int32 × Hp) :=
  b2 (fX11_in v1 0 4 h) fun r3 g1 =>
  if r3 = 0 then
  (some ((-1), g1))
  else
  (gk (g1.1 t0) 12 <|
  if (g1.2.2.1 t0 0) = 0 then
  (some ((-2), g1))
  else
  (fX11_sum_25  t0 v1 0 0 g1))
section
variable {p : Program} {l : Launch} {e : Env} {s : State} {m : MethodId} {args : Array Value} {below : List Frame} {meth : Method} {c : Code} {D : va_G} {cA : Nat → ClassId} {h0 h9 : Hp}
set_option maxHeartbeats 4000000 in
set_option maxRecDepth 100000 in
theorem tX11_sum_25  {r : Int32} (cx : CallFix p m c prog_13_method_46_code 5 s args tbG RX11) (hr : meth.sig.returnType = (Option.some FieldType.int)) (hlk : meth.locks = false)  (n : Nat) : ∀ (t0 : Nat) (v1 : Int32) (v2 : Int32) (v3 : Int32) (h : Hp) (H : Heap) (locs : List Loc) (ls : Array Slot), hp_B D cA (hp_A h0) s h H locs → lv_has ls 5 [(0, .ref t0), (1, .int v1), (2, .int v2), (3, .int v3)] → fx (bX11_sum_25 ) (fun _ _ _ _ _ => none) n t0 v1 v2 v3 h = some (r, h9) → W p l e rmX11_sum s m args below meth c H locs 0 0 (MQ below (hp_Qi D cA h0 h9 r) args s 0 0 (hp_A h0)) (F0 m 25 ls []) := by
  obtain ⟨hx, hb, -⟩ := id cx
  induction n with
  | zero => intro t0 v1 v2 v3 h H locs ls hB hl hf; cases hf
  | succ n ih =>
    intro t0 v1 v2 v3 h H locs ls hB hl hf
    replace hf : bX11_sum_25  (fx (bX11_sum_25 ) (fun _ _ _ _ _ => none) n) t0 v1 v2 v3 h = some (r, h9) := hf
    unfold bX11_sum_25 at hf
    refine lv_iload_n hx hb dX11_sum_25 rfl (lv_at hl 3 rfl) ?_
    refine lv_aload_n hx hb dX11_sum_26 rfl (lv_at hl 0 rfl) ?_
    obtain ⟨k1, hf⟩ := gk_ok hf
    refine gf_X11_264 cx hB k1 dX11_sum_27 ?_
    refine lv_icmp_ge (tgt := 85) hx hb dX11_sum_30 (by decide) (fun c2 => ?_) (fun c2 => ?_)
    · replace hf := it_t c2 hf
      refine lv_iload_n hx hb dX11_sum_85 rfl (lv_at hl 2 rfl) ?_
      obtain ⟨rfl, rfl⟩ := rt_ok hf
      exact hp_iret cx hB hr hlk (Nat.le_of_ble_eq_true rfl) (Nat.le_of_ble_eq_true rfl) dX11_sum_86
    · replace hf := it_f c2 hf
      refine lv_aload_n hx hb dX11_sum_33 rfl (lv_at hl 0 rfl) ?_
      refine lv_iload_n hx hb dX11_sum_34 rfl (lv_at hl 3 rfl) ?_
      obtain ⟨r5, g3, m4, hf⟩ := b2_ok hf
      refine hp_cI0 (cl_X11_267 cx hB (cX11_callOf l D cA t0 v3 h _ g3 m4) k1 ⟨Nat.le_of_ble_eq_true rfl, Nat.le_of_ble_eq_true rfl⟩ rfl hl.1 rfl (Nat.le_of_ble_eq_true rfl) ⟨Nat.le_of_ble_eq_true rfl, Nat.le_of_ble_eq_true rfl⟩ dX11_sum_35) rfl rfl hB (fun H locs hB => ?_)
      refine lv_istore (lv' := [(4, .int r5), (0, .ref t0), (1, .int v1), (2, .int v2), (3, .int v3)]) hx hb dX11_sum_38 hl (by decide) rfl (fun ls hl => ?_)
      refine lv_iload_n hx hb dX11_sum_40 rfl (lv_at hl 3 rfl) ?_
      refine lv_iload_n hx hb dX11_sum_41 rfl (lv_at hl 2 rfl) ?_
      refine lv_if_ne (tgt := 59) hx hb dX11_sum_42 (by decide) (fun c7 => ?_) (fun c7 => ?_)
      · replace hf := it_f c7 hf
        refine lv_iload hx hb dX11_sum_59 (lv_at hl 0 rfl) ?_
        refine lv_iload_n hx hb dX11_sum_61 rfl (lv_at hl 2 rfl) ?_
        refine lv_iconst (v := 1) hx hb dX11_sum_62 (by decide) ?_
        refine lv_isub hx hb dX11_sum_63 ?_
        refine lv_icmp_ne (tgt := 76) hx hb dX11_sum_64 (by decide) (fun c8 => ?_) (fun c8 => ?_)
        · replace hf := it_f c8 hf
          refine lv_iconst (v := 0) hx hb dX11_sum_76 (by decide) ?_
          refine lv_iadd hx hb dX11_sum_77 ?_
          obtain ⟨x9, ex9, hf⟩ := nm_ok hf
          refine lv_ren ex9 ?_
          refine lv_istore_n (lv' := [(2, .int x9), (4, .int r5), (0, .ref t0), (1, .int v1), (3, .int v3)]) hx hb dX11_sum_78 rfl hl (by decide) rfl (fun ls hl => ?_)
          obtain ⟨x10, ex10, hf⟩ := nm_ok hf
          refine lv_iinc (v := x10) (lv' := [(3, .int x10), (2, .int x9), (4, .int r5), (0, .ref t0), (1, .int v1)]) hx hb dX11_sum_79 hl (k := 4) rfl (by rw [ex10]; rfl) (by decide) rfl (fun ls hl => ?_)
          refine lv_goto (tgt := 25) hx hb dX11_sum_82 (by decide) ?_
          exact ih t0 v1 x9 x10 g3 _ _ _ hB (lv_sub hl [3, 4, 1, 0] rfl) hf
        · replace hf := it_t c8 hf
          refine lv_aload_n hx hb dX11_sum_67 rfl (lv_at hl 1 rfl) ?_
          obtain ⟨k11, hf⟩ := gk_ok hf
          obtain ⟨a12, q13, hf⟩ := bd_ok hf
          refine gf_X11_52 cx hB k11 q13 dX11_sum_68 ?_
          refine lv_iload_n hx hb dX11_sum_71 rfl (lv_at hl 4 rfl) ?_
          obtain ⟨k14, hf⟩ := gk_ok hf
          obtain ⟨j15, hf⟩ := gd_ok hf
          refine hp_iald cx hB k14 j15 dX11_sum_72 ?_
          refine lv_goto (tgt := 77) hx hb dX11_sum_73 (by decide) ?_
          refine lv_iadd hx hb dX11_sum_77 ?_
          obtain ⟨x16, ex16, hf⟩ := nm_ok hf
          refine lv_ren ex16 ?_
          refine lv_istore_n (lv' := [(2, .int x16), (4, .int r5), (0, .ref t0), (1, .int v1), (3, .int v3)]) hx hb dX11_sum_78 rfl hl (by decide) rfl (fun ls hl => ?_)
          obtain ⟨x17, ex17, hf⟩ := nm_ok hf
          refine lv_iinc (v := x17) (lv' := [(3, .int x17), (2, .int x16), (4, .int r5), (0, .ref t0), (1, .int v1)]) hx hb dX11_sum_79 hl (k := 4) rfl (by rw [ex17]; rfl) (by decide) rfl (fun ls hl => ?_)
          refine lv_goto (tgt := 25) hx hb dX11_sum_82 (by decide) ?_
          exact ih t0 v1 x16 x17 g3 _ _ _ hB (lv_sub hl [3, 4, 1, 0] rfl) hf
      · replace hf := it_t c7 hf
        refine lv_aload_n hx hb dX11_sum_45 rfl (lv_at hl 1 rfl) ?_
        obtain ⟨k18, hf⟩ := gk_ok hf
        obtain ⟨a19, q20, hf⟩ := bd_ok hf
        refine gf_X11_52 cx hB k18 q20 dX11_sum_46 ?_
        refine lv_iload_n hx hb dX11_sum_49 rfl (lv_at hl 4 rfl) ?_
        obtain ⟨k21, hf⟩ := gk_ok hf
        obtain ⟨j22, hf⟩ := gd_ok hf
        refine hp_iald cx hB k21 j22 dX11_sum_50 ?_
        refine lv_aload_n hx hb dX11_sum_51 rfl (lv_at hl 1 rfl) ?_
        refine gf_X11_196 cx hB k18 dX11_sum_52 ?_
        refine lv_imul hx hb dX11_sum_55 ?_
        refine lv_goto (tgt := 77) hx hb dX11_sum_56 (by decide) ?_
        refine lv_iadd hx hb dX11_sum_77 ?_
        obtain ⟨x23, ex23, hf⟩ := nm_ok hf
        refine lv_ren ex23 ?_
        refine lv_istore_n (lv' := [(2, .int x23), (4, .int r5), (0, .ref t0), (1, .int v1), (3, .int v3)]) hx hb dX11_sum_78 rfl hl (by decide) rfl (fun ls hl => ?_)
        obtain ⟨x24, ex24, hf⟩ := nm_ok hf
        refine lv_iinc (v := x24) (lv' := [(3, .int x24), (2, .int x23), (4, .int r5), (0, .ref t0), (1, .int v1)]) hx hb dX11_sum_79 hl (k := 4) rfl (by rw [ex24]; rfl) (by decide) rfl (fun ls hl => ?_)
        refine lv_goto (tgt := 25) hx hb dX11_sum_82 (by decide) ?_
        exact ih t0 v1 x23 x24 g3 _ _ _ hB (lv_sub hl [3, 4, 1, 0] rfl) hf
set_option maxHeartbeats 4000000 in
set_option maxRecDepth 100000 in
theorem tX11_sum_0  {r : Int32} (cx : CallFix p m c prog_13_method_46_code 5 s args tbG RX11) (hr : meth.sig.returnType = (Option.some FieldType.int)) (hlk : meth.locks = false)  (t0 : Nat) (v1 : Int32) (h : Hp) (H : Heap) (locs : List Loc) (ls : Array Slot) (hB : hp_B D cA (hp_A h0) s h H locs) (hl : lv_has ls 5 [(0, .ref t0), (1, .int v1)]) (hf : fX11_sum  t0 v1 h = some (r, h9)) : W p l e rmX11_sum s m args below meth c H locs 0 0 (MQ below (hp_Qi D cA h0 h9 r) args s 0 0 (hp_A h0)) (F0 m 0 ls []) := by
  obtain ⟨hx, hb, -⟩ := id cx
  unfold fX11_sum at hf
  refine lv_iload_n hx hb dX11_sum_0 rfl (lv_at hl 1 rfl) ?_
  refine lv_iconst (v := 0) hx hb dX11_sum_1 (by decide) ?_
  refine lv_iconst (v := 4) hx hb dX11_sum_2 (by decide) ?_
  obtain ⟨r3, g1, m2, hf⟩ := b2_ok hf
  refine hp_cI0 (cl_X11_129 cx hB (cX11_in l D cA v1 0 4 h _ g1 m2) ⟨Nat.le_of_ble_eq_true rfl, Nat.le_of_ble_eq_true rfl⟩ rfl hl.1 rfl (Nat.le_of_ble_eq_true rfl) ⟨Nat.le_of_ble_eq_true rfl, Nat.le_of_ble_eq_true rfl⟩ dX11_sum_3) rfl rfl hB (fun H locs hB => ?_)
  refine lv_if_ne (tgt := 11) hx hb dX11_sum_6 (by decide) (fun c5 => ?_) (fun c5 => ?_)
  · replace hf := it_f c5 hf
    refine lv_aload_n hx hb dX11_sum_11 rfl (lv_at hl 0 rfl) ?_
    obtain ⟨k6, hf⟩ := gk_ok hf
    refine gf_X11_125 cx hB k6 dX11_sum_12 ?_
    refine lv_if_ne (tgt := 21) hx hb dX11_sum_15 (by decide) (fun c7 => ?_) (fun c7 => ?_)
    · replace hf := it_f c7 hf
      refine lv_iconst (v := 0) hx hb dX11_sum_21 (by decide) ?_
      refine lv_istore_n (lv' := [(2, .int 0), (0, .ref t0), (1, .int v1)]) hx hb dX11_sum_22 rfl hl (by decide) rfl (fun ls hl => ?_)
      refine lv_iconst (v := 0) hx hb dX11_sum_23 (by decide) ?_
      refine lv_istore_n (lv' := [(3, .int 0), (2, .int 0), (0, .ref t0), (1, .int v1)]) hx hb dX11_sum_24 rfl hl (by decide) rfl (fun ls hl => ?_)
      exact tX11_sum_25 cx hr hlk  NF t0 v1 0 0 g1 _ _ _ hB (lv_sub hl [2, 3, 1, 0] rfl) hf
    · replace hf := it_t c7 hf
      refine lv_bipush (v := (-2)) hx hb dX11_sum_18 (by decide) ?_
      obtain ⟨rfl, rfl⟩ := rt_ok hf
      exact hp_iret cx hB hr hlk (Nat.le_of_ble_eq_true rfl) (Nat.le_of_ble_eq_true rfl) dX11_sum_20
  · replace hf := it_t c5 hf
    refine lv_iconst (v := (-1)) hx hb dX11_sum_9 (by decide) ?_
    obtain ⟨rfl, rfl⟩ := rt_ok hf
    exact hp_iret cx hB hr hlk (Nat.le_of_ble_eq_true rfl) (Nat.le_of_ble_eq_true rfl) dX11_sum_10
end
set_option maxHeartbeats 4000000 in
set_option maxRecDepth 100000 in
theorem cX11_sum (l : Launch) (D : va_G) (cA : Nat → ClassId) (t0 : Nat) (v1 : Int32) (h : Hp) (r : Int32) (h9 : Hp) (hf : fX11_sum t0 v1 h = some (r, h9)) : hp_M l yX11_sum prog_13_method_46_code 5 (Option.some FieldType.int) rmX11_sum D cA h [.ref t0, .int v1] (hp_Qi D cA h h9 r) := by
  refine Met.ofW (cc := prog_13_method_46_code) (maxL := 5) (ret := (Option.some FieldType.int)) (by decide) rfl ?_
  intro p e s m args below meth c s₁ B hml hv
  obtain ⟨rfl, hU⟩ := hv
  have hts := atoms_spec (ws := Cond.code yX11_sum prog_13_method_46_code 5 (Option.some FieldType.int) :: tbG) B.pre
  have hl := lv_entry ([.ref t0, .int v1]) (n := 5) (Nat.le_of_ble_eq_true rfl)
  rw [lg_entry_eq]
  generalize (lg_sl ([.ref t0, .int v1]) ++ List.replicate (5 - (lg_sl ([.ref t0, .int v1])).length) Slot.unset).toArray = ls at hl ⊢
  exact tX11_sum_0 ⟨B.exec, B.bytes, hml, findClass_of_methodNamed B.named, fun w hw => hts w (List.mem_cons_of_mem _ hw)⟩ B.returns B.notSynchronized t0 v1 h _ _ _ (hp_B.entry hU) hl hf
abbrev yX11_hung : MethodName := ⟨"SpokenMenusModel", "hung", "(I)I"⟩
theorem dX11_hung_0 : decode prog_13_method_47_code 0 = .ok (.aload_n 0, 1) := by decide +kernel
theorem dX11_hung_1 : decode prog_13_method_47_code 1 = .ok (.iload_n 1, 1) := by decide +kernel
theorem dX11_hung_2 : decode prog_13_method_47_code 2 = .ok (.invokevirtual 142, 3) := by decide +kernel
theorem dX11_hung_5 : decode prog_13_method_47_code 5 = .ok (.ifCond .ne 5, 3) := by decide +kernel
theorem dX11_hung_8 : decode prog_13_method_47_code 8 = .ok (.iconst (-1), 1) := by decide +kernel
theorem dX11_hung_9 : decode prog_13_method_47_code 9 = .ok (.ireturn, 1) := by decide +kernel
theorem dX11_hung_10 : decode prog_13_method_47_code 10 = .ok (.iconst 0, 1) := by decide +kernel
theorem dX11_hung_11 : decode prog_13_method_47_code 11 = .ok (.istore_n 2, 1) := by decide +kernel
theorem dX11_hung_12 : decode prog_13_method_47_code 12 = .ok (.iconst 0, 1) := by decide +kernel
theorem dX11_hung_13 : decode prog_13_method_47_code 13 = .ok (.istore_n 3, 1) := by decide +kernel
theorem dX11_hung_14 : decode prog_13_method_47_code 14 = .ok (.iload_n 3, 1) := by decide +kernel
theorem dX11_hung_15 : decode prog_13_method_47_code 15 = .ok (.aload_n 0, 1) := by decide +kernel
theorem dX11_hung_16 : decode prog_13_method_47_code 16 = .ok (.getfield 264, 3) := by decide +kernel
theorem dX11_hung_19 : decode prog_13_method_47_code 19 = .ok (.if_icmp .ge 43, 3) := by decide +kernel
theorem dX11_hung_22 : decode prog_13_method_47_code 22 = .ok (.aload_n 0, 1) := by decide +kernel
theorem dX11_hung_23 : decode prog_13_method_47_code 23 = .ok (.iload_n 3, 1) := by decide +kernel
theorem dX11_hung_24 : decode prog_13_method_47_code 24 = .ok (.invokevirtual 267, 3) := by decide +kernel
theorem dX11_hung_27 : decode prog_13_method_47_code 27 = .ok (.istore 4, 2) := by decide +kernel
theorem dX11_hung_29 : decode prog_13_method_47_code 29 = .ok (.iload_n 2, 1) := by decide +kernel
theorem dX11_hung_30 : decode prog_13_method_47_code 30 = .ok (.iload 4, 2) := by decide +kernel
theorem dX11_hung_32 : decode prog_13_method_47_code 32 = .ok (.iconst 2, 1) := by decide +kernel
theorem dX11_hung_33 : decode prog_13_method_47_code 33 = .ok (.if_icmp .ne 20, 3) := by decide +kernel
theorem dX11_hung_36 : decode prog_13_method_47_code 36 = .ok (.aload_n 0, 1) := by decide +kernel
theorem dX11_hung_37 : decode prog_13_method_47_code 37 = .ok (.getfield 209, 3) := by decide +kernel
theorem dX11_hung_40 : decode prog_13_method_47_code 40 = .ok (.iload_n 1, 1) := by decide +kernel
theorem dX11_hung_41 : decode prog_13_method_47_code 41 = .ok (.if_icmp .ne 12, 3) := by decide +kernel
theorem dX11_hung_44 : decode prog_13_method_47_code 44 = .ok (.aload_n 0, 1) := by decide +kernel
theorem dX11_hung_45 : decode prog_13_method_47_code 45 = .ok (.getfield 52, 3) := by decide +kernel
theorem dX11_hung_48 : decode prog_13_method_47_code 48 = .ok (.iload_n 3, 1) := by decide +kernel
theorem dX11_hung_49 : decode prog_13_method_47_code 49 = .ok (.iaload, 1) := by decide +kernel
theorem dX11_hung_50 : decode prog_13_method_47_code 50 = .ok (.goto 4, 3) := by decide +kernel
theorem dX11_hung_53 : decode prog_13_method_47_code 53 = .ok (.iconst 0, 1) := by decide +kernel
theorem dX11_hung_54 : decode prog_13_method_47_code 54 = .ok (.iadd, 1) := by decide +kernel
theorem dX11_hung_55 : decode prog_13_method_47_code 55 = .ok (.istore_n 2, 1) := by decide +kernel
theorem dX11_hung_56 : decode prog_13_method_47_code 56 = .ok (.iinc 3 1, 3) := by decide +kernel
theorem dX11_hung_59 : decode prog_13_method_47_code 59 = .ok (.goto (-45), 3) := by decide +kernel
theorem dX11_hung_62 : decode prog_13_method_47_code 62 = .ok (.iload_n 2, 1) := by decide +kernel
theorem dX11_hung_63 : decode prog_13_method_47_code 63 = .ok (.ireturn, 1) := by decide +kernel
abbrev rmX11_hung : Room := { frames := 8, cells := 0, slots := 0, locals := 184 }
def bX11_hung_14  (rc : Nat → Int32 → Int32 → Int32 → Hp → Option (Int32 × Hp)) (t0 : Nat) (v1 : Int32) (v2 : Int32) (v3 : Int32) (h : Hp) : Option (Int32 × Hp) :=
  gk (h.1 t0) 12 <|
  if (h.2.2.1 t0 15) ≤ v3 then
  (some (v2, h))
  else
  (b2 (fX11_callOf t0 v3 h) fun r5 g3 =>
  if r5 = 2 then
  (gk (g3.1 t0) 12 <|
  if (g3.2.2.1 t0 38) = v1 then
  (bd (g3.2.2.2.1 t0 16) fun a14 =>
  gk (g3.1 a14) 13 <|
  gd (ix v3 (g3.2.1 a14)) <|
  nm (v2 + (g3.2.2.1 a14 (Int32.toNatClampNeg v3))) fun x18 =>
  nm (v3 + 1) fun x19 =>
  rc t0 v1 x18 x19 g3)
  else
  (nm (v2 + 0) fun x12 =>
  nm (v3 + 1) fun x13 =>
  rc t0 v1 x12 x13 g3))
  else
  (nm (v2 + 0) fun x8 =>
  nm (v3 + 1) fun x9 =>
  rc t0 v1 x8 x9 g3))
def fX11_hung_14  : Nat → Int32 → Int32 → Int32 → Hp → Option (Int32 × Hp) := fx (bX11_hung_14 ) (fun _ _ _ _ _ => none) NF
def fX11_hung  (t0 : Nat) (v1 : Int32) (h : Hp) : Option (Int32 × Hp) :=
  gk (h.1 t0) 12 <|
  b2 (fX11_isPlace t0 v1 h) fun r4 g2 =>
  if r4 = 0 then
  (some ((-1), g2))
  else
  (fX11_hung_14  t0 v1 0 0 g2)
section
variable {p : Program} {l : Launch} {e : Env} {s : State} {m : MethodId} {args : Array Value} {below : List Frame} {meth : Method} {c : Code} {D : va_G} {cA : Nat → ClassId} {h0 h9 : Hp}
set_option maxHeartbeats 4000000 in
set_option maxRecDepth 100000 in
theorem tX11_hung_14  {r : Int32} (cx : CallFix p m c prog_13_method_47_code 5 s args tbG RX11) (hr : meth.sig.returnType = (Option.some FieldType.int)) (hlk : meth.locks = false)  (n : Nat) : ∀ (t0 : Nat) (v1 : Int32) (v2 : Int32) (v3 : Int32) (h : Hp) (H : Heap) (locs : List Loc) (ls : Array Slot), hp_B D cA (hp_A h0) s h H locs → lv_has ls 5 [(0, .ref t0), (1, .int v1), (2, .int v2), (3, .int v3)] → fx (bX11_hung_14 ) (fun _ _ _ _ _ => none) n t0 v1 v2 v3 h = some (r, h9) → W p l e rmX11_hung s m args below meth c H locs 0 0 (MQ below (hp_Qi D cA h0 h9 r) args s 0 0 (hp_A h0)) (F0 m 14 ls []) := by
  obtain ⟨hx, hb, -⟩ := id cx
  induction n with
  | zero => intro t0 v1 v2 v3 h H locs ls hB hl hf; cases hf
  | succ n ih =>
    intro t0 v1 v2 v3 h H locs ls hB hl hf
    replace hf : bX11_hung_14  (fx (bX11_hung_14 ) (fun _ _ _ _ _ => none) n) t0 v1 v2 v3 h = some (r, h9) := hf
    unfold bX11_hung_14 at hf
    refine lv_iload_n hx hb dX11_hung_14 rfl (lv_at hl 3 rfl) ?_
    refine lv_aload_n hx hb dX11_hung_15 rfl (lv_at hl 0 rfl) ?_
    obtain ⟨k1, hf⟩ := gk_ok hf
    refine gf_X11_264 cx hB k1 dX11_hung_16 ?_
    refine lv_icmp_ge (tgt := 62) hx hb dX11_hung_19 (by decide) (fun c2 => ?_) (fun c2 => ?_)
    · replace hf := it_t c2 hf
      refine lv_iload_n hx hb dX11_hung_62 rfl (lv_at hl 2 rfl) ?_
      obtain ⟨rfl, rfl⟩ := rt_ok hf
      exact hp_iret cx hB hr hlk (Nat.le_of_ble_eq_true rfl) (Nat.le_of_ble_eq_true rfl) dX11_hung_63
    · replace hf := it_f c2 hf
      refine lv_aload_n hx hb dX11_hung_22 rfl (lv_at hl 0 rfl) ?_
      refine lv_iload_n hx hb dX11_hung_23 rfl (lv_at hl 3 rfl) ?_
      obtain ⟨r5, g3, m4, hf⟩ := b2_ok hf
      refine hp_cI0 (cl_X11_267 cx hB (cX11_callOf l D cA t0 v3 h _ g3 m4) k1 ⟨Nat.le_of_ble_eq_true rfl, Nat.le_of_ble_eq_true rfl⟩ rfl hl.1 rfl (Nat.le_of_ble_eq_true rfl) ⟨Nat.le_of_ble_eq_true rfl, Nat.le_of_ble_eq_true rfl⟩ dX11_hung_24) rfl rfl hB (fun H locs hB => ?_)
      refine lv_istore (lv' := [(4, .int r5), (0, .ref t0), (1, .int v1), (2, .int v2), (3, .int v3)]) hx hb dX11_hung_27 hl (by decide) rfl (fun ls hl => ?_)
      refine lv_iload_n hx hb dX11_hung_29 rfl (lv_at hl 3 rfl) ?_
      refine lv_iload hx hb dX11_hung_30 (lv_at hl 0 rfl) ?_
      refine lv_iconst (v := 2) hx hb dX11_hung_32 (by decide) ?_
      refine lv_icmp_ne (tgt := 53) hx hb dX11_hung_33 (by decide) (fun c7 => ?_) (fun c7 => ?_)
      · replace hf := it_f c7 hf
        refine lv_iconst (v := 0) hx hb dX11_hung_53 (by decide) ?_
        refine lv_iadd hx hb dX11_hung_54 ?_
        obtain ⟨x8, ex8, hf⟩ := nm_ok hf
        refine lv_ren ex8 ?_
        refine lv_istore_n (lv' := [(2, .int x8), (4, .int r5), (0, .ref t0), (1, .int v1), (3, .int v3)]) hx hb dX11_hung_55 rfl hl (by decide) rfl (fun ls hl => ?_)
        obtain ⟨x9, ex9, hf⟩ := nm_ok hf
        refine lv_iinc (v := x9) (lv' := [(3, .int x9), (2, .int x8), (4, .int r5), (0, .ref t0), (1, .int v1)]) hx hb dX11_hung_56 hl (k := 4) rfl (by rw [ex9]; rfl) (by decide) rfl (fun ls hl => ?_)
        refine lv_goto (tgt := 14) hx hb dX11_hung_59 (by decide) ?_
        exact ih t0 v1 x8 x9 g3 _ _ _ hB (lv_sub hl [3, 4, 1, 0] rfl) hf
      · replace hf := it_t c7 hf
        refine lv_aload_n hx hb dX11_hung_36 rfl (lv_at hl 1 rfl) ?_
        obtain ⟨k10, hf⟩ := gk_ok hf
        refine gf_X11_209 cx hB k10 dX11_hung_37 ?_
        refine lv_iload_n hx hb dX11_hung_40 rfl (lv_at hl 2 rfl) ?_
        refine lv_icmp_ne (tgt := 53) hx hb dX11_hung_41 (by decide) (fun c11 => ?_) (fun c11 => ?_)
        · replace hf := it_f c11 hf
          refine lv_iconst (v := 0) hx hb dX11_hung_53 (by decide) ?_
          refine lv_iadd hx hb dX11_hung_54 ?_
          obtain ⟨x12, ex12, hf⟩ := nm_ok hf
          refine lv_ren ex12 ?_
          refine lv_istore_n (lv' := [(2, .int x12), (4, .int r5), (0, .ref t0), (1, .int v1), (3, .int v3)]) hx hb dX11_hung_55 rfl hl (by decide) rfl (fun ls hl => ?_)
          obtain ⟨x13, ex13, hf⟩ := nm_ok hf
          refine lv_iinc (v := x13) (lv' := [(3, .int x13), (2, .int x12), (4, .int r5), (0, .ref t0), (1, .int v1)]) hx hb dX11_hung_56 hl (k := 4) rfl (by rw [ex13]; rfl) (by decide) rfl (fun ls hl => ?_)
          refine lv_goto (tgt := 14) hx hb dX11_hung_59 (by decide) ?_
          exact ih t0 v1 x12 x13 g3 _ _ _ hB (lv_sub hl [3, 4, 1, 0] rfl) hf
        · replace hf := it_t c11 hf
          refine lv_aload_n hx hb dX11_hung_44 rfl (lv_at hl 1 rfl) ?_
          obtain ⟨a14, q15, hf⟩ := bd_ok hf
          refine gf_X11_52 cx hB k10 q15 dX11_hung_45 ?_
          refine lv_iload_n hx hb dX11_hung_48 rfl (lv_at hl 4 rfl) ?_
          obtain ⟨k16, hf⟩ := gk_ok hf
          obtain ⟨j17, hf⟩ := gd_ok hf
          refine hp_iald cx hB k16 j17 dX11_hung_49 ?_
          refine lv_goto (tgt := 54) hx hb dX11_hung_50 (by decide) ?_
          refine lv_iadd hx hb dX11_hung_54 ?_
          obtain ⟨x18, ex18, hf⟩ := nm_ok hf
          refine lv_ren ex18 ?_
          refine lv_istore_n (lv' := [(2, .int x18), (4, .int r5), (0, .ref t0), (1, .int v1), (3, .int v3)]) hx hb dX11_hung_55 rfl hl (by decide) rfl (fun ls hl => ?_)
          obtain ⟨x19, ex19, hf⟩ := nm_ok hf
          refine lv_iinc (v := x19) (lv' := [(3, .int x19), (2, .int x18), (4, .int r5), (0, .ref t0), (1, .int v1)]) hx hb dX11_hung_56 hl (k := 4) rfl (by rw [ex19]; rfl) (by decide) rfl (fun ls hl => ?_)
          refine lv_goto (tgt := 14) hx hb dX11_hung_59 (by decide) ?_
          exact ih t0 v1 x18 x19 g3 _ _ _ hB (lv_sub hl [3, 4, 1, 0] rfl) hf
set_option maxHeartbeats 4000000 in
set_option maxRecDepth 100000 in
theorem tX11_hung_0  {r : Int32} (cx : CallFix p m c prog_13_method_47_code 5 s args tbG RX11) (hr : meth.sig.returnType = (Option.some FieldType.int)) (hlk : meth.locks = false)  (t0 : Nat) (v1 : Int32) (h : Hp) (H : Heap) (locs : List Loc) (ls : Array Slot) (hB : hp_B D cA (hp_A h0) s h H locs) (hl : lv_has ls 5 [(0, .ref t0), (1, .int v1)]) (hf : fX11_hung  t0 v1 h = some (r, h9)) : W p l e rmX11_hung s m args below meth c H locs 0 0 (MQ below (hp_Qi D cA h0 h9 r) args s 0 0 (hp_A h0)) (F0 m 0 ls []) := by
  obtain ⟨hx, hb, -⟩ := id cx
  unfold fX11_hung at hf
  refine lv_aload_n hx hb dX11_hung_0 rfl (lv_at hl 0 rfl) ?_
  refine lv_iload_n hx hb dX11_hung_1 rfl (lv_at hl 1 rfl) ?_
  obtain ⟨k1, hf⟩ := gk_ok hf
  obtain ⟨r4, g2, m3, hf⟩ := b2_ok hf
  refine hp_cI0 (cl_X11_142 cx hB (cX11_isPlace l D cA t0 v1 h _ g2 m3) k1 ⟨Nat.le_of_ble_eq_true rfl, Nat.le_of_ble_eq_true rfl⟩ rfl hl.1 rfl (Nat.le_of_ble_eq_true rfl) ⟨Nat.le_of_ble_eq_true rfl, Nat.le_of_ble_eq_true rfl⟩ dX11_hung_2) rfl rfl hB (fun H locs hB => ?_)
  refine lv_if_ne (tgt := 10) hx hb dX11_hung_5 (by decide) (fun c6 => ?_) (fun c6 => ?_)
  · replace hf := it_f c6 hf
    refine lv_iconst (v := 0) hx hb dX11_hung_10 (by decide) ?_
    refine lv_istore_n (lv' := [(2, .int 0), (0, .ref t0), (1, .int v1)]) hx hb dX11_hung_11 rfl hl (by decide) rfl (fun ls hl => ?_)
    refine lv_iconst (v := 0) hx hb dX11_hung_12 (by decide) ?_
    refine lv_istore_n (lv' := [(3, .int 0), (2, .int 0), (0, .ref t0), (1, .int v1)]) hx hb dX11_hung_13 rfl hl (by decide) rfl (fun ls hl => ?_)
    exact tX11_hung_14 cx hr hlk  NF t0 v1 0 0 g2 _ _ _ hB (lv_sub hl [2, 3, 1, 0] rfl) hf
  · replace hf := it_t c6 hf
    refine lv_iconst (v := (-1)) hx hb dX11_hung_8 (by decide) ?_
    obtain ⟨rfl, rfl⟩ := rt_ok hf
    exact hp_iret cx hB hr hlk (Nat.le_of_ble_eq_true rfl) (Nat.le_of_ble_eq_true rfl) dX11_hung_9
end
set_option maxHeartbeats 4000000 in
set_option maxRecDepth 100000 in
theorem cX11_hung (l : Launch) (D : va_G) (cA : Nat → ClassId) (t0 : Nat) (v1 : Int32) (h : Hp) (r : Int32) (h9 : Hp) (hf : fX11_hung t0 v1 h = some (r, h9)) : hp_M l yX11_hung prog_13_method_47_code 5 (Option.some FieldType.int) rmX11_hung D cA h [.ref t0, .int v1] (hp_Qi D cA h h9 r) := by
  refine Met.ofW (cc := prog_13_method_47_code) (maxL := 5) (ret := (Option.some FieldType.int)) (by decide) rfl ?_
  intro p e s m args below meth c s₁ B hml hv
  obtain ⟨rfl, hU⟩ := hv
  have hts := atoms_spec (ws := Cond.code yX11_hung prog_13_method_47_code 5 (Option.some FieldType.int) :: tbG) B.pre
  have hl := lv_entry ([.ref t0, .int v1]) (n := 5) (Nat.le_of_ble_eq_true rfl)
  rw [lg_entry_eq]
  generalize (lg_sl ([.ref t0, .int v1]) ++ List.replicate (5 - (lg_sl ([.ref t0, .int v1])).length) Slot.unset).toArray = ls at hl ⊢
  exact tX11_hung_0 ⟨B.exec, B.bytes, hml, findClass_of_methodNamed B.named, fun w hw => hts w (List.mem_cons_of_mem _ hw)⟩ B.returns B.notSynchronized t0 v1 h _ _ _ (hp_B.entry hU) hl hf
section
variable {p : Program} {l : Launch} {e : Env} {R : Room} {s : State} {m : MethodId} {args : Array Value} {below : List Frame} {meth : Method} {c : Code} {H : Heap} {locs : List Loc} {cells slots : Nat} {Q : State → Prop}
variable {cc : ByteArray} {pc nL : Nat} {ls : Array Slot} {rest : List Value} {D : va_G} {cA : Nat → ClassId} {A : Nat → Prop} {a : Nat} {h : Hp}
theorem gf_X11_104 (cx : CallFix p m c cc nL s args tbG RX11) (hB : hp_B D cA A s h H locs) (hka : h.1 a = 12) {b : Nat} (ho : h.2.2.2.1 a 48 = some b) (hdg : decode cc pc = .ok (.getfield 104, 3)) (kk : W p l e R s m args below meth c H locs cells slots Q (F0 m (pc + 3) ls (.ref b :: rest))) : W p l e R s m args below meth c H locs cells slots Q (F0 m pc ls (.ref a :: rest)) :=
  hp_getR cx hB (ci := 11) 48 rfl inX11 (by decide) rfl (by decide) rfl qw_780 hka (o := some b) ho.symm hdg kk
theorem gf_X11_107 (cx : CallFix p m c cc nL s args tbG RX11) (hB : hp_B D cA A s h H locs) (hka : h.1 a = 12) {b : Nat} (ho : h.2.2.2.1 a 49 = some b) (hdg : decode cc pc = .ok (.getfield 107, 3)) (kk : W p l e R s m args below meth c H locs cells slots Q (F0 m (pc + 3) ls (.ref b :: rest))) : W p l e R s m args below meth c H locs cells slots Q (F0 m pc ls (.ref a :: rest)) :=
  hp_getR cx hB (ci := 11) 49 rfl inX11 (by decide) rfl (by decide) rfl qw_781 hka (o := some b) ho.symm hdg kk
end
abbrev yX11_layOrder : MethodName := ⟨"SpokenMenusModel", "layOrder", "(I)V"⟩
theorem dX11_layOrder_0 : decode prog_13_method_48_code 0 = .ok (.iconst 0, 1) := by decide +kernel
theorem dX11_layOrder_1 : decode prog_13_method_48_code 1 = .ok (.istore_n 2, 1) := by decide +kernel
theorem dX11_layOrder_2 : decode prog_13_method_48_code 2 = .ok (.iload_n 2, 1) := by decide +kernel
theorem dX11_layOrder_3 : decode prog_13_method_48_code 3 = .ok (.bipush 6, 2) := by decide +kernel
theorem dX11_layOrder_5 : decode prog_13_method_48_code 5 = .ok (.if_icmp .ge 16, 3) := by decide +kernel
theorem dX11_layOrder_8 : decode prog_13_method_48_code 8 = .ok (.aload_n 0, 1) := by decide +kernel
theorem dX11_layOrder_9 : decode prog_13_method_48_code 9 = .ok (.getfield 104, 3) := by decide +kernel
theorem dX11_layOrder_12 : decode prog_13_method_48_code 12 = .ok (.iload_n 2, 1) := by decide +kernel
theorem dX11_layOrder_13 : decode prog_13_method_48_code 13 = .ok (.iconst 0, 1) := by decide +kernel
theorem dX11_layOrder_14 : decode prog_13_method_48_code 14 = .ok (.iastore, 1) := by decide +kernel
theorem dX11_layOrder_15 : decode prog_13_method_48_code 15 = .ok (.iinc 2 1, 3) := by decide +kernel
theorem dX11_layOrder_18 : decode prog_13_method_48_code 18 = .ok (.goto (-16), 3) := by decide +kernel
theorem dX11_layOrder_21 : decode prog_13_method_48_code 21 = .ok (.iconst 0, 1) := by decide +kernel
theorem dX11_layOrder_22 : decode prog_13_method_48_code 22 = .ok (.istore_n 2, 1) := by decide +kernel
theorem dX11_layOrder_23 : decode prog_13_method_48_code 23 = .ok (.iload_n 2, 1) := by decide +kernel
theorem dX11_layOrder_24 : decode prog_13_method_48_code 24 = .ok (.aload_n 0, 1) := by decide +kernel
theorem dX11_layOrder_25 : decode prog_13_method_48_code 25 = .ok (.getfield 264, 3) := by decide +kernel
theorem dX11_layOrder_28 : decode prog_13_method_48_code 28 = .ok (.if_icmp .ge 109, 3) := by decide +kernel
theorem dX11_layOrder_31 : decode prog_13_method_48_code 31 = .ok (.aload_n 0, 1) := by decide +kernel
theorem dX11_layOrder_32 : decode prog_13_method_48_code 32 = .ok (.iload_n 2, 1) := by decide +kernel
theorem dX11_layOrder_33 : decode prog_13_method_48_code 33 = .ok (.invokevirtual 267, 3) := by decide +kernel
theorem dX11_layOrder_36 : decode prog_13_method_48_code 36 = .ok (.istore_n 3, 1) := by decide +kernel
theorem dX11_layOrder_37 : decode prog_13_method_48_code 37 = .ok (.aload_n 0, 1) := by decide +kernel
theorem dX11_layOrder_38 : decode prog_13_method_48_code 38 = .ok (.getfield 85, 3) := by decide +kernel
theorem dX11_layOrder_41 : decode prog_13_method_48_code 41 = .ok (.iload_n 1, 1) := by decide +kernel
theorem dX11_layOrder_42 : decode prog_13_method_48_code 42 = .ok (.baload, 1) := by decide +kernel
theorem dX11_layOrder_43 : decode prog_13_method_48_code 43 = .ok (.ifCond .eq 16, 3) := by decide +kernel
theorem dX11_layOrder_46 : decode prog_13_method_48_code 46 = .ok (.aload_n 0, 1) := by decide +kernel
theorem dX11_layOrder_47 : decode prog_13_method_48_code 47 = .ok (.getfield 67, 3) := by decide +kernel
theorem dX11_layOrder_50 : decode prog_13_method_48_code 50 = .ok (.iload_n 2, 1) := by decide +kernel
theorem dX11_layOrder_51 : decode prog_13_method_48_code 51 = .ok (.iaload, 1) := by decide +kernel
theorem dX11_layOrder_52 : decode prog_13_method_48_code 52 = .ok (.ifCond .ne 7, 3) := by decide +kernel
theorem dX11_layOrder_55 : decode prog_13_method_48_code 55 = .ok (.iconst 1, 1) := by decide +kernel
theorem dX11_layOrder_56 : decode prog_13_method_48_code 56 = .ok (.goto 4, 3) := by decide +kernel
theorem dX11_layOrder_59 : decode prog_13_method_48_code 59 = .ok (.iconst 0, 1) := by decide +kernel
theorem dX11_layOrder_60 : decode prog_13_method_48_code 60 = .ok (.istore 4, 2) := by decide +kernel
theorem dX11_layOrder_62 : decode prog_13_method_48_code 62 = .ok (.iconst 0, 1) := by decide +kernel
theorem dX11_layOrder_63 : decode prog_13_method_48_code 63 = .ok (.istore 5, 2) := by decide +kernel
theorem dX11_layOrder_65 : decode prog_13_method_48_code 65 = .ok (.iload 5, 2) := by decide +kernel
theorem dX11_layOrder_67 : decode prog_13_method_48_code 67 = .ok (.aload_n 0, 1) := by decide +kernel
theorem dX11_layOrder_68 : decode prog_13_method_48_code 68 = .ok (.getfield 37, 3) := by decide +kernel
theorem dX11_layOrder_71 : decode prog_13_method_48_code 71 = .ok (.iload_n 1, 1) := by decide +kernel
theorem dX11_layOrder_72 : decode prog_13_method_48_code 72 = .ok (.iaload, 1) := by decide +kernel
theorem dX11_layOrder_73 : decode prog_13_method_48_code 73 = .ok (.if_icmp .ge 58, 3) := by decide +kernel
theorem dX11_layOrder_76 : decode prog_13_method_48_code 76 = .ok (.iload 4, 2) := by decide +kernel
theorem dX11_layOrder_78 : decode prog_13_method_48_code 78 = .ok (.ifCond .eq 53, 3) := by decide +kernel
theorem dX11_layOrder_81 : decode prog_13_method_48_code 81 = .ok (.aload_n 0, 1) := by decide +kernel
theorem dX11_layOrder_82 : decode prog_13_method_48_code 82 = .ok (.getfield 46, 3) := by decide +kernel
theorem dX11_layOrder_85 : decode prog_13_method_48_code 85 = .ok (.bipush 6, 2) := by decide +kernel
theorem dX11_layOrder_87 : decode prog_13_method_48_code 87 = .ok (.iload_n 1, 1) := by decide +kernel
theorem dX11_layOrder_88 : decode prog_13_method_48_code 88 = .ok (.imul, 1) := by decide +kernel
theorem dX11_layOrder_89 : decode prog_13_method_48_code 89 = .ok (.iload 5, 2) := by decide +kernel
theorem dX11_layOrder_91 : decode prog_13_method_48_code 91 = .ok (.iadd, 1) := by decide +kernel
theorem dX11_layOrder_92 : decode prog_13_method_48_code 92 = .ok (.iaload, 1) := by decide +kernel
theorem dX11_layOrder_93 : decode prog_13_method_48_code 93 = .ok (.aload_n 0, 1) := by decide +kernel
theorem dX11_layOrder_94 : decode prog_13_method_48_code 94 = .ok (.getfield 55, 3) := by decide +kernel
theorem dX11_layOrder_97 : decode prog_13_method_48_code 97 = .ok (.iload_n 2, 1) := by decide +kernel
theorem dX11_layOrder_98 : decode prog_13_method_48_code 98 = .ok (.iaload, 1) := by decide +kernel
theorem dX11_layOrder_99 : decode prog_13_method_48_code 99 = .ok (.ishr, 1) := by decide +kernel
theorem dX11_layOrder_100 : decode prog_13_method_48_code 100 = .ok (.iconst 1, 1) := by decide +kernel
theorem dX11_layOrder_101 : decode prog_13_method_48_code 101 = .ok (.iand, 1) := by decide +kernel
theorem dX11_layOrder_102 : decode prog_13_method_48_code 102 = .ok (.iconst 1, 1) := by decide +kernel
theorem dX11_layOrder_103 : decode prog_13_method_48_code 103 = .ok (.if_icmp .ne 22, 3) := by decide +kernel
theorem dX11_layOrder_106 : decode prog_13_method_48_code 106 = .ok (.aload_n 0, 1) := by decide +kernel
theorem dX11_layOrder_107 : decode prog_13_method_48_code 107 = .ok (.getfield 104, 3) := by decide +kernel
theorem dX11_layOrder_110 : decode prog_13_method_48_code 110 = .ok (.iload 5, 2) := by decide +kernel
theorem dX11_layOrder_112 : decode prog_13_method_48_code 112 = .ok (.dup2, 1) := by decide +kernel
theorem dX11_layOrder_113 : decode prog_13_method_48_code 113 = .ok (.iaload, 1) := by decide +kernel
theorem dX11_layOrder_114 : decode prog_13_method_48_code 114 = .ok (.aload_n 0, 1) := by decide +kernel
theorem dX11_layOrder_115 : decode prog_13_method_48_code 115 = .ok (.getfield 52, 3) := by decide +kernel
theorem dX11_layOrder_118 : decode prog_13_method_48_code 118 = .ok (.iload_n 2, 1) := by decide +kernel
theorem dX11_layOrder_119 : decode prog_13_method_48_code 119 = .ok (.iaload, 1) := by decide +kernel
theorem dX11_layOrder_120 : decode prog_13_method_48_code 120 = .ok (.iadd, 1) := by decide +kernel
theorem dX11_layOrder_121 : decode prog_13_method_48_code 121 = .ok (.iastore, 1) := by decide +kernel
theorem dX11_layOrder_122 : decode prog_13_method_48_code 122 = .ok (.iconst 0, 1) := by decide +kernel
theorem dX11_layOrder_123 : decode prog_13_method_48_code 123 = .ok (.istore 4, 2) := by decide +kernel
theorem dX11_layOrder_125 : decode prog_13_method_48_code 125 = .ok (.iinc 5 1, 3) := by decide +kernel
theorem dX11_layOrder_128 : decode prog_13_method_48_code 128 = .ok (.goto (-63), 3) := by decide +kernel
theorem dX11_layOrder_131 : decode prog_13_method_48_code 131 = .ok (.iinc 2 1, 3) := by decide +kernel
theorem dX11_layOrder_134 : decode prog_13_method_48_code 134 = .ok (.goto (-111), 3) := by decide +kernel
theorem dX11_layOrder_137 : decode prog_13_method_48_code 137 = .ok (.iconst 0, 1) := by decide +kernel
theorem dX11_layOrder_138 : decode prog_13_method_48_code 138 = .ok (.istore_n 2, 1) := by decide +kernel
theorem dX11_layOrder_139 : decode prog_13_method_48_code 139 = .ok (.iload_n 2, 1) := by decide +kernel
theorem dX11_layOrder_140 : decode prog_13_method_48_code 140 = .ok (.aload_n 0, 1) := by decide +kernel
theorem dX11_layOrder_141 : decode prog_13_method_48_code 141 = .ok (.getfield 37, 3) := by decide +kernel
theorem dX11_layOrder_144 : decode prog_13_method_48_code 144 = .ok (.iload_n 1, 1) := by decide +kernel
theorem dX11_layOrder_145 : decode prog_13_method_48_code 145 = .ok (.iaload, 1) := by decide +kernel
theorem dX11_layOrder_146 : decode prog_13_method_48_code 146 = .ok (.if_icmp .ge 95, 3) := by decide +kernel
theorem dX11_layOrder_149 : decode prog_13_method_48_code 149 = .ok (.iload_n 2, 1) := by decide +kernel
theorem dX11_layOrder_150 : decode prog_13_method_48_code 150 = .ok (.istore_n 3, 1) := by decide +kernel
theorem dX11_layOrder_151 : decode prog_13_method_48_code 151 = .ok (.iload_n 3, 1) := by decide +kernel
theorem dX11_layOrder_152 : decode prog_13_method_48_code 152 = .ok (.ifCond .le 76, 3) := by decide +kernel
theorem dX11_layOrder_155 : decode prog_13_method_48_code 155 = .ok (.aload_n 0, 1) := by decide +kernel
theorem dX11_layOrder_156 : decode prog_13_method_48_code 156 = .ok (.getfield 40, 3) := by decide +kernel
theorem dX11_layOrder_159 : decode prog_13_method_48_code 159 = .ok (.bipush 6, 2) := by decide +kernel
theorem dX11_layOrder_161 : decode prog_13_method_48_code 161 = .ok (.iload_n 1, 1) := by decide +kernel
theorem dX11_layOrder_162 : decode prog_13_method_48_code 162 = .ok (.imul, 1) := by decide +kernel
theorem dX11_layOrder_163 : decode prog_13_method_48_code 163 = .ok (.iload_n 2, 1) := by decide +kernel
theorem dX11_layOrder_164 : decode prog_13_method_48_code 164 = .ok (.iadd, 1) := by decide +kernel
theorem dX11_layOrder_165 : decode prog_13_method_48_code 165 = .ok (.iaload, 1) := by decide +kernel
theorem dX11_layOrder_166 : decode prog_13_method_48_code 166 = .ok (.aload_n 0, 1) := by decide +kernel
theorem dX11_layOrder_167 : decode prog_13_method_48_code 167 = .ok (.getfield 104, 3) := by decide +kernel
theorem dX11_layOrder_170 : decode prog_13_method_48_code 170 = .ok (.aload_n 0, 1) := by decide +kernel
theorem dX11_layOrder_171 : decode prog_13_method_48_code 171 = .ok (.getfield 107, 3) := by decide +kernel
theorem dX11_layOrder_174 : decode prog_13_method_48_code 174 = .ok (.iload_n 3, 1) := by decide +kernel
theorem dX11_layOrder_175 : decode prog_13_method_48_code 175 = .ok (.iconst 1, 1) := by decide +kernel
theorem dX11_layOrder_176 : decode prog_13_method_48_code 176 = .ok (.isub, 1) := by decide +kernel
theorem dX11_layOrder_177 : decode prog_13_method_48_code 177 = .ok (.iaload, 1) := by decide +kernel
theorem dX11_layOrder_178 : decode prog_13_method_48_code 178 = .ok (.iaload, 1) := by decide +kernel
theorem dX11_layOrder_179 : decode prog_13_method_48_code 179 = .ok (.imul, 1) := by decide +kernel
theorem dX11_layOrder_180 : decode prog_13_method_48_code 180 = .ok (.aload_n 0, 1) := by decide +kernel
theorem dX11_layOrder_181 : decode prog_13_method_48_code 181 = .ok (.getfield 40, 3) := by decide +kernel
theorem dX11_layOrder_184 : decode prog_13_method_48_code 184 = .ok (.bipush 6, 2) := by decide +kernel
theorem dX11_layOrder_186 : decode prog_13_method_48_code 186 = .ok (.iload_n 1, 1) := by decide +kernel
theorem dX11_layOrder_187 : decode prog_13_method_48_code 187 = .ok (.imul, 1) := by decide +kernel
theorem dX11_layOrder_188 : decode prog_13_method_48_code 188 = .ok (.aload_n 0, 1) := by decide +kernel
theorem dX11_layOrder_189 : decode prog_13_method_48_code 189 = .ok (.getfield 107, 3) := by decide +kernel
theorem dX11_layOrder_192 : decode prog_13_method_48_code 192 = .ok (.iload_n 3, 1) := by decide +kernel
theorem dX11_layOrder_193 : decode prog_13_method_48_code 193 = .ok (.iconst 1, 1) := by decide +kernel
theorem dX11_layOrder_194 : decode prog_13_method_48_code 194 = .ok (.isub, 1) := by decide +kernel
theorem dX11_layOrder_195 : decode prog_13_method_48_code 195 = .ok (.iaload, 1) := by decide +kernel
theorem dX11_layOrder_196 : decode prog_13_method_48_code 196 = .ok (.iadd, 1) := by decide +kernel
theorem dX11_layOrder_197 : decode prog_13_method_48_code 197 = .ok (.iaload, 1) := by decide +kernel
theorem dX11_layOrder_198 : decode prog_13_method_48_code 198 = .ok (.aload_n 0, 1) := by decide +kernel
theorem dX11_layOrder_199 : decode prog_13_method_48_code 199 = .ok (.getfield 104, 3) := by decide +kernel
theorem dX11_layOrder_202 : decode prog_13_method_48_code 202 = .ok (.iload_n 2, 1) := by decide +kernel
theorem dX11_layOrder_203 : decode prog_13_method_48_code 203 = .ok (.iaload, 1) := by decide +kernel
theorem dX11_layOrder_204 : decode prog_13_method_48_code 204 = .ok (.imul, 1) := by decide +kernel
theorem dX11_layOrder_205 : decode prog_13_method_48_code 205 = .ok (.if_icmp .ge 23, 3) := by decide +kernel
theorem dX11_layOrder_208 : decode prog_13_method_48_code 208 = .ok (.aload_n 0, 1) := by decide +kernel
theorem dX11_layOrder_209 : decode prog_13_method_48_code 209 = .ok (.getfield 107, 3) := by decide +kernel
theorem dX11_layOrder_212 : decode prog_13_method_48_code 212 = .ok (.iload_n 3, 1) := by decide +kernel
theorem dX11_layOrder_213 : decode prog_13_method_48_code 213 = .ok (.aload_n 0, 1) := by decide +kernel
theorem dX11_layOrder_214 : decode prog_13_method_48_code 214 = .ok (.getfield 107, 3) := by decide +kernel
theorem dX11_layOrder_217 : decode prog_13_method_48_code 217 = .ok (.iload_n 3, 1) := by decide +kernel
theorem dX11_layOrder_218 : decode prog_13_method_48_code 218 = .ok (.iconst 1, 1) := by decide +kernel
theorem dX11_layOrder_219 : decode prog_13_method_48_code 219 = .ok (.isub, 1) := by decide +kernel
theorem dX11_layOrder_220 : decode prog_13_method_48_code 220 = .ok (.iaload, 1) := by decide +kernel
theorem dX11_layOrder_221 : decode prog_13_method_48_code 221 = .ok (.iastore, 1) := by decide +kernel
theorem dX11_layOrder_222 : decode prog_13_method_48_code 222 = .ok (.iinc 3 (-1), 3) := by decide +kernel
theorem dX11_layOrder_225 : decode prog_13_method_48_code 225 = .ok (.goto (-74), 3) := by decide +kernel
theorem dX11_layOrder_228 : decode prog_13_method_48_code 228 = .ok (.aload_n 0, 1) := by decide +kernel
theorem dX11_layOrder_229 : decode prog_13_method_48_code 229 = .ok (.getfield 107, 3) := by decide +kernel
theorem dX11_layOrder_232 : decode prog_13_method_48_code 232 = .ok (.iload_n 3, 1) := by decide +kernel
theorem dX11_layOrder_233 : decode prog_13_method_48_code 233 = .ok (.iload_n 2, 1) := by decide +kernel
theorem dX11_layOrder_234 : decode prog_13_method_48_code 234 = .ok (.iastore, 1) := by decide +kernel
theorem dX11_layOrder_235 : decode prog_13_method_48_code 235 = .ok (.iinc 2 1, 3) := by decide +kernel
theorem dX11_layOrder_238 : decode prog_13_method_48_code 238 = .ok (.goto (-99), 3) := by decide +kernel
theorem dX11_layOrder_241 : decode prog_13_method_48_code 241 = .ok (.return_, 1) := by decide +kernel
abbrev rmX11_layOrder : Room := { frames := 8, cells := 0, slots := 0, locals := 184 }
def bX11_layOrder_65 (rc23 : Nat → Int32 → Int32 → Hp → Option (Unit × Hp)) (rc : Nat → Int32 → Int32 → Int32 → Int32 → Hp → Option (Unit × Hp)) (t0 : Nat) (v1 : Int32) (v2 : Int32) (v4 : Int32) (v5 : Int32) (h : Hp) : Option (Unit × Hp) :=
  gk (h.1 t0) 12 <|
  bd (h.2.2.2.1 t0 10) fun a2 =>
  gk (h.1 a2) 13 <|
  gd (ix v1 (h.2.1 a2)) <|
  if (h.2.2.1 a2 (Int32.toNatClampNeg v1)) ≤ v5 then
  (nm (v2 + 1) fun x7 =>
  rc23 t0 v1 x7 h)
  else
  (if v4 = 0 then
  (nm (v2 + 1) fun x9 =>
  rc23 t0 v1 x9 h)
  else
  (bd (h.2.2.2.1 t0 13) fun a10 =>
  gk (h.1 a10) 13 <|
  gd (ix ((6 * v1) + v5) (h.2.1 a10)) <|
  bd (h.2.2.2.1 t0 17) fun a14 =>
  gk (h.1 a14) 13 <|
  gd (ix v2 (h.2.1 a14)) <|
  if (((h.2.2.1 a10 (Int32.toNatClampNeg ((6 * v1) + v5))) >>> ((h.2.2.1 a14 (Int32.toNatClampNeg v2)) &&& 31)) &&& 1) = 1 then
  (bd (h.2.2.2.1 t0 48) fun a20 =>
  gk (h.1 a20) 13 <|
  gd (ix v5 (h.2.1 a20)) <|
  bd (h.2.2.2.1 t0 16) fun a24 =>
  gk (h.1 a24) 13 <|
  gd (ix v2 (h.2.1 a24)) <|
  gd (ix v5 (h.2.1 a20)) <|
  nm (hp_si h a20 (Int32.toNatClampNeg v5) ((h.2.2.1 a20 (Int32.toNatClampNeg v5)) + (h.2.2.1 a24 (Int32.toNatClampNeg v2)))) fun g29 =>
  nm (v5 + 1) fun x30 =>
  rc t0 v1 v2 0 x30 g29)
  else
  (nm (v5 + 1) fun x19 =>
  rc t0 v1 v2 v4 x19 h)))
def fX11_layOrder_65 (rc23 : Nat → Int32 → Int32 → Hp → Option (Unit × Hp)) : Nat → Int32 → Int32 → Int32 → Int32 → Hp → Option (Unit × Hp) := fx (bX11_layOrder_65 rc23) (fun _ _ _ _ _ _ => none) NF
def bX11_layOrder_151 (rc139 : Nat → Int32 → Int32 → Hp → Option (Unit × Hp)) (rc : Nat → Int32 → Int32 → Int32 → Hp → Option (Unit × Hp)) (t0 : Nat) (v1 : Int32) (v2 : Int32) (v3 : Int32) (h : Hp) : Option (Unit × Hp) :=
  if v3 ≤ 0 then
  (gk (h.1 t0) 12 <|
  bd (h.2.2.2.1 t0 49) fun a3 =>
  gk (h.1 a3) 13 <|
  gd (ix v3 (h.2.1 a3)) <|
  nm (hp_si h a3 (Int32.toNatClampNeg v3) v2) fun g7 =>
  nm (v2 + 1) fun x8 =>
  rc139 t0 v1 x8 g7)
  else
  (gk (h.1 t0) 12 <|
  bd (h.2.2.2.1 t0 11) fun a10 =>
  gk (h.1 a10) 13 <|
  gd (ix ((6 * v1) + v2) (h.2.1 a10)) <|
  bd (h.2.2.2.1 t0 48) fun a14 =>
  bd (h.2.2.2.1 t0 49) fun a16 =>
  gk (h.1 a16) 13 <|
  gd (ix (v3 - 1) (h.2.1 a16)) <|
  gk (h.1 a14) 13 <|
  gd (ix (h.2.2.1 a16 (Int32.toNatClampNeg (v3 - 1))) (h.2.1 a14)) <|
  gd (ix (v3 - 1) (h.2.1 a16)) <|
  gd (ix ((6 * v1) + (h.2.2.1 a16 (Int32.toNatClampNeg (v3 - 1)))) (h.2.1 a10)) <|
  gd (ix v2 (h.2.1 a14)) <|
  if ((h.2.2.1 a10 (Int32.toNatClampNeg ((6 * v1) + (h.2.2.1 a16 (Int32.toNatClampNeg (v3 - 1)))))) * (h.2.2.1 a14 (Int32.toNatClampNeg v2))) ≤ ((h.2.2.1 a10 (Int32.toNatClampNeg ((6 * v1) + v2))) * (h.2.2.1 a14 (Int32.toNatClampNeg (h.2.2.1 a16 (Int32.toNatClampNeg (v3 - 1)))))) then
  (gd (ix v3 (h.2.1 a16)) <|
  nm (hp_si h a16 (Int32.toNatClampNeg v3) v2) fun g27 =>
  nm (v2 + 1) fun x28 =>
  rc139 t0 v1 x28 g27)
  else
  (gd (ix (v3 - 1) (h.2.1 a16)) <|
  gd (ix v3 (h.2.1 a16)) <|
  nm (hp_si h a16 (Int32.toNatClampNeg v3) (h.2.2.1 a16 (Int32.toNatClampNeg (v3 - 1)))) fun g31 =>
  nm (v3 + (-1)) fun x32 =>
  rc t0 v1 v2 x32 g31))
def fX11_layOrder_151 (rc139 : Nat → Int32 → Int32 → Hp → Option (Unit × Hp)) : Nat → Int32 → Int32 → Int32 → Hp → Option (Unit × Hp) := fx (bX11_layOrder_151 rc139) (fun _ _ _ _ _ => none) NF
def bX11_layOrder_139  (rc : Nat → Int32 → Int32 → Hp → Option (Unit × Hp)) (t0 : Nat) (v1 : Int32) (v2 : Int32) (h : Hp) : Option (Unit × Hp) :=
  gk (h.1 t0) 12 <|
  bd (h.2.2.2.1 t0 10) fun a2 =>
  gk (h.1 a2) 13 <|
  gd (ix v1 (h.2.1 a2)) <|
  if (h.2.2.1 a2 (Int32.toNatClampNeg v1)) ≤ v2 then
  (some ((), h))
  else
  (fX11_layOrder_151 rc t0 v1 v2 v2 h)
def fX11_layOrder_139  : Nat → Int32 → Int32 → Hp → Option (Unit × Hp) := fx (bX11_layOrder_139 ) (fun _ _ _ _ => none) NF
def bX11_layOrder_23  (rc : Nat → Int32 → Int32 → Hp → Option (Unit × Hp)) (t0 : Nat) (v1 : Int32) (v2 : Int32) (h : Hp) : Option (Unit × Hp) :=
  gk (h.1 t0) 12 <|
  if (h.2.2.1 t0 15) ≤ v2 then
  (fX11_layOrder_139  t0 v1 0 h)
  else
  (b2 (fX11_callOf t0 v2 h) fun r5 g3 =>
  gk (g3.1 t0) 12 <|
  bd (g3.2.2.2.1 t0 42) fun a8 =>
  gk (g3.1 a8) 14 <|
  gd (ix v1 (g3.2.1 a8)) <|
  if (g3.2.2.1 a8 (Int32.toNatClampNeg v1)) = 0 then
  (fX11_layOrder_65 rc t0 v1 v2 0 0 g3)
  else
  (bd (g3.2.2.2.1 t0 21) fun a13 =>
  gk (g3.1 a13) 13 <|
  gd (ix v2 (g3.2.1 a13)) <|
  if (g3.2.2.1 a13 (Int32.toNatClampNeg v2)) = 0 then
  (fX11_layOrder_65 rc t0 v1 v2 1 0 g3)
  else
  (fX11_layOrder_65 rc t0 v1 v2 0 0 g3)))
def fX11_layOrder_23  : Nat → Int32 → Int32 → Hp → Option (Unit × Hp) := fx (bX11_layOrder_23 ) (fun _ _ _ _ => none) NF
def bX11_layOrder_2  (rc : Nat → Int32 → Int32 → Hp → Option (Unit × Hp)) (t0 : Nat) (v1 : Int32) (v2 : Int32) (h : Hp) : Option (Unit × Hp) :=
  if 6 ≤ v2 then
  (fX11_layOrder_23  t0 v1 0 h)
  else
  (gk (h.1 t0) 12 <|
  bd (h.2.2.2.1 t0 48) fun a3 =>
  gk (h.1 a3) 13 <|
  gd (ix v2 (h.2.1 a3)) <|
  nm (hp_si h a3 (Int32.toNatClampNeg v2) 0) fun g7 =>
  nm (v2 + 1) fun x8 =>
  rc t0 v1 x8 g7)
def fX11_layOrder_2  : Nat → Int32 → Int32 → Hp → Option (Unit × Hp) := fx (bX11_layOrder_2 ) (fun _ _ _ _ => none) NF
def fX11_layOrder  (t0 : Nat) (v1 : Int32) (h : Hp) : Option (Unit × Hp) :=
  fX11_layOrder_2  t0 v1 0 h
section
variable {p : Program} {l : Launch} {e : Env} {s : State} {m : MethodId} {args : Array Value} {below : List Frame} {meth : Method} {c : Code} {D : va_G} {cA : Nat → ClassId} {h0 h9 : Hp}
set_option maxHeartbeats 4000000 in
set_option maxRecDepth 100000 in
theorem tX11_layOrder_65 {rc23 : Nat → Int32 → Int32 → Hp → Option (Unit × Hp)} (cx : CallFix p m c prog_13_method_48_code 6 s args tbG RX11) (hr : meth.sig.returnType = none) (hlk : meth.locks = false) (hr23 : ∀ (t0 : Nat) (v1 : Int32) (v2 : Int32) (h : Hp) (H : Heap) (locs : List Loc) (ls : Array Slot), hp_B D cA (hp_A h0) s h H locs → lv_has ls 6 [(0, .ref t0), (1, .int v1), (2, .int v2)] → rc23 t0 v1 v2 h = some ((), h9) → W p l e rmX11_layOrder s m args below meth c H locs 0 0 (MQ below (hp_Qv D cA h0 h9) args s 0 0 (hp_A h0)) (F0 m 23 ls [])) (n : Nat) : ∀ (t0 : Nat) (v1 : Int32) (v2 : Int32) (v4 : Int32) (v5 : Int32) (h : Hp) (H : Heap) (locs : List Loc) (ls : Array Slot), hp_B D cA (hp_A h0) s h H locs → lv_has ls 6 [(0, .ref t0), (1, .int v1), (2, .int v2), (4, .int v4), (5, .int v5)] → fx (bX11_layOrder_65 rc23) (fun _ _ _ _ _ _ => none) n t0 v1 v2 v4 v5 h = some ((), h9) → W p l e rmX11_layOrder s m args below meth c H locs 0 0 (MQ below (hp_Qv D cA h0 h9) args s 0 0 (hp_A h0)) (F0 m 65 ls []) := by
  obtain ⟨hx, hb, -⟩ := id cx
  induction n with
  | zero => intro t0 v1 v2 v4 v5 h H locs ls hB hl hf; cases hf
  | succ n ih =>
    intro t0 v1 v2 v4 v5 h H locs ls hB hl hf
    replace hf : bX11_layOrder_65 rc23 (fx (bX11_layOrder_65 rc23) (fun _ _ _ _ _ _ => none) n) t0 v1 v2 v4 v5 h = some ((), h9) := hf
    unfold bX11_layOrder_65 at hf
    refine lv_iload hx hb dX11_layOrder_65 (lv_at hl 4 rfl) ?_
    refine lv_aload_n hx hb dX11_layOrder_67 rfl (lv_at hl 0 rfl) ?_
    obtain ⟨k1, hf⟩ := gk_ok hf
    obtain ⟨a2, q3, hf⟩ := bd_ok hf
    refine gf_X11_37 cx hB k1 q3 dX11_layOrder_68 ?_
    refine lv_iload_n hx hb dX11_layOrder_71 rfl (lv_at hl 1 rfl) ?_
    obtain ⟨k4, hf⟩ := gk_ok hf
    obtain ⟨j5, hf⟩ := gd_ok hf
    refine hp_iald cx hB k4 j5 dX11_layOrder_72 ?_
    refine lv_icmp_ge (tgt := 131) hx hb dX11_layOrder_73 (by decide) (fun c6 => ?_) (fun c6 => ?_)
    · replace hf := it_t c6 hf
      obtain ⟨x7, ex7, hf⟩ := nm_ok hf
      refine lv_iinc (v := x7) (lv' := [(2, .int x7), (0, .ref t0), (1, .int v1), (4, .int v4), (5, .int v5)]) hx hb dX11_layOrder_131 hl (k := 2) rfl (by rw [ex7]; rfl) (by decide) rfl (fun ls hl => ?_)
      refine lv_goto (tgt := 23) hx hb dX11_layOrder_134 (by decide) ?_
      exact hr23 t0 v1 x7 h _ _ _ hB (lv_sub hl [1, 2, 0] rfl) hf
    · replace hf := it_f c6 hf
      refine lv_iload hx hb dX11_layOrder_76 (lv_at hl 3 rfl) ?_
      refine lv_if_eq (tgt := 131) hx hb dX11_layOrder_78 (by decide) (fun c8 => ?_) (fun c8 => ?_)
      · replace hf := it_t c8 hf
        obtain ⟨x9, ex9, hf⟩ := nm_ok hf
        refine lv_iinc (v := x9) (lv' := [(2, .int x9), (0, .ref t0), (1, .int v1), (4, .int v4), (5, .int v5)]) hx hb dX11_layOrder_131 hl (k := 2) rfl (by rw [ex9]; rfl) (by decide) rfl (fun ls hl => ?_)
        refine lv_goto (tgt := 23) hx hb dX11_layOrder_134 (by decide) ?_
        exact hr23 t0 v1 x9 h _ _ _ hB (lv_sub hl [1, 2, 0] rfl) hf
      · replace hf := it_f c8 hf
        refine lv_aload_n hx hb dX11_layOrder_81 rfl (lv_at hl 0 rfl) ?_
        obtain ⟨a10, q11, hf⟩ := bd_ok hf
        refine gf_X11_46 cx hB k1 q11 dX11_layOrder_82 ?_
        refine lv_bipush (v := 6) hx hb dX11_layOrder_85 (by decide) ?_
        refine lv_iload_n hx hb dX11_layOrder_87 rfl (lv_at hl 1 rfl) ?_
        refine lv_imul hx hb dX11_layOrder_88 ?_
        refine lv_iload hx hb dX11_layOrder_89 (lv_at hl 4 rfl) ?_
        refine lv_iadd hx hb dX11_layOrder_91 ?_
        obtain ⟨k12, hf⟩ := gk_ok hf
        obtain ⟨j13, hf⟩ := gd_ok hf
        refine hp_iald cx hB k12 j13 dX11_layOrder_92 ?_
        refine lv_aload_n hx hb dX11_layOrder_93 rfl (lv_at hl 0 rfl) ?_
        obtain ⟨a14, q15, hf⟩ := bd_ok hf
        refine gf_X11_55 cx hB k1 q15 dX11_layOrder_94 ?_
        refine lv_iload_n hx hb dX11_layOrder_97 rfl (lv_at hl 2 rfl) ?_
        obtain ⟨k16, hf⟩ := gk_ok hf
        obtain ⟨j17, hf⟩ := gd_ok hf
        refine hp_iald cx hB k16 j17 dX11_layOrder_98 ?_
        refine lv_ishr hx hb dX11_layOrder_99 ?_
        refine lv_iconst (v := 1) hx hb dX11_layOrder_100 (by decide) ?_
        refine lv_iand hx hb dX11_layOrder_101 ?_
        refine lv_iconst (v := 1) hx hb dX11_layOrder_102 (by decide) ?_
        refine lv_icmp_ne (tgt := 125) hx hb dX11_layOrder_103 (by decide) (fun c18 => ?_) (fun c18 => ?_)
        · replace hf := it_f c18 hf
          obtain ⟨x19, ex19, hf⟩ := nm_ok hf
          refine lv_iinc (v := x19) (lv' := [(5, .int x19), (0, .ref t0), (1, .int v1), (2, .int v2), (4, .int v4)]) hx hb dX11_layOrder_125 hl (k := 4) rfl (by rw [ex19]; rfl) (by decide) rfl (fun ls hl => ?_)
          refine lv_goto (tgt := 65) hx hb dX11_layOrder_128 (by decide) ?_
          exact ih t0 v1 v2 v4 x19 h _ _ _ hB (lv_sub hl [1, 2, 3, 4, 0] rfl) hf
        · replace hf := it_t c18 hf
          refine lv_aload_n hx hb dX11_layOrder_106 rfl (lv_at hl 0 rfl) ?_
          obtain ⟨a20, q21, hf⟩ := bd_ok hf
          refine gf_X11_104 cx hB k1 q21 dX11_layOrder_107 ?_
          refine lv_iload hx hb dX11_layOrder_110 (lv_at hl 4 rfl) ?_
          refine lv_dup2_11 hx hb dX11_layOrder_112 rfl rfl ?_
          obtain ⟨k22, hf⟩ := gk_ok hf
          obtain ⟨j23, hf⟩ := gd_ok hf
          refine hp_iald cx hB k22 j23 dX11_layOrder_113 ?_
          refine lv_aload_n hx hb dX11_layOrder_114 rfl (lv_at hl 0 rfl) ?_
          obtain ⟨a24, q25, hf⟩ := bd_ok hf
          refine gf_X11_52 cx hB k1 q25 dX11_layOrder_115 ?_
          refine lv_iload_n hx hb dX11_layOrder_118 rfl (lv_at hl 2 rfl) ?_
          obtain ⟨k26, hf⟩ := gk_ok hf
          obtain ⟨j27, hf⟩ := gd_ok hf
          refine hp_iald cx hB k26 j27 dX11_layOrder_119 ?_
          refine lv_iadd hx hb dX11_layOrder_120 ?_
          obtain ⟨j28, hf⟩ := gd_ok hf
          obtain ⟨g29, eg29, hf⟩ := nm_ok hf
          refine hp_iast cx hB k22 j28 dX11_layOrder_121 (fun H locs hB => ?_)
          rw [← eg29] at hB
          refine lv_iconst (v := 0) hx hb dX11_layOrder_122 (by decide) ?_
          refine lv_istore (lv' := [(4, .int 0), (0, .ref t0), (1, .int v1), (2, .int v2), (5, .int v5)]) hx hb dX11_layOrder_123 hl (by decide) rfl (fun ls hl => ?_)
          obtain ⟨x30, ex30, hf⟩ := nm_ok hf
          refine lv_iinc (v := x30) (lv' := [(5, .int x30), (4, .int 0), (0, .ref t0), (1, .int v1), (2, .int v2)]) hx hb dX11_layOrder_125 hl (k := 4) rfl (by rw [ex30]; rfl) (by decide) rfl (fun ls hl => ?_)
          refine lv_goto (tgt := 65) hx hb dX11_layOrder_128 (by decide) ?_
          exact ih t0 v1 v2 0 x30 g29 _ _ _ hB (lv_sub hl [2, 3, 4, 1, 0] rfl) hf
set_option maxHeartbeats 4000000 in
set_option maxRecDepth 100000 in
theorem tX11_layOrder_151 {rc139 : Nat → Int32 → Int32 → Hp → Option (Unit × Hp)} (cx : CallFix p m c prog_13_method_48_code 6 s args tbG RX11) (hr : meth.sig.returnType = none) (hlk : meth.locks = false) (hr139 : ∀ (t0 : Nat) (v1 : Int32) (v2 : Int32) (h : Hp) (H : Heap) (locs : List Loc) (ls : Array Slot), hp_B D cA (hp_A h0) s h H locs → lv_has ls 6 [(0, .ref t0), (1, .int v1), (2, .int v2)] → rc139 t0 v1 v2 h = some ((), h9) → W p l e rmX11_layOrder s m args below meth c H locs 0 0 (MQ below (hp_Qv D cA h0 h9) args s 0 0 (hp_A h0)) (F0 m 139 ls [])) (n : Nat) : ∀ (t0 : Nat) (v1 : Int32) (v2 : Int32) (v3 : Int32) (h : Hp) (H : Heap) (locs : List Loc) (ls : Array Slot), hp_B D cA (hp_A h0) s h H locs → lv_has ls 6 [(0, .ref t0), (1, .int v1), (2, .int v2), (3, .int v3)] → fx (bX11_layOrder_151 rc139) (fun _ _ _ _ _ => none) n t0 v1 v2 v3 h = some ((), h9) → W p l e rmX11_layOrder s m args below meth c H locs 0 0 (MQ below (hp_Qv D cA h0 h9) args s 0 0 (hp_A h0)) (F0 m 151 ls []) := by
  obtain ⟨hx, hb, -⟩ := id cx
  induction n with
  | zero => intro t0 v1 v2 v3 h H locs ls hB hl hf; cases hf
  | succ n ih =>
    intro t0 v1 v2 v3 h H locs ls hB hl hf
    replace hf : bX11_layOrder_151 rc139 (fx (bX11_layOrder_151 rc139) (fun _ _ _ _ _ => none) n) t0 v1 v2 v3 h = some ((), h9) := hf
    unfold bX11_layOrder_151 at hf
    refine lv_iload_n hx hb dX11_layOrder_151 rfl (lv_at hl 3 rfl) ?_
    refine lv_if_le (tgt := 228) hx hb dX11_layOrder_152 (by decide) (fun c1 => ?_) (fun c1 => ?_)
    · replace hf := it_t c1 hf
      refine lv_aload_n hx hb dX11_layOrder_228 rfl (lv_at hl 0 rfl) ?_
      obtain ⟨k2, hf⟩ := gk_ok hf
      obtain ⟨a3, q4, hf⟩ := bd_ok hf
      refine gf_X11_107 cx hB k2 q4 dX11_layOrder_229 ?_
      refine lv_iload_n hx hb dX11_layOrder_232 rfl (lv_at hl 3 rfl) ?_
      refine lv_iload_n hx hb dX11_layOrder_233 rfl (lv_at hl 2 rfl) ?_
      obtain ⟨k5, hf⟩ := gk_ok hf
      obtain ⟨j6, hf⟩ := gd_ok hf
      obtain ⟨g7, eg7, hf⟩ := nm_ok hf
      refine hp_iast cx hB k5 j6 dX11_layOrder_234 (fun H locs hB => ?_)
      rw [← eg7] at hB
      obtain ⟨x8, ex8, hf⟩ := nm_ok hf
      refine lv_iinc (v := x8) (lv' := [(2, .int x8), (0, .ref t0), (1, .int v1), (3, .int v3)]) hx hb dX11_layOrder_235 hl (k := 2) rfl (by rw [ex8]; rfl) (by decide) rfl (fun ls hl => ?_)
      refine lv_goto (tgt := 139) hx hb dX11_layOrder_238 (by decide) ?_
      exact hr139 t0 v1 x8 g7 _ _ _ hB (lv_sub hl [1, 2, 0] rfl) hf
    · replace hf := it_f c1 hf
      refine lv_aload_n hx hb dX11_layOrder_155 rfl (lv_at hl 0 rfl) ?_
      obtain ⟨k9, hf⟩ := gk_ok hf
      obtain ⟨a10, q11, hf⟩ := bd_ok hf
      refine gf_X11_40 cx hB k9 q11 dX11_layOrder_156 ?_
      refine lv_bipush (v := 6) hx hb dX11_layOrder_159 (by decide) ?_
      refine lv_iload_n hx hb dX11_layOrder_161 rfl (lv_at hl 1 rfl) ?_
      refine lv_imul hx hb dX11_layOrder_162 ?_
      refine lv_iload_n hx hb dX11_layOrder_163 rfl (lv_at hl 2 rfl) ?_
      refine lv_iadd hx hb dX11_layOrder_164 ?_
      obtain ⟨k12, hf⟩ := gk_ok hf
      obtain ⟨j13, hf⟩ := gd_ok hf
      refine hp_iald cx hB k12 j13 dX11_layOrder_165 ?_
      refine lv_aload_n hx hb dX11_layOrder_166 rfl (lv_at hl 0 rfl) ?_
      obtain ⟨a14, q15, hf⟩ := bd_ok hf
      refine gf_X11_104 cx hB k9 q15 dX11_layOrder_167 ?_
      refine lv_aload_n hx hb dX11_layOrder_170 rfl (lv_at hl 0 rfl) ?_
      obtain ⟨a16, q17, hf⟩ := bd_ok hf
      refine gf_X11_107 cx hB k9 q17 dX11_layOrder_171 ?_
      refine lv_iload_n hx hb dX11_layOrder_174 rfl (lv_at hl 3 rfl) ?_
      refine lv_iconst (v := 1) hx hb dX11_layOrder_175 (by decide) ?_
      refine lv_isub hx hb dX11_layOrder_176 ?_
      obtain ⟨k18, hf⟩ := gk_ok hf
      obtain ⟨j19, hf⟩ := gd_ok hf
      refine hp_iald cx hB k18 j19 dX11_layOrder_177 ?_
      obtain ⟨k20, hf⟩ := gk_ok hf
      obtain ⟨j21, hf⟩ := gd_ok hf
      refine hp_iald cx hB k20 j21 dX11_layOrder_178 ?_
      refine lv_imul hx hb dX11_layOrder_179 ?_
      refine lv_aload_n hx hb dX11_layOrder_180 rfl (lv_at hl 0 rfl) ?_
      refine gf_X11_40 cx hB k9 q11 dX11_layOrder_181 ?_
      refine lv_bipush (v := 6) hx hb dX11_layOrder_184 (by decide) ?_
      refine lv_iload_n hx hb dX11_layOrder_186 rfl (lv_at hl 1 rfl) ?_
      refine lv_imul hx hb dX11_layOrder_187 ?_
      refine lv_aload_n hx hb dX11_layOrder_188 rfl (lv_at hl 0 rfl) ?_
      refine gf_X11_107 cx hB k9 q17 dX11_layOrder_189 ?_
      refine lv_iload_n hx hb dX11_layOrder_192 rfl (lv_at hl 3 rfl) ?_
      refine lv_iconst (v := 1) hx hb dX11_layOrder_193 (by decide) ?_
      refine lv_isub hx hb dX11_layOrder_194 ?_
      obtain ⟨j22, hf⟩ := gd_ok hf
      refine hp_iald cx hB k18 j22 dX11_layOrder_195 ?_
      refine lv_iadd hx hb dX11_layOrder_196 ?_
      obtain ⟨j23, hf⟩ := gd_ok hf
      refine hp_iald cx hB k12 j23 dX11_layOrder_197 ?_
      refine lv_aload_n hx hb dX11_layOrder_198 rfl (lv_at hl 0 rfl) ?_
      refine gf_X11_104 cx hB k9 q15 dX11_layOrder_199 ?_
      refine lv_iload_n hx hb dX11_layOrder_202 rfl (lv_at hl 2 rfl) ?_
      obtain ⟨j24, hf⟩ := gd_ok hf
      refine hp_iald cx hB k20 j24 dX11_layOrder_203 ?_
      refine lv_imul hx hb dX11_layOrder_204 ?_
      refine lv_icmp_ge (tgt := 228) hx hb dX11_layOrder_205 (by decide) (fun c25 => ?_) (fun c25 => ?_)
      · replace hf := it_t c25 hf
        refine lv_aload_n hx hb dX11_layOrder_228 rfl (lv_at hl 0 rfl) ?_
        refine gf_X11_107 cx hB k9 q17 dX11_layOrder_229 ?_
        refine lv_iload_n hx hb dX11_layOrder_232 rfl (lv_at hl 3 rfl) ?_
        refine lv_iload_n hx hb dX11_layOrder_233 rfl (lv_at hl 2 rfl) ?_
        obtain ⟨j26, hf⟩ := gd_ok hf
        obtain ⟨g27, eg27, hf⟩ := nm_ok hf
        refine hp_iast cx hB k18 j26 dX11_layOrder_234 (fun H locs hB => ?_)
        rw [← eg27] at hB
        obtain ⟨x28, ex28, hf⟩ := nm_ok hf
        refine lv_iinc (v := x28) (lv' := [(2, .int x28), (0, .ref t0), (1, .int v1), (3, .int v3)]) hx hb dX11_layOrder_235 hl (k := 2) rfl (by rw [ex28]; rfl) (by decide) rfl (fun ls hl => ?_)
        refine lv_goto (tgt := 139) hx hb dX11_layOrder_238 (by decide) ?_
        exact hr139 t0 v1 x28 g27 _ _ _ hB (lv_sub hl [1, 2, 0] rfl) hf
      · replace hf := it_f c25 hf
        refine lv_aload_n hx hb dX11_layOrder_208 rfl (lv_at hl 0 rfl) ?_
        refine gf_X11_107 cx hB k9 q17 dX11_layOrder_209 ?_
        refine lv_iload_n hx hb dX11_layOrder_212 rfl (lv_at hl 3 rfl) ?_
        refine lv_aload_n hx hb dX11_layOrder_213 rfl (lv_at hl 0 rfl) ?_
        refine gf_X11_107 cx hB k9 q17 dX11_layOrder_214 ?_
        refine lv_iload_n hx hb dX11_layOrder_217 rfl (lv_at hl 3 rfl) ?_
        refine lv_iconst (v := 1) hx hb dX11_layOrder_218 (by decide) ?_
        refine lv_isub hx hb dX11_layOrder_219 ?_
        obtain ⟨j29, hf⟩ := gd_ok hf
        refine hp_iald cx hB k18 j29 dX11_layOrder_220 ?_
        obtain ⟨j30, hf⟩ := gd_ok hf
        obtain ⟨g31, eg31, hf⟩ := nm_ok hf
        refine hp_iast cx hB k18 j30 dX11_layOrder_221 (fun H locs hB => ?_)
        rw [← eg31] at hB
        obtain ⟨x32, ex32, hf⟩ := nm_ok hf
        refine lv_iinc (v := x32) (lv' := [(3, .int x32), (0, .ref t0), (1, .int v1), (2, .int v2)]) hx hb dX11_layOrder_222 hl (k := 3) rfl (by rw [ex32]; rfl) (by decide) rfl (fun ls hl => ?_)
        refine lv_goto (tgt := 151) hx hb dX11_layOrder_225 (by decide) ?_
        exact ih t0 v1 v2 x32 g31 _ _ _ hB (lv_sub hl [1, 2, 3, 0] rfl) hf
set_option maxHeartbeats 4000000 in
set_option maxRecDepth 100000 in
theorem tX11_layOrder_139  (cx : CallFix p m c prog_13_method_48_code 6 s args tbG RX11) (hr : meth.sig.returnType = none) (hlk : meth.locks = false)  (n : Nat) : ∀ (t0 : Nat) (v1 : Int32) (v2 : Int32) (h : Hp) (H : Heap) (locs : List Loc) (ls : Array Slot), hp_B D cA (hp_A h0) s h H locs → lv_has ls 6 [(0, .ref t0), (1, .int v1), (2, .int v2)] → fx (bX11_layOrder_139 ) (fun _ _ _ _ => none) n t0 v1 v2 h = some ((), h9) → W p l e rmX11_layOrder s m args below meth c H locs 0 0 (MQ below (hp_Qv D cA h0 h9) args s 0 0 (hp_A h0)) (F0 m 139 ls []) := by
  obtain ⟨hx, hb, -⟩ := id cx
  induction n with
  | zero => intro t0 v1 v2 h H locs ls hB hl hf; cases hf
  | succ n ih =>
    intro t0 v1 v2 h H locs ls hB hl hf
    replace hf : bX11_layOrder_139  (fx (bX11_layOrder_139 ) (fun _ _ _ _ => none) n) t0 v1 v2 h = some ((), h9) := hf
    unfold bX11_layOrder_139 at hf
    refine lv_iload_n hx hb dX11_layOrder_139 rfl (lv_at hl 2 rfl) ?_
    refine lv_aload_n hx hb dX11_layOrder_140 rfl (lv_at hl 0 rfl) ?_
    obtain ⟨k1, hf⟩ := gk_ok hf
    obtain ⟨a2, q3, hf⟩ := bd_ok hf
    refine gf_X11_37 cx hB k1 q3 dX11_layOrder_141 ?_
    refine lv_iload_n hx hb dX11_layOrder_144 rfl (lv_at hl 1 rfl) ?_
    obtain ⟨k4, hf⟩ := gk_ok hf
    obtain ⟨j5, hf⟩ := gd_ok hf
    refine hp_iald cx hB k4 j5 dX11_layOrder_145 ?_
    refine lv_icmp_ge (tgt := 241) hx hb dX11_layOrder_146 (by decide) (fun c6 => ?_) (fun c6 => ?_)
    · replace hf := it_t c6 hf
      obtain ⟨-, rfl⟩ := rt_ok hf
      exact hp_vret cx hB hr hlk (Nat.le_of_ble_eq_true rfl) (Nat.le_of_ble_eq_true rfl) dX11_layOrder_241
    · replace hf := it_f c6 hf
      refine lv_iload_n hx hb dX11_layOrder_149 rfl (lv_at hl 2 rfl) ?_
      refine lv_istore_n (lv' := [(3, .int v2), (0, .ref t0), (1, .int v1), (2, .int v2)]) hx hb dX11_layOrder_150 rfl hl (by decide) rfl (fun ls hl => ?_)
      exact tX11_layOrder_151 cx hr hlk ih NF t0 v1 v2 v2 h _ _ _ hB (lv_sub hl [1, 2, 3, 0] rfl) hf
set_option maxHeartbeats 4000000 in
set_option maxRecDepth 100000 in
theorem tX11_layOrder_23  (cx : CallFix p m c prog_13_method_48_code 6 s args tbG RX11) (hr : meth.sig.returnType = none) (hlk : meth.locks = false)  (n : Nat) : ∀ (t0 : Nat) (v1 : Int32) (v2 : Int32) (h : Hp) (H : Heap) (locs : List Loc) (ls : Array Slot), hp_B D cA (hp_A h0) s h H locs → lv_has ls 6 [(0, .ref t0), (1, .int v1), (2, .int v2)] → fx (bX11_layOrder_23 ) (fun _ _ _ _ => none) n t0 v1 v2 h = some ((), h9) → W p l e rmX11_layOrder s m args below meth c H locs 0 0 (MQ below (hp_Qv D cA h0 h9) args s 0 0 (hp_A h0)) (F0 m 23 ls []) := by
  obtain ⟨hx, hb, -⟩ := id cx
  induction n with
  | zero => intro t0 v1 v2 h H locs ls hB hl hf; cases hf
  | succ n ih =>
    intro t0 v1 v2 h H locs ls hB hl hf
    replace hf : bX11_layOrder_23  (fx (bX11_layOrder_23 ) (fun _ _ _ _ => none) n) t0 v1 v2 h = some ((), h9) := hf
    unfold bX11_layOrder_23 at hf
    refine lv_iload_n hx hb dX11_layOrder_23 rfl (lv_at hl 2 rfl) ?_
    refine lv_aload_n hx hb dX11_layOrder_24 rfl (lv_at hl 0 rfl) ?_
    obtain ⟨k1, hf⟩ := gk_ok hf
    refine gf_X11_264 cx hB k1 dX11_layOrder_25 ?_
    refine lv_icmp_ge (tgt := 137) hx hb dX11_layOrder_28 (by decide) (fun c2 => ?_) (fun c2 => ?_)
    · replace hf := it_t c2 hf
      refine lv_iconst (v := 0) hx hb dX11_layOrder_137 (by decide) ?_
      refine lv_istore_n (lv' := [(2, .int 0), (0, .ref t0), (1, .int v1)]) hx hb dX11_layOrder_138 rfl hl (by decide) rfl (fun ls hl => ?_)
      exact tX11_layOrder_139 cx hr hlk  NF t0 v1 0 h _ _ _ hB (lv_sub hl [1, 2, 0] rfl) hf
    · replace hf := it_f c2 hf
      refine lv_aload_n hx hb dX11_layOrder_31 rfl (lv_at hl 0 rfl) ?_
      refine lv_iload_n hx hb dX11_layOrder_32 rfl (lv_at hl 2 rfl) ?_
      obtain ⟨r5, g3, m4, hf⟩ := b2_ok hf
      refine hp_cI0 (cl_X11_267 cx hB (cX11_callOf l D cA t0 v2 h _ g3 m4) k1 ⟨Nat.le_of_ble_eq_true rfl, Nat.le_of_ble_eq_true rfl⟩ rfl hl.1 rfl (Nat.le_of_ble_eq_true rfl) ⟨Nat.le_of_ble_eq_true rfl, Nat.le_of_ble_eq_true rfl⟩ dX11_layOrder_33) rfl rfl hB (fun H locs hB => ?_)
      refine lv_istore_n (lv' := [(3, .int r5), (0, .ref t0), (1, .int v1), (2, .int v2)]) hx hb dX11_layOrder_36 rfl hl (by decide) rfl (fun ls hl => ?_)
      refine lv_aload_n hx hb dX11_layOrder_37 rfl (lv_at hl 1 rfl) ?_
      obtain ⟨k7, hf⟩ := gk_ok hf
      obtain ⟨a8, q9, hf⟩ := bd_ok hf
      refine gf_X11_85 cx hB k7 q9 dX11_layOrder_38 ?_
      refine lv_iload_n hx hb dX11_layOrder_41 rfl (lv_at hl 2 rfl) ?_
      obtain ⟨k10, hf⟩ := gk_ok hf
      obtain ⟨j11, hf⟩ := gd_ok hf
      refine hp_zald cx hB k10 j11 dX11_layOrder_42 ?_
      refine lv_if_eq (tgt := 59) hx hb dX11_layOrder_43 (by decide) (fun c12 => ?_) (fun c12 => ?_)
      · replace hf := it_t c12 hf
        refine lv_iconst (v := 0) hx hb dX11_layOrder_59 (by decide) ?_
        refine lv_istore (lv' := [(4, .int 0), (3, .int r5), (0, .ref t0), (1, .int v1), (2, .int v2)]) hx hb dX11_layOrder_60 hl (by decide) rfl (fun ls hl => ?_)
        refine lv_iconst (v := 0) hx hb dX11_layOrder_62 (by decide) ?_
        refine lv_istore (lv' := [(5, .int 0), (4, .int 0), (3, .int r5), (0, .ref t0), (1, .int v1), (2, .int v2)]) hx hb dX11_layOrder_63 hl (by decide) rfl (fun ls hl => ?_)
        exact tX11_layOrder_65 cx hr hlk ih NF t0 v1 v2 0 0 g3 _ _ _ hB (lv_sub hl [3, 4, 5, 1, 0] rfl) hf
      · replace hf := it_f c12 hf
        refine lv_aload_n hx hb dX11_layOrder_46 rfl (lv_at hl 1 rfl) ?_
        obtain ⟨a13, q14, hf⟩ := bd_ok hf
        refine gf_X11_67 cx hB k7 q14 dX11_layOrder_47 ?_
        refine lv_iload_n hx hb dX11_layOrder_50 rfl (lv_at hl 3 rfl) ?_
        obtain ⟨k15, hf⟩ := gk_ok hf
        obtain ⟨j16, hf⟩ := gd_ok hf
        refine hp_iald cx hB k15 j16 dX11_layOrder_51 ?_
        refine lv_if_ne (tgt := 59) hx hb dX11_layOrder_52 (by decide) (fun c17 => ?_) (fun c17 => ?_)
        · replace hf := it_f c17 hf
          refine lv_iconst (v := 0) hx hb dX11_layOrder_59 (by decide) ?_
          refine lv_istore (lv' := [(4, .int 0), (3, .int r5), (0, .ref t0), (1, .int v1), (2, .int v2)]) hx hb dX11_layOrder_60 hl (by decide) rfl (fun ls hl => ?_)
          refine lv_iconst (v := 0) hx hb dX11_layOrder_62 (by decide) ?_
          refine lv_istore (lv' := [(5, .int 0), (4, .int 0), (3, .int r5), (0, .ref t0), (1, .int v1), (2, .int v2)]) hx hb dX11_layOrder_63 hl (by decide) rfl (fun ls hl => ?_)
          exact tX11_layOrder_65 cx hr hlk ih NF t0 v1 v2 0 0 g3 _ _ _ hB (lv_sub hl [3, 4, 5, 1, 0] rfl) hf
        · replace hf := it_t c17 hf
          refine lv_iconst (v := 1) hx hb dX11_layOrder_55 (by decide) ?_
          refine lv_goto (tgt := 60) hx hb dX11_layOrder_56 (by decide) ?_
          refine lv_istore (lv' := [(4, .int 1), (3, .int r5), (0, .ref t0), (1, .int v1), (2, .int v2)]) hx hb dX11_layOrder_60 hl (by decide) rfl (fun ls hl => ?_)
          refine lv_iconst (v := 0) hx hb dX11_layOrder_62 (by decide) ?_
          refine lv_istore (lv' := [(5, .int 0), (4, .int 1), (3, .int r5), (0, .ref t0), (1, .int v1), (2, .int v2)]) hx hb dX11_layOrder_63 hl (by decide) rfl (fun ls hl => ?_)
          exact tX11_layOrder_65 cx hr hlk ih NF t0 v1 v2 1 0 g3 _ _ _ hB (lv_sub hl [3, 4, 5, 1, 0] rfl) hf
set_option maxHeartbeats 4000000 in
set_option maxRecDepth 100000 in
theorem tX11_layOrder_2  (cx : CallFix p m c prog_13_method_48_code 6 s args tbG RX11) (hr : meth.sig.returnType = none) (hlk : meth.locks = false)  (n : Nat) : ∀ (t0 : Nat) (v1 : Int32) (v2 : Int32) (h : Hp) (H : Heap) (locs : List Loc) (ls : Array Slot), hp_B D cA (hp_A h0) s h H locs → lv_has ls 6 [(0, .ref t0), (1, .int v1), (2, .int v2)] → fx (bX11_layOrder_2 ) (fun _ _ _ _ => none) n t0 v1 v2 h = some ((), h9) → W p l e rmX11_layOrder s m args below meth c H locs 0 0 (MQ below (hp_Qv D cA h0 h9) args s 0 0 (hp_A h0)) (F0 m 2 ls []) := by
  obtain ⟨hx, hb, -⟩ := id cx
  induction n with
  | zero => intro t0 v1 v2 h H locs ls hB hl hf; cases hf
  | succ n ih =>
    intro t0 v1 v2 h H locs ls hB hl hf
    replace hf : bX11_layOrder_2  (fx (bX11_layOrder_2 ) (fun _ _ _ _ => none) n) t0 v1 v2 h = some ((), h9) := hf
    unfold bX11_layOrder_2 at hf
    refine lv_iload_n hx hb dX11_layOrder_2 rfl (lv_at hl 2 rfl) ?_
    refine lv_bipush (v := 6) hx hb dX11_layOrder_3 (by decide) ?_
    refine lv_icmp_ge (tgt := 21) hx hb dX11_layOrder_5 (by decide) (fun c1 => ?_) (fun c1 => ?_)
    · replace hf := it_t c1 hf
      refine lv_iconst (v := 0) hx hb dX11_layOrder_21 (by decide) ?_
      refine lv_istore_n (lv' := [(2, .int 0), (0, .ref t0), (1, .int v1)]) hx hb dX11_layOrder_22 rfl hl (by decide) rfl (fun ls hl => ?_)
      exact tX11_layOrder_23 cx hr hlk  NF t0 v1 0 h _ _ _ hB (lv_sub hl [1, 2, 0] rfl) hf
    · replace hf := it_f c1 hf
      refine lv_aload_n hx hb dX11_layOrder_8 rfl (lv_at hl 0 rfl) ?_
      obtain ⟨k2, hf⟩ := gk_ok hf
      obtain ⟨a3, q4, hf⟩ := bd_ok hf
      refine gf_X11_104 cx hB k2 q4 dX11_layOrder_9 ?_
      refine lv_iload_n hx hb dX11_layOrder_12 rfl (lv_at hl 2 rfl) ?_
      refine lv_iconst (v := 0) hx hb dX11_layOrder_13 (by decide) ?_
      obtain ⟨k5, hf⟩ := gk_ok hf
      obtain ⟨j6, hf⟩ := gd_ok hf
      obtain ⟨g7, eg7, hf⟩ := nm_ok hf
      refine hp_iast cx hB k5 j6 dX11_layOrder_14 (fun H locs hB => ?_)
      rw [← eg7] at hB
      obtain ⟨x8, ex8, hf⟩ := nm_ok hf
      refine lv_iinc (v := x8) (lv' := [(2, .int x8), (0, .ref t0), (1, .int v1)]) hx hb dX11_layOrder_15 hl (k := 2) rfl (by rw [ex8]; rfl) (by decide) rfl (fun ls hl => ?_)
      refine lv_goto (tgt := 2) hx hb dX11_layOrder_18 (by decide) ?_
      exact ih t0 v1 x8 g7 _ _ _ hB (lv_sub hl [1, 2, 0] rfl) hf
set_option maxHeartbeats 4000000 in
set_option maxRecDepth 100000 in
theorem tX11_layOrder_0  (cx : CallFix p m c prog_13_method_48_code 6 s args tbG RX11) (hr : meth.sig.returnType = none) (hlk : meth.locks = false)  (t0 : Nat) (v1 : Int32) (h : Hp) (H : Heap) (locs : List Loc) (ls : Array Slot) (hB : hp_B D cA (hp_A h0) s h H locs) (hl : lv_has ls 6 [(0, .ref t0), (1, .int v1)]) (hf : fX11_layOrder  t0 v1 h = some ((), h9)) : W p l e rmX11_layOrder s m args below meth c H locs 0 0 (MQ below (hp_Qv D cA h0 h9) args s 0 0 (hp_A h0)) (F0 m 0 ls []) := by
  obtain ⟨hx, hb, -⟩ := id cx
  unfold fX11_layOrder at hf
  refine lv_iconst (v := 0) hx hb dX11_layOrder_0 (by decide) ?_
  refine lv_istore_n (lv' := [(2, .int 0), (0, .ref t0), (1, .int v1)]) hx hb dX11_layOrder_1 rfl hl (by decide) rfl (fun ls hl => ?_)
  exact tX11_layOrder_2 cx hr hlk  NF t0 v1 0 h _ _ _ hB (lv_sub hl [1, 2, 0] rfl) hf
end
set_option maxHeartbeats 4000000 in
set_option maxRecDepth 100000 in
theorem cX11_layOrder (l : Launch) (D : va_G) (cA : Nat → ClassId) (t0 : Nat) (v1 : Int32) (h : Hp) (_u : Unit) (h9 : Hp) (hf : fX11_layOrder t0 v1 h = some (_u, h9)) : hp_M l yX11_layOrder prog_13_method_48_code 6 none rmX11_layOrder D cA h [.ref t0, .int v1] (hp_Qv D cA h h9) := by
  refine Met.ofW (cc := prog_13_method_48_code) (maxL := 6) (ret := none) (by decide) rfl ?_
  intro p e s m args below meth c s₁ B hml hv
  obtain ⟨rfl, hU⟩ := hv
  have hts := atoms_spec (ws := Cond.code yX11_layOrder prog_13_method_48_code 6 none :: tbG) B.pre
  have hl := lv_entry ([.ref t0, .int v1]) (n := 6) (Nat.le_of_ble_eq_true rfl)
  rw [lg_entry_eq]
  generalize (lg_sl ([.ref t0, .int v1]) ++ List.replicate (6 - (lg_sl ([.ref t0, .int v1])).length) Slot.unset).toArray = ls at hl ⊢
  exact tX11_layOrder_0 ⟨B.exec, B.bytes, hml, findClass_of_methodNamed B.named, fun w hw => hts w (List.mem_cons_of_mem _ hw)⟩ B.returns B.notSynchronized t0 v1 h _ _ _ (hp_B.entry hU) hl hf
section
variable {p : Program} {l : Launch} {e : Env} {R : Room} {s : State} {m : MethodId} {args : Array Value} {below : List Frame} {meth : Method} {c : Code} {H : Heap} {locs : List Loc} {cells slots : Nat} {Q : State → Prop}
variable {cc : ByteArray} {pc nL : Nat} {ls : Array Slot} {rest : List Value} {D : va_G} {cA : Nat → ClassId} {A : Nat → Prop} {a : Nat} {h : Hp}
theorem cl_X11_270 {As st0 : List Value} {b : Nat} {Qc : Array Value → State → Outcome → State → Prop} (cx : CallFix p m c cc nL s args tbG RX11) (hB : hp_B D cA A s h H locs) (hM : hp_M l yX11_layOrder prog_13_method_48_code 6 none rmX11_layOrder D cA h (.ref b :: As) Qc) (hkb : h.1 b = 12) (hR : rmX11_layOrder.frames + 1 ≤ R.frames ∧ 8 + (6 + 11) + rmX11_layOrder.locals ≤ R.locals) (hn : As.length = 1) (hls : ls.size = nL) (hst : st0 = As.reverse ++ .ref b :: rest) (hW : (rest.map fun v => v.category).sum ≤ 8) (hf : cells + rmX11_layOrder.cells ≤ R.cells ∧ slots + rmX11_layOrder.slots ≤ R.slots) (hdg : decode cc pc = .ok (.invokevirtual 270, 3)) :
    va_Run p l e R s m args below meth c H locs cells slots rmX11_layOrder.cells rmX11_layOrder.slots (F0 m pc ls st0) rest (Qc (Value.ref b :: As).toArray) (hp_A h) :=
  hp_runV cx hB hM (ci := 11) rfl (by decide) hkb qw_1093 qw_1090 qw_1092 qp_37 qw_10 (by decide +kernel) hR hn hls hst hW hf hdg
end
abbrev yX11_order : MethodName := ⟨"SpokenMenusModel", "order", "(II)I"⟩
theorem dX11_order_0 : decode prog_13_method_49_code 0 = .ok (.aload_n 0, 1) := by decide +kernel
theorem dX11_order_1 : decode prog_13_method_49_code 1 = .ok (.iload_n 1, 1) := by decide +kernel
theorem dX11_order_2 : decode prog_13_method_49_code 2 = .ok (.invokevirtual 145, 3) := by decide +kernel
theorem dX11_order_5 : decode prog_13_method_49_code 5 = .ok (.ifCond .eq 9, 3) := by decide +kernel
theorem dX11_order_8 : decode prog_13_method_49_code 8 = .ok (.iload_n 2, 1) := by decide +kernel
theorem dX11_order_9 : decode prog_13_method_49_code 9 = .ok (.bipush (-2), 2) := by decide +kernel
theorem dX11_order_11 : decode prog_13_method_49_code 11 = .ok (.if_icmp .ge 5, 3) := by decide +kernel
theorem dX11_order_14 : decode prog_13_method_49_code 14 = .ok (.iconst (-1), 1) := by decide +kernel
theorem dX11_order_15 : decode prog_13_method_49_code 15 = .ok (.ireturn, 1) := by decide +kernel
theorem dX11_order_16 : decode prog_13_method_49_code 16 = .ok (.aload_n 0, 1) := by decide +kernel
theorem dX11_order_17 : decode prog_13_method_49_code 17 = .ok (.iload_n 1, 1) := by decide +kernel
theorem dX11_order_18 : decode prog_13_method_49_code 18 = .ok (.invokevirtual 270, 3) := by decide +kernel
theorem dX11_order_21 : decode prog_13_method_49_code 21 = .ok (.iload_n 2, 1) := by decide +kernel
theorem dX11_order_22 : decode prog_13_method_49_code 22 = .ok (.ifCond .lt 25, 3) := by decide +kernel
theorem dX11_order_25 : decode prog_13_method_49_code 25 = .ok (.iload_n 2, 1) := by decide +kernel
theorem dX11_order_26 : decode prog_13_method_49_code 26 = .ok (.aload_n 0, 1) := by decide +kernel
theorem dX11_order_27 : decode prog_13_method_49_code 27 = .ok (.getfield 37, 3) := by decide +kernel
theorem dX11_order_30 : decode prog_13_method_49_code 30 = .ok (.iload_n 1, 1) := by decide +kernel
theorem dX11_order_31 : decode prog_13_method_49_code 31 = .ok (.iaload, 1) := by decide +kernel
theorem dX11_order_32 : decode prog_13_method_49_code 32 = .ok (.if_icmp .ge 12, 3) := by decide +kernel
theorem dX11_order_35 : decode prog_13_method_49_code 35 = .ok (.aload_n 0, 1) := by decide +kernel
theorem dX11_order_36 : decode prog_13_method_49_code 36 = .ok (.getfield 107, 3) := by decide +kernel
theorem dX11_order_39 : decode prog_13_method_49_code 39 = .ok (.iload_n 2, 1) := by decide +kernel
theorem dX11_order_40 : decode prog_13_method_49_code 40 = .ok (.iaload, 1) := by decide +kernel
theorem dX11_order_41 : decode prog_13_method_49_code 41 = .ok (.goto 5, 3) := by decide +kernel
theorem dX11_order_44 : decode prog_13_method_49_code 44 = .ok (.bipush (-4), 2) := by decide +kernel
theorem dX11_order_46 : decode prog_13_method_49_code 46 = .ok (.ireturn, 1) := by decide +kernel
theorem dX11_order_47 : decode prog_13_method_49_code 47 = .ok (.iconst 0, 1) := by decide +kernel
theorem dX11_order_48 : decode prog_13_method_49_code 48 = .ok (.istore_n 3, 1) := by decide +kernel
theorem dX11_order_49 : decode prog_13_method_49_code 49 = .ok (.iconst 0, 1) := by decide +kernel
theorem dX11_order_50 : decode prog_13_method_49_code 50 = .ok (.istore 4, 2) := by decide +kernel
theorem dX11_order_52 : decode prog_13_method_49_code 52 = .ok (.iconst 0, 1) := by decide +kernel
theorem dX11_order_53 : decode prog_13_method_49_code 53 = .ok (.istore 5, 2) := by decide +kernel
theorem dX11_order_55 : decode prog_13_method_49_code 55 = .ok (.iload 5, 2) := by decide +kernel
theorem dX11_order_57 : decode prog_13_method_49_code 57 = .ok (.aload_n 0, 1) := by decide +kernel
theorem dX11_order_58 : decode prog_13_method_49_code 58 = .ok (.getfield 37, 3) := by decide +kernel
theorem dX11_order_61 : decode prog_13_method_49_code 61 = .ok (.iload_n 1, 1) := by decide +kernel
theorem dX11_order_62 : decode prog_13_method_49_code 62 = .ok (.iaload, 1) := by decide +kernel
theorem dX11_order_63 : decode prog_13_method_49_code 63 = .ok (.if_icmp .ge 58, 3) := by decide +kernel
theorem dX11_order_66 : decode prog_13_method_49_code 66 = .ok (.iload_n 2, 1) := by decide +kernel
theorem dX11_order_67 : decode prog_13_method_49_code 67 = .ok (.iconst (-1), 1) := by decide +kernel
theorem dX11_order_68 : decode prog_13_method_49_code 68 = .ok (.if_icmp .ne 8, 3) := by decide +kernel
theorem dX11_order_71 : decode prog_13_method_49_code 71 = .ok (.iload 5, 2) := by decide +kernel
theorem dX11_order_73 : decode prog_13_method_49_code 73 = .ok (.goto 10, 3) := by decide +kernel
theorem dX11_order_76 : decode prog_13_method_49_code 76 = .ok (.aload_n 0, 1) := by decide +kernel
theorem dX11_order_77 : decode prog_13_method_49_code 77 = .ok (.getfield 107, 3) := by decide +kernel
theorem dX11_order_80 : decode prog_13_method_49_code 80 = .ok (.iload 5, 2) := by decide +kernel
theorem dX11_order_82 : decode prog_13_method_49_code 82 = .ok (.iaload, 1) := by decide +kernel
theorem dX11_order_83 : decode prog_13_method_49_code 83 = .ok (.istore 6, 2) := by decide +kernel
theorem dX11_order_85 : decode prog_13_method_49_code 85 = .ok (.iload 4, 2) := by decide +kernel
theorem dX11_order_87 : decode prog_13_method_49_code 87 = .ok (.aload_n 0, 1) := by decide +kernel
theorem dX11_order_88 : decode prog_13_method_49_code 88 = .ok (.getfield 40, 3) := by decide +kernel
theorem dX11_order_91 : decode prog_13_method_49_code 91 = .ok (.bipush 6, 2) := by decide +kernel
theorem dX11_order_93 : decode prog_13_method_49_code 93 = .ok (.iload_n 1, 1) := by decide +kernel
theorem dX11_order_94 : decode prog_13_method_49_code 94 = .ok (.imul, 1) := by decide +kernel
theorem dX11_order_95 : decode prog_13_method_49_code 95 = .ok (.iload 6, 2) := by decide +kernel
theorem dX11_order_97 : decode prog_13_method_49_code 97 = .ok (.iadd, 1) := by decide +kernel
theorem dX11_order_98 : decode prog_13_method_49_code 98 = .ok (.iaload, 1) := by decide +kernel
theorem dX11_order_99 : decode prog_13_method_49_code 99 = .ok (.iadd, 1) := by decide +kernel
theorem dX11_order_100 : decode prog_13_method_49_code 100 = .ok (.istore 4, 2) := by decide +kernel
theorem dX11_order_102 : decode prog_13_method_49_code 102 = .ok (.iload_n 3, 1) := by decide +kernel
theorem dX11_order_103 : decode prog_13_method_49_code 103 = .ok (.iload 4, 2) := by decide +kernel
theorem dX11_order_105 : decode prog_13_method_49_code 105 = .ok (.aload_n 0, 1) := by decide +kernel
theorem dX11_order_106 : decode prog_13_method_49_code 106 = .ok (.getfield 104, 3) := by decide +kernel
theorem dX11_order_109 : decode prog_13_method_49_code 109 = .ok (.iload 6, 2) := by decide +kernel
theorem dX11_order_111 : decode prog_13_method_49_code 111 = .ok (.iaload, 1) := by decide +kernel
theorem dX11_order_112 : decode prog_13_method_49_code 112 = .ok (.imul, 1) := by decide +kernel
theorem dX11_order_113 : decode prog_13_method_49_code 113 = .ok (.iadd, 1) := by decide +kernel
theorem dX11_order_114 : decode prog_13_method_49_code 114 = .ok (.istore_n 3, 1) := by decide +kernel
theorem dX11_order_115 : decode prog_13_method_49_code 115 = .ok (.iinc 5 1, 3) := by decide +kernel
theorem dX11_order_118 : decode prog_13_method_49_code 118 = .ok (.goto (-63), 3) := by decide +kernel
theorem dX11_order_121 : decode prog_13_method_49_code 121 = .ok (.iload_n 3, 1) := by decide +kernel
theorem dX11_order_122 : decode prog_13_method_49_code 122 = .ok (.ireturn, 1) := by decide +kernel
abbrev rmX11_order : Room := { frames := 9, cells := 0, slots := 0, locals := 209 }
def fX11_order_83 (rc55 : Nat → Int32 → Int32 → Int32 → Int32 → Int32 → Hp → Option (Int32 × Hp)) (t0 : Nat) (v1 : Int32) (v2 : Int32) (v3 : Int32) (v4 : Int32) (v5 : Int32) (s0 : Int32) (h : Hp) : Option (Int32 × Hp) :=
  gk (h.1 t0) 12 <|
  bd (h.2.2.2.1 t0 11) fun a2 =>
  gk (h.1 a2) 13 <|
  gd (ix ((6 * v1) + s0) (h.2.1 a2)) <|
  nm (v4 + (h.2.2.1 a2 (Int32.toNatClampNeg ((6 * v1) + s0)))) fun x6 =>
  bd (h.2.2.2.1 t0 48) fun a7 =>
  gk (h.1 a7) 13 <|
  gd (ix s0 (h.2.1 a7)) <|
  nm (v3 + (x6 * (h.2.2.1 a7 (Int32.toNatClampNeg s0)))) fun x11 =>
  nm (v5 + 1) fun x12 =>
  rc55 t0 v1 v2 x11 x6 x12 h
def bX11_order_55  (rc : Nat → Int32 → Int32 → Int32 → Int32 → Int32 → Hp → Option (Int32 × Hp)) (t0 : Nat) (v1 : Int32) (v2 : Int32) (v3 : Int32) (v4 : Int32) (v5 : Int32) (h : Hp) : Option (Int32 × Hp) :=
  gk (h.1 t0) 12 <|
  bd (h.2.2.2.1 t0 10) fun a2 =>
  gk (h.1 a2) 13 <|
  gd (ix v1 (h.2.1 a2)) <|
  if (h.2.2.1 a2 (Int32.toNatClampNeg v1)) ≤ v5 then
  (some (v3, h))
  else
  (if v2 = (-1) then
  (fX11_order_83 rc t0 v1 v2 v3 v4 v5 v5 h)
  else
  (bd (h.2.2.2.1 t0 49) fun a8 =>
  gk (h.1 a8) 13 <|
  gd (ix v5 (h.2.1 a8)) <|
  fX11_order_83 rc t0 v1 v2 v3 v4 v5 (h.2.2.1 a8 (Int32.toNatClampNeg v5)) h))
def fX11_order_55  : Nat → Int32 → Int32 → Int32 → Int32 → Int32 → Hp → Option (Int32 × Hp) := fx (bX11_order_55 ) (fun _ _ _ _ _ _ _ => none) NF
def fX11_order  (t0 : Nat) (v1 : Int32) (v2 : Int32) (h : Hp) : Option (Int32 × Hp) :=
  gk (h.1 t0) 12 <|
  b2 (fX11_isMenu t0 v1 h) fun r4 g2 =>
  if r4 = 0 then
  (some ((-1), g2))
  else
  (if (-2) ≤ v2 then
  (gk (g2.1 t0) 12 <|
  b2 (fX11_layOrder t0 v1 g2) fun _ g9 =>
  if v2 < 0 then
  (fX11_order_55  t0 v1 v2 0 0 0 g9)
  else
  (gk (g9.1 t0) 12 <|
  bd (g9.2.2.2.1 t0 10) fun a15 =>
  gk (g9.1 a15) 13 <|
  gd (ix v1 (g9.2.1 a15)) <|
  if (g9.2.2.1 a15 (Int32.toNatClampNeg v1)) ≤ v2 then
  (some ((-4), g9))
  else
  (bd (g9.2.2.2.1 t0 49) fun a20 =>
  gk (g9.1 a20) 13 <|
  gd (ix v2 (g9.2.1 a20)) <|
  some (g9.2.2.1 a20 (Int32.toNatClampNeg v2), g9))))
  else
  (some ((-1), g2)))
section
variable {p : Program} {l : Launch} {e : Env} {s : State} {m : MethodId} {args : Array Value} {below : List Frame} {meth : Method} {c : Code} {D : va_G} {cA : Nat → ClassId} {h0 h9 : Hp}
set_option maxHeartbeats 4000000 in
set_option maxRecDepth 100000 in
theorem tX11_order_83 {rc55 : Nat → Int32 → Int32 → Int32 → Int32 → Int32 → Hp → Option (Int32 × Hp)} {r : Int32} (cx : CallFix p m c prog_13_method_49_code 7 s args tbG RX11) (hr : meth.sig.returnType = (Option.some FieldType.int)) (hlk : meth.locks = false) (hr55 : ∀ (t0 : Nat) (v1 : Int32) (v2 : Int32) (v3 : Int32) (v4 : Int32) (v5 : Int32) (h : Hp) (H : Heap) (locs : List Loc) (ls : Array Slot), hp_B D cA (hp_A h0) s h H locs → lv_has ls 7 [(0, .ref t0), (1, .int v1), (2, .int v2), (3, .int v3), (4, .int v4), (5, .int v5)] → rc55 t0 v1 v2 v3 v4 v5 h = some (r, h9) → W p l e rmX11_order s m args below meth c H locs 0 0 (MQ below (hp_Qi D cA h0 h9 r) args s 0 0 (hp_A h0)) (F0 m 55 ls [])) (t0 : Nat) (v1 : Int32) (v2 : Int32) (v3 : Int32) (v4 : Int32) (v5 : Int32) (s0 : Int32) (h : Hp) (H : Heap) (locs : List Loc) (ls : Array Slot) (hB : hp_B D cA (hp_A h0) s h H locs) (hl : lv_has ls 7 [(0, .ref t0), (1, .int v1), (2, .int v2), (3, .int v3), (4, .int v4), (5, .int v5)]) (hf : fX11_order_83 rc55 t0 v1 v2 v3 v4 v5 s0 h = some (r, h9)) : W p l e rmX11_order s m args below meth c H locs 0 0 (MQ below (hp_Qi D cA h0 h9 r) args s 0 0 (hp_A h0)) (F0 m 83 ls [.int s0]) := by
  obtain ⟨hx, hb, -⟩ := id cx
  unfold fX11_order_83 at hf
  refine lv_istore (lv' := [(6, .int s0), (0, .ref t0), (1, .int v1), (2, .int v2), (3, .int v3), (4, .int v4), (5, .int v5)]) hx hb dX11_order_83 hl (by decide) rfl (fun ls hl => ?_)
  refine lv_iload hx hb dX11_order_85 (lv_at hl 5 rfl) ?_
  refine lv_aload_n hx hb dX11_order_87 rfl (lv_at hl 1 rfl) ?_
  obtain ⟨k1, hf⟩ := gk_ok hf
  obtain ⟨a2, q3, hf⟩ := bd_ok hf
  refine gf_X11_40 cx hB k1 q3 dX11_order_88 ?_
  refine lv_bipush (v := 6) hx hb dX11_order_91 (by decide) ?_
  refine lv_iload_n hx hb dX11_order_93 rfl (lv_at hl 2 rfl) ?_
  refine lv_imul hx hb dX11_order_94 ?_
  refine lv_iload hx hb dX11_order_95 (lv_at hl 0 rfl) ?_
  refine lv_iadd hx hb dX11_order_97 ?_
  obtain ⟨k4, hf⟩ := gk_ok hf
  obtain ⟨j5, hf⟩ := gd_ok hf
  refine hp_iald cx hB k4 j5 dX11_order_98 ?_
  refine lv_iadd hx hb dX11_order_99 ?_
  obtain ⟨x6, ex6, hf⟩ := nm_ok hf
  refine lv_ren ex6 ?_
  refine lv_istore (lv' := [(4, .int x6), (6, .int s0), (0, .ref t0), (1, .int v1), (2, .int v2), (3, .int v3), (5, .int v5)]) hx hb dX11_order_100 hl (by decide) rfl (fun ls hl => ?_)
  refine lv_iload_n hx hb dX11_order_102 rfl (lv_at hl 5 rfl) ?_
  refine lv_iload hx hb dX11_order_103 (lv_at hl 0 rfl) ?_
  refine lv_aload_n hx hb dX11_order_105 rfl (lv_at hl 2 rfl) ?_
  obtain ⟨a7, q8, hf⟩ := bd_ok hf
  refine gf_X11_104 cx hB k1 q8 dX11_order_106 ?_
  refine lv_iload hx hb dX11_order_109 (lv_at hl 1 rfl) ?_
  obtain ⟨k9, hf⟩ := gk_ok hf
  obtain ⟨j10, hf⟩ := gd_ok hf
  refine hp_iald cx hB k9 j10 dX11_order_111 ?_
  refine lv_imul hx hb dX11_order_112 ?_
  refine lv_iadd hx hb dX11_order_113 ?_
  obtain ⟨x11, ex11, hf⟩ := nm_ok hf
  refine lv_ren ex11 ?_
  refine lv_istore_n (lv' := [(3, .int x11), (4, .int x6), (6, .int s0), (0, .ref t0), (1, .int v1), (2, .int v2), (5, .int v5)]) hx hb dX11_order_114 rfl hl (by decide) rfl (fun ls hl => ?_)
  obtain ⟨x12, ex12, hf⟩ := nm_ok hf
  refine lv_iinc (v := x12) (lv' := [(5, .int x12), (3, .int x11), (4, .int x6), (6, .int s0), (0, .ref t0), (1, .int v1), (2, .int v2)]) hx hb dX11_order_115 hl (k := 6) rfl (by rw [ex12]; rfl) (by decide) rfl (fun ls hl => ?_)
  refine lv_goto (tgt := 55) hx hb dX11_order_118 (by decide) ?_
  exact hr55 t0 v1 v2 x11 x6 x12 h _ _ _ hB (lv_sub hl [4, 5, 6, 1, 2, 0] rfl) hf
set_option maxHeartbeats 4000000 in
set_option maxRecDepth 100000 in
theorem tX11_order_55  {r : Int32} (cx : CallFix p m c prog_13_method_49_code 7 s args tbG RX11) (hr : meth.sig.returnType = (Option.some FieldType.int)) (hlk : meth.locks = false)  (n : Nat) : ∀ (t0 : Nat) (v1 : Int32) (v2 : Int32) (v3 : Int32) (v4 : Int32) (v5 : Int32) (h : Hp) (H : Heap) (locs : List Loc) (ls : Array Slot), hp_B D cA (hp_A h0) s h H locs → lv_has ls 7 [(0, .ref t0), (1, .int v1), (2, .int v2), (3, .int v3), (4, .int v4), (5, .int v5)] → fx (bX11_order_55 ) (fun _ _ _ _ _ _ _ => none) n t0 v1 v2 v3 v4 v5 h = some (r, h9) → W p l e rmX11_order s m args below meth c H locs 0 0 (MQ below (hp_Qi D cA h0 h9 r) args s 0 0 (hp_A h0)) (F0 m 55 ls []) := by
  obtain ⟨hx, hb, -⟩ := id cx
  induction n with
  | zero => intro t0 v1 v2 v3 v4 v5 h H locs ls hB hl hf; cases hf
  | succ n ih =>
    intro t0 v1 v2 v3 v4 v5 h H locs ls hB hl hf
    replace hf : bX11_order_55  (fx (bX11_order_55 ) (fun _ _ _ _ _ _ _ => none) n) t0 v1 v2 v3 v4 v5 h = some (r, h9) := hf
    unfold bX11_order_55 at hf
    refine lv_iload hx hb dX11_order_55 (lv_at hl 5 rfl) ?_
    refine lv_aload_n hx hb dX11_order_57 rfl (lv_at hl 0 rfl) ?_
    obtain ⟨k1, hf⟩ := gk_ok hf
    obtain ⟨a2, q3, hf⟩ := bd_ok hf
    refine gf_X11_37 cx hB k1 q3 dX11_order_58 ?_
    refine lv_iload_n hx hb dX11_order_61 rfl (lv_at hl 1 rfl) ?_
    obtain ⟨k4, hf⟩ := gk_ok hf
    obtain ⟨j5, hf⟩ := gd_ok hf
    refine hp_iald cx hB k4 j5 dX11_order_62 ?_
    refine lv_icmp_ge (tgt := 121) hx hb dX11_order_63 (by decide) (fun c6 => ?_) (fun c6 => ?_)
    · replace hf := it_t c6 hf
      refine lv_iload_n hx hb dX11_order_121 rfl (lv_at hl 3 rfl) ?_
      obtain ⟨rfl, rfl⟩ := rt_ok hf
      exact hp_iret cx hB hr hlk (Nat.le_of_ble_eq_true rfl) (Nat.le_of_ble_eq_true rfl) dX11_order_122
    · replace hf := it_f c6 hf
      refine lv_iload_n hx hb dX11_order_66 rfl (lv_at hl 2 rfl) ?_
      refine lv_iconst (v := (-1)) hx hb dX11_order_67 (by decide) ?_
      refine lv_icmp_ne (tgt := 76) hx hb dX11_order_68 (by decide) (fun c7 => ?_) (fun c7 => ?_)
      · replace hf := it_f c7 hf
        refine lv_aload_n hx hb dX11_order_76 rfl (lv_at hl 0 rfl) ?_
        obtain ⟨a8, q9, hf⟩ := bd_ok hf
        refine gf_X11_107 cx hB k1 q9 dX11_order_77 ?_
        refine lv_iload hx hb dX11_order_80 (lv_at hl 5 rfl) ?_
        obtain ⟨k10, hf⟩ := gk_ok hf
        obtain ⟨j11, hf⟩ := gd_ok hf
        refine hp_iald cx hB k10 j11 dX11_order_82 ?_
        exact tX11_order_83 cx hr hlk ih t0 v1 v2 v3 v4 v5 (h.2.2.1 a8 (Int32.toNatClampNeg v5)) h _ _ _ hB (lv_sub hl [0, 1, 2, 3, 4, 5] rfl) hf
      · replace hf := it_t c7 hf
        refine lv_iload hx hb dX11_order_71 (lv_at hl 5 rfl) ?_
        refine lv_goto (tgt := 83) hx hb dX11_order_73 (by decide) ?_
        exact tX11_order_83 cx hr hlk ih t0 v1 v2 v3 v4 v5 v5 h _ _ _ hB (lv_sub hl [0, 1, 2, 3, 4, 5] rfl) hf
set_option maxHeartbeats 4000000 in
set_option maxRecDepth 100000 in
theorem tX11_order_0  {r : Int32} (cx : CallFix p m c prog_13_method_49_code 7 s args tbG RX11) (hr : meth.sig.returnType = (Option.some FieldType.int)) (hlk : meth.locks = false)  (t0 : Nat) (v1 : Int32) (v2 : Int32) (h : Hp) (H : Heap) (locs : List Loc) (ls : Array Slot) (hB : hp_B D cA (hp_A h0) s h H locs) (hl : lv_has ls 7 [(0, .ref t0), (1, .int v1), (2, .int v2)]) (hf : fX11_order  t0 v1 v2 h = some (r, h9)) : W p l e rmX11_order s m args below meth c H locs 0 0 (MQ below (hp_Qi D cA h0 h9 r) args s 0 0 (hp_A h0)) (F0 m 0 ls []) := by
  obtain ⟨hx, hb, -⟩ := id cx
  unfold fX11_order at hf
  refine lv_aload_n hx hb dX11_order_0 rfl (lv_at hl 0 rfl) ?_
  refine lv_iload_n hx hb dX11_order_1 rfl (lv_at hl 1 rfl) ?_
  obtain ⟨k1, hf⟩ := gk_ok hf
  obtain ⟨r4, g2, m3, hf⟩ := b2_ok hf
  refine hp_cI0 (cl_X11_145 cx hB (cX11_isMenu l D cA t0 v1 h _ g2 m3) k1 ⟨Nat.le_of_ble_eq_true rfl, Nat.le_of_ble_eq_true rfl⟩ rfl hl.1 rfl (Nat.le_of_ble_eq_true rfl) ⟨Nat.le_of_ble_eq_true rfl, Nat.le_of_ble_eq_true rfl⟩ dX11_order_2) rfl rfl hB (fun H locs hB => ?_)
  refine lv_if_eq (tgt := 14) hx hb dX11_order_5 (by decide) (fun c6 => ?_) (fun c6 => ?_)
  · replace hf := it_t c6 hf
    refine lv_iconst (v := (-1)) hx hb dX11_order_14 (by decide) ?_
    obtain ⟨rfl, rfl⟩ := rt_ok hf
    exact hp_iret cx hB hr hlk (Nat.le_of_ble_eq_true rfl) (Nat.le_of_ble_eq_true rfl) dX11_order_15
  · replace hf := it_f c6 hf
    refine lv_iload_n hx hb dX11_order_8 rfl (lv_at hl 2 rfl) ?_
    refine lv_bipush (v := (-2)) hx hb dX11_order_9 (by decide) ?_
    refine lv_icmp_ge (tgt := 16) hx hb dX11_order_11 (by decide) (fun c7 => ?_) (fun c7 => ?_)
    · replace hf := it_t c7 hf
      refine lv_aload_n hx hb dX11_order_16 rfl (lv_at hl 0 rfl) ?_
      refine lv_iload_n hx hb dX11_order_17 rfl (lv_at hl 1 rfl) ?_
      obtain ⟨k8, hf⟩ := gk_ok hf
      obtain ⟨uu, g9, m10, hf⟩ := b2_ok hf
      refine hp_cV0 (cl_X11_270 cx hB (cX11_layOrder l D cA t0 v1 g2 _ g9 m10) k8 ⟨Nat.le_of_ble_eq_true rfl, Nat.le_of_ble_eq_true rfl⟩ rfl hl.1 rfl (Nat.le_of_ble_eq_true rfl) ⟨Nat.le_of_ble_eq_true rfl, Nat.le_of_ble_eq_true rfl⟩ dX11_order_18) rfl rfl hB (fun H locs hB => ?_)
      refine lv_iload_n hx hb dX11_order_21 rfl (lv_at hl 2 rfl) ?_
      refine lv_if_lt (tgt := 47) hx hb dX11_order_22 (by decide) (fun c13 => ?_) (fun c13 => ?_)
      · replace hf := it_t c13 hf
        refine lv_iconst (v := 0) hx hb dX11_order_47 (by decide) ?_
        refine lv_istore_n (lv' := [(3, .int 0), (0, .ref t0), (1, .int v1), (2, .int v2)]) hx hb dX11_order_48 rfl hl (by decide) rfl (fun ls hl => ?_)
        refine lv_iconst (v := 0) hx hb dX11_order_49 (by decide) ?_
        refine lv_istore (lv' := [(4, .int 0), (3, .int 0), (0, .ref t0), (1, .int v1), (2, .int v2)]) hx hb dX11_order_50 hl (by decide) rfl (fun ls hl => ?_)
        refine lv_iconst (v := 0) hx hb dX11_order_52 (by decide) ?_
        refine lv_istore (lv' := [(5, .int 0), (4, .int 0), (3, .int 0), (0, .ref t0), (1, .int v1), (2, .int v2)]) hx hb dX11_order_53 hl (by decide) rfl (fun ls hl => ?_)
        exact tX11_order_55 cx hr hlk  NF t0 v1 v2 0 0 0 g9 _ _ _ hB (lv_sub hl [3, 4, 5, 2, 1, 0] rfl) hf
      · replace hf := it_f c13 hf
        refine lv_iload_n hx hb dX11_order_25 rfl (lv_at hl 2 rfl) ?_
        refine lv_aload_n hx hb dX11_order_26 rfl (lv_at hl 0 rfl) ?_
        obtain ⟨k14, hf⟩ := gk_ok hf
        obtain ⟨a15, q16, hf⟩ := bd_ok hf
        refine gf_X11_37 cx hB k14 q16 dX11_order_27 ?_
        refine lv_iload_n hx hb dX11_order_30 rfl (lv_at hl 1 rfl) ?_
        obtain ⟨k17, hf⟩ := gk_ok hf
        obtain ⟨j18, hf⟩ := gd_ok hf
        refine hp_iald cx hB k17 j18 dX11_order_31 ?_
        refine lv_icmp_ge (tgt := 44) hx hb dX11_order_32 (by decide) (fun c19 => ?_) (fun c19 => ?_)
        · replace hf := it_t c19 hf
          refine lv_bipush (v := (-4)) hx hb dX11_order_44 (by decide) ?_
          obtain ⟨rfl, rfl⟩ := rt_ok hf
          exact hp_iret cx hB hr hlk (Nat.le_of_ble_eq_true rfl) (Nat.le_of_ble_eq_true rfl) dX11_order_46
        · replace hf := it_f c19 hf
          refine lv_aload_n hx hb dX11_order_35 rfl (lv_at hl 0 rfl) ?_
          obtain ⟨a20, q21, hf⟩ := bd_ok hf
          refine gf_X11_107 cx hB k14 q21 dX11_order_36 ?_
          refine lv_iload_n hx hb dX11_order_39 rfl (lv_at hl 2 rfl) ?_
          obtain ⟨k22, hf⟩ := gk_ok hf
          obtain ⟨j23, hf⟩ := gd_ok hf
          refine hp_iald cx hB k22 j23 dX11_order_40 ?_
          refine lv_goto (tgt := 46) hx hb dX11_order_41 (by decide) ?_
          obtain ⟨rfl, rfl⟩ := rt_ok hf
          exact hp_iret cx hB hr hlk (Nat.le_of_ble_eq_true rfl) (Nat.le_of_ble_eq_true rfl) dX11_order_46
    · replace hf := it_f c7 hf
      refine lv_iconst (v := (-1)) hx hb dX11_order_14 (by decide) ?_
      obtain ⟨rfl, rfl⟩ := rt_ok hf
      exact hp_iret cx hB hr hlk (Nat.le_of_ble_eq_true rfl) (Nat.le_of_ble_eq_true rfl) dX11_order_15
end
set_option maxHeartbeats 4000000 in
set_option maxRecDepth 100000 in
theorem cX11_order (l : Launch) (D : va_G) (cA : Nat → ClassId) (t0 : Nat) (v1 : Int32) (v2 : Int32) (h : Hp) (r : Int32) (h9 : Hp) (hf : fX11_order t0 v1 v2 h = some (r, h9)) : hp_M l yX11_order prog_13_method_49_code 7 (Option.some FieldType.int) rmX11_order D cA h [.ref t0, .int v1, .int v2] (hp_Qi D cA h h9 r) := by
  refine Met.ofW (cc := prog_13_method_49_code) (maxL := 7) (ret := (Option.some FieldType.int)) (by decide) rfl ?_
  intro p e s m args below meth c s₁ B hml hv
  obtain ⟨rfl, hU⟩ := hv
  have hts := atoms_spec (ws := Cond.code yX11_order prog_13_method_49_code 7 (Option.some FieldType.int) :: tbG) B.pre
  have hl := lv_entry ([.ref t0, .int v1, .int v2]) (n := 7) (Nat.le_of_ble_eq_true rfl)
  rw [lg_entry_eq]
  generalize (lg_sl ([.ref t0, .int v1, .int v2]) ++ List.replicate (7 - (lg_sl ([.ref t0, .int v1, .int v2])).length) Slot.unset).toArray = ls at hl ⊢
  exact tX11_order_0 ⟨B.exec, B.bytes, hml, findClass_of_methodNamed B.named, fun w hw => hts w (List.mem_cons_of_mem _ hw)⟩ B.returns B.notSynchronized t0 v1 v2 h _ _ _ (hp_B.entry hU) hl hf
