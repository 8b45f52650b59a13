abbrev yX11_place : MethodName := ⟨"SpokenMenusModel", "place", "(II)I"⟩
theorem dX11_place_0 : decode prog_13_method_19_code 0 = .ok (.aload_n 0, 1) := by decide +kernel
theorem dX11_place_1 : decode prog_13_method_19_code 1 = .ok (.iload_n 1, 1) := by decide +kernel
theorem dX11_place_2 : decode prog_13_method_19_code 2 = .ok (.invokevirtual 142, 3) := by decide +kernel
theorem dX11_place_5 : decode prog_13_method_19_code 5 = .ok (.ifCond .eq 12, 3) := by decide +kernel
theorem dX11_place_8 : decode prog_13_method_19_code 8 = .ok (.iload_n 2, 1) := by decide +kernel
theorem dX11_place_9 : decode prog_13_method_19_code 9 = .ok (.iconst 0, 1) := by decide +kernel
theorem dX11_place_10 : decode prog_13_method_19_code 10 = .ok (.iconst 5, 1) := by decide +kernel
theorem dX11_place_11 : decode prog_13_method_19_code 11 = .ok (.invokestatic 129, 3) := by decide +kernel
theorem dX11_place_14 : decode prog_13_method_19_code 14 = .ok (.ifCond .ne 7, 3) := by decide +kernel
theorem dX11_place_17 : decode prog_13_method_19_code 17 = .ok (.sipush (-1000), 3) := by decide +kernel
theorem dX11_place_20 : decode prog_13_method_19_code 20 = .ok (.ireturn, 1) := by decide +kernel
theorem dX11_place_21 : decode prog_13_method_19_code 21 = .ok (.iload_n 2, 1) := by decide +kernel
theorem dX11_place_22 : decode prog_13_method_19_code 22 = .ok (.tableswitch 69 0 4 #[34, 41, 48, 55, 62], 34) := by decide +kernel
theorem dX11_place_56 : decode prog_13_method_19_code 56 = .ok (.aload_n 0, 1) := by decide +kernel
theorem dX11_place_57 : decode prog_13_method_19_code 57 = .ok (.getfield 7, 3) := by decide +kernel
theorem dX11_place_60 : decode prog_13_method_19_code 60 = .ok (.iload_n 1, 1) := by decide +kernel
theorem dX11_place_61 : decode prog_13_method_19_code 61 = .ok (.iaload, 1) := by decide +kernel
theorem dX11_place_62 : decode prog_13_method_19_code 62 = .ok (.ireturn, 1) := by decide +kernel
theorem dX11_place_63 : decode prog_13_method_19_code 63 = .ok (.aload_n 0, 1) := by decide +kernel
theorem dX11_place_64 : decode prog_13_method_19_code 64 = .ok (.getfield 13, 3) := by decide +kernel
theorem dX11_place_67 : decode prog_13_method_19_code 67 = .ok (.iload_n 1, 1) := by decide +kernel
theorem dX11_place_68 : decode prog_13_method_19_code 68 = .ok (.iaload, 1) := by decide +kernel
theorem dX11_place_69 : decode prog_13_method_19_code 69 = .ok (.ireturn, 1) := by decide +kernel
theorem dX11_place_70 : decode prog_13_method_19_code 70 = .ok (.aload_n 0, 1) := by decide +kernel
theorem dX11_place_71 : decode prog_13_method_19_code 71 = .ok (.getfield 37, 3) := by decide +kernel
theorem dX11_place_74 : decode prog_13_method_19_code 74 = .ok (.iload_n 1, 1) := by decide +kernel
theorem dX11_place_75 : decode prog_13_method_19_code 75 = .ok (.iaload, 1) := by decide +kernel
theorem dX11_place_76 : decode prog_13_method_19_code 76 = .ok (.ireturn, 1) := by decide +kernel
theorem dX11_place_77 : decode prog_13_method_19_code 77 = .ok (.aload_n 0, 1) := by decide +kernel
theorem dX11_place_78 : decode prog_13_method_19_code 78 = .ok (.getfield 19, 3) := by decide +kernel
theorem dX11_place_81 : decode prog_13_method_19_code 81 = .ok (.iload_n 1, 1) := by decide +kernel
theorem dX11_place_82 : decode prog_13_method_19_code 82 = .ok (.iaload, 1) := by decide +kernel
theorem dX11_place_83 : decode prog_13_method_19_code 83 = .ok (.ireturn, 1) := by decide +kernel
theorem dX11_place_84 : decode prog_13_method_19_code 84 = .ok (.aload_n 0, 1) := by decide +kernel
theorem dX11_place_85 : decode prog_13_method_19_code 85 = .ok (.getfield 22, 3) := by decide +kernel
theorem dX11_place_88 : decode prog_13_method_19_code 88 = .ok (.iload_n 1, 1) := by decide +kernel
theorem dX11_place_89 : decode prog_13_method_19_code 89 = .ok (.iaload, 1) := by decide +kernel
theorem dX11_place_90 : decode prog_13_method_19_code 90 = .ok (.ireturn, 1) := by decide +kernel
theorem dX11_place_91 : decode prog_13_method_19_code 91 = .ok (.aload_n 0, 1) := by decide +kernel
theorem dX11_place_92 : decode prog_13_method_19_code 92 = .ok (.getfield 25, 3) := by decide +kernel
theorem dX11_place_95 : decode prog_13_method_19_code 95 = .ok (.iload_n 1, 1) := by decide +kernel
theorem dX11_place_96 : decode prog_13_method_19_code 96 = .ok (.iaload, 1) := by decide +kernel
theorem dX11_place_97 : decode prog_13_method_19_code 97 = .ok (.ireturn, 1) := by decide +kernel
abbrev rmX11_place : Room := { frames := 2, cells := 0, slots := 0, locals := 43 }
def fX11_place  (t0 : Nat) (v1 : Int32) (v2 : Int32) (h : Hp) : Option (Int32 × Hp) :=
  gk (h.1 t0) 12 <|
  b2 (fX11_isPlace t0 v1 h) fun r4 g2 =>
  if r4 = 0 then
  (some ((-1000), g2))
  else
  (b2 (fX11_in v2 0 5 g2) fun r9 g7 =>
  if r9 = 0 then
  (some ((-1000), g7))
  else
  (if v2 = 0 then
  (gk (g7.1 t0) 12 <|
  bd (g7.2.2.2.1 t0 1) fun a14 =>
  gk (g7.1 a14) 13 <|
  gd (ix v1 (g7.2.1 a14)) <|
  some (g7.2.2.1 a14 (Int32.toNatClampNeg v1), g7))
  else
  if v2 = 1 then
  (gk (g7.1 t0) 12 <|
  bd (g7.2.2.2.1 t0 2) fun a20 =>
  gk (g7.1 a20) 13 <|
  gd (ix v1 (g7.2.1 a20)) <|
  some (g7.2.2.1 a20 (Int32.toNatClampNeg v1), g7))
  else
  if v2 = 2 then
  (gk (g7.1 t0) 12 <|
  bd (g7.2.2.2.1 t0 10) fun a26 =>
  gk (g7.1 a26) 13 <|
  gd (ix v1 (g7.2.1 a26)) <|
  some (g7.2.2.1 a26 (Int32.toNatClampNeg v1), g7))
  else
  if v2 = 3 then
  (gk (g7.1 t0) 12 <|
  bd (g7.2.2.2.1 t0 4) fun a32 =>
  gk (g7.1 a32) 13 <|
  gd (ix v1 (g7.2.1 a32)) <|
  some (g7.2.2.1 a32 (Int32.toNatClampNeg v1), g7))
  else
  if v2 = 4 then
  (gk (g7.1 t0) 12 <|
  bd (g7.2.2.2.1 t0 5) fun a38 =>
  gk (g7.1 a38) 13 <|
  gd (ix v1 (g7.2.1 a38)) <|
  some (g7.2.2.1 a38 (Int32.toNatClampNeg v1), g7))
  else
  (gk (g7.1 t0) 12 <|
  bd (g7.2.2.2.1 t0 6) fun a43 =>
  gk (g7.1 a43) 13 <|
  gd (ix v1 (g7.2.1 a43)) <|
  some (g7.2.2.1 a43 (Int32.toNatClampNeg v1), g7))))
section
variable {p : Program} {l : Launch} {e : Env} {s : State} {m : MethodId} {args : Array Value} {below : List Frame} {meth : Method} {c : Code} {D : va_G} {cA : Nat → ClassId} {h0 h9 : Hp}
set_option maxHeartbeats 4000000 in
set_option maxRecDepth 100000 in
theorem tX11_place_0  {r : Int32} (cx : CallFix p m c prog_13_method_19_code 3 s args tbG RX11) (hr : meth.sig.returnType = (Option.some FieldType.int)) (hlk : meth.locks = false)  (t0 : Nat) (v1 : Int32) (v2 : Int32) (h : Hp) (H : Heap) (locs : List Loc) (ls : Array Slot) (hB : hp_B D cA (hp_A h0) s h H locs) (hl : lv_has ls 3 [(0, .ref t0), (1, .int v1), (2, .int v2)]) (hf : fX11_place  t0 v1 v2 h = some (r, h9)) : W p l e rmX11_place s m args below meth c H locs 0 0 (MQ below (hp_Qi D cA h0 h9 r) args s 0 0 (hp_A h0)) (F0 m 0 ls []) := by
  obtain ⟨hx, hb, -⟩ := id cx
  unfold fX11_place at hf
  refine lv_aload_n hx hb dX11_place_0 rfl (lv_at hl 0 rfl) ?_
  refine lv_iload_n hx hb dX11_place_1 rfl (lv_at hl 1 rfl) ?_
  obtain ⟨k1, hf⟩ := gk_ok hf
  obtain ⟨r4, g2, m3, hf⟩ := b2_ok hf
  refine hp_cI0 (cl_X11_142 cx hB (cX11_isPlace l D cA t0 v1 h _ g2 m3) k1 ⟨Nat.le_of_ble_eq_true rfl, Nat.le_of_ble_eq_true rfl⟩ rfl hl.1 rfl (Nat.le_of_ble_eq_true rfl) ⟨Nat.le_of_ble_eq_true rfl, Nat.le_of_ble_eq_true rfl⟩ dX11_place_2) rfl rfl hB (fun H locs hB => ?_)
  refine lv_if_eq (tgt := 17) hx hb dX11_place_5 (by decide) (fun c6 => ?_) (fun c6 => ?_)
  · replace hf := it_t c6 hf
    refine lv_sipush (v := (-1000)) hx hb dX11_place_17 (by decide) ?_
    obtain ⟨rfl, rfl⟩ := rt_ok hf
    exact hp_iret cx hB hr hlk (Nat.le_of_ble_eq_true rfl) (Nat.le_of_ble_eq_true rfl) dX11_place_20
  · replace hf := it_f c6 hf
    refine lv_iload_n hx hb dX11_place_8 rfl (lv_at hl 2 rfl) ?_
    refine lv_iconst (v := 0) hx hb dX11_place_9 (by decide) ?_
    refine lv_iconst (v := 5) hx hb dX11_place_10 (by decide) ?_
    obtain ⟨r9, g7, m8, hf⟩ := b2_ok hf
    refine hp_cI0 (cl_X11_129 cx hB (cX11_in l D cA v2 0 5 g2 _ g7 m8) ⟨Nat.le_of_ble_eq_true rfl, Nat.le_of_ble_eq_true rfl⟩ rfl hl.1 rfl (Nat.le_of_ble_eq_true rfl) ⟨Nat.le_of_ble_eq_true rfl, Nat.le_of_ble_eq_true rfl⟩ dX11_place_11) rfl rfl hB (fun H locs hB => ?_)
    refine lv_if_ne (tgt := 21) hx hb dX11_place_14 (by decide) (fun c11 => ?_) (fun c11 => ?_)
    · replace hf := it_f c11 hf
      refine lv_iload_n hx hb dX11_place_21 rfl (lv_at hl 2 rfl) ?_
      by_cases c12 : v2 = 0
      · replace hf := it_t c12 hf
        refine lv_tableIn (off := 34) (tgt := 56) hx hb dX11_place_22 (by rw [c12]; decide) (by rw [c12]; decide) (by rw [c12]; rfl) (by decide) ?_
        refine lv_aload_n hx hb dX11_place_56 rfl (lv_at hl 0 rfl) ?_
        obtain ⟨k13, hf⟩ := gk_ok hf
        obtain ⟨a14, q15, hf⟩ := bd_ok hf
        refine gf_X11_7 cx hB k13 q15 dX11_place_57 ?_
        refine lv_iload_n hx hb dX11_place_60 rfl (lv_at hl 1 rfl) ?_
        obtain ⟨k16, hf⟩ := gk_ok hf
        obtain ⟨j17, hf⟩ := gd_ok hf
        refine hp_iald cx hB k16 j17 dX11_place_61 ?_
        obtain ⟨rfl, rfl⟩ := rt_ok hf
        exact hp_iret cx hB hr hlk (Nat.le_of_ble_eq_true rfl) (Nat.le_of_ble_eq_true rfl) dX11_place_62
      · replace hf := it_f c12 hf
        by_cases c18 : v2 = 1
        · replace hf := it_t c18 hf
          refine lv_tableIn (off := 41) (tgt := 63) hx hb dX11_place_22 (by rw [c18]; decide) (by rw [c18]; decide) (by rw [c18]; rfl) (by decide) ?_
          refine lv_aload_n hx hb dX11_place_63 rfl (lv_at hl 0 rfl) ?_
          obtain ⟨k19, hf⟩ := gk_ok hf
          obtain ⟨a20, q21, hf⟩ := bd_ok hf
          refine gf_X11_13 cx hB k19 q21 dX11_place_64 ?_
          refine lv_iload_n hx hb dX11_place_67 rfl (lv_at hl 1 rfl) ?_
          obtain ⟨k22, hf⟩ := gk_ok hf
          obtain ⟨j23, hf⟩ := gd_ok hf
          refine hp_iald cx hB k22 j23 dX11_place_68 ?_
          obtain ⟨rfl, rfl⟩ := rt_ok hf
          exact hp_iret cx hB hr hlk (Nat.le_of_ble_eq_true rfl) (Nat.le_of_ble_eq_true rfl) dX11_place_69
        · replace hf := it_f c18 hf
          by_cases c24 : v2 = 2
          · replace hf := it_t c24 hf
            refine lv_tableIn (off := 48) (tgt := 70) hx hb dX11_place_22 (by rw [c24]; decide) (by rw [c24]; decide) (by rw [c24]; rfl) (by decide) ?_
            refine lv_aload_n hx hb dX11_place_70 rfl (lv_at hl 0 rfl) ?_
            obtain ⟨k25, hf⟩ := gk_ok hf
            obtain ⟨a26, q27, hf⟩ := bd_ok hf
            refine gf_X11_37 cx hB k25 q27 dX11_place_71 ?_
            refine lv_iload_n hx hb dX11_place_74 rfl (lv_at hl 1 rfl) ?_
            obtain ⟨k28, hf⟩ := gk_ok hf
            obtain ⟨j29, hf⟩ := gd_ok hf
            refine hp_iald cx hB k28 j29 dX11_place_75 ?_
            obtain ⟨rfl, rfl⟩ := rt_ok hf
            exact hp_iret cx hB hr hlk (Nat.le_of_ble_eq_true rfl) (Nat.le_of_ble_eq_true rfl) dX11_place_76
          · replace hf := it_f c24 hf
            by_cases c30 : v2 = 3
            · replace hf := it_t c30 hf
              refine lv_tableIn (off := 55) (tgt := 77) hx hb dX11_place_22 (by rw [c30]; decide) (by rw [c30]; decide) (by rw [c30]; rfl) (by decide) ?_
              refine lv_aload_n hx hb dX11_place_77 rfl (lv_at hl 0 rfl) ?_
              obtain ⟨k31, hf⟩ := gk_ok hf
              obtain ⟨a32, q33, hf⟩ := bd_ok hf
              refine gf_X11_19 cx hB k31 q33 dX11_place_78 ?_
              refine lv_iload_n hx hb dX11_place_81 rfl (lv_at hl 1 rfl) ?_
              obtain ⟨k34, hf⟩ := gk_ok hf
              obtain ⟨j35, hf⟩ := gd_ok hf
              refine hp_iald cx hB k34 j35 dX11_place_82 ?_
              obtain ⟨rfl, rfl⟩ := rt_ok hf
              exact hp_iret cx hB hr hlk (Nat.le_of_ble_eq_true rfl) (Nat.le_of_ble_eq_true rfl) dX11_place_83
            · replace hf := it_f c30 hf
              by_cases c36 : v2 = 4
              · replace hf := it_t c36 hf
                refine lv_tableIn (off := 62) (tgt := 84) hx hb dX11_place_22 (by rw [c36]; decide) (by rw [c36]; decide) (by rw [c36]; rfl) (by decide) ?_
                refine lv_aload_n hx hb dX11_place_84 rfl (lv_at hl 0 rfl) ?_
                obtain ⟨k37, hf⟩ := gk_ok hf
                obtain ⟨a38, q39, hf⟩ := bd_ok hf
                refine gf_X11_22 cx hB k37 q39 dX11_place_85 ?_
                refine lv_iload_n hx hb dX11_place_88 rfl (lv_at hl 1 rfl) ?_
                obtain ⟨k40, hf⟩ := gk_ok hf
                obtain ⟨j41, hf⟩ := gd_ok hf
                refine hp_iald cx hB k40 j41 dX11_place_89 ?_
                obtain ⟨rfl, rfl⟩ := rt_ok hf
                exact hp_iret cx hB hr hlk (Nat.le_of_ble_eq_true rfl) (Nat.le_of_ble_eq_true rfl) dX11_place_90
              · replace hf := it_f c36 hf
                refine lv_tableOut (tgt := 91) hx hb dX11_place_22 (by have nc12 := lv_neT c12 (a := 0) rfl; have nc18 := lv_neT c18 (a := 1) rfl; have nc24 := lv_neT c24 (a := 2) rfl; have nc30 := lv_neT c30 (a := 3) rfl; have nc36 := lv_neT c36 (a := 4) rfl; omega) (by decide) ?_
                refine lv_aload_n hx hb dX11_place_91 rfl (lv_at hl 0 rfl) ?_
                obtain ⟨k42, hf⟩ := gk_ok hf
                obtain ⟨a43, q44, hf⟩ := bd_ok hf
                refine gf_X11_25 cx hB k42 q44 dX11_place_92 ?_
                refine lv_iload_n hx hb dX11_place_95 rfl (lv_at hl 1 rfl) ?_
                obtain ⟨k45, hf⟩ := gk_ok hf
                obtain ⟨j46, hf⟩ := gd_ok hf
                refine hp_iald cx hB k45 j46 dX11_place_96 ?_
                obtain ⟨rfl, rfl⟩ := rt_ok hf
                exact hp_iret cx hB hr hlk (Nat.le_of_ble_eq_true rfl) (Nat.le_of_ble_eq_true rfl) dX11_place_97
    · replace hf := it_t c11 hf
      refine lv_sipush (v := (-1000)) hx hb dX11_place_17 (by decide) ?_
      obtain ⟨rfl, rfl⟩ := rt_ok hf
      exact hp_iret cx hB hr hlk (Nat.le_of_ble_eq_true rfl) (Nat.le_of_ble_eq_true rfl) dX11_place_20
end
set_option maxHeartbeats 4000000 in
set_option maxRecDepth 100000 in
theorem cX11_place (l : Launch) (D : va_G) (cA : Nat → ClassId) (t0 : Nat) (v1 : Int32) (v2 : Int32) (h : Hp) (r : Int32) (h9 : Hp) (hf : fX11_place t0 v1 v2 h = some (r, h9)) : hp_M l yX11_place prog_13_method_19_code 3 (Option.some FieldType.int) rmX11_place D cA h [.ref t0, .int v1, .int v2] (hp_Qi D cA h h9 r) := by
  refine Met.ofW (cc := prog_13_method_19_code) (maxL := 3) (ret := (Option.some FieldType.int)) (by decide) rfl ?_
  intro p e s m args below meth c s₁ B hml hv
  obtain ⟨rfl, hU⟩ := hv
  have hts := atoms_spec (ws := Cond.code yX11_place prog_13_method_19_code 3 (Option.some FieldType.int) :: tbG) B.pre
  have hl := lv_entry ([.ref t0, .int v1, .int v2]) (n := 3) (Nat.le_of_ble_eq_true rfl)
  rw [lg_entry_eq]
  generalize (lg_sl ([.ref t0, .int v1, .int v2]) ++ List.replicate (3 - (lg_sl ([.ref t0, .int v1, .int v2])).length) Slot.unset).toArray = ls at hl ⊢
  exact tX11_place_0 ⟨B.exec, B.bytes, hml, findClass_of_methodNamed B.named, fun w hw => hts w (List.mem_cons_of_mem _ hw)⟩ B.returns B.notSynchronized t0 v1 v2 h _ _ _ (hp_B.entry hU) hl hf
abbrev yX11_lineOf : MethodName := ⟨"SpokenMenusModel", "lineOf", "(III)I"⟩
theorem dX11_lineOf_0 : decode prog_13_method_20_code 0 = .ok (.aload_n 0, 1) := by decide +kernel
theorem dX11_lineOf_1 : decode prog_13_method_20_code 1 = .ok (.iload_n 1, 1) := by decide +kernel
theorem dX11_lineOf_2 : decode prog_13_method_20_code 2 = .ok (.iload_n 2, 1) := by decide +kernel
theorem dX11_lineOf_3 : decode prog_13_method_20_code 3 = .ok (.invokevirtual 151, 3) := by decide +kernel
theorem dX11_lineOf_6 : decode prog_13_method_20_code 6 = .ok (.ifCond .eq 12, 3) := by decide +kernel
theorem dX11_lineOf_9 : decode prog_13_method_20_code 9 = .ok (.iload_n 3, 1) := by decide +kernel
theorem dX11_lineOf_10 : decode prog_13_method_20_code 10 = .ok (.iconst 0, 1) := by decide +kernel
theorem dX11_lineOf_11 : decode prog_13_method_20_code 11 = .ok (.iconst 3, 1) := by decide +kernel
theorem dX11_lineOf_12 : decode prog_13_method_20_code 12 = .ok (.invokestatic 129, 3) := by decide +kernel
theorem dX11_lineOf_15 : decode prog_13_method_20_code 15 = .ok (.ifCond .ne 7, 3) := by decide +kernel
theorem dX11_lineOf_18 : decode prog_13_method_20_code 18 = .ok (.sipush (-1000), 3) := by decide +kernel
theorem dX11_lineOf_21 : decode prog_13_method_20_code 21 = .ok (.ireturn, 1) := by decide +kernel
theorem dX11_lineOf_22 : decode prog_13_method_20_code 22 = .ok (.bipush 6, 2) := by decide +kernel
theorem dX11_lineOf_24 : decode prog_13_method_20_code 24 = .ok (.iload_n 1, 1) := by decide +kernel
theorem dX11_lineOf_25 : decode prog_13_method_20_code 25 = .ok (.imul, 1) := by decide +kernel
theorem dX11_lineOf_26 : decode prog_13_method_20_code 26 = .ok (.iload_n 2, 1) := by decide +kernel
theorem dX11_lineOf_27 : decode prog_13_method_20_code 27 = .ok (.iadd, 1) := by decide +kernel
theorem dX11_lineOf_28 : decode prog_13_method_20_code 28 = .ok (.istore 4, 2) := by decide +kernel
theorem dX11_lineOf_30 : decode prog_13_method_20_code 30 = .ok (.iload_n 3, 1) := by decide +kernel
theorem dX11_lineOf_31 : decode prog_13_method_20_code 31 = .ok (.ifCond .ne 13, 3) := by decide +kernel
theorem dX11_lineOf_34 : decode prog_13_method_20_code 34 = .ok (.aload_n 0, 1) := by decide +kernel
theorem dX11_lineOf_35 : decode prog_13_method_20_code 35 = .ok (.getfield 40, 3) := by decide +kernel
theorem dX11_lineOf_38 : decode prog_13_method_20_code 38 = .ok (.iload 4, 2) := by decide +kernel
theorem dX11_lineOf_40 : decode prog_13_method_20_code 40 = .ok (.iaload, 1) := by decide +kernel
theorem dX11_lineOf_41 : decode prog_13_method_20_code 41 = .ok (.goto 40, 3) := by decide +kernel
theorem dX11_lineOf_44 : decode prog_13_method_20_code 44 = .ok (.iload_n 3, 1) := by decide +kernel
theorem dX11_lineOf_45 : decode prog_13_method_20_code 45 = .ok (.iconst 1, 1) := by decide +kernel
theorem dX11_lineOf_46 : decode prog_13_method_20_code 46 = .ok (.if_icmp .ne 13, 3) := by decide +kernel
theorem dX11_lineOf_49 : decode prog_13_method_20_code 49 = .ok (.aload_n 0, 1) := by decide +kernel
theorem dX11_lineOf_50 : decode prog_13_method_20_code 50 = .ok (.getfield 43, 3) := by decide +kernel
theorem dX11_lineOf_53 : decode prog_13_method_20_code 53 = .ok (.iload 4, 2) := by decide +kernel
theorem dX11_lineOf_55 : decode prog_13_method_20_code 55 = .ok (.iaload, 1) := by decide +kernel
theorem dX11_lineOf_56 : decode prog_13_method_20_code 56 = .ok (.goto 25, 3) := by decide +kernel
theorem dX11_lineOf_59 : decode prog_13_method_20_code 59 = .ok (.iload_n 3, 1) := by decide +kernel
theorem dX11_lineOf_60 : decode prog_13_method_20_code 60 = .ok (.iconst 2, 1) := by decide +kernel
theorem dX11_lineOf_61 : decode prog_13_method_20_code 61 = .ok (.if_icmp .ne 13, 3) := by decide +kernel
theorem dX11_lineOf_64 : decode prog_13_method_20_code 64 = .ok (.aload_n 0, 1) := by decide +kernel
theorem dX11_lineOf_65 : decode prog_13_method_20_code 65 = .ok (.getfield 46, 3) := by decide +kernel
theorem dX11_lineOf_68 : decode prog_13_method_20_code 68 = .ok (.iload 4, 2) := by decide +kernel
theorem dX11_lineOf_70 : decode prog_13_method_20_code 70 = .ok (.iaload, 1) := by decide +kernel
theorem dX11_lineOf_71 : decode prog_13_method_20_code 71 = .ok (.goto 10, 3) := by decide +kernel
theorem dX11_lineOf_74 : decode prog_13_method_20_code 74 = .ok (.aload_n 0, 1) := by decide +kernel
theorem dX11_lineOf_75 : decode prog_13_method_20_code 75 = .ok (.getfield 49, 3) := by decide +kernel
theorem dX11_lineOf_78 : decode prog_13_method_20_code 78 = .ok (.iload 4, 2) := by decide +kernel
theorem dX11_lineOf_80 : decode prog_13_method_20_code 80 = .ok (.iaload, 1) := by decide +kernel
theorem dX11_lineOf_81 : decode prog_13_method_20_code 81 = .ok (.ireturn, 1) := by decide +kernel
abbrev rmX11_lineOf : Room := { frames := 4, cells := 0, slots := 0, locals := 86 }
def fX11_lineOf  (t0 : Nat) (v1 : Int32) (v2 : Int32) (v3 : Int32) (h : Hp) : Option (Int32 × Hp) :=
  gk (h.1 t0) 12 <|
  b2 (fX11_isLine t0 v1 v2 h) fun r4 g2 =>
  if r4 = 0 then
  (some ((-1000), g2))
  else
  (b2 (fX11_in v3 0 3 g2) fun r9 g7 =>
  if r9 = 0 then
  (some ((-1000), g7))
  else
  (nm ((6 * v1) + v2) fun x12 =>
  if v3 = 0 then
  (gk (g7.1 t0) 12 <|
  bd (g7.2.2.2.1 t0 11) fun a32 =>
  gk (g7.1 a32) 13 <|
  gd (ix x12 (g7.2.1 a32)) <|
  some (g7.2.2.1 a32 (Int32.toNatClampNeg x12), g7))
  else
  (if v3 = 1 then
  (gk (g7.1 t0) 12 <|
  bd (g7.2.2.2.1 t0 12) fun a27 =>
  gk (g7.1 a27) 13 <|
  gd (ix x12 (g7.2.1 a27)) <|
  some (g7.2.2.1 a27 (Int32.toNatClampNeg x12), g7))
  else
  (if v3 = 2 then
  (gk (g7.1 t0) 12 <|
  bd (g7.2.2.2.1 t0 13) fun a22 =>
  gk (g7.1 a22) 13 <|
  gd (ix x12 (g7.2.1 a22)) <|
  some (g7.2.2.1 a22 (Int32.toNatClampNeg x12), g7))
  else
  (gk (g7.1 t0) 12 <|
  bd (g7.2.2.2.1 t0 14) fun a17 =>
  gk (g7.1 a17) 13 <|
  gd (ix x12 (g7.2.1 a17)) <|
  some (g7.2.2.1 a17 (Int32.toNatClampNeg x12), g7))))))
section
variable {p : Program} {l : Launch} {e : Env} {s : State} {m : MethodId} {args : Array Value} {below : List Frame} {meth : Method} {c : Code} {D : va_G} {cA : Nat → ClassId} {h0 h9 : Hp}
set_option maxHeartbeats 4000000 in
set_option maxRecDepth 100000 in
theorem tX11_lineOf_0  {r : Int32} (cx : CallFix p m c prog_13_method_20_code 5 s args tbG RX11) (hr : meth.sig.returnType = (Option.some FieldType.int)) (hlk : meth.locks = false)  (t0 : Nat) (v1 : Int32) (v2 : Int32) (v3 : Int32) (h : Hp) (H : Heap) (locs : List Loc) (ls : Array Slot) (hB : hp_B D cA (hp_A h0) s h H locs) (hl : lv_has ls 5 [(0, .ref t0), (1, .int v1), (2, .int v2), (3, .int v3)]) (hf : fX11_lineOf  t0 v1 v2 v3 h = some (r, h9)) : W p l e rmX11_lineOf s m args below meth c H locs 0 0 (MQ below (hp_Qi D cA h0 h9 r) args s 0 0 (hp_A h0)) (F0 m 0 ls []) := by
  obtain ⟨hx, hb, -⟩ := id cx
  unfold fX11_lineOf at hf
  refine lv_aload_n hx hb dX11_lineOf_0 rfl (lv_at hl 0 rfl) ?_
  refine lv_iload_n hx hb dX11_lineOf_1 rfl (lv_at hl 1 rfl) ?_
  refine lv_iload_n hx hb dX11_lineOf_2 rfl (lv_at hl 2 rfl) ?_
  obtain ⟨k1, hf⟩ := gk_ok hf
  obtain ⟨r4, g2, m3, hf⟩ := b2_ok hf
  refine hp_cI0 (cl_X11_151 cx hB (cX11_isLine l D cA t0 v1 v2 h _ g2 m3) k1 ⟨Nat.le_of_ble_eq_true rfl, Nat.le_of_ble_eq_true rfl⟩ rfl hl.1 rfl (Nat.le_of_ble_eq_true rfl) ⟨Nat.le_of_ble_eq_true rfl, Nat.le_of_ble_eq_true rfl⟩ dX11_lineOf_3) rfl rfl hB (fun H locs hB => ?_)
  refine lv_if_eq (tgt := 18) hx hb dX11_lineOf_6 (by decide) (fun c6 => ?_) (fun c6 => ?_)
  · replace hf := it_t c6 hf
    refine lv_sipush (v := (-1000)) hx hb dX11_lineOf_18 (by decide) ?_
    obtain ⟨rfl, rfl⟩ := rt_ok hf
    exact hp_iret cx hB hr hlk (Nat.le_of_ble_eq_true rfl) (Nat.le_of_ble_eq_true rfl) dX11_lineOf_21
  · replace hf := it_f c6 hf
    refine lv_iload_n hx hb dX11_lineOf_9 rfl (lv_at hl 3 rfl) ?_
    refine lv_iconst (v := 0) hx hb dX11_lineOf_10 (by decide) ?_
    refine lv_iconst (v := 3) hx hb dX11_lineOf_11 (by decide) ?_
    obtain ⟨r9, g7, m8, hf⟩ := b2_ok hf
    refine hp_cI0 (cl_X11_129 cx hB (cX11_in l D cA v3 0 3 g2 _ g7 m8) ⟨Nat.le_of_ble_eq_true rfl, Nat.le_of_ble_eq_true rfl⟩ rfl hl.1 rfl (Nat.le_of_ble_eq_true rfl) ⟨Nat.le_of_ble_eq_true rfl, Nat.le_of_ble_eq_true rfl⟩ dX11_lineOf_12) rfl rfl hB (fun H locs hB => ?_)
    refine lv_if_ne (tgt := 22) hx hb dX11_lineOf_15 (by decide) (fun c11 => ?_) (fun c11 => ?_)
    · replace hf := it_f c11 hf
      refine lv_bipush (v := 6) hx hb dX11_lineOf_22 (by decide) ?_
      refine lv_iload_n hx hb dX11_lineOf_24 rfl (lv_at hl 1 rfl) ?_
      refine lv_imul hx hb dX11_lineOf_25 ?_
      refine lv_iload_n hx hb dX11_lineOf_26 rfl (lv_at hl 2 rfl) ?_
      refine lv_iadd hx hb dX11_lineOf_27 ?_
      obtain ⟨x12, ex12, hf⟩ := nm_ok hf
      refine lv_ren ex12 ?_
      refine lv_istore (lv' := [(4, .int x12), (0, .ref t0), (1, .int v1), (2, .int v2), (3, .int v3)]) hx hb dX11_lineOf_28 hl (by decide) rfl (fun ls hl => ?_)
      refine lv_iload_n hx hb dX11_lineOf_30 rfl (lv_at hl 4 rfl) ?_
      refine lv_if_ne (tgt := 44) hx hb dX11_lineOf_31 (by decide) (fun c13 => ?_) (fun c13 => ?_)
      · replace hf := it_f c13 hf
        refine lv_iload_n hx hb dX11_lineOf_44 rfl (lv_at hl 4 rfl) ?_
        refine lv_iconst (v := 1) hx hb dX11_lineOf_45 (by decide) ?_
        refine lv_icmp_ne (tgt := 59) hx hb dX11_lineOf_46 (by decide) (fun c14 => ?_) (fun c14 => ?_)
        · replace hf := it_f c14 hf
          refine lv_iload_n hx hb dX11_lineOf_59 rfl (lv_at hl 4 rfl) ?_
          refine lv_iconst (v := 2) hx hb dX11_lineOf_60 (by decide) ?_
          refine lv_icmp_ne (tgt := 74) hx hb dX11_lineOf_61 (by decide) (fun c15 => ?_) (fun c15 => ?_)
          · replace hf := it_f c15 hf
            refine lv_aload_n hx hb dX11_lineOf_74 rfl (lv_at hl 1 rfl) ?_
            obtain ⟨k16, hf⟩ := gk_ok hf
            obtain ⟨a17, q18, hf⟩ := bd_ok hf
            refine gf_X11_49 cx hB k16 q18 dX11_lineOf_75 ?_
            refine lv_iload hx hb dX11_lineOf_78 (lv_at hl 0 rfl) ?_
            obtain ⟨k19, hf⟩ := gk_ok hf
            obtain ⟨j20, hf⟩ := gd_ok hf
            refine hp_iald cx hB k19 j20 dX11_lineOf_80 ?_
            obtain ⟨rfl, rfl⟩ := rt_ok hf
            exact hp_iret cx hB hr hlk (Nat.le_of_ble_eq_true rfl) (Nat.le_of_ble_eq_true rfl) dX11_lineOf_81
          · replace hf := it_t c15 hf
            refine lv_aload_n hx hb dX11_lineOf_64 rfl (lv_at hl 1 rfl) ?_
            obtain ⟨k21, hf⟩ := gk_ok hf
            obtain ⟨a22, q23, hf⟩ := bd_ok hf
            refine gf_X11_46 cx hB k21 q23 dX11_lineOf_65 ?_
            refine lv_iload hx hb dX11_lineOf_68 (lv_at hl 0 rfl) ?_
            obtain ⟨k24, hf⟩ := gk_ok hf
            obtain ⟨j25, hf⟩ := gd_ok hf
            refine hp_iald cx hB k24 j25 dX11_lineOf_70 ?_
            refine lv_goto (tgt := 81) hx hb dX11_lineOf_71 (by decide) ?_
            obtain ⟨rfl, rfl⟩ := rt_ok hf
            exact hp_iret cx hB hr hlk (Nat.le_of_ble_eq_true rfl) (Nat.le_of_ble_eq_true rfl) dX11_lineOf_81
        · replace hf := it_t c14 hf
          refine lv_aload_n hx hb dX11_lineOf_49 rfl (lv_at hl 1 rfl) ?_
          obtain ⟨k26, hf⟩ := gk_ok hf
          obtain ⟨a27, q28, hf⟩ := bd_ok hf
          refine gf_X11_43 cx hB k26 q28 dX11_lineOf_50 ?_
          refine lv_iload hx hb dX11_lineOf_53 (lv_at hl 0 rfl) ?_
          obtain ⟨k29, hf⟩ := gk_ok hf
          obtain ⟨j30, hf⟩ := gd_ok hf
          refine hp_iald cx hB k29 j30 dX11_lineOf_55 ?_
          refine lv_goto (tgt := 81) hx hb dX11_lineOf_56 (by decide) ?_
          obtain ⟨rfl, rfl⟩ := rt_ok hf
          exact hp_iret cx hB hr hlk (Nat.le_of_ble_eq_true rfl) (Nat.le_of_ble_eq_true rfl) dX11_lineOf_81
      · replace hf := it_t c13 hf
        refine lv_aload_n hx hb dX11_lineOf_34 rfl (lv_at hl 1 rfl) ?_
        obtain ⟨k31, hf⟩ := gk_ok hf
        obtain ⟨a32, q33, hf⟩ := bd_ok hf
        refine gf_X11_40 cx hB k31 q33 dX11_lineOf_35 ?_
        refine lv_iload hx hb dX11_lineOf_38 (lv_at hl 0 rfl) ?_
        obtain ⟨k34, hf⟩ := gk_ok hf
        obtain ⟨j35, hf⟩ := gd_ok hf
        refine hp_iald cx hB k34 j35 dX11_lineOf_40 ?_
        refine lv_goto (tgt := 81) hx hb dX11_lineOf_41 (by decide) ?_
        obtain ⟨rfl, rfl⟩ := rt_ok hf
        exact hp_iret cx hB hr hlk (Nat.le_of_ble_eq_true rfl) (Nat.le_of_ble_eq_true rfl) dX11_lineOf_81
    · replace hf := it_t c11 hf
      refine lv_sipush (v := (-1000)) hx hb dX11_lineOf_18 (by decide) ?_
      obtain ⟨rfl, rfl⟩ := rt_ok hf
      exact hp_iret cx hB hr hlk (Nat.le_of_ble_eq_true rfl) (Nat.le_of_ble_eq_true rfl) dX11_lineOf_21
end
set_option maxHeartbeats 4000000 in
set_option maxRecDepth 100000 in
theorem cX11_lineOf (l : Launch) (D : va_G) (cA : Nat → ClassId) (t0 : Nat) (v1 : Int32) (v2 : Int32) (v3 : Int32) (h : Hp) (r : Int32) (h9 : Hp) (hf : fX11_lineOf t0 v1 v2 v3 h = some (r, h9)) : hp_M l yX11_lineOf prog_13_method_20_code 5 (Option.some FieldType.int) rmX11_lineOf D cA h [.ref t0, .int v1, .int v2, .int v3] (hp_Qi D cA h h9 r) := by
  refine Met.ofW (cc := prog_13_method_20_code) (maxL := 5) (ret := (Option.some FieldType.int)) (by decide) rfl ?_
  intro p e s m args below meth c s₁ B hml hv
  obtain ⟨rfl, hU⟩ := hv
  have hts := atoms_spec (ws := Cond.code yX11_lineOf prog_13_method_20_code 5 (Option.some FieldType.int) :: tbG) B.pre
  have hl := lv_entry ([.ref t0, .int v1, .int v2, .int v3]) (n := 5) (Nat.le_of_ble_eq_true rfl)
  rw [lg_entry_eq]
  generalize (lg_sl ([.ref t0, .int v1, .int v2, .int v3]) ++ List.replicate (5 - (lg_sl ([.ref t0, .int v1, .int v2, .int v3])).length) Slot.unset).toArray = ls at hl ⊢
  exact tX11_lineOf_0 ⟨B.exec, B.bytes, hml, findClass_of_methodNamed B.named, fun w hw => hts w (List.mem_cons_of_mem _ hw)⟩ B.returns B.notSynchronized t0 v1 v2 v3 h _ _ _ (hp_B.entry hU) hl hf
section
variable {p : Program} {l : Launch} {e : Env} {R : Room} {s : State} {m : MethodId} {args : Array Value} {below : List Frame} {meth : Method} {c : Code} {H : Heap} {locs : List Loc} {cells slots : Nat} {Q : State → Prop}
variable {cc : ByteArray} {pc nL : Nat} {ls : Array Slot} {rest : List Value} {D : va_G} {cA : Nat → ClassId} {A : Nat → Prop} {a : Nat} {h : Hp}
theorem gf_X11_163 (cx : CallFix p m c cc nL s args tbG RX11) (hB : hp_B D cA A s h H locs) (hka : h.1 a = 12) (hdg : decode cc pc = .ok (.getfield 163, 3)) (kk : W p l e R s m args below meth c H locs cells slots Q (F0 m (pc + 3) ls (.int (h.2.2.1 a 35) :: rest))) : W p l e R s m args below meth c H locs cells slots Q (F0 m pc ls (.ref a :: rest)) :=
  hp_getI cx hB (ci := 11) 35 rfl inX11 (by decide) rfl (by decide) rfl qw_767 hka hdg kk
end
abbrev yX11_isOpen : MethodName := ⟨"SpokenMenusModel", "isOpen", "(I)Z"⟩
theorem dX11_isOpen_0 : decode prog_13_method_21_code 0 = .ok (.aload_n 0, 1) := by decide +kernel
theorem dX11_isOpen_1 : decode prog_13_method_21_code 1 = .ok (.getfield 28, 3) := by decide +kernel
theorem dX11_isOpen_4 : decode prog_13_method_21_code 4 = .ok (.iload_n 1, 1) := by decide +kernel
theorem dX11_isOpen_5 : decode prog_13_method_21_code 5 = .ok (.iaload, 1) := by decide +kernel
theorem dX11_isOpen_6 : decode prog_13_method_21_code 6 = .ok (.aload_n 0, 1) := by decide +kernel
theorem dX11_isOpen_7 : decode prog_13_method_21_code 7 = .ok (.getfield 31, 3) := by decide +kernel
theorem dX11_isOpen_10 : decode prog_13_method_21_code 10 = .ok (.iload_n 1, 1) := by decide +kernel
theorem dX11_isOpen_11 : decode prog_13_method_21_code 11 = .ok (.iaload, 1) := by decide +kernel
theorem dX11_isOpen_12 : decode prog_13_method_21_code 12 = .ok (.if_icmp .eq 73, 3) := by decide +kernel
theorem dX11_isOpen_15 : decode prog_13_method_21_code 15 = .ok (.aload_n 0, 1) := by decide +kernel
theorem dX11_isOpen_16 : decode prog_13_method_21_code 16 = .ok (.getfield 28, 3) := by decide +kernel
theorem dX11_isOpen_19 : decode prog_13_method_21_code 19 = .ok (.iload_n 1, 1) := by decide +kernel
theorem dX11_isOpen_20 : decode prog_13_method_21_code 20 = .ok (.iaload, 1) := by decide +kernel
theorem dX11_isOpen_21 : decode prog_13_method_21_code 21 = .ok (.aload_n 0, 1) := by decide +kernel
theorem dX11_isOpen_22 : decode prog_13_method_21_code 22 = .ok (.getfield 31, 3) := by decide +kernel
theorem dX11_isOpen_25 : decode prog_13_method_21_code 25 = .ok (.iload_n 1, 1) := by decide +kernel
theorem dX11_isOpen_26 : decode prog_13_method_21_code 26 = .ok (.iaload, 1) := by decide +kernel
theorem dX11_isOpen_27 : decode prog_13_method_21_code 27 = .ok (.if_icmp .ge 32, 3) := by decide +kernel
theorem dX11_isOpen_30 : decode prog_13_method_21_code 30 = .ok (.aload_n 0, 1) := by decide +kernel
theorem dX11_isOpen_31 : decode prog_13_method_21_code 31 = .ok (.getfield 163, 3) := by decide +kernel
theorem dX11_isOpen_34 : decode prog_13_method_21_code 34 = .ok (.aload_n 0, 1) := by decide +kernel
theorem dX11_isOpen_35 : decode prog_13_method_21_code 35 = .ok (.getfield 28, 3) := by decide +kernel
theorem dX11_isOpen_38 : decode prog_13_method_21_code 38 = .ok (.iload_n 1, 1) := by decide +kernel
theorem dX11_isOpen_39 : decode prog_13_method_21_code 39 = .ok (.iaload, 1) := by decide +kernel
theorem dX11_isOpen_40 : decode prog_13_method_21_code 40 = .ok (.if_icmp .lt 49, 3) := by decide +kernel
theorem dX11_isOpen_43 : decode prog_13_method_21_code 43 = .ok (.aload_n 0, 1) := by decide +kernel
theorem dX11_isOpen_44 : decode prog_13_method_21_code 44 = .ok (.getfield 163, 3) := by decide +kernel
theorem dX11_isOpen_47 : decode prog_13_method_21_code 47 = .ok (.aload_n 0, 1) := by decide +kernel
theorem dX11_isOpen_48 : decode prog_13_method_21_code 48 = .ok (.getfield 31, 3) := by decide +kernel
theorem dX11_isOpen_51 : decode prog_13_method_21_code 51 = .ok (.iload_n 1, 1) := by decide +kernel
theorem dX11_isOpen_52 : decode prog_13_method_21_code 52 = .ok (.iaload, 1) := by decide +kernel
theorem dX11_isOpen_53 : decode prog_13_method_21_code 53 = .ok (.if_icmp .ge 36, 3) := by decide +kernel
theorem dX11_isOpen_56 : decode prog_13_method_21_code 56 = .ok (.goto 29, 3) := by decide +kernel
theorem dX11_isOpen_59 : decode prog_13_method_21_code 59 = .ok (.aload_n 0, 1) := by decide +kernel
theorem dX11_isOpen_60 : decode prog_13_method_21_code 60 = .ok (.getfield 163, 3) := by decide +kernel
theorem dX11_isOpen_63 : decode prog_13_method_21_code 63 = .ok (.aload_n 0, 1) := by decide +kernel
theorem dX11_isOpen_64 : decode prog_13_method_21_code 64 = .ok (.getfield 28, 3) := by decide +kernel
theorem dX11_isOpen_67 : decode prog_13_method_21_code 67 = .ok (.iload_n 1, 1) := by decide +kernel
theorem dX11_isOpen_68 : decode prog_13_method_21_code 68 = .ok (.iaload, 1) := by decide +kernel
theorem dX11_isOpen_69 : decode prog_13_method_21_code 69 = .ok (.if_icmp .ge 16, 3) := by decide +kernel
theorem dX11_isOpen_72 : decode prog_13_method_21_code 72 = .ok (.aload_n 0, 1) := by decide +kernel
theorem dX11_isOpen_73 : decode prog_13_method_21_code 73 = .ok (.getfield 163, 3) := by decide +kernel
theorem dX11_isOpen_76 : decode prog_13_method_21_code 76 = .ok (.aload_n 0, 1) := by decide +kernel
theorem dX11_isOpen_77 : decode prog_13_method_21_code 77 = .ok (.getfield 31, 3) := by decide +kernel
theorem dX11_isOpen_80 : decode prog_13_method_21_code 80 = .ok (.iload_n 1, 1) := by decide +kernel
theorem dX11_isOpen_81 : decode prog_13_method_21_code 81 = .ok (.iaload, 1) := by decide +kernel
theorem dX11_isOpen_82 : decode prog_13_method_21_code 82 = .ok (.if_icmp .ge 7, 3) := by decide +kernel
theorem dX11_isOpen_85 : decode prog_13_method_21_code 85 = .ok (.iconst 1, 1) := by decide +kernel
theorem dX11_isOpen_86 : decode prog_13_method_21_code 86 = .ok (.goto 4, 3) := by decide +kernel
theorem dX11_isOpen_89 : decode prog_13_method_21_code 89 = .ok (.iconst 0, 1) := by decide +kernel
theorem dX11_isOpen_90 : decode prog_13_method_21_code 90 = .ok (.ireturn, 1) := by decide +kernel
abbrev rmX11_isOpen : Room := { frames := 0, cells := 0, slots := 0, locals := 0 }
def fX11_isOpen  (t0 : Nat) (v1 : Int32) (h : Hp) : Option (Int32 × Hp) :=
  gk (h.1 t0) 12 <|
  bd (h.2.2.2.1 t0 7) fun a2 =>
  gk (h.1 a2) 13 <|
  gd (ix v1 (h.2.1 a2)) <|
  bd (h.2.2.2.1 t0 8) fun a6 =>
  gk (h.1 a6) 13 <|
  gd (ix v1 (h.2.1 a6)) <|
  if (h.2.2.1 a2 (Int32.toNatClampNeg v1)) = (h.2.2.1 a6 (Int32.toNatClampNeg v1)) then
  (some (1, h))
  else
  (gd (ix v1 (h.2.1 a2)) <|
  gd (ix v1 (h.2.1 a6)) <|
  if (h.2.2.1 a6 (Int32.toNatClampNeg v1)) ≤ (h.2.2.1 a2 (Int32.toNatClampNeg v1)) then
  (gd (ix v1 (h.2.1 a2)) <|
  if (h.2.2.1 a2 (Int32.toNatClampNeg v1)) ≤ (h.2.2.1 t0 35) then
  (some (1, h))
  else
  (gd (ix v1 (h.2.1 a6)) <|
  if (h.2.2.1 a6 (Int32.toNatClampNeg v1)) ≤ (h.2.2.1 t0 35) then
  (some (0, h))
  else
  (some (1, h))))
  else
  (gd (ix v1 (h.2.1 a2)) <|
  if (h.2.2.1 t0 35) < (h.2.2.1 a2 (Int32.toNatClampNeg v1)) then
  (some (0, h))
  else
  (gd (ix v1 (h.2.1 a6)) <|
  if (h.2.2.1 a6 (Int32.toNatClampNeg v1)) ≤ (h.2.2.1 t0 35) then
  (some (0, h))
  else
  (some (1, h)))))
section
variable {p : Program} {l : Launch} {e : Env} {s : State} {m : MethodId} {args : Array Value} {below : List Frame} {meth : Method} {c : Code} {D : va_G} {cA : Nat → ClassId} {h0 h9 : Hp}
set_option maxHeartbeats 4000000 in
set_option maxRecDepth 100000 in
theorem tX11_isOpen_0  {r : Int32} (cx : CallFix p m c prog_13_method_21_code 2 s args tbG RX11) (hr : meth.sig.returnType = (Option.some FieldType.boolean)) (hlk : meth.locks = false)  (t0 : Nat) (v1 : Int32) (h : Hp) (H : Heap) (locs : List Loc) (ls : Array Slot) (hB : hp_B D cA (hp_A h0) s h H locs) (hl : lv_has ls 2 [(0, .ref t0), (1, .int v1)]) (hf : fX11_isOpen  t0 v1 h = some (r, h9)) : W p l e rmX11_isOpen s m args below meth c H locs 0 0 (MQ below (hp_Qi D cA h0 h9 r) args s 0 0 (hp_A h0)) (F0 m 0 ls []) := by
  obtain ⟨hx, hb, -⟩ := id cx
  unfold fX11_isOpen at hf
  refine lv_aload_n hx hb dX11_isOpen_0 rfl (lv_at hl 0 rfl) ?_
  obtain ⟨k1, hf⟩ := gk_ok hf
  obtain ⟨a2, q3, hf⟩ := bd_ok hf
  refine gf_X11_28 cx hB k1 q3 dX11_isOpen_1 ?_
  refine lv_iload_n hx hb dX11_isOpen_4 rfl (lv_at hl 1 rfl) ?_
  obtain ⟨k4, hf⟩ := gk_ok hf
  obtain ⟨j5, hf⟩ := gd_ok hf
  refine hp_iald cx hB k4 j5 dX11_isOpen_5 ?_
  refine lv_aload_n hx hb dX11_isOpen_6 rfl (lv_at hl 0 rfl) ?_
  obtain ⟨a6, q7, hf⟩ := bd_ok hf
  refine gf_X11_31 cx hB k1 q7 dX11_isOpen_7 ?_
  refine lv_iload_n hx hb dX11_isOpen_10 rfl (lv_at hl 1 rfl) ?_
  obtain ⟨k8, hf⟩ := gk_ok hf
  obtain ⟨j9, hf⟩ := gd_ok hf
  refine hp_iald cx hB k8 j9 dX11_isOpen_11 ?_
  refine lv_icmp_eq (tgt := 85) hx hb dX11_isOpen_12 (by decide) (fun c10 => ?_) (fun c10 => ?_)
  · replace hf := it_t c10 hf
    refine lv_iconst (v := 1) hx hb dX11_isOpen_85 (by decide) ?_
    refine lv_goto (tgt := 90) hx hb dX11_isOpen_86 (by decide) ?_
    obtain ⟨rfl, rfl⟩ := rt_ok hf
    exact hp_zret cx hB hr hlk (Nat.le_of_ble_eq_true rfl) (Nat.le_of_ble_eq_true rfl) rfl dX11_isOpen_90
  · replace hf := it_f c10 hf
    refine lv_aload_n hx hb dX11_isOpen_15 rfl (lv_at hl 0 rfl) ?_
    refine gf_X11_28 cx hB k1 q3 dX11_isOpen_16 ?_
    refine lv_iload_n hx hb dX11_isOpen_19 rfl (lv_at hl 1 rfl) ?_
    obtain ⟨j11, hf⟩ := gd_ok hf
    refine hp_iald cx hB k4 j11 dX11_isOpen_20 ?_
    refine lv_aload_n hx hb dX11_isOpen_21 rfl (lv_at hl 0 rfl) ?_
    refine gf_X11_31 cx hB k1 q7 dX11_isOpen_22 ?_
    refine lv_iload_n hx hb dX11_isOpen_25 rfl (lv_at hl 1 rfl) ?_
    obtain ⟨j12, hf⟩ := gd_ok hf
    refine hp_iald cx hB k8 j12 dX11_isOpen_26 ?_
    refine lv_icmp_ge (tgt := 59) hx hb dX11_isOpen_27 (by decide) (fun c13 => ?_) (fun c13 => ?_)
    · replace hf := it_t c13 hf
      refine lv_aload_n hx hb dX11_isOpen_59 rfl (lv_at hl 0 rfl) ?_
      refine gf_X11_163 cx hB k1 dX11_isOpen_60 ?_
      refine lv_aload_n hx hb dX11_isOpen_63 rfl (lv_at hl 0 rfl) ?_
      refine gf_X11_28 cx hB k1 q3 dX11_isOpen_64 ?_
      refine lv_iload_n hx hb dX11_isOpen_67 rfl (lv_at hl 1 rfl) ?_
      obtain ⟨j14, hf⟩ := gd_ok hf
      refine hp_iald cx hB k4 j14 dX11_isOpen_68 ?_
      refine lv_icmp_ge (tgt := 85) hx hb dX11_isOpen_69 (by decide) (fun c15 => ?_) (fun c15 => ?_)
      · replace hf := it_t c15 hf
        refine lv_iconst (v := 1) hx hb dX11_isOpen_85 (by decide) ?_
        refine lv_goto (tgt := 90) hx hb dX11_isOpen_86 (by decide) ?_
        obtain ⟨rfl, rfl⟩ := rt_ok hf
        exact hp_zret cx hB hr hlk (Nat.le_of_ble_eq_true rfl) (Nat.le_of_ble_eq_true rfl) rfl dX11_isOpen_90
      · replace hf := it_f c15 hf
        refine lv_aload_n hx hb dX11_isOpen_72 rfl (lv_at hl 0 rfl) ?_
        refine gf_X11_163 cx hB k1 dX11_isOpen_73 ?_
        refine lv_aload_n hx hb dX11_isOpen_76 rfl (lv_at hl 0 rfl) ?_
        refine gf_X11_31 cx hB k1 q7 dX11_isOpen_77 ?_
        refine lv_iload_n hx hb dX11_isOpen_80 rfl (lv_at hl 1 rfl) ?_
        obtain ⟨j16, hf⟩ := gd_ok hf
        refine hp_iald cx hB k8 j16 dX11_isOpen_81 ?_
        refine lv_icmp_ge (tgt := 89) hx hb dX11_isOpen_82 (by decide) (fun c17 => ?_) (fun c17 => ?_)
        · replace hf := it_t c17 hf
          refine lv_iconst (v := 0) hx hb dX11_isOpen_89 (by decide) ?_
          obtain ⟨rfl, rfl⟩ := rt_ok hf
          exact hp_zret cx hB hr hlk (Nat.le_of_ble_eq_true rfl) (Nat.le_of_ble_eq_true rfl) rfl dX11_isOpen_90
        · replace hf := it_f c17 hf
          refine lv_iconst (v := 1) hx hb dX11_isOpen_85 (by decide) ?_
          refine lv_goto (tgt := 90) hx hb dX11_isOpen_86 (by decide) ?_
          obtain ⟨rfl, rfl⟩ := rt_ok hf
          exact hp_zret cx hB hr hlk (Nat.le_of_ble_eq_true rfl) (Nat.le_of_ble_eq_true rfl) rfl dX11_isOpen_90
    · replace hf := it_f c13 hf
      refine lv_aload_n hx hb dX11_isOpen_30 rfl (lv_at hl 0 rfl) ?_
      refine gf_X11_163 cx hB k1 dX11_isOpen_31 ?_
      refine lv_aload_n hx hb dX11_isOpen_34 rfl (lv_at hl 0 rfl) ?_
      refine gf_X11_28 cx hB k1 q3 dX11_isOpen_35 ?_
      refine lv_iload_n hx hb dX11_isOpen_38 rfl (lv_at hl 1 rfl) ?_
      obtain ⟨j18, hf⟩ := gd_ok hf
      refine hp_iald cx hB k4 j18 dX11_isOpen_39 ?_
      refine lv_icmp_lt (tgt := 89) hx hb dX11_isOpen_40 (by decide) (fun c19 => ?_) (fun c19 => ?_)
      · replace hf := it_t c19 hf
        refine lv_iconst (v := 0) hx hb dX11_isOpen_89 (by decide) ?_
        obtain ⟨rfl, rfl⟩ := rt_ok hf
        exact hp_zret cx hB hr hlk (Nat.le_of_ble_eq_true rfl) (Nat.le_of_ble_eq_true rfl) rfl dX11_isOpen_90
      · replace hf := it_f c19 hf
        refine lv_aload_n hx hb dX11_isOpen_43 rfl (lv_at hl 0 rfl) ?_
        refine gf_X11_163 cx hB k1 dX11_isOpen_44 ?_
        refine lv_aload_n hx hb dX11_isOpen_47 rfl (lv_at hl 0 rfl) ?_
        refine gf_X11_31 cx hB k1 q7 dX11_isOpen_48 ?_
        refine lv_iload_n hx hb dX11_isOpen_51 rfl (lv_at hl 1 rfl) ?_
        obtain ⟨j20, hf⟩ := gd_ok hf
        refine hp_iald cx hB k8 j20 dX11_isOpen_52 ?_
        refine lv_icmp_ge (tgt := 89) hx hb dX11_isOpen_53 (by decide) (fun c21 => ?_) (fun c21 => ?_)
        · replace hf := it_t c21 hf
          refine lv_iconst (v := 0) hx hb dX11_isOpen_89 (by decide) ?_
          obtain ⟨rfl, rfl⟩ := rt_ok hf
          exact hp_zret cx hB hr hlk (Nat.le_of_ble_eq_true rfl) (Nat.le_of_ble_eq_true rfl) rfl dX11_isOpen_90
        · replace hf := it_f c21 hf
          refine lv_goto (tgt := 85) hx hb dX11_isOpen_56 (by decide) ?_
          refine lv_iconst (v := 1) hx hb dX11_isOpen_85 (by decide) ?_
          refine lv_goto (tgt := 90) hx hb dX11_isOpen_86 (by decide) ?_
          obtain ⟨rfl, rfl⟩ := rt_ok hf
          exact hp_zret cx hB hr hlk (Nat.le_of_ble_eq_true rfl) (Nat.le_of_ble_eq_true rfl) rfl dX11_isOpen_90
end
set_option maxHeartbeats 4000000 in
set_option maxRecDepth 100000 in
theorem cX11_isOpen (l : Launch) (D : va_G) (cA : Nat → ClassId) (t0 : Nat) (v1 : Int32) (h : Hp) (r : Int32) (h9 : Hp) (hf : fX11_isOpen t0 v1 h = some (r, h9)) : hp_M l yX11_isOpen prog_13_method_21_code 2 (Option.some FieldType.boolean) rmX11_isOpen D cA h [.ref t0, .int v1] (hp_Qi D cA h h9 r) := by
  refine Met.ofW (cc := prog_13_method_21_code) (maxL := 2) (ret := (Option.some FieldType.boolean)) (by decide) rfl ?_
  intro p e s m args below meth c s₁ B hml hv
  obtain ⟨rfl, hU⟩ := hv
  have hts := atoms_spec (ws := Cond.code yX11_isOpen prog_13_method_21_code 2 (Option.some FieldType.boolean) :: tbG) B.pre
  have hl := lv_entry ([.ref t0, .int v1]) (n := 2) (Nat.le_of_ble_eq_true rfl)
  rw [lg_entry_eq]
  generalize (lg_sl ([.ref t0, .int v1]) ++ List.replicate (2 - (lg_sl ([.ref t0, .int v1])).length) Slot.unset).toArray = ls at hl ⊢
  exact tX11_isOpen_0 ⟨B.exec, B.bytes, hml, findClass_of_methodNamed B.named, fun w hw => hts w (List.mem_cons_of_mem _ hw)⟩ B.returns B.notSynchronized t0 v1 h _ _ _ (hp_B.entry hU) hl hf
section
variable {p : Program} {l : Launch} {e : Env} {R : Room} {s : State} {m : MethodId} {args : Array Value} {below : List Frame} {meth : Method} {c : Code} {H : Heap} {locs : List Loc} {cells slots : Nat} {Q : State → Prop}
variable {cc : ByteArray} {pc nL : Nat} {ls : Array Slot} {rest : List Value} {D : va_G} {cA : Nat → ClassId} {A : Nat → Prop} {a : Nat} {h : Hp}
theorem gf_X11_166 (cx : CallFix p m c cc nL s args tbG RX11) (hB : hp_B D cA A s h H locs) (hka : h.1 a = 12) (hdg : decode cc pc = .ok (.getfield 166, 3)) (kk : W p l e R s m args below meth c H locs cells slots Q (F0 m (pc + 3) ls (.int (h.2.2.1 a 33) :: rest))) : W p l e R s m args below meth c H locs cells slots Q (F0 m pc ls (.ref a :: rest)) :=
  hp_getI cx hB (ci := 11) 33 rfl inX11 (by decide) rfl (by decide) rfl qw_765 hka hdg kk
end
abbrev yX11_isRight : MethodName := ⟨"SpokenMenusModel", "isRight", "(I)Z"⟩
theorem dX11_isRight_0 : decode prog_13_method_22_code 0 = .ok (.aload_n 0, 1) := by decide +kernel
theorem dX11_isRight_1 : decode prog_13_method_22_code 1 = .ok (.getfield 166, 3) := by decide +kernel
theorem dX11_isRight_4 : decode prog_13_method_22_code 4 = .ok (.istore_n 2, 1) := by decide +kernel
theorem dX11_isRight_5 : decode prog_13_method_22_code 5 = .ok (.iconst 0, 1) := by decide +kernel
theorem dX11_isRight_6 : decode prog_13_method_22_code 6 = .ok (.istore_n 3, 1) := by decide +kernel
theorem dX11_isRight_7 : decode prog_13_method_22_code 7 = .ok (.iconst 0, 1) := by decide +kernel
theorem dX11_isRight_8 : decode prog_13_method_22_code 8 = .ok (.istore 4, 2) := by decide +kernel
theorem dX11_isRight_10 : decode prog_13_method_22_code 10 = .ok (.iload 4, 2) := by decide +kernel
theorem dX11_isRight_12 : decode prog_13_method_22_code 12 = .ok (.aload_n 0, 1) := by decide +kernel
theorem dX11_isRight_13 : decode prog_13_method_22_code 13 = .ok (.getfield 34, 3) := by decide +kernel
theorem dX11_isRight_16 : decode prog_13_method_22_code 16 = .ok (.iload_n 1, 1) := by decide +kernel
theorem dX11_isRight_17 : decode prog_13_method_22_code 17 = .ok (.iaload, 1) := by decide +kernel
theorem dX11_isRight_18 : decode prog_13_method_22_code 18 = .ok (.if_icmp .ge 34, 3) := by decide +kernel
theorem dX11_isRight_21 : decode prog_13_method_22_code 21 = .ok (.iload_n 3, 1) := by decide +kernel
theorem dX11_isRight_22 : decode prog_13_method_22_code 22 = .ok (.iload_n 2, 1) := by decide +kernel
theorem dX11_isRight_23 : decode prog_13_method_22_code 23 = .ok (.bipush 10, 2) := by decide +kernel
theorem dX11_isRight_25 : decode prog_13_method_22_code 25 = .ok (.irem, 1) := by decide +kernel
theorem dX11_isRight_26 : decode prog_13_method_22_code 26 = .ok (.iload 4, 2) := by decide +kernel
theorem dX11_isRight_28 : decode prog_13_method_22_code 28 = .ok (.iconst 2, 1) := by decide +kernel
theorem dX11_isRight_29 : decode prog_13_method_22_code 29 = .ok (.irem, 1) := by decide +kernel
theorem dX11_isRight_30 : decode prog_13_method_22_code 30 = .ok (.ifCond .ne 7, 3) := by decide +kernel
theorem dX11_isRight_33 : decode prog_13_method_22_code 33 = .ok (.iconst 1, 1) := by decide +kernel
theorem dX11_isRight_34 : decode prog_13_method_22_code 34 = .ok (.goto 4, 3) := by decide +kernel
theorem dX11_isRight_37 : decode prog_13_method_22_code 37 = .ok (.iconst 3, 1) := by decide +kernel
theorem dX11_isRight_38 : decode prog_13_method_22_code 38 = .ok (.imul, 1) := by decide +kernel
theorem dX11_isRight_39 : decode prog_13_method_22_code 39 = .ok (.iadd, 1) := by decide +kernel
theorem dX11_isRight_40 : decode prog_13_method_22_code 40 = .ok (.istore_n 3, 1) := by decide +kernel
theorem dX11_isRight_41 : decode prog_13_method_22_code 41 = .ok (.iload_n 2, 1) := by decide +kernel
theorem dX11_isRight_42 : decode prog_13_method_22_code 42 = .ok (.bipush 10, 2) := by decide +kernel
theorem dX11_isRight_44 : decode prog_13_method_22_code 44 = .ok (.idiv, 1) := by decide +kernel
theorem dX11_isRight_45 : decode prog_13_method_22_code 45 = .ok (.istore_n 2, 1) := by decide +kernel
theorem dX11_isRight_46 : decode prog_13_method_22_code 46 = .ok (.iinc 4 1, 3) := by decide +kernel
theorem dX11_isRight_49 : decode prog_13_method_22_code 49 = .ok (.goto (-39), 3) := by decide +kernel
theorem dX11_isRight_52 : decode prog_13_method_22_code 52 = .ok (.iload_n 2, 1) := by decide +kernel
theorem dX11_isRight_53 : decode prog_13_method_22_code 53 = .ok (.ifCond .ne 14, 3) := by decide +kernel
theorem dX11_isRight_56 : decode prog_13_method_22_code 56 = .ok (.iload_n 3, 1) := by decide +kernel
theorem dX11_isRight_57 : decode prog_13_method_22_code 57 = .ok (.bipush 10, 2) := by decide +kernel
theorem dX11_isRight_59 : decode prog_13_method_22_code 59 = .ok (.irem, 1) := by decide +kernel
theorem dX11_isRight_60 : decode prog_13_method_22_code 60 = .ok (.ifCond .ne 7, 3) := by decide +kernel
theorem dX11_isRight_63 : decode prog_13_method_22_code 63 = .ok (.iconst 1, 1) := by decide +kernel
theorem dX11_isRight_64 : decode prog_13_method_22_code 64 = .ok (.goto 4, 3) := by decide +kernel
theorem dX11_isRight_67 : decode prog_13_method_22_code 67 = .ok (.iconst 0, 1) := by decide +kernel
theorem dX11_isRight_68 : decode prog_13_method_22_code 68 = .ok (.ireturn, 1) := by decide +kernel
abbrev rmX11_isRight : Room := { frames := 0, cells := 0, slots := 0, locals := 0 }
def bX11_isRight_10  (rc : Nat → Int32 → Int32 → Int32 → Int32 → Hp → Option (Int32 × Hp)) (t0 : Nat) (v1 : Int32) (v2 : Int32) (v3 : Int32) (v4 : Int32) (h : Hp) : Option (Int32 × Hp) :=
  gk (h.1 t0) 12 <|
  bd (h.2.2.2.1 t0 9) fun a2 =>
  gk (h.1 a2) 13 <|
  gd (ix v1 (h.2.1 a2)) <|
  if (h.2.2.1 a2 (Int32.toNatClampNeg v1)) ≤ v4 then
  (if v2 = 0 then
  (if (v3 - v3 / 10 * 10) = 0 then
  (some (1, h))
  else
  (some (0, h)))
  else
  (some (0, h)))
  else
  (if (v4 - v4 / 2 * 2) = 0 then
  (nm (v3 + ((v2 - v2 / 10 * 10) * 1)) fun x13 =>
  nm (v2 / 10) fun x14 =>
  nm (v4 + 1) fun x15 =>
  rc t0 v1 x14 x13 x15 h)
  else
  (nm (v3 + ((v2 - v2 / 10 * 10) * 3)) fun x10 =>
  nm (v2 / 10) fun x11 =>
  nm (v4 + 1) fun x12 =>
  rc t0 v1 x11 x10 x12 h))
def fX11_isRight_10  : Nat → Int32 → Int32 → Int32 → Int32 → Hp → Option (Int32 × Hp) := fx (bX11_isRight_10 ) (fun _ _ _ _ _ _ => none) NF
def fX11_isRight  (t0 : Nat) (v1 : Int32) (h : Hp) : Option (Int32 × Hp) :=
  gk (h.1 t0) 12 <|
  nm (h.2.2.1 t0 33) fun x2 =>
  fX11_isRight_10  t0 v1 x2 0 0 h
section
variable {p : Program} {l : Launch} {e : Env} {s : State} {m : MethodId} {args : Array Value} {below : List Frame} {meth : Method} {c : Code} {D : va_G} {cA : Nat → ClassId} {h0 h9 : Hp}
set_option maxHeartbeats 4000000 in
set_option maxRecDepth 100000 in
theorem tX11_isRight_10  {r : Int32} (cx : CallFix p m c prog_13_method_22_code 5 s args tbG RX11) (hr : meth.sig.returnType = (Option.some FieldType.boolean)) (hlk : meth.locks = false)  (n : Nat) : ∀ (t0 : Nat) (v1 : Int32) (v2 : Int32) (v3 : Int32) (v4 : Int32) (h : Hp) (H : Heap) (locs : List Loc) (ls : Array Slot), hp_B D cA (hp_A h0) s h H locs → lv_has ls 5 [(0, .ref t0), (1, .int v1), (2, .int v2), (3, .int v3), (4, .int v4)] → fx (bX11_isRight_10 ) (fun _ _ _ _ _ _ => none) n t0 v1 v2 v3 v4 h = some (r, h9) → W p l e rmX11_isRight s m args below meth c H locs 0 0 (MQ below (hp_Qi D cA h0 h9 r) args s 0 0 (hp_A h0)) (F0 m 10 ls []) := by
  obtain ⟨hx, hb, -⟩ := id cx
  induction n with
  | zero => intro t0 v1 v2 v3 v4 h H locs ls hB hl hf; cases hf
  | succ n ih =>
    intro t0 v1 v2 v3 v4 h H locs ls hB hl hf
    replace hf : bX11_isRight_10  (fx (bX11_isRight_10 ) (fun _ _ _ _ _ _ => none) n) t0 v1 v2 v3 v4 h = some (r, h9) := hf
    unfold bX11_isRight_10 at hf
    refine lv_iload hx hb dX11_isRight_10 (lv_at hl 4 rfl) ?_
    refine lv_aload_n hx hb dX11_isRight_12 rfl (lv_at hl 0 rfl) ?_
    obtain ⟨k1, hf⟩ := gk_ok hf
    obtain ⟨a2, q3, hf⟩ := bd_ok hf
    refine gf_X11_34 cx hB k1 q3 dX11_isRight_13 ?_
    refine lv_iload_n hx hb dX11_isRight_16 rfl (lv_at hl 1 rfl) ?_
    obtain ⟨k4, hf⟩ := gk_ok hf
    obtain ⟨j5, hf⟩ := gd_ok hf
    refine hp_iald cx hB k4 j5 dX11_isRight_17 ?_
    refine lv_icmp_ge (tgt := 52) hx hb dX11_isRight_18 (by decide) (fun c6 => ?_) (fun c6 => ?_)
    · replace hf := it_t c6 hf
      refine lv_iload_n hx hb dX11_isRight_52 rfl (lv_at hl 2 rfl) ?_
      refine lv_if_ne (tgt := 67) hx hb dX11_isRight_53 (by decide) (fun c7 => ?_) (fun c7 => ?_)
      · replace hf := it_f c7 hf
        refine lv_iconst (v := 0) hx hb dX11_isRight_67 (by decide) ?_
        obtain ⟨rfl, rfl⟩ := rt_ok hf
        exact hp_zret cx hB hr hlk (Nat.le_of_ble_eq_true rfl) (Nat.le_of_ble_eq_true rfl) rfl dX11_isRight_68
      · replace hf := it_t c7 hf
        refine lv_iload_n hx hb dX11_isRight_56 rfl (lv_at hl 3 rfl) ?_
        refine lv_bipush (v := 10) hx hb dX11_isRight_57 (by decide) ?_
        refine lv_irem hx hb dX11_isRight_59 (by decide) ?_
        refine lv_if_ne (tgt := 67) hx hb dX11_isRight_60 (by decide) (fun c8 => ?_) (fun c8 => ?_)
        · replace hf := it_f c8 hf
          refine lv_iconst (v := 0) hx hb dX11_isRight_67 (by decide) ?_
          obtain ⟨rfl, rfl⟩ := rt_ok hf
          exact hp_zret cx hB hr hlk (Nat.le_of_ble_eq_true rfl) (Nat.le_of_ble_eq_true rfl) rfl dX11_isRight_68
        · replace hf := it_t c8 hf
          refine lv_iconst (v := 1) hx hb dX11_isRight_63 (by decide) ?_
          refine lv_goto (tgt := 68) hx hb dX11_isRight_64 (by decide) ?_
          obtain ⟨rfl, rfl⟩ := rt_ok hf
          exact hp_zret cx hB hr hlk (Nat.le_of_ble_eq_true rfl) (Nat.le_of_ble_eq_true rfl) rfl dX11_isRight_68
    · replace hf := it_f c6 hf
      refine lv_iload_n hx hb dX11_isRight_21 rfl (lv_at hl 3 rfl) ?_
      refine lv_iload_n hx hb dX11_isRight_22 rfl (lv_at hl 2 rfl) ?_
      refine lv_bipush (v := 10) hx hb dX11_isRight_23 (by decide) ?_
      refine lv_irem hx hb dX11_isRight_25 (by decide) ?_
      refine lv_iload hx hb dX11_isRight_26 (lv_at hl 4 rfl) ?_
      refine lv_iconst (v := 2) hx hb dX11_isRight_28 (by decide) ?_
      refine lv_irem hx hb dX11_isRight_29 (by decide) ?_
      refine lv_if_ne (tgt := 37) hx hb dX11_isRight_30 (by decide) (fun c9 => ?_) (fun c9 => ?_)
      · replace hf := it_f c9 hf
        refine lv_iconst (v := 3) hx hb dX11_isRight_37 (by decide) ?_
        refine lv_imul hx hb dX11_isRight_38 ?_
        refine lv_iadd hx hb dX11_isRight_39 ?_
        obtain ⟨x10, ex10, hf⟩ := nm_ok hf
        refine lv_ren ex10 ?_
        refine lv_istore_n (lv' := [(3, .int x10), (0, .ref t0), (1, .int v1), (2, .int v2), (4, .int v4)]) hx hb dX11_isRight_40 rfl hl (by decide) rfl (fun ls hl => ?_)
        refine lv_iload_n hx hb dX11_isRight_41 rfl (lv_at hl 3 rfl) ?_
        refine lv_bipush (v := 10) hx hb dX11_isRight_42 (by decide) ?_
        refine lv_idiv hx hb dX11_isRight_44 (by decide) ?_
        obtain ⟨x11, ex11, hf⟩ := nm_ok hf
        refine lv_ren ex11 ?_
        refine lv_istore_n (lv' := [(2, .int x11), (3, .int x10), (0, .ref t0), (1, .int v1), (4, .int v4)]) hx hb dX11_isRight_45 rfl hl (by decide) rfl (fun ls hl => ?_)
        obtain ⟨x12, ex12, hf⟩ := nm_ok hf
        refine lv_iinc (v := x12) (lv' := [(4, .int x12), (2, .int x11), (3, .int x10), (0, .ref t0), (1, .int v1)]) hx hb dX11_isRight_46 hl (k := 4) rfl (by rw [ex12]; rfl) (by decide) rfl (fun ls hl => ?_)
        refine lv_goto (tgt := 10) hx hb dX11_isRight_49 (by decide) ?_
        exact ih t0 v1 x11 x10 x12 h _ _ _ hB (lv_sub hl [3, 4, 1, 2, 0] rfl) hf
      · replace hf := it_t c9 hf
        refine lv_iconst (v := 1) hx hb dX11_isRight_33 (by decide) ?_
        refine lv_goto (tgt := 38) hx hb dX11_isRight_34 (by decide) ?_
        refine lv_imul hx hb dX11_isRight_38 ?_
        refine lv_iadd hx hb dX11_isRight_39 ?_
        obtain ⟨x13, ex13, hf⟩ := nm_ok hf
        refine lv_ren ex13 ?_
        refine lv_istore_n (lv' := [(3, .int x13), (0, .ref t0), (1, .int v1), (2, .int v2), (4, .int v4)]) hx hb dX11_isRight_40 rfl hl (by decide) rfl (fun ls hl => ?_)
        refine lv_iload_n hx hb dX11_isRight_41 rfl (lv_at hl 3 rfl) ?_
        refine lv_bipush (v := 10) hx hb dX11_isRight_42 (by decide) ?_
        refine lv_idiv hx hb dX11_isRight_44 (by decide) ?_
        obtain ⟨x14, ex14, hf⟩ := nm_ok hf
        refine lv_ren ex14 ?_
        refine lv_istore_n (lv' := [(2, .int x14), (3, .int x13), (0, .ref t0), (1, .int v1), (4, .int v4)]) hx hb dX11_isRight_45 rfl hl (by decide) rfl (fun ls hl => ?_)
        obtain ⟨x15, ex15, hf⟩ := nm_ok hf
        refine lv_iinc (v := x15) (lv' := [(4, .int x15), (2, .int x14), (3, .int x13), (0, .ref t0), (1, .int v1)]) hx hb dX11_isRight_46 hl (k := 4) rfl (by rw [ex15]; rfl) (by decide) rfl (fun ls hl => ?_)
        refine lv_goto (tgt := 10) hx hb dX11_isRight_49 (by decide) ?_
        exact ih t0 v1 x14 x13 x15 h _ _ _ hB (lv_sub hl [3, 4, 1, 2, 0] rfl) hf
set_option maxHeartbeats 4000000 in
set_option maxRecDepth 100000 in
theorem tX11_isRight_0  {r : Int32} (cx : CallFix p m c prog_13_method_22_code 5 s args tbG RX11) (hr : meth.sig.returnType = (Option.some FieldType.boolean)) (hlk : meth.locks = false)  (t0 : Nat) (v1 : Int32) (h : Hp) (H : Heap) (locs : List Loc) (ls : Array Slot) (hB : hp_B D cA (hp_A h0) s h H locs) (hl : lv_has ls 5 [(0, .ref t0), (1, .int v1)]) (hf : fX11_isRight  t0 v1 h = some (r, h9)) : W p l e rmX11_isRight s m args below meth c H locs 0 0 (MQ below (hp_Qi D cA h0 h9 r) args s 0 0 (hp_A h0)) (F0 m 0 ls []) := by
  obtain ⟨hx, hb, -⟩ := id cx
  unfold fX11_isRight at hf
  refine lv_aload_n hx hb dX11_isRight_0 rfl (lv_at hl 0 rfl) ?_
  obtain ⟨k1, hf⟩ := gk_ok hf
  refine gf_X11_166 cx hB k1 dX11_isRight_1 ?_
  obtain ⟨x2, ex2, hf⟩ := nm_ok hf
  refine lv_ren ex2 ?_
  refine lv_istore_n (lv' := [(2, .int x2), (0, .ref t0), (1, .int v1)]) hx hb dX11_isRight_4 rfl hl (by decide) rfl (fun ls hl => ?_)
  refine lv_iconst (v := 0) hx hb dX11_isRight_5 (by decide) ?_
  refine lv_istore_n (lv' := [(3, .int 0), (2, .int x2), (0, .ref t0), (1, .int v1)]) hx hb dX11_isRight_6 rfl hl (by decide) rfl (fun ls hl => ?_)
  refine lv_iconst (v := 0) hx hb dX11_isRight_7 (by decide) ?_
  refine lv_istore (lv' := [(4, .int 0), (3, .int 0), (2, .int x2), (0, .ref t0), (1, .int v1)]) hx hb dX11_isRight_8 hl (by decide) rfl (fun ls hl => ?_)
  exact tX11_isRight_10 cx hr hlk  NF t0 v1 x2 0 0 h _ _ _ hB (lv_sub hl [3, 4, 2, 1, 0] rfl) hf
end
set_option maxHeartbeats 4000000 in
set_option maxRecDepth 100000 in
theorem cX11_isRight (l : Launch) (D : va_G) (cA : Nat → ClassId) (t0 : Nat) (v1 : Int32) (h : Hp) (r : Int32) (h9 : Hp) (hf : fX11_isRight t0 v1 h = some (r, h9)) : hp_M l yX11_isRight prog_13_method_22_code 5 (Option.some FieldType.boolean) rmX11_isRight D cA h [.ref t0, .int v1] (hp_Qi D cA h h9 r) := by
  refine Met.ofW (cc := prog_13_method_22_code) (maxL := 5) (ret := (Option.some FieldType.boolean)) (by decide) rfl ?_
  intro p e s m args below meth c s₁ B hml hv
  obtain ⟨rfl, hU⟩ := hv
  have hts := atoms_spec (ws := Cond.code yX11_isRight prog_13_method_22_code 5 (Option.some FieldType.boolean) :: tbG) B.pre
  have hl := lv_entry ([.ref t0, .int v1]) (n := 5) (Nat.le_of_ble_eq_true rfl)
  rw [lg_entry_eq]
  generalize (lg_sl ([.ref t0, .int v1]) ++ List.replicate (5 - (lg_sl ([.ref t0, .int v1])).length) Slot.unset).toArray = ls at hl ⊢
  exact tX11_isRight_0 ⟨B.exec, B.bytes, hml, findClass_of_methodNamed B.named, fun w hw => hts w (List.mem_cons_of_mem _ hw)⟩ B.returns B.notSynchronized t0 v1 h _ _ _ (hp_B.entry hU) hl hf
section
variable {p : Program} {l : Launch} {e : Env} {R : Room} {s : State} {m : MethodId} {args : Array Value} {below : List Frame} {meth : Method} {c : Code} {H : Heap} {locs : List Loc} {cells slots : Nat} {Q : State → Prop}
variable {cc : ByteArray} {pc nL : Nat} {ls : Array Slot} {rest : List Value} {D : va_G} {cA : Nat → ClassId} {A : Nat → Prop} {a : Nat} {h : Hp}
theorem gf_X11_169 (cx : CallFix p m c cc nL s args tbG RX11) (hB : hp_B D cA A s h H locs) (hka : h.1 a = 12) (hdg : decode cc pc = .ok (.getfield 169, 3)) (kk : W p l e R s m args below meth c H locs cells slots Q (F0 m (pc + 3) ls (.int (h.2.2.1 a 32) :: rest))) : W p l e R s m args below meth c H locs cells slots Q (F0 m pc ls (.ref a :: rest)) :=
  hp_getI cx hB (ci := 11) 32 rfl inX11 (by decide) rfl (by decide) rfl qw_764 hka hdg kk
end
abbrev yX11_isServed : MethodName := ⟨"SpokenMenusModel", "isServed", "(I)Z"⟩
theorem dX11_isServed_0 : decode prog_13_method_23_code 0 = .ok (.aload_n 0, 1) := by decide +kernel
theorem dX11_isServed_1 : decode prog_13_method_23_code 1 = .ok (.getfield 25, 3) := by decide +kernel
theorem dX11_isServed_4 : decode prog_13_method_23_code 4 = .ok (.iload_n 1, 1) := by decide +kernel
theorem dX11_isServed_5 : decode prog_13_method_23_code 5 = .ok (.iaload, 1) := by decide +kernel
theorem dX11_isServed_6 : decode prog_13_method_23_code 6 = .ok (.aload_n 0, 1) := by decide +kernel
theorem dX11_isServed_7 : decode prog_13_method_23_code 7 = .ok (.getfield 169, 3) := by decide +kernel
theorem dX11_isServed_10 : decode prog_13_method_23_code 10 = .ok (.ishr, 1) := by decide +kernel
theorem dX11_isServed_11 : decode prog_13_method_23_code 11 = .ok (.iconst 1, 1) := by decide +kernel
theorem dX11_isServed_12 : decode prog_13_method_23_code 12 = .ok (.iand, 1) := by decide +kernel
theorem dX11_isServed_13 : decode prog_13_method_23_code 13 = .ok (.iconst 1, 1) := by decide +kernel
theorem dX11_isServed_14 : decode prog_13_method_23_code 14 = .ok (.if_icmp .ne 7, 3) := by decide +kernel
theorem dX11_isServed_17 : decode prog_13_method_23_code 17 = .ok (.iconst 1, 1) := by decide +kernel
theorem dX11_isServed_18 : decode prog_13_method_23_code 18 = .ok (.goto 4, 3) := by decide +kernel
theorem dX11_isServed_21 : decode prog_13_method_23_code 21 = .ok (.iconst 0, 1) := by decide +kernel
theorem dX11_isServed_22 : decode prog_13_method_23_code 22 = .ok (.ireturn, 1) := by decide +kernel
abbrev rmX11_isServed : Room := { frames := 0, cells := 0, slots := 0, locals := 0 }
def fX11_isServed  (t0 : Nat) (v1 : Int32) (h : Hp) : Option (Int32 × Hp) :=
  gk (h.1 t0) 12 <|
  bd (h.2.2.2.1 t0 6) fun a2 =>
  gk (h.1 a2) 13 <|
  gd (ix v1 (h.2.1 a2)) <|
  if (((h.2.2.1 a2 (Int32.toNatClampNeg v1)) >>> ((h.2.2.1 t0 32) &&& 31)) &&& 1) = 1 then
  (some (1, h))
  else
  (some (0, h))
section
variable {p : Program} {l : Launch} {e : Env} {s : State} {m : MethodId} {args : Array Value} {below : List Frame} {meth : Method} {c : Code} {D : va_G} {cA : Nat → ClassId} {h0 h9 : Hp}
set_option maxHeartbeats 4000000 in
set_option maxRecDepth 100000 in
theorem tX11_isServed_0  {r : Int32} (cx : CallFix p m c prog_13_method_23_code 2 s args tbG RX11) (hr : meth.sig.returnType = (Option.some FieldType.boolean)) (hlk : meth.locks = false)  (t0 : Nat) (v1 : Int32) (h : Hp) (H : Heap) (locs : List Loc) (ls : Array Slot) (hB : hp_B D cA (hp_A h0) s h H locs) (hl : lv_has ls 2 [(0, .ref t0), (1, .int v1)]) (hf : fX11_isServed  t0 v1 h = some (r, h9)) : W p l e rmX11_isServed s m args below meth c H locs 0 0 (MQ below (hp_Qi D cA h0 h9 r) args s 0 0 (hp_A h0)) (F0 m 0 ls []) := by
  obtain ⟨hx, hb, -⟩ := id cx
  unfold fX11_isServed at hf
  refine lv_aload_n hx hb dX11_isServed_0 rfl (lv_at hl 0 rfl) ?_
  obtain ⟨k1, hf⟩ := gk_ok hf
  obtain ⟨a2, q3, hf⟩ := bd_ok hf
  refine gf_X11_25 cx hB k1 q3 dX11_isServed_1 ?_
  refine lv_iload_n hx hb dX11_isServed_4 rfl (lv_at hl 1 rfl) ?_
  obtain ⟨k4, hf⟩ := gk_ok hf
  obtain ⟨j5, hf⟩ := gd_ok hf
  refine hp_iald cx hB k4 j5 dX11_isServed_5 ?_
  refine lv_aload_n hx hb dX11_isServed_6 rfl (lv_at hl 0 rfl) ?_
  refine gf_X11_169 cx hB k1 dX11_isServed_7 ?_
  refine lv_ishr hx hb dX11_isServed_10 ?_
  refine lv_iconst (v := 1) hx hb dX11_isServed_11 (by decide) ?_
  refine lv_iand hx hb dX11_isServed_12 ?_
  refine lv_iconst (v := 1) hx hb dX11_isServed_13 (by decide) ?_
  refine lv_icmp_ne (tgt := 21) hx hb dX11_isServed_14 (by decide) (fun c6 => ?_) (fun c6 => ?_)
  · replace hf := it_f c6 hf
    refine lv_iconst (v := 0) hx hb dX11_isServed_21 (by decide) ?_
    obtain ⟨rfl, rfl⟩ := rt_ok hf
    exact hp_zret cx hB hr hlk (Nat.le_of_ble_eq_true rfl) (Nat.le_of_ble_eq_true rfl) rfl dX11_isServed_22
  · replace hf := it_t c6 hf
    refine lv_iconst (v := 1) hx hb dX11_isServed_17 (by decide) ?_
    refine lv_goto (tgt := 22) hx hb dX11_isServed_18 (by decide) ?_
    obtain ⟨rfl, rfl⟩ := rt_ok hf
    exact hp_zret cx hB hr hlk (Nat.le_of_ble_eq_true rfl) (Nat.le_of_ble_eq_true rfl) rfl dX11_isServed_22
end
set_option maxHeartbeats 4000000 in
set_option maxRecDepth 100000 in
theorem cX11_isServed (l : Launch) (D : va_G) (cA : Nat → ClassId) (t0 : Nat) (v1 : Int32) (h : Hp) (r : Int32) (h9 : Hp) (hf : fX11_isServed t0 v1 h = some (r, h9)) : hp_M l yX11_isServed prog_13_method_23_code 2 (Option.some FieldType.boolean) rmX11_isServed D cA h [.ref t0, .int v1] (hp_Qi D cA h h9 r) := by
  refine Met.ofW (cc := prog_13_method_23_code) (maxL := 2) (ret := (Option.some FieldType.boolean)) (by decide) rfl ?_
  intro p e s m args below meth c s₁ B hml hv
  obtain ⟨rfl, hU⟩ := hv
  have hts := atoms_spec (ws := Cond.code yX11_isServed prog_13_method_23_code 2 (Option.some FieldType.boolean) :: tbG) B.pre
  have hl := lv_entry ([.ref t0, .int v1]) (n := 2) (Nat.le_of_ble_eq_true rfl)
  rw [lg_entry_eq]
  generalize (lg_sl ([.ref t0, .int v1]) ++ List.replicate (2 - (lg_sl ([.ref t0, .int v1])).length) Slot.unset).toArray = ls at hl ⊢
  exact tX11_isServed_0 ⟨B.exec, B.bytes, hml, findClass_of_methodNamed B.named, fun w hw => hts w (List.mem_cons_of_mem _ hw)⟩ B.returns B.notSynchronized t0 v1 h _ _ _ (hp_B.entry hU) hl hf
abbrev yX11_heard : MethodName := ⟨"SpokenMenusModel", "heard", "(I)I"⟩
theorem dX11_heard_0 : decode prog_13_method_24_code 0 = .ok (.aload_n 0, 1) := by decide +kernel
theorem dX11_heard_1 : decode prog_13_method_24_code 1 = .ok (.getfield 13, 3) := by decide +kernel
theorem dX11_heard_4 : decode prog_13_method_24_code 4 = .ok (.iload_n 1, 1) := by decide +kernel
theorem dX11_heard_5 : decode prog_13_method_24_code 5 = .ok (.iaload, 1) := by decide +kernel
theorem dX11_heard_6 : decode prog_13_method_24_code 6 = .ok (.istore_n 2, 1) := by decide +kernel
theorem dX11_heard_7 : decode prog_13_method_24_code 7 = .ok (.iconst 0, 1) := by decide +kernel
theorem dX11_heard_8 : decode prog_13_method_24_code 8 = .ok (.istore_n 3, 1) := by decide +kernel
theorem dX11_heard_9 : decode prog_13_method_24_code 9 = .ok (.iload_n 3, 1) := by decide +kernel
theorem dX11_heard_10 : decode prog_13_method_24_code 10 = .ok (.aload_n 0, 1) := by decide +kernel
theorem dX11_heard_11 : decode prog_13_method_24_code 11 = .ok (.getfield 37, 3) := by decide +kernel
theorem dX11_heard_14 : decode prog_13_method_24_code 14 = .ok (.iload_n 1, 1) := by decide +kernel
theorem dX11_heard_15 : decode prog_13_method_24_code 15 = .ok (.iaload, 1) := by decide +kernel
theorem dX11_heard_16 : decode prog_13_method_24_code 16 = .ok (.if_icmp .ge 23, 3) := by decide +kernel
theorem dX11_heard_19 : decode prog_13_method_24_code 19 = .ok (.iload_n 2, 1) := by decide +kernel
theorem dX11_heard_20 : decode prog_13_method_24_code 20 = .ok (.aload_n 0, 1) := by decide +kernel
theorem dX11_heard_21 : decode prog_13_method_24_code 21 = .ok (.getfield 40, 3) := by decide +kernel
theorem dX11_heard_24 : decode prog_13_method_24_code 24 = .ok (.bipush 6, 2) := by decide +kernel
theorem dX11_heard_26 : decode prog_13_method_24_code 26 = .ok (.iload_n 1, 1) := by decide +kernel
theorem dX11_heard_27 : decode prog_13_method_24_code 27 = .ok (.imul, 1) := by decide +kernel
theorem dX11_heard_28 : decode prog_13_method_24_code 28 = .ok (.iload_n 3, 1) := by decide +kernel
theorem dX11_heard_29 : decode prog_13_method_24_code 29 = .ok (.iadd, 1) := by decide +kernel
theorem dX11_heard_30 : decode prog_13_method_24_code 30 = .ok (.iaload, 1) := by decide +kernel
theorem dX11_heard_31 : decode prog_13_method_24_code 31 = .ok (.iadd, 1) := by decide +kernel
theorem dX11_heard_32 : decode prog_13_method_24_code 32 = .ok (.istore_n 2, 1) := by decide +kernel
theorem dX11_heard_33 : decode prog_13_method_24_code 33 = .ok (.iinc 3 1, 3) := by decide +kernel
theorem dX11_heard_36 : decode prog_13_method_24_code 36 = .ok (.goto (-27), 3) := by decide +kernel
theorem dX11_heard_39 : decode prog_13_method_24_code 39 = .ok (.iload_n 2, 1) := by decide +kernel
theorem dX11_heard_40 : decode prog_13_method_24_code 40 = .ok (.aload_n 0, 1) := by decide +kernel
theorem dX11_heard_41 : decode prog_13_method_24_code 41 = .ok (.getfield 16, 3) := by decide +kernel
theorem dX11_heard_44 : decode prog_13_method_24_code 44 = .ok (.iload_n 1, 1) := by decide +kernel
theorem dX11_heard_45 : decode prog_13_method_24_code 45 = .ok (.iaload, 1) := by decide +kernel
theorem dX11_heard_46 : decode prog_13_method_24_code 46 = .ok (.imul, 1) := by decide +kernel
theorem dX11_heard_47 : decode prog_13_method_24_code 47 = .ok (.ireturn, 1) := by decide +kernel
abbrev rmX11_heard : Room := { frames := 0, cells := 0, slots := 0, locals := 0 }
def bX11_heard_9  (rc : Nat → Int32 → Int32 → Int32 → Hp → Option (Int32 × Hp)) (t0 : Nat) (v1 : Int32) (v2 : Int32) (v3 : Int32) (h : Hp) : Option (Int32 × Hp) :=
  gk (h.1 t0) 12 <|
  bd (h.2.2.2.1 t0 10) fun a2 =>
  gk (h.1 a2) 13 <|
  gd (ix v1 (h.2.1 a2)) <|
  if (h.2.2.1 a2 (Int32.toNatClampNeg v1)) ≤ v3 then
  (bd (h.2.2.2.1 t0 3) fun a7 =>
  gk (h.1 a7) 13 <|
  gd (ix v1 (h.2.1 a7)) <|
  some (v2 * (h.2.2.1 a7 (Int32.toNatClampNeg v1)), h))
  else
  (bd (h.2.2.2.1 t0 11) fun a11 =>
  gk (h.1 a11) 13 <|
  gd (ix ((6 * v1) + v3) (h.2.1 a11)) <|
  nm (v2 + (h.2.2.1 a11 (Int32.toNatClampNeg ((6 * v1) + v3)))) fun x15 =>
  nm (v3 + 1) fun x16 =>
  rc t0 v1 x15 x16 h)
def fX11_heard_9  : Nat → Int32 → Int32 → Int32 → Hp → Option (Int32 × Hp) := fx (bX11_heard_9 ) (fun _ _ _ _ _ => none) NF
def fX11_heard  (t0 : Nat) (v1 : Int32) (h : Hp) : Option (Int32 × Hp) :=
  gk (h.1 t0) 12 <|
  bd (h.2.2.2.1 t0 2) fun a2 =>
  gk (h.1 a2) 13 <|
  gd (ix v1 (h.2.1 a2)) <|
  nm (h.2.2.1 a2 (Int32.toNatClampNeg v1)) fun x6 =>
  fX11_heard_9  t0 v1 x6 0 h
section
variable {p : Program} {l : Launch} {e : Env} {s : State} {m : MethodId} {args : Array Value} {below : List Frame} {meth : Method} {c : Code} {D : va_G} {cA : Nat → ClassId} {h0 h9 : Hp}
set_option maxHeartbeats 4000000 in
set_option maxRecDepth 100000 in
theorem tX11_heard_9  {r : Int32} (cx : CallFix p m c prog_13_method_24_code 4 s args tbG RX11) (hr : meth.sig.returnType = (Option.some FieldType.int)) (hlk : meth.locks = false)  (n : Nat) : ∀ (t0 : Nat) (v1 : Int32) (v2 : Int32) (v3 : Int32) (h : Hp) (H : Heap) (locs : List Loc) (ls : Array Slot), hp_B D cA (hp_A h0) s h H locs → lv_has ls 4 [(0, .ref t0), (1, .int v1), (2, .int v2), (3, .int v3)] → fx (bX11_heard_9 ) (fun _ _ _ _ _ => none) n t0 v1 v2 v3 h = some (r, h9) → W p l e rmX11_heard s m args below meth c H locs 0 0 (MQ below (hp_Qi D cA h0 h9 r) args s 0 0 (hp_A h0)) (F0 m 9 ls []) := by
  obtain ⟨hx, hb, -⟩ := id cx
  induction n with
  | zero => intro t0 v1 v2 v3 h H locs ls hB hl hf; cases hf
  | succ n ih =>
    intro t0 v1 v2 v3 h H locs ls hB hl hf
    replace hf : bX11_heard_9  (fx (bX11_heard_9 ) (fun _ _ _ _ _ => none) n) t0 v1 v2 v3 h = some (r, h9) := hf
    unfold bX11_heard_9 at hf
    refine lv_iload_n hx hb dX11_heard_9 rfl (lv_at hl 3 rfl) ?_
    refine lv_aload_n hx hb dX11_heard_10 rfl (lv_at hl 0 rfl) ?_
    obtain ⟨k1, hf⟩ := gk_ok hf
    obtain ⟨a2, q3, hf⟩ := bd_ok hf
    refine gf_X11_37 cx hB k1 q3 dX11_heard_11 ?_
    refine lv_iload_n hx hb dX11_heard_14 rfl (lv_at hl 1 rfl) ?_
    obtain ⟨k4, hf⟩ := gk_ok hf
    obtain ⟨j5, hf⟩ := gd_ok hf
    refine hp_iald cx hB k4 j5 dX11_heard_15 ?_
    refine lv_icmp_ge (tgt := 39) hx hb dX11_heard_16 (by decide) (fun c6 => ?_) (fun c6 => ?_)
    · replace hf := it_t c6 hf
      refine lv_iload_n hx hb dX11_heard_39 rfl (lv_at hl 2 rfl) ?_
      refine lv_aload_n hx hb dX11_heard_40 rfl (lv_at hl 0 rfl) ?_
      obtain ⟨a7, q8, hf⟩ := bd_ok hf
      refine gf_X11_16 cx hB k1 q8 dX11_heard_41 ?_
      refine lv_iload_n hx hb dX11_heard_44 rfl (lv_at hl 1 rfl) ?_
      obtain ⟨k9, hf⟩ := gk_ok hf
      obtain ⟨j10, hf⟩ := gd_ok hf
      refine hp_iald cx hB k9 j10 dX11_heard_45 ?_
      refine lv_imul hx hb dX11_heard_46 ?_
      obtain ⟨rfl, rfl⟩ := rt_ok hf
      exact hp_iret cx hB hr hlk (Nat.le_of_ble_eq_true rfl) (Nat.le_of_ble_eq_true rfl) dX11_heard_47
    · replace hf := it_f c6 hf
      refine lv_iload_n hx hb dX11_heard_19 rfl (lv_at hl 2 rfl) ?_
      refine lv_aload_n hx hb dX11_heard_20 rfl (lv_at hl 0 rfl) ?_
      obtain ⟨a11, q12, hf⟩ := bd_ok hf
      refine gf_X11_40 cx hB k1 q12 dX11_heard_21 ?_
      refine lv_bipush (v := 6) hx hb dX11_heard_24 (by decide) ?_
      refine lv_iload_n hx hb dX11_heard_26 rfl (lv_at hl 1 rfl) ?_
      refine lv_imul hx hb dX11_heard_27 ?_
      refine lv_iload_n hx hb dX11_heard_28 rfl (lv_at hl 3 rfl) ?_
      refine lv_iadd hx hb dX11_heard_29 ?_
      obtain ⟨k13, hf⟩ := gk_ok hf
      obtain ⟨j14, hf⟩ := gd_ok hf
      refine hp_iald cx hB k13 j14 dX11_heard_30 ?_
      refine lv_iadd hx hb dX11_heard_31 ?_
      obtain ⟨x15, ex15, hf⟩ := nm_ok hf
      refine lv_ren ex15 ?_
      refine lv_istore_n (lv' := [(2, .int x15), (0, .ref t0), (1, .int v1), (3, .int v3)]) hx hb dX11_heard_32 rfl hl (by decide) rfl (fun ls hl => ?_)
      obtain ⟨x16, ex16, hf⟩ := nm_ok hf
      refine lv_iinc (v := x16) (lv' := [(3, .int x16), (2, .int x15), (0, .ref t0), (1, .int v1)]) hx hb dX11_heard_33 hl (k := 3) rfl (by rw [ex16]; rfl) (by decide) rfl (fun ls hl => ?_)
      refine lv_goto (tgt := 9) hx hb dX11_heard_36 (by decide) ?_
      exact ih t0 v1 x15 x16 h _ _ _ hB (lv_sub hl [2, 3, 1, 0] rfl) hf
set_option maxHeartbeats 4000000 in
set_option maxRecDepth 100000 in
theorem tX11_heard_0  {r : Int32} (cx : CallFix p m c prog_13_method_24_code 4 s args tbG RX11) (hr : meth.sig.returnType = (Option.some FieldType.int)) (hlk : meth.locks = false)  (t0 : Nat) (v1 : Int32) (h : Hp) (H : Heap) (locs : List Loc) (ls : Array Slot) (hB : hp_B D cA (hp_A h0) s h H locs) (hl : lv_has ls 4 [(0, .ref t0), (1, .int v1)]) (hf : fX11_heard  t0 v1 h = some (r, h9)) : W p l e rmX11_heard s m args below meth c H locs 0 0 (MQ below (hp_Qi D cA h0 h9 r) args s 0 0 (hp_A h0)) (F0 m 0 ls []) := by
  obtain ⟨hx, hb, -⟩ := id cx
  unfold fX11_heard at hf
  refine lv_aload_n hx hb dX11_heard_0 rfl (lv_at hl 0 rfl) ?_
  obtain ⟨k1, hf⟩ := gk_ok hf
  obtain ⟨a2, q3, hf⟩ := bd_ok hf
  refine gf_X11_13 cx hB k1 q3 dX11_heard_1 ?_
  refine lv_iload_n hx hb dX11_heard_4 rfl (lv_at hl 1 rfl) ?_
  obtain ⟨k4, hf⟩ := gk_ok hf
  obtain ⟨j5, hf⟩ := gd_ok hf
  refine hp_iald cx hB k4 j5 dX11_heard_5 ?_
  obtain ⟨x6, ex6, hf⟩ := nm_ok hf
  refine lv_ren ex6 ?_
  refine lv_istore_n (lv' := [(2, .int x6), (0, .ref t0), (1, .int v1)]) hx hb dX11_heard_6 rfl hl (by decide) rfl (fun ls hl => ?_)
  refine lv_iconst (v := 0) hx hb dX11_heard_7 (by decide) ?_
  refine lv_istore_n (lv' := [(3, .int 0), (2, .int x6), (0, .ref t0), (1, .int v1)]) hx hb dX11_heard_8 rfl hl (by decide) rfl (fun ls hl => ?_)
  exact tX11_heard_9 cx hr hlk  NF t0 v1 x6 0 h _ _ _ hB (lv_sub hl [2, 3, 1, 0] rfl) hf
end
set_option maxHeartbeats 4000000 in
set_option maxRecDepth 100000 in
theorem cX11_heard (l : Launch) (D : va_G) (cA : Nat → ClassId) (t0 : Nat) (v1 : Int32) (h : Hp) (r : Int32) (h9 : Hp) (hf : fX11_heard t0 v1 h = some (r, h9)) : hp_M l yX11_heard prog_13_method_24_code 4 (Option.some FieldType.int) rmX11_heard D cA h [.ref t0, .int v1] (hp_Qi D cA h h9 r) := by
  refine Met.ofW (cc := prog_13_method_24_code) (maxL := 4) (ret := (Option.some FieldType.int)) (by decide) rfl ?_
  intro p e s m args below meth c s₁ B hml hv
  obtain ⟨rfl, hU⟩ := hv
  have hts := atoms_spec (ws := Cond.code yX11_heard prog_13_method_24_code 4 (Option.some FieldType.int) :: tbG) B.pre
  have hl := lv_entry ([.ref t0, .int v1]) (n := 4) (Nat.le_of_ble_eq_true rfl)
  rw [lg_entry_eq]
  generalize (lg_sl ([.ref t0, .int v1]) ++ List.replicate (4 - (lg_sl ([.ref t0, .int v1])).length) Slot.unset).toArray = ls at hl ⊢
  exact tX11_heard_0 ⟨B.exec, B.bytes, hml, findClass_of_methodNamed B.named, fun w hw => hts w (List.mem_cons_of_mem _ hw)⟩ B.returns B.notSynchronized t0 v1 h _ _ _ (hp_B.entry hU) hl hf
section
variable {p : Program} {l : Launch} {e : Env} {R : Room} {s : State} {m : MethodId} {args : Array Value} {below : List Frame} {meth : Method} {c : Code} {H : Heap} {locs : List Loc} {cells slots : Nat} {Q : State → Prop}
variable {cc : ByteArray} {pc nL : Nat} {ls : Array Slot} {rest : List Value} {D : va_G} {cA : Nat → ClassId} {A : Nat → Prop} {a : Nat} {h : Hp}
theorem gf_X11_82 (cx : CallFix p m c cc nL s args tbG RX11) (hB : hp_B D cA A s h H locs) (hka : h.1 a = 12) {b : Nat} (ho : h.2.2.2.1 a 36 = some b) (hdg : decode cc pc = .ok (.getfield 82, 3)) (kk : W p l e R s m args below meth c H locs cells slots Q (F0 m (pc + 3) ls (.ref b :: rest))) : W p l e R s m args below meth c H locs cells slots Q (F0 m pc ls (.ref a :: rest)) :=
  hp_getR cx hB (ci := 11) 36 rfl inX11 (by decide) rfl (by decide) rfl qw_768 hka (o := some b) ho.symm hdg kk
end
abbrev yX11_leastOf : MethodName := ⟨"SpokenMenusModel", "leastOf", "(I)I"⟩
theorem dX11_leastOf_0 : decode prog_13_method_25_code 0 = .ok (.aload_n 0, 1) := by decide +kernel
theorem dX11_leastOf_1 : decode prog_13_method_25_code 1 = .ok (.iload_n 1, 1) := by decide +kernel
theorem dX11_leastOf_2 : decode prog_13_method_25_code 2 = .ok (.invokevirtual 142, 3) := by decide +kernel
theorem dX11_leastOf_5 : decode prog_13_method_25_code 5 = .ok (.ifCond .eq 12, 3) := by decide +kernel
theorem dX11_leastOf_8 : decode prog_13_method_25_code 8 = .ok (.aload_n 0, 1) := by decide +kernel
theorem dX11_leastOf_9 : decode prog_13_method_25_code 9 = .ok (.getfield 82, 3) := by decide +kernel
theorem dX11_leastOf_12 : decode prog_13_method_25_code 12 = .ok (.iload_n 1, 1) := by decide +kernel
theorem dX11_leastOf_13 : decode prog_13_method_25_code 13 = .ok (.iaload, 1) := by decide +kernel
theorem dX11_leastOf_14 : decode prog_13_method_25_code 14 = .ok (.goto 5, 3) := by decide +kernel
theorem dX11_leastOf_17 : decode prog_13_method_25_code 17 = .ok (.ldc 172, 2) := by decide +kernel
theorem dX11_leastOf_19 : decode prog_13_method_25_code 19 = .ok (.ireturn, 1) := by decide +kernel
abbrev rmX11_leastOf : Room := { frames := 2, cells := 0, slots := 0, locals := 43 }
def fX11_leastOf  (t0 : Nat) (v1 : Int32) (h : Hp) : Option (Int32 × Hp) :=
  gk (h.1 t0) 12 <|
  b2 (fX11_isPlace t0 v1 h) fun r4 g2 =>
  if r4 = 0 then
  (some (100000000, g2))
  else
  (gk (g2.1 t0) 12 <|
  bd (g2.2.2.2.1 t0 36) fun a8 =>
  gk (g2.1 a8) 13 <|
  gd (ix v1 (g2.2.1 a8)) <|
  some (g2.2.2.1 a8 (Int32.toNatClampNeg v1), g2))
section
variable {p : Program} {l : Launch} {e : Env} {s : State} {m : MethodId} {args : Array Value} {below : List Frame} {meth : Method} {c : Code} {D : va_G} {cA : Nat → ClassId} {h0 h9 : Hp}
set_option maxHeartbeats 4000000 in
set_option maxRecDepth 100000 in
theorem tX11_leastOf_0  {r : Int32} (cx : CallFix p m c prog_13_method_25_code 2 s args tbG RX11) (hr : meth.sig.returnType = (Option.some FieldType.int)) (hlk : meth.locks = false)  (t0 : Nat) (v1 : Int32) (h : Hp) (H : Heap) (locs : List Loc) (ls : Array Slot) (hB : hp_B D cA (hp_A h0) s h H locs) (hl : lv_has ls 2 [(0, .ref t0), (1, .int v1)]) (hf : fX11_leastOf  t0 v1 h = some (r, h9)) : W p l e rmX11_leastOf s m args below meth c H locs 0 0 (MQ below (hp_Qi D cA h0 h9 r) args s 0 0 (hp_A h0)) (F0 m 0 ls []) := by
  obtain ⟨hx, hb, -⟩ := id cx
  unfold fX11_leastOf at hf
  refine lv_aload_n hx hb dX11_leastOf_0 rfl (lv_at hl 0 rfl) ?_
  refine lv_iload_n hx hb dX11_leastOf_1 rfl (lv_at hl 1 rfl) ?_
  obtain ⟨k1, hf⟩ := gk_ok hf
  obtain ⟨r4, g2, m3, hf⟩ := b2_ok hf
  refine hp_cI0 (cl_X11_142 cx hB (cX11_isPlace l D cA t0 v1 h _ g2 m3) k1 ⟨Nat.le_of_ble_eq_true rfl, Nat.le_of_ble_eq_true rfl⟩ rfl hl.1 rfl (Nat.le_of_ble_eq_true rfl) ⟨Nat.le_of_ble_eq_true rfl, Nat.le_of_ble_eq_true rfl⟩ dX11_leastOf_2) rfl rfl hB (fun H locs hB => ?_)
  refine lv_if_eq (tgt := 17) hx hb dX11_leastOf_5 (by decide) (fun c6 => ?_) (fun c6 => ?_)
  · replace hf := it_t c6 hf
    refine lv_ldc (v := 100000000) hx hb cx.2.2.2.1 (cx.2.2.2.2 _ (tb_in qw_993 rfl)) dX11_leastOf_17 ?_
    obtain ⟨rfl, rfl⟩ := rt_ok hf
    exact hp_iret cx hB hr hlk (Nat.le_of_ble_eq_true rfl) (Nat.le_of_ble_eq_true rfl) dX11_leastOf_19
  · replace hf := it_f c6 hf
    refine lv_aload_n hx hb dX11_leastOf_8 rfl (lv_at hl 0 rfl) ?_
    obtain ⟨k7, hf⟩ := gk_ok hf
    obtain ⟨a8, q9, hf⟩ := bd_ok hf
    refine gf_X11_82 cx hB k7 q9 dX11_leastOf_9 ?_
    refine lv_iload_n hx hb dX11_leastOf_12 rfl (lv_at hl 1 rfl) ?_
    obtain ⟨k10, hf⟩ := gk_ok hf
    obtain ⟨j11, hf⟩ := gd_ok hf
    refine hp_iald cx hB k10 j11 dX11_leastOf_13 ?_
    refine lv_goto (tgt := 19) hx hb dX11_leastOf_14 (by decide) ?_
    obtain ⟨rfl, rfl⟩ := rt_ok hf
    exact hp_iret cx hB hr hlk (Nat.le_of_ble_eq_true rfl) (Nat.le_of_ble_eq_true rfl) dX11_leastOf_19
end
set_option maxHeartbeats 4000000 in
set_option maxRecDepth 100000 in
theorem cX11_leastOf (l : Launch) (D : va_G) (cA : Nat → ClassId) (t0 : Nat) (v1 : Int32) (h : Hp) (r : Int32) (h9 : Hp) (hf : fX11_leastOf t0 v1 h = some (r, h9)) : hp_M l yX11_leastOf prog_13_method_25_code 2 (Option.some FieldType.int) rmX11_leastOf D cA h [.ref t0, .int v1] (hp_Qi D cA h h9 r) := by
  refine Met.ofW (cc := prog_13_method_25_code) (maxL := 2) (ret := (Option.some FieldType.int)) (by decide) rfl ?_
  intro p e s m args below meth c s₁ B hml hv
  obtain ⟨rfl, hU⟩ := hv
  have hts := atoms_spec (ws := Cond.code yX11_leastOf prog_13_method_25_code 2 (Option.some FieldType.int) :: tbG) B.pre
  have hl := lv_entry ([.ref t0, .int v1]) (n := 2) (Nat.le_of_ble_eq_true rfl)
  rw [lg_entry_eq]
  generalize (lg_sl ([.ref t0, .int v1]) ++ List.replicate (2 - (lg_sl ([.ref t0, .int v1])).length) Slot.unset).toArray = ls at hl ⊢
  exact tX11_leastOf_0 ⟨B.exec, B.bytes, hml, findClass_of_methodNamed B.named, fun w hw => hts w (List.mem_cons_of_mem _ hw)⟩ B.returns B.notSynchronized t0 v1 h _ _ _ (hp_B.entry hU) hl hf
section
variable {p : Program} {l : Launch} {e : Env} {R : Room} {s : State} {m : MethodId} {args : Array Value} {below : List Frame} {meth : Method} {c : Code} {H : Heap} {locs : List Loc} {cells slots : Nat} {Q : State → Prop}
variable {cc : ByteArray} {pc nL : Nat} {ls : Array Slot} {rest : List Value} {D : va_G} {cA : Nat → ClassId} {A : Nat → Prop} {a : Nat} {h : Hp}
theorem cl_X11_173 {As st0 : List Value} {b : Nat} {Qc : Array Value → State → Outcome → State → Prop} (cx : CallFix p m c cc nL s args tbG RX11) (hB : hp_B D cA A s h H locs) (hM : hp_M l yX11_leastOf prog_13_method_25_code 2 (Option.some FieldType.int) rmX11_leastOf D cA h (.ref b :: As) Qc) (hkb : h.1 b = 12) (hR : rmX11_leastOf.frames + 1 ≤ R.frames ∧ 8 + (2 + 11) + rmX11_leastOf.locals ≤ R.locals) (hn : As.length = 1) (hls : ls.size = nL) (hst : st0 = As.reverse ++ .ref b :: rest) (hW : (rest.map fun v => v.category).sum ≤ 8) (hf : cells + rmX11_leastOf.cells ≤ R.cells ∧ slots + rmX11_leastOf.slots ≤ R.slots) (hdg : decode cc pc = .ok (.invokevirtual 173, 3)) :
    va_Run p l e R s m args below meth c H locs cells slots rmX11_leastOf.cells rmX11_leastOf.slots (F0 m pc ls st0) rest (Qc (Value.ref b :: As).toArray) (hp_A h) :=
  hp_runV cx hB hM (ci := 11) rfl (by decide) hkb qw_1009 qw_1006 qw_1008 qp_26 qw_10 (by decide +kernel) hR hn hls hst hW hf hdg
end
abbrev yX11_through : MethodName := ⟨"SpokenMenusModel", "through", "(II)I"⟩
theorem dX11_through_0 : decode prog_13_method_26_code 0 = .ok (.aload_n 0, 1) := by decide +kernel
theorem dX11_through_1 : decode prog_13_method_26_code 1 = .ok (.iload_n 2, 1) := by decide +kernel
theorem dX11_through_2 : decode prog_13_method_26_code 2 = .ok (.invokevirtual 173, 3) := by decide +kernel
theorem dX11_through_5 : decode prog_13_method_26_code 5 = .ok (.istore_n 3, 1) := by decide +kernel
theorem dX11_through_6 : decode prog_13_method_26_code 6 = .ok (.iload_n 3, 1) := by decide +kernel
theorem dX11_through_7 : decode prog_13_method_26_code 7 = .ok (.ldc 172, 2) := by decide +kernel
theorem dX11_through_9 : decode prog_13_method_26_code 9 = .ok (.if_icmp .ne 8, 3) := by decide +kernel
theorem dX11_through_12 : decode prog_13_method_26_code 12 = .ok (.ldc 172, 2) := by decide +kernel
theorem dX11_through_14 : decode prog_13_method_26_code 14 = .ok (.goto 6, 3) := by decide +kernel
theorem dX11_through_17 : decode prog_13_method_26_code 17 = .ok (.iload_n 1, 1) := by decide +kernel
theorem dX11_through_18 : decode prog_13_method_26_code 18 = .ok (.iload_n 3, 1) := by decide +kernel
theorem dX11_through_19 : decode prog_13_method_26_code 19 = .ok (.iadd, 1) := by decide +kernel
theorem dX11_through_20 : decode prog_13_method_26_code 20 = .ok (.ireturn, 1) := by decide +kernel
abbrev rmX11_through : Room := { frames := 3, cells := 0, slots := 0, locals := 64 }
def fX11_through  (t0 : Nat) (v1 : Int32) (v2 : Int32) (h : Hp) : Option (Int32 × Hp) :=
  gk (h.1 t0) 12 <|
  b2 (fX11_leastOf t0 v2 h) fun r4 g2 =>
  if r4 = 100000000 then
  (some (100000000, g2))
  else
  (some (v1 + r4, g2))
section
variable {p : Program} {l : Launch} {e : Env} {s : State} {m : MethodId} {args : Array Value} {below : List Frame} {meth : Method} {c : Code} {D : va_G} {cA : Nat → ClassId} {h0 h9 : Hp}
set_option maxHeartbeats 4000000 in
set_option maxRecDepth 100000 in
theorem tX11_through_0  {r : Int32} (cx : CallFix p m c prog_13_method_26_code 4 s args tbG RX11) (hr : meth.sig.returnType = (Option.some FieldType.int)) (hlk : meth.locks = false)  (t0 : Nat) (v1 : Int32) (v2 : Int32) (h : Hp) (H : Heap) (locs : List Loc) (ls : Array Slot) (hB : hp_B D cA (hp_A h0) s h H locs) (hl : lv_has ls 4 [(0, .ref t0), (1, .int v1), (2, .int v2)]) (hf : fX11_through  t0 v1 v2 h = some (r, h9)) : W p l e rmX11_through s m args below meth c H locs 0 0 (MQ below (hp_Qi D cA h0 h9 r) args s 0 0 (hp_A h0)) (F0 m 0 ls []) := by
  obtain ⟨hx, hb, -⟩ := id cx
  unfold fX11_through at hf
  refine lv_aload_n hx hb dX11_through_0 rfl (lv_at hl 0 rfl) ?_
  refine lv_iload_n hx hb dX11_through_1 rfl (lv_at hl 2 rfl) ?_
  obtain ⟨k1, hf⟩ := gk_ok hf
  obtain ⟨r4, g2, m3, hf⟩ := b2_ok hf
  refine hp_cI0 (cl_X11_173 cx hB (cX11_leastOf l D cA t0 v2 h _ g2 m3) k1 ⟨Nat.le_of_ble_eq_true rfl, Nat.le_of_ble_eq_true rfl⟩ rfl hl.1 rfl (Nat.le_of_ble_eq_true rfl) ⟨Nat.le_of_ble_eq_true rfl, Nat.le_of_ble_eq_true rfl⟩ dX11_through_2) rfl rfl hB (fun H locs hB => ?_)
  refine lv_istore_n (lv' := [(3, .int r4), (0, .ref t0), (1, .int v1), (2, .int v2)]) hx hb dX11_through_5 rfl hl (by decide) rfl (fun ls hl => ?_)
  refine lv_iload_n hx hb dX11_through_6 rfl (lv_at hl 0 rfl) ?_
  refine lv_ldc (v := 100000000) hx hb cx.2.2.2.1 (cx.2.2.2.2 _ (tb_in qw_993 rfl)) dX11_through_7 ?_
  refine lv_icmp_ne (tgt := 17) hx hb dX11_through_9 (by decide) (fun c6 => ?_) (fun c6 => ?_)
  · replace hf := it_f c6 hf
    refine lv_iload_n hx hb dX11_through_17 rfl (lv_at hl 2 rfl) ?_
    refine lv_iload_n hx hb dX11_through_18 rfl (lv_at hl 0 rfl) ?_
    refine lv_iadd hx hb dX11_through_19 ?_
    obtain ⟨rfl, rfl⟩ := rt_ok hf
    exact hp_iret cx hB hr hlk (Nat.le_of_ble_eq_true rfl) (Nat.le_of_ble_eq_true rfl) dX11_through_20
  · replace hf := it_t c6 hf
    refine lv_ldc (v := 100000000) hx hb cx.2.2.2.1 (cx.2.2.2.2 _ (tb_in qw_993 rfl)) dX11_through_12 ?_
    refine lv_goto (tgt := 20) hx hb dX11_through_14 (by decide) ?_
    obtain ⟨rfl, rfl⟩ := rt_ok hf
    exact hp_iret cx hB hr hlk (Nat.le_of_ble_eq_true rfl) (Nat.le_of_ble_eq_true rfl) dX11_through_20
end
set_option maxHeartbeats 4000000 in
set_option maxRecDepth 100000 in
theorem cX11_through (l : Launch) (D : va_G) (cA : Nat → ClassId) (t0 : Nat) (v1 : Int32) (v2 : Int32) (h : Hp) (r : Int32) (h9 : Hp) (hf : fX11_through t0 v1 v2 h = some (r, h9)) : hp_M l yX11_through prog_13_method_26_code 4 (Option.some FieldType.int) rmX11_through D cA h [.ref t0, .int v1, .int v2] (hp_Qi D cA h h9 r) := by
  refine Met.ofW (cc := prog_13_method_26_code) (maxL := 4) (ret := (Option.some FieldType.int)) (by decide) rfl ?_
  intro p e s m args below meth c s₁ B hml hv
  obtain ⟨rfl, hU⟩ := hv
  have hts := atoms_spec (ws := Cond.code yX11_through prog_13_method_26_code 4 (Option.some FieldType.int) :: tbG) B.pre
  have hl := lv_entry ([.ref t0, .int v1, .int v2]) (n := 4) (Nat.le_of_ble_eq_true rfl)
  rw [lg_entry_eq]
  generalize (lg_sl ([.ref t0, .int v1, .int v2]) ++ List.replicate (4 - (lg_sl ([.ref t0, .int v1, .int v2])).length) Slot.unset).toArray = ls at hl ⊢
  exact tX11_through_0 ⟨B.exec, B.bytes, hml, findClass_of_methodNamed B.named, fun w hw => hts w (List.mem_cons_of_mem _ hw)⟩ B.returns B.notSynchronized t0 v1 v2 h _ _ _ (hp_B.entry hU) hl hf
section
variable {p : Program} {l : Launch} {e : Env} {R : Room} {s : State} {m : MethodId} {args : Array Value} {below : List Frame} {meth : Method} {c : Code} {H : Heap} {locs : List Loc} {cells slots : Nat} {Q : State → Prop}
variable {cc : ByteArray} {pc nL : Nat} {ls : Array Slot} {rest : List Value} {D : va_G} {cA : Nat → ClassId} {A : Nat → Prop} {a : Nat} {h : Hp}
theorem cl_X11_190 {As st0 : List Value} {b : Nat} {Qc : Array Value → State → Outcome → State → Prop} (cx : CallFix p m c cc nL s args tbG RX11) (hB : hp_B D cA A s h H locs) (hM : hp_M l yX11_heard prog_13_method_24_code 4 (Option.some FieldType.int) rmX11_heard D cA h (.ref b :: As) Qc) (hkb : h.1 b = 12) (hR : rmX11_heard.frames + 1 ≤ R.frames ∧ 8 + (4 + 11) + rmX11_heard.locals ≤ R.locals) (hn : As.length = 1) (hls : ls.size = nL) (hst : st0 = As.reverse ++ .ref b :: rest) (hW : (rest.map fun v => v.category).sum ≤ 8) (hf : cells + rmX11_heard.cells ≤ R.cells ∧ slots + rmX11_heard.slots ≤ R.slots) (hdg : decode cc pc = .ok (.invokevirtual 190, 3)) :
    va_Run p l e R s m args below meth c H locs cells slots rmX11_heard.cells rmX11_heard.slots (F0 m pc ls st0) rest (Qc (Value.ref b :: As).toArray) (hp_A h) :=
  hp_runV cx hB hM (ci := 11) rfl (by decide) hkb qw_1021 qw_1018 qw_1020 qp_29 qw_10 (by decide +kernel) hR hn hls hst hW hf hdg
theorem cl_X11_180 {As st0 : List Value} {b : Nat} {Qc : Array Value → State → Outcome → State → Prop} (cx : CallFix p m c cc nL s args tbG RX11) (hB : hp_B D cA A s h H locs) (hM : hp_M l yX11_through prog_13_method_26_code 4 (Option.some FieldType.int) rmX11_through D cA h (.ref b :: As) Qc) (hkb : h.1 b = 12) (hR : rmX11_through.frames + 1 ≤ R.frames ∧ 8 + (4 + 11) + rmX11_through.locals ≤ R.locals) (hn : As.length = 2) (hls : ls.size = nL) (hst : st0 = As.reverse ++ .ref b :: rest) (hW : (rest.map fun v => v.category).sum ≤ 8) (hf : cells + rmX11_through.cells ≤ R.cells ∧ slots + rmX11_through.slots ≤ R.slots) (hdg : decode cc pc = .ok (.invokevirtual 180, 3)) :
    va_Run p l e R s m args below meth c H locs cells slots rmX11_through.cells rmX11_through.slots (F0 m pc ls st0) rest (Qc (Value.ref b :: As).toArray) (hp_A h) :=
  hp_runV cx hB hM (ci := 11) rfl (by decide) hkb qw_1005 qw_1002 qw_1004 qp_25 qw_10 (by decide +kernel) hR hn hls hst hW hf hdg
theorem cl_X11_187 {As st0 : List Value} {b : Nat} {Qc : Array Value → State → Outcome → State → Prop} (cx : CallFix p m c cc nL s args tbG RX11) (hB : hp_B D cA A s h H locs) (hM : hp_M l yX11_isRight prog_13_method_22_code 5 (Option.some FieldType.boolean) rmX11_isRight D cA h (.ref b :: As) Qc) (hkb : h.1 b = 12) (hR : rmX11_isRight.frames + 1 ≤ R.frames ∧ 8 + (5 + 11) + rmX11_isRight.locals ≤ R.locals) (hn : As.length = 1) (hls : ls.size = nL) (hst : st0 = As.reverse ++ .ref b :: rest) (hW : (rest.map fun v => v.category).sum ≤ 8) (hf : cells + rmX11_isRight.cells ≤ R.cells ∧ slots + rmX11_isRight.slots ≤ R.slots) (hdg : decode cc pc = .ok (.invokevirtual 187, 3)) :
    va_Run p l e R s m args below meth c H locs cells slots rmX11_isRight.cells rmX11_isRight.slots (F0 m pc ls st0) rest (Qc (Value.ref b :: As).toArray) (hp_A h) :=
  hp_runV cx hB hM (ci := 11) rfl (by decide) hkb qw_1017 qw_1014 qw_1016 qp_28 qw_10 (by decide +kernel) hR hn hls hst hW hf hdg
theorem cl_X11_184 {As st0 : List Value} {b : Nat} {Qc : Array Value → State → Outcome → State → Prop} (cx : CallFix p m c cc nL s args tbG RX11) (hB : hp_B D cA A s h H locs) (hM : hp_M l yX11_isOpen prog_13_method_21_code 2 (Option.some FieldType.boolean) rmX11_isOpen D cA h (.ref b :: As) Qc) (hkb : h.1 b = 12) (hR : rmX11_isOpen.frames + 1 ≤ R.frames ∧ 8 + (2 + 11) + rmX11_isOpen.locals ≤ R.locals) (hn : As.length = 1) (hls : ls.size = nL) (hst : st0 = As.reverse ++ .ref b :: rest) (hW : (rest.map fun v => v.category).sum ≤ 8) (hf : cells + rmX11_isOpen.cells ≤ R.cells ∧ slots + rmX11_isOpen.slots ≤ R.slots) (hdg : decode cc pc = .ok (.invokevirtual 184, 3)) :
    va_Run p l e R s m args below meth c H locs cells slots rmX11_isOpen.cells rmX11_isOpen.slots (F0 m pc ls st0) rest (Qc (Value.ref b :: As).toArray) (hp_A h) :=
  hp_runV cx hB hM (ci := 11) rfl (by decide) hkb qw_1013 qw_1010 qw_1012 qp_27 qw_10 (by decide +kernel) hR hn hls hst hW hf hdg
theorem cl_X11_177 {As st0 : List Value} {b : Nat} {Qc : Array Value → State → Outcome → State → Prop} (cx : CallFix p m c cc nL s args tbG RX11) (hB : hp_B D cA A s h H locs) (hM : hp_M l yX11_isServed prog_13_method_23_code 2 (Option.some FieldType.boolean) rmX11_isServed D cA h (.ref b :: As) Qc) (hkb : h.1 b = 12) (hR : rmX11_isServed.frames + 1 ≤ R.frames ∧ 8 + (2 + 11) + rmX11_isServed.locals ≤ R.locals) (hn : As.length = 1) (hls : ls.size = nL) (hst : st0 = As.reverse ++ .ref b :: rest) (hW : (rest.map fun v => v.category).sum ≤ 8) (hf : cells + rmX11_isServed.cells ≤ R.cells ∧ slots + rmX11_isServed.slots ≤ R.slots) (hdg : decode cc pc = .ok (.invokevirtual 177, 3)) :
    va_Run p l e R s m args below meth c H locs cells slots rmX11_isServed.cells rmX11_isServed.slots (F0 m pc ls st0) rest (Qc (Value.ref b :: As).toArray) (hp_A h) :=
  hp_runV cx hB hM (ci := 11) rfl (by decide) hkb qw_1001 qw_998 qw_1000 qp_24 qw_10 (by decide +kernel) hR hn hls hst hW hf hdg
end
abbrev yX11_leastAt : MethodName := ⟨"SpokenMenusModel", "leastAt", "(I)I"⟩
theorem dX11_leastAt_0 : decode prog_13_method_27_code 0 = .ok (.aload_n 0, 1) := by decide +kernel
theorem dX11_leastAt_1 : decode prog_13_method_27_code 1 = .ok (.getfield 7, 3) := by decide +kernel
theorem dX11_leastAt_4 : decode prog_13_method_27_code 4 = .ok (.iload_n 1, 1) := by decide +kernel
theorem dX11_leastAt_5 : decode prog_13_method_27_code 5 = .ok (.iaload, 1) := by decide +kernel
theorem dX11_leastAt_6 : decode prog_13_method_27_code 6 = .ok (.iconst 1, 1) := by decide +kernel
theorem dX11_leastAt_7 : decode prog_13_method_27_code 7 = .ok (.if_icmp .ne 23, 3) := by decide +kernel
theorem dX11_leastAt_10 : decode prog_13_method_27_code 10 = .ok (.aload_n 0, 1) := by decide +kernel
theorem dX11_leastAt_11 : decode prog_13_method_27_code 11 = .ok (.iload_n 1, 1) := by decide +kernel
theorem dX11_leastAt_12 : decode prog_13_method_27_code 12 = .ok (.invokevirtual 177, 3) := by decide +kernel
theorem dX11_leastAt_15 : decode prog_13_method_27_code 15 = .ok (.ifCond .eq 12, 3) := by decide +kernel
theorem dX11_leastAt_18 : decode prog_13_method_27_code 18 = .ok (.aload_n 0, 1) := by decide +kernel
theorem dX11_leastAt_19 : decode prog_13_method_27_code 19 = .ok (.getfield 13, 3) := by decide +kernel
theorem dX11_leastAt_22 : decode prog_13_method_27_code 22 = .ok (.iload_n 1, 1) := by decide +kernel
theorem dX11_leastAt_23 : decode prog_13_method_27_code 23 = .ok (.iaload, 1) := by decide +kernel
theorem dX11_leastAt_24 : decode prog_13_method_27_code 24 = .ok (.goto 5, 3) := by decide +kernel
theorem dX11_leastAt_27 : decode prog_13_method_27_code 27 = .ok (.ldc 172, 2) := by decide +kernel
theorem dX11_leastAt_29 : decode prog_13_method_27_code 29 = .ok (.ireturn, 1) := by decide +kernel
theorem dX11_leastAt_30 : decode prog_13_method_27_code 30 = .ok (.aload_n 0, 1) := by decide +kernel
theorem dX11_leastAt_31 : decode prog_13_method_27_code 31 = .ok (.getfield 7, 3) := by decide +kernel
theorem dX11_leastAt_34 : decode prog_13_method_27_code 34 = .ok (.iload_n 1, 1) := by decide +kernel
theorem dX11_leastAt_35 : decode prog_13_method_27_code 35 = .ok (.iaload, 1) := by decide +kernel
theorem dX11_leastAt_36 : decode prog_13_method_27_code 36 = .ok (.iconst 2, 1) := by decide +kernel
theorem dX11_leastAt_37 : decode prog_13_method_27_code 37 = .ok (.if_icmp .ne 37, 3) := by decide +kernel
theorem dX11_leastAt_40 : decode prog_13_method_27_code 40 = .ok (.aload_n 0, 1) := by decide +kernel
theorem dX11_leastAt_41 : decode prog_13_method_27_code 41 = .ok (.iload_n 1, 1) := by decide +kernel
theorem dX11_leastAt_42 : decode prog_13_method_27_code 42 = .ok (.invokevirtual 177, 3) := by decide +kernel
theorem dX11_leastAt_45 : decode prog_13_method_27_code 45 = .ok (.ifCond .eq 12, 3) := by decide +kernel
theorem dX11_leastAt_48 : decode prog_13_method_27_code 48 = .ok (.aload_n 0, 1) := by decide +kernel
theorem dX11_leastAt_49 : decode prog_13_method_27_code 49 = .ok (.getfield 13, 3) := by decide +kernel
theorem dX11_leastAt_52 : decode prog_13_method_27_code 52 = .ok (.iload_n 1, 1) := by decide +kernel
theorem dX11_leastAt_53 : decode prog_13_method_27_code 53 = .ok (.iaload, 1) := by decide +kernel
theorem dX11_leastAt_54 : decode prog_13_method_27_code 54 = .ok (.goto 19, 3) := by decide +kernel
theorem dX11_leastAt_57 : decode prog_13_method_27_code 57 = .ok (.aload_n 0, 1) := by decide +kernel
theorem dX11_leastAt_58 : decode prog_13_method_27_code 58 = .ok (.aload_n 0, 1) := by decide +kernel
theorem dX11_leastAt_59 : decode prog_13_method_27_code 59 = .ok (.getfield 13, 3) := by decide +kernel
theorem dX11_leastAt_62 : decode prog_13_method_27_code 62 = .ok (.iload_n 1, 1) := by decide +kernel
theorem dX11_leastAt_63 : decode prog_13_method_27_code 63 = .ok (.iaload, 1) := by decide +kernel
theorem dX11_leastAt_64 : decode prog_13_method_27_code 64 = .ok (.aload_n 0, 1) := by decide +kernel
theorem dX11_leastAt_65 : decode prog_13_method_27_code 65 = .ok (.getfield 19, 3) := by decide +kernel
theorem dX11_leastAt_68 : decode prog_13_method_27_code 68 = .ok (.iload_n 1, 1) := by decide +kernel
theorem dX11_leastAt_69 : decode prog_13_method_27_code 69 = .ok (.iaload, 1) := by decide +kernel
theorem dX11_leastAt_70 : decode prog_13_method_27_code 70 = .ok (.invokevirtual 180, 3) := by decide +kernel
theorem dX11_leastAt_73 : decode prog_13_method_27_code 73 = .ok (.ireturn, 1) := by decide +kernel
theorem dX11_leastAt_74 : decode prog_13_method_27_code 74 = .ok (.aload_n 0, 1) := by decide +kernel
theorem dX11_leastAt_75 : decode prog_13_method_27_code 75 = .ok (.getfield 7, 3) := by decide +kernel
theorem dX11_leastAt_78 : decode prog_13_method_27_code 78 = .ok (.iload_n 1, 1) := by decide +kernel
theorem dX11_leastAt_79 : decode prog_13_method_27_code 79 = .ok (.iaload, 1) := by decide +kernel
theorem dX11_leastAt_80 : decode prog_13_method_27_code 80 = .ok (.iconst 3, 1) := by decide +kernel
theorem dX11_leastAt_81 : decode prog_13_method_27_code 81 = .ok (.if_icmp .ne 32, 3) := by decide +kernel
theorem dX11_leastAt_84 : decode prog_13_method_27_code 84 = .ok (.aload_n 0, 1) := by decide +kernel
theorem dX11_leastAt_85 : decode prog_13_method_27_code 85 = .ok (.iconst 0, 1) := by decide +kernel
theorem dX11_leastAt_86 : decode prog_13_method_27_code 86 = .ok (.aload_n 0, 1) := by decide +kernel
theorem dX11_leastAt_87 : decode prog_13_method_27_code 87 = .ok (.iload_n 1, 1) := by decide +kernel
theorem dX11_leastAt_88 : decode prog_13_method_27_code 88 = .ok (.invokevirtual 184, 3) := by decide +kernel
theorem dX11_leastAt_91 : decode prog_13_method_27_code 91 = .ok (.ifCond .eq 12, 3) := by decide +kernel
theorem dX11_leastAt_94 : decode prog_13_method_27_code 94 = .ok (.aload_n 0, 1) := by decide +kernel
theorem dX11_leastAt_95 : decode prog_13_method_27_code 95 = .ok (.getfield 19, 3) := by decide +kernel
theorem dX11_leastAt_98 : decode prog_13_method_27_code 98 = .ok (.iload_n 1, 1) := by decide +kernel
theorem dX11_leastAt_99 : decode prog_13_method_27_code 99 = .ok (.iaload, 1) := by decide +kernel
theorem dX11_leastAt_100 : decode prog_13_method_27_code 100 = .ok (.goto 9, 3) := by decide +kernel
theorem dX11_leastAt_103 : decode prog_13_method_27_code 103 = .ok (.aload_n 0, 1) := by decide +kernel
theorem dX11_leastAt_104 : decode prog_13_method_27_code 104 = .ok (.getfield 22, 3) := by decide +kernel
theorem dX11_leastAt_107 : decode prog_13_method_27_code 107 = .ok (.iload_n 1, 1) := by decide +kernel
theorem dX11_leastAt_108 : decode prog_13_method_27_code 108 = .ok (.iaload, 1) := by decide +kernel
theorem dX11_leastAt_109 : decode prog_13_method_27_code 109 = .ok (.invokevirtual 180, 3) := by decide +kernel
theorem dX11_leastAt_112 : decode prog_13_method_27_code 112 = .ok (.ireturn, 1) := by decide +kernel
theorem dX11_leastAt_113 : decode prog_13_method_27_code 113 = .ok (.aload_n 0, 1) := by decide +kernel
theorem dX11_leastAt_114 : decode prog_13_method_27_code 114 = .ok (.getfield 7, 3) := by decide +kernel
theorem dX11_leastAt_117 : decode prog_13_method_27_code 117 = .ok (.iload_n 1, 1) := by decide +kernel
theorem dX11_leastAt_118 : decode prog_13_method_27_code 118 = .ok (.iaload, 1) := by decide +kernel
theorem dX11_leastAt_119 : decode prog_13_method_27_code 119 = .ok (.iconst 4, 1) := by decide +kernel
theorem dX11_leastAt_120 : decode prog_13_method_27_code 120 = .ok (.if_icmp .ne 54, 3) := by decide +kernel
theorem dX11_leastAt_123 : decode prog_13_method_27_code 123 = .ok (.aload_n 0, 1) := by decide +kernel
theorem dX11_leastAt_124 : decode prog_13_method_27_code 124 = .ok (.iload_n 1, 1) := by decide +kernel
theorem dX11_leastAt_125 : decode prog_13_method_27_code 125 = .ok (.invokevirtual 187, 3) := by decide +kernel
theorem dX11_leastAt_128 : decode prog_13_method_27_code 128 = .ok (.ifCond .eq 22, 3) := by decide +kernel
theorem dX11_leastAt_131 : decode prog_13_method_27_code 131 = .ok (.aload_n 0, 1) := by decide +kernel
theorem dX11_leastAt_132 : decode prog_13_method_27_code 132 = .ok (.aload_n 0, 1) := by decide +kernel
theorem dX11_leastAt_133 : decode prog_13_method_27_code 133 = .ok (.getfield 34, 3) := by decide +kernel
theorem dX11_leastAt_136 : decode prog_13_method_27_code 136 = .ok (.iload_n 1, 1) := by decide +kernel
theorem dX11_leastAt_137 : decode prog_13_method_27_code 137 = .ok (.iaload, 1) := by decide +kernel
theorem dX11_leastAt_138 : decode prog_13_method_27_code 138 = .ok (.aload_n 0, 1) := by decide +kernel
theorem dX11_leastAt_139 : decode prog_13_method_27_code 139 = .ok (.getfield 19, 3) := by decide +kernel
theorem dX11_leastAt_142 : decode prog_13_method_27_code 142 = .ok (.iload_n 1, 1) := by decide +kernel
theorem dX11_leastAt_143 : decode prog_13_method_27_code 143 = .ok (.iaload, 1) := by decide +kernel
theorem dX11_leastAt_144 : decode prog_13_method_27_code 144 = .ok (.invokevirtual 180, 3) := by decide +kernel
theorem dX11_leastAt_147 : decode prog_13_method_27_code 147 = .ok (.goto 26, 3) := by decide +kernel
theorem dX11_leastAt_150 : decode prog_13_method_27_code 150 = .ok (.aload_n 0, 1) := by decide +kernel
theorem dX11_leastAt_151 : decode prog_13_method_27_code 151 = .ok (.aload_n 0, 1) := by decide +kernel
theorem dX11_leastAt_152 : decode prog_13_method_27_code 152 = .ok (.getfield 34, 3) := by decide +kernel
theorem dX11_leastAt_155 : decode prog_13_method_27_code 155 = .ok (.iload_n 1, 1) := by decide +kernel
theorem dX11_leastAt_156 : decode prog_13_method_27_code 156 = .ok (.iaload, 1) := by decide +kernel
theorem dX11_leastAt_157 : decode prog_13_method_27_code 157 = .ok (.aload_n 0, 1) := by decide +kernel
theorem dX11_leastAt_158 : decode prog_13_method_27_code 158 = .ok (.getfield 16, 3) := by decide +kernel
theorem dX11_leastAt_161 : decode prog_13_method_27_code 161 = .ok (.iload_n 1, 1) := by decide +kernel
theorem dX11_leastAt_162 : decode prog_13_method_27_code 162 = .ok (.iaload, 1) := by decide +kernel
theorem dX11_leastAt_163 : decode prog_13_method_27_code 163 = .ok (.imul, 1) := by decide +kernel
theorem dX11_leastAt_164 : decode prog_13_method_27_code 164 = .ok (.aload_n 0, 1) := by decide +kernel
theorem dX11_leastAt_165 : decode prog_13_method_27_code 165 = .ok (.getfield 22, 3) := by decide +kernel
theorem dX11_leastAt_168 : decode prog_13_method_27_code 168 = .ok (.iload_n 1, 1) := by decide +kernel
theorem dX11_leastAt_169 : decode prog_13_method_27_code 169 = .ok (.iaload, 1) := by decide +kernel
theorem dX11_leastAt_170 : decode prog_13_method_27_code 170 = .ok (.invokevirtual 180, 3) := by decide +kernel
theorem dX11_leastAt_173 : decode prog_13_method_27_code 173 = .ok (.ireturn, 1) := by decide +kernel
theorem dX11_leastAt_174 : decode prog_13_method_27_code 174 = .ok (.aload_n 0, 1) := by decide +kernel
theorem dX11_leastAt_175 : decode prog_13_method_27_code 175 = .ok (.aload_n 0, 1) := by decide +kernel
theorem dX11_leastAt_176 : decode prog_13_method_27_code 176 = .ok (.iload_n 1, 1) := by decide +kernel
theorem dX11_leastAt_177 : decode prog_13_method_27_code 177 = .ok (.invokevirtual 190, 3) := by decide +kernel
theorem dX11_leastAt_180 : decode prog_13_method_27_code 180 = .ok (.aload_n 0, 1) := by decide +kernel
theorem dX11_leastAt_181 : decode prog_13_method_27_code 181 = .ok (.getfield 19, 3) := by decide +kernel
theorem dX11_leastAt_184 : decode prog_13_method_27_code 184 = .ok (.iload_n 1, 1) := by decide +kernel
theorem dX11_leastAt_185 : decode prog_13_method_27_code 185 = .ok (.iaload, 1) := by decide +kernel
theorem dX11_leastAt_186 : decode prog_13_method_27_code 186 = .ok (.invokevirtual 180, 3) := by decide +kernel
theorem dX11_leastAt_189 : decode prog_13_method_27_code 189 = .ok (.istore_n 2, 1) := by decide +kernel
theorem dX11_leastAt_190 : decode prog_13_method_27_code 190 = .ok (.iconst 0, 1) := by decide +kernel
theorem dX11_leastAt_191 : decode prog_13_method_27_code 191 = .ok (.istore_n 3, 1) := by decide +kernel
theorem dX11_leastAt_192 : decode prog_13_method_27_code 192 = .ok (.iload_n 3, 1) := by decide +kernel
theorem dX11_leastAt_193 : decode prog_13_method_27_code 193 = .ok (.aload_n 0, 1) := by decide +kernel
theorem dX11_leastAt_194 : decode prog_13_method_27_code 194 = .ok (.getfield 37, 3) := by decide +kernel
theorem dX11_leastAt_197 : decode prog_13_method_27_code 197 = .ok (.iload_n 1, 1) := by decide +kernel
theorem dX11_leastAt_198 : decode prog_13_method_27_code 198 = .ok (.iaload, 1) := by decide +kernel
theorem dX11_leastAt_199 : decode prog_13_method_27_code 199 = .ok (.if_icmp .ge 40, 3) := by decide +kernel
theorem dX11_leastAt_202 : decode prog_13_method_27_code 202 = .ok (.aload_n 0, 1) := by decide +kernel
theorem dX11_leastAt_203 : decode prog_13_method_27_code 203 = .ok (.iconst 1, 1) := by decide +kernel
theorem dX11_leastAt_204 : decode prog_13_method_27_code 204 = .ok (.aload_n 0, 1) := by decide +kernel
theorem dX11_leastAt_205 : decode prog_13_method_27_code 205 = .ok (.getfield 49, 3) := by decide +kernel
theorem dX11_leastAt_208 : decode prog_13_method_27_code 208 = .ok (.bipush 6, 2) := by decide +kernel
theorem dX11_leastAt_210 : decode prog_13_method_27_code 210 = .ok (.iload_n 1, 1) := by decide +kernel
theorem dX11_leastAt_211 : decode prog_13_method_27_code 211 = .ok (.imul, 1) := by decide +kernel
theorem dX11_leastAt_212 : decode prog_13_method_27_code 212 = .ok (.iload_n 3, 1) := by decide +kernel
theorem dX11_leastAt_213 : decode prog_13_method_27_code 213 = .ok (.iadd, 1) := by decide +kernel
theorem dX11_leastAt_214 : decode prog_13_method_27_code 214 = .ok (.iaload, 1) := by decide +kernel
theorem dX11_leastAt_215 : decode prog_13_method_27_code 215 = .ok (.invokevirtual 180, 3) := by decide +kernel
theorem dX11_leastAt_218 : decode prog_13_method_27_code 218 = .ok (.istore 4, 2) := by decide +kernel
theorem dX11_leastAt_220 : decode prog_13_method_27_code 220 = .ok (.iload 4, 2) := by decide +kernel
theorem dX11_leastAt_222 : decode prog_13_method_27_code 222 = .ok (.iload_n 2, 1) := by decide +kernel
theorem dX11_leastAt_223 : decode prog_13_method_27_code 223 = .ok (.if_icmp .ge 8, 3) := by decide +kernel
theorem dX11_leastAt_226 : decode prog_13_method_27_code 226 = .ok (.iload 4, 2) := by decide +kernel
theorem dX11_leastAt_228 : decode prog_13_method_27_code 228 = .ok (.goto 4, 3) := by decide +kernel
theorem dX11_leastAt_231 : decode prog_13_method_27_code 231 = .ok (.iload_n 2, 1) := by decide +kernel
theorem dX11_leastAt_232 : decode prog_13_method_27_code 232 = .ok (.istore_n 2, 1) := by decide +kernel
theorem dX11_leastAt_233 : decode prog_13_method_27_code 233 = .ok (.iinc 3 1, 3) := by decide +kernel
theorem dX11_leastAt_236 : decode prog_13_method_27_code 236 = .ok (.goto (-44), 3) := by decide +kernel
theorem dX11_leastAt_239 : decode prog_13_method_27_code 239 = .ok (.iload_n 2, 1) := by decide +kernel
theorem dX11_leastAt_240 : decode prog_13_method_27_code 240 = .ok (.ireturn, 1) := by decide +kernel
abbrev rmX11_leastAt : Room := { frames := 4, cells := 0, slots := 0, locals := 87 }
def bX11_leastAt_192  (rc : Nat → Int32 → Int32 → Int32 → Hp → Option (Int32 × Hp)) (t0 : Nat) (v1 : Int32) (v2 : Int32) (v3 : Int32) (h : Hp) : Option (Int32 × Hp) :=
  gk (h.1 t0) 12 <|
  bd (h.2.2.2.1 t0 10) fun a2 =>
  gk (h.1 a2) 13 <|
  gd (ix v1 (h.2.1 a2)) <|
  if (h.2.2.1 a2 (Int32.toNatClampNeg v1)) ≤ v3 then
  (some (v2, h))
  else
  (bd (h.2.2.2.1 t0 14) fun a7 =>
  gk (h.1 a7) 13 <|
  gd (ix ((6 * v1) + v3) (h.2.1 a7)) <|
  b2 (fX11_through t0 1 (h.2.2.1 a7 (Int32.toNatClampNeg ((6 * v1) + v3))) h) fun r13 g11 =>
  if v2 ≤ r13 then
  (nm (v3 + 1) fun x16 =>
  rc t0 v1 v2 x16 g11)
  else
  (nm (v3 + 1) fun x17 =>
  rc t0 v1 r13 x17 g11))
def fX11_leastAt_192  : Nat → Int32 → Int32 → Int32 → Hp → Option (Int32 × Hp) := fx (bX11_leastAt_192 ) (fun _ _ _ _ _ => none) NF
def fX11_leastAt  (t0 : Nat) (v1 : Int32) (h : Hp) : Option (Int32 × Hp) :=
  gk (h.1 t0) 12 <|
  bd (h.2.2.2.1 t0 1) fun a2 =>
  gk (h.1 a2) 13 <|
  gd (ix v1 (h.2.1 a2)) <|
  if (h.2.2.1 a2 (Int32.toNatClampNeg v1)) = 1 then
  (b2 (fX11_isServed t0 v1 h) fun r109 g107 =>
  if r109 = 0 then
  (some (100000000, g107))
  else
  (gk (g107.1 t0) 12 <|
  bd (g107.2.2.2.1 t0 2) fun a113 =>
  gk (g107.1 a113) 13 <|
  gd (ix v1 (g107.2.1 a113)) <|
  some (g107.2.2.1 a113 (Int32.toNatClampNeg v1), g107)))
  else
  (gd (ix v1 (h.2.1 a2)) <|
  if (h.2.2.1 a2 (Int32.toNatClampNeg v1)) = 2 then
  (b2 (fX11_isServed t0 v1 h) fun r86 g84 =>
  if r86 = 0 then
  (gk (g84.1 t0) 12 <|
  bd (g84.2.2.2.1 t0 2) fun a90 =>
  gk (g84.1 a90) 13 <|
  gd (ix v1 (g84.2.1 a90)) <|
  bd (g84.2.2.2.1 t0 4) fun a94 =>
  gk (g84.1 a94) 13 <|
  gd (ix v1 (g84.2.1 a94)) <|
  b2 (fX11_through t0 (g84.2.2.1 a90 (Int32.toNatClampNeg v1)) (g84.2.2.1 a94 (Int32.toNatClampNeg v1)) g84) fun r100 g98 =>
  some (r100, g98))
  else
  (gk (g84.1 t0) 12 <|
  bd (g84.2.2.2.1 t0 2) fun a103 =>
  gk (g84.1 a103) 13 <|
  gd (ix v1 (g84.2.1 a103)) <|
  some (g84.2.2.1 a103 (Int32.toNatClampNeg v1), g84)))
  else
  (gd (ix v1 (h.2.1 a2)) <|
  if (h.2.2.1 a2 (Int32.toNatClampNeg v1)) = 3 then
  (b2 (fX11_isOpen t0 v1 h) fun r63 g61 =>
  if r63 = 0 then
  (gk (g61.1 t0) 12 <|
  bd (g61.2.2.2.1 t0 5) fun a67 =>
  gk (g61.1 a67) 13 <|
  gd (ix v1 (g61.2.1 a67)) <|
  b2 (fX11_through t0 0 (g61.2.2.1 a67 (Int32.toNatClampNeg v1)) g61) fun r73 g71 =>
  some (r73, g71))
  else
  (gk (g61.1 t0) 12 <|
  bd (g61.2.2.2.1 t0 4) fun a76 =>
  gk (g61.1 a76) 13 <|
  gd (ix v1 (g61.2.1 a76)) <|
  b2 (fX11_through t0 0 (g61.2.2.1 a76 (Int32.toNatClampNeg v1)) g61) fun r82 g80 =>
  some (r82, g80)))
  else
  (gd (ix v1 (h.2.1 a2)) <|
  if (h.2.2.1 a2 (Int32.toNatClampNeg v1)) = 4 then
  (b2 (fX11_isRight t0 v1 h) fun r28 g26 =>
  if r28 = 0 then
  (gk (g26.1 t0) 12 <|
  bd (g26.2.2.2.1 t0 9) fun a32 =>
  gk (g26.1 a32) 13 <|
  gd (ix v1 (g26.2.1 a32)) <|
  bd (g26.2.2.2.1 t0 3) fun a36 =>
  gk (g26.1 a36) 13 <|
  gd (ix v1 (g26.2.1 a36)) <|
  bd (g26.2.2.2.1 t0 5) fun a40 =>
  gk (g26.1 a40) 13 <|
  gd (ix v1 (g26.2.1 a40)) <|
  b2 (fX11_through t0 ((g26.2.2.1 a32 (Int32.toNatClampNeg v1)) * (g26.2.2.1 a36 (Int32.toNatClampNeg v1))) (g26.2.2.1 a40 (Int32.toNatClampNeg v1)) g26) fun r46 g44 =>
  some (r46, g44))
  else
  (gk (g26.1 t0) 12 <|
  bd (g26.2.2.2.1 t0 9) fun a49 =>
  gk (g26.1 a49) 13 <|
  gd (ix v1 (g26.2.1 a49)) <|
  bd (g26.2.2.2.1 t0 4) fun a53 =>
  gk (g26.1 a53) 13 <|
  gd (ix v1 (g26.2.1 a53)) <|
  b2 (fX11_through t0 (g26.2.2.1 a49 (Int32.toNatClampNeg v1)) (g26.2.2.1 a53 (Int32.toNatClampNeg v1)) g26) fun r59 g57 =>
  some (r59, g57)))
  else
  (b2 (fX11_heard t0 v1 h) fun r15 g13 =>
  gk (g13.1 t0) 12 <|
  bd (g13.2.2.2.1 t0 4) fun a18 =>
  gk (g13.1 a18) 13 <|
  gd (ix v1 (g13.2.1 a18)) <|
  b2 (fX11_through t0 r15 (g13.2.2.1 a18 (Int32.toNatClampNeg v1)) g13) fun r24 g22 =>
  fX11_leastAt_192  t0 v1 r24 0 g22))))
section
variable {p : Program} {l : Launch} {e : Env} {s : State} {m : MethodId} {args : Array Value} {below : List Frame} {meth : Method} {c : Code} {D : va_G} {cA : Nat → ClassId} {h0 h9 : Hp}
set_option maxHeartbeats 4000000 in
set_option maxRecDepth 100000 in
theorem tX11_leastAt_192  {r : Int32} (cx : CallFix p m c prog_13_method_27_code 5 s args tbG RX11) (hr : meth.sig.returnType = (Option.some FieldType.int)) (hlk : meth.locks = false)  (n : Nat) : ∀ (t0 : Nat) (v1 : Int32) (v2 : Int32) (v3 : Int32) (h : Hp) (H : Heap) (locs : List Loc) (ls : Array Slot), hp_B D cA (hp_A h0) s h H locs → lv_has ls 5 [(0, .ref t0), (1, .int v1), (2, .int v2), (3, .int v3)] → fx (bX11_leastAt_192 ) (fun _ _ _ _ _ => none) n t0 v1 v2 v3 h = some (r, h9) → W p l e rmX11_leastAt s m args below meth c H locs 0 0 (MQ below (hp_Qi D cA h0 h9 r) args s 0 0 (hp_A h0)) (F0 m 192 ls []) := by
  obtain ⟨hx, hb, -⟩ := id cx
  induction n with
  | zero => intro t0 v1 v2 v3 h H locs ls hB hl hf; cases hf
  | succ n ih =>
    intro t0 v1 v2 v3 h H locs ls hB hl hf
    replace hf : bX11_leastAt_192  (fx (bX11_leastAt_192 ) (fun _ _ _ _ _ => none) n) t0 v1 v2 v3 h = some (r, h9) := hf
    unfold bX11_leastAt_192 at hf
    refine lv_iload_n hx hb dX11_leastAt_192 rfl (lv_at hl 3 rfl) ?_
    refine lv_aload_n hx hb dX11_leastAt_193 rfl (lv_at hl 0 rfl) ?_
    obtain ⟨k1, hf⟩ := gk_ok hf
    obtain ⟨a2, q3, hf⟩ := bd_ok hf
    refine gf_X11_37 cx hB k1 q3 dX11_leastAt_194 ?_
    refine lv_iload_n hx hb dX11_leastAt_197 rfl (lv_at hl 1 rfl) ?_
    obtain ⟨k4, hf⟩ := gk_ok hf
    obtain ⟨j5, hf⟩ := gd_ok hf
    refine hp_iald cx hB k4 j5 dX11_leastAt_198 ?_
    refine lv_icmp_ge (tgt := 239) hx hb dX11_leastAt_199 (by decide) (fun c6 => ?_) (fun c6 => ?_)
    · replace hf := it_t c6 hf
      refine lv_iload_n hx hb dX11_leastAt_239 rfl (lv_at hl 2 rfl) ?_
      obtain ⟨rfl, rfl⟩ := rt_ok hf
      exact hp_iret cx hB hr hlk (Nat.le_of_ble_eq_true rfl) (Nat.le_of_ble_eq_true rfl) dX11_leastAt_240
    · replace hf := it_f c6 hf
      refine lv_aload_n hx hb dX11_leastAt_202 rfl (lv_at hl 0 rfl) ?_
      refine lv_iconst (v := 1) hx hb dX11_leastAt_203 (by decide) ?_
      refine lv_aload_n hx hb dX11_leastAt_204 rfl (lv_at hl 0 rfl) ?_
      obtain ⟨a7, q8, hf⟩ := bd_ok hf
      refine gf_X11_49 cx hB k1 q8 dX11_leastAt_205 ?_
      refine lv_bipush (v := 6) hx hb dX11_leastAt_208 (by decide) ?_
      refine lv_iload_n hx hb dX11_leastAt_210 rfl (lv_at hl 1 rfl) ?_
      refine lv_imul hx hb dX11_leastAt_211 ?_
      refine lv_iload_n hx hb dX11_leastAt_212 rfl (lv_at hl 3 rfl) ?_
      refine lv_iadd hx hb dX11_leastAt_213 ?_
      obtain ⟨k9, hf⟩ := gk_ok hf
      obtain ⟨j10, hf⟩ := gd_ok hf
      refine hp_iald cx hB k9 j10 dX11_leastAt_214 ?_
      obtain ⟨r13, g11, m12, hf⟩ := b2_ok hf
      refine hp_cI0 (cl_X11_180 cx hB (cX11_through l D cA t0 1 (h.2.2.1 a7 (Int32.toNatClampNeg ((6 * v1) + v3))) h _ g11 m12) k1 ⟨Nat.le_of_ble_eq_true rfl, Nat.le_of_ble_eq_true rfl⟩ rfl hl.1 rfl (Nat.le_of_ble_eq_true rfl) ⟨Nat.le_of_ble_eq_true rfl, Nat.le_of_ble_eq_true rfl⟩ dX11_leastAt_215) rfl rfl hB (fun H locs hB => ?_)
      refine lv_istore (lv' := [(4, .int r13), (0, .ref t0), (1, .int v1), (2, .int v2), (3, .int v3)]) hx hb dX11_leastAt_218 hl (by decide) rfl (fun ls hl => ?_)
      refine lv_iload hx hb dX11_leastAt_220 (lv_at hl 0 rfl) ?_
      refine lv_iload_n hx hb dX11_leastAt_222 rfl (lv_at hl 3 rfl) ?_
      refine lv_icmp_ge (tgt := 231) hx hb dX11_leastAt_223 (by decide) (fun c15 => ?_) (fun c15 => ?_)
      · replace hf := it_t c15 hf
        refine lv_iload_n hx hb dX11_leastAt_231 rfl (lv_at hl 3 rfl) ?_
        refine lv_istore_n (lv' := [(2, .int v2), (4, .int r13), (0, .ref t0), (1, .int v1), (3, .int v3)]) hx hb dX11_leastAt_232 rfl hl (by decide) rfl (fun ls hl => ?_)
        obtain ⟨x16, ex16, hf⟩ := nm_ok hf
        refine lv_iinc (v := x16) (lv' := [(3, .int x16), (2, .int v2), (4, .int r13), (0, .ref t0), (1, .int v1)]) hx hb dX11_leastAt_233 hl (k := 4) rfl (by rw [ex16]; rfl) (by decide) rfl (fun ls hl => ?_)
        refine lv_goto (tgt := 192) hx hb dX11_leastAt_236 (by decide) ?_
        exact ih t0 v1 v2 x16 g11 _ _ _ hB (lv_sub hl [3, 4, 1, 0] rfl) hf
      · replace hf := it_f c15 hf
        refine lv_iload hx hb dX11_leastAt_226 (lv_at hl 0 rfl) ?_
        refine lv_goto (tgt := 232) hx hb dX11_leastAt_228 (by decide) ?_
        refine lv_istore_n (lv' := [(2, .int r13), (4, .int r13), (0, .ref t0), (1, .int v1), (3, .int v3)]) hx hb dX11_leastAt_232 rfl hl (by decide) rfl (fun ls hl => ?_)
        obtain ⟨x17, ex17, hf⟩ := nm_ok hf
        refine lv_iinc (v := x17) (lv' := [(3, .int x17), (2, .int r13), (4, .int r13), (0, .ref t0), (1, .int v1)]) hx hb dX11_leastAt_233 hl (k := 4) rfl (by rw [ex17]; rfl) (by decide) rfl (fun ls hl => ?_)
        refine lv_goto (tgt := 192) hx hb dX11_leastAt_236 (by decide) ?_
        exact ih t0 v1 r13 x17 g11 _ _ _ hB (lv_sub hl [3, 4, 1, 0] rfl) hf
set_option maxHeartbeats 4000000 in
set_option maxRecDepth 100000 in
theorem tX11_leastAt_0  {r : Int32} (cx : CallFix p m c prog_13_method_27_code 5 s args tbG RX11) (hr : meth.sig.returnType = (Option.some FieldType.int)) (hlk : meth.locks = false)  (t0 : Nat) (v1 : Int32) (h : Hp) (H : Heap) (locs : List Loc) (ls : Array Slot) (hB : hp_B D cA (hp_A h0) s h H locs) (hl : lv_has ls 5 [(0, .ref t0), (1, .int v1)]) (hf : fX11_leastAt  t0 v1 h = some (r, h9)) : W p l e rmX11_leastAt s m args below meth c H locs 0 0 (MQ below (hp_Qi D cA h0 h9 r) args s 0 0 (hp_A h0)) (F0 m 0 ls []) := by
  obtain ⟨hx, hb, -⟩ := id cx
  unfold fX11_leastAt at hf
  refine lv_aload_n hx hb dX11_leastAt_0 rfl (lv_at hl 0 rfl) ?_
  obtain ⟨k1, hf⟩ := gk_ok hf
  obtain ⟨a2, q3, hf⟩ := bd_ok hf
  refine gf_X11_7 cx hB k1 q3 dX11_leastAt_1 ?_
  refine lv_iload_n hx hb dX11_leastAt_4 rfl (lv_at hl 1 rfl) ?_
  obtain ⟨k4, hf⟩ := gk_ok hf
  obtain ⟨j5, hf⟩ := gd_ok hf
  refine hp_iald cx hB k4 j5 dX11_leastAt_5 ?_
  refine lv_iconst (v := 1) hx hb dX11_leastAt_6 (by decide) ?_
  refine lv_icmp_ne (tgt := 30) hx hb dX11_leastAt_7 (by decide) (fun c6 => ?_) (fun c6 => ?_)
  · replace hf := it_f c6 hf
    refine lv_aload_n hx hb dX11_leastAt_30 rfl (lv_at hl 0 rfl) ?_
    refine gf_X11_7 cx hB k1 q3 dX11_leastAt_31 ?_
    refine lv_iload_n hx hb dX11_leastAt_34 rfl (lv_at hl 1 rfl) ?_
    obtain ⟨j7, hf⟩ := gd_ok hf
    refine hp_iald cx hB k4 j7 dX11_leastAt_35 ?_
    refine lv_iconst (v := 2) hx hb dX11_leastAt_36 (by decide) ?_
    refine lv_icmp_ne (tgt := 74) hx hb dX11_leastAt_37 (by decide) (fun c8 => ?_) (fun c8 => ?_)
    · replace hf := it_f c8 hf
      refine lv_aload_n hx hb dX11_leastAt_74 rfl (lv_at hl 0 rfl) ?_
      refine gf_X11_7 cx hB k1 q3 dX11_leastAt_75 ?_
      refine lv_iload_n hx hb dX11_leastAt_78 rfl (lv_at hl 1 rfl) ?_
      obtain ⟨j9, hf⟩ := gd_ok hf
      refine hp_iald cx hB k4 j9 dX11_leastAt_79 ?_
      refine lv_iconst (v := 3) hx hb dX11_leastAt_80 (by decide) ?_
      refine lv_icmp_ne (tgt := 113) hx hb dX11_leastAt_81 (by decide) (fun c10 => ?_) (fun c10 => ?_)
      · replace hf := it_f c10 hf
        refine lv_aload_n hx hb dX11_leastAt_113 rfl (lv_at hl 0 rfl) ?_
        refine gf_X11_7 cx hB k1 q3 dX11_leastAt_114 ?_
        refine lv_iload_n hx hb dX11_leastAt_117 rfl (lv_at hl 1 rfl) ?_
        obtain ⟨j11, hf⟩ := gd_ok hf
        refine hp_iald cx hB k4 j11 dX11_leastAt_118 ?_
        refine lv_iconst (v := 4) hx hb dX11_leastAt_119 (by decide) ?_
        refine lv_icmp_ne (tgt := 174) hx hb dX11_leastAt_120 (by decide) (fun c12 => ?_) (fun c12 => ?_)
        · replace hf := it_f c12 hf
          refine lv_aload_n hx hb dX11_leastAt_174 rfl (lv_at hl 0 rfl) ?_
          refine lv_aload_n hx hb dX11_leastAt_175 rfl (lv_at hl 0 rfl) ?_
          refine lv_iload_n hx hb dX11_leastAt_176 rfl (lv_at hl 1 rfl) ?_
          obtain ⟨r15, g13, m14, hf⟩ := b2_ok hf
          refine hp_cI0 (cl_X11_190 cx hB (cX11_heard l D cA t0 v1 h _ g13 m14) k1 ⟨Nat.le_of_ble_eq_true rfl, Nat.le_of_ble_eq_true rfl⟩ rfl hl.1 rfl (Nat.le_of_ble_eq_true rfl) ⟨Nat.le_of_ble_eq_true rfl, Nat.le_of_ble_eq_true rfl⟩ dX11_leastAt_177) rfl rfl hB (fun H locs hB => ?_)
          refine lv_aload_n hx hb dX11_leastAt_180 rfl (lv_at hl 0 rfl) ?_
          obtain ⟨k17, hf⟩ := gk_ok hf
          obtain ⟨a18, q19, hf⟩ := bd_ok hf
          refine gf_X11_19 cx hB k17 q19 dX11_leastAt_181 ?_
          refine lv_iload_n hx hb dX11_leastAt_184 rfl (lv_at hl 1 rfl) ?_
          obtain ⟨k20, hf⟩ := gk_ok hf
          obtain ⟨j21, hf⟩ := gd_ok hf
          refine hp_iald cx hB k20 j21 dX11_leastAt_185 ?_
          obtain ⟨r24, g22, m23, hf⟩ := b2_ok hf
          refine hp_cI0 (cl_X11_180 cx hB (cX11_through l D cA t0 r15 (g13.2.2.1 a18 (Int32.toNatClampNeg v1)) g13 _ g22 m23) k17 ⟨Nat.le_of_ble_eq_true rfl, Nat.le_of_ble_eq_true rfl⟩ rfl hl.1 rfl (Nat.le_of_ble_eq_true rfl) ⟨Nat.le_of_ble_eq_true rfl, Nat.le_of_ble_eq_true rfl⟩ dX11_leastAt_186) rfl rfl hB (fun H locs hB => ?_)
          refine lv_istore_n (lv' := [(2, .int r24), (0, .ref t0), (1, .int v1)]) hx hb dX11_leastAt_189 rfl hl (by decide) rfl (fun ls hl => ?_)
          refine lv_iconst (v := 0) hx hb dX11_leastAt_190 (by decide) ?_
          refine lv_istore_n (lv' := [(3, .int 0), (2, .int r24), (0, .ref t0), (1, .int v1)]) hx hb dX11_leastAt_191 rfl hl (by decide) rfl (fun ls hl => ?_)
          exact tX11_leastAt_192 cx hr hlk  NF t0 v1 r24 0 g22 _ _ _ hB (lv_sub hl [2, 3, 1, 0] rfl) hf
        · replace hf := it_t c12 hf
          refine lv_aload_n hx hb dX11_leastAt_123 rfl (lv_at hl 0 rfl) ?_
          refine lv_iload_n hx hb dX11_leastAt_124 rfl (lv_at hl 1 rfl) ?_
          obtain ⟨r28, g26, m27, hf⟩ := b2_ok hf
          refine hp_cI0 (cl_X11_187 cx hB (cX11_isRight l D cA t0 v1 h _ g26 m27) k1 ⟨Nat.le_of_ble_eq_true rfl, Nat.le_of_ble_eq_true rfl⟩ rfl hl.1 rfl (Nat.le_of_ble_eq_true rfl) ⟨Nat.le_of_ble_eq_true rfl, Nat.le_of_ble_eq_true rfl⟩ dX11_leastAt_125) rfl rfl hB (fun H locs hB => ?_)
          refine lv_if_eq (tgt := 150) hx hb dX11_leastAt_128 (by decide) (fun c30 => ?_) (fun c30 => ?_)
          · replace hf := it_t c30 hf
            refine lv_aload_n hx hb dX11_leastAt_150 rfl (lv_at hl 0 rfl) ?_
            refine lv_aload_n hx hb dX11_leastAt_151 rfl (lv_at hl 0 rfl) ?_
            obtain ⟨k31, hf⟩ := gk_ok hf
            obtain ⟨a32, q33, hf⟩ := bd_ok hf
            refine gf_X11_34 cx hB k31 q33 dX11_leastAt_152 ?_
            refine lv_iload_n hx hb dX11_leastAt_155 rfl (lv_at hl 1 rfl) ?_
            obtain ⟨k34, hf⟩ := gk_ok hf
            obtain ⟨j35, hf⟩ := gd_ok hf
            refine hp_iald cx hB k34 j35 dX11_leastAt_156 ?_
            refine lv_aload_n hx hb dX11_leastAt_157 rfl (lv_at hl 0 rfl) ?_
            obtain ⟨a36, q37, hf⟩ := bd_ok hf
            refine gf_X11_16 cx hB k31 q37 dX11_leastAt_158 ?_
            refine lv_iload_n hx hb dX11_leastAt_161 rfl (lv_at hl 1 rfl) ?_
            obtain ⟨k38, hf⟩ := gk_ok hf
            obtain ⟨j39, hf⟩ := gd_ok hf
            refine hp_iald cx hB k38 j39 dX11_leastAt_162 ?_
            refine lv_imul hx hb dX11_leastAt_163 ?_
            refine lv_aload_n hx hb dX11_leastAt_164 rfl (lv_at hl 0 rfl) ?_
            obtain ⟨a40, q41, hf⟩ := bd_ok hf
            refine gf_X11_22 cx hB k31 q41 dX11_leastAt_165 ?_
            refine lv_iload_n hx hb dX11_leastAt_168 rfl (lv_at hl 1 rfl) ?_
            obtain ⟨k42, hf⟩ := gk_ok hf
            obtain ⟨j43, hf⟩ := gd_ok hf
            refine hp_iald cx hB k42 j43 dX11_leastAt_169 ?_
            obtain ⟨r46, g44, m45, hf⟩ := b2_ok hf
            refine hp_cI0 (cl_X11_180 cx hB (cX11_through l D cA t0 ((g26.2.2.1 a32 (Int32.toNatClampNeg v1)) * (g26.2.2.1 a36 (Int32.toNatClampNeg v1))) (g26.2.2.1 a40 (Int32.toNatClampNeg v1)) g26 _ g44 m45) k31 ⟨Nat.le_of_ble_eq_true rfl, Nat.le_of_ble_eq_true rfl⟩ rfl hl.1 rfl (Nat.le_of_ble_eq_true rfl) ⟨Nat.le_of_ble_eq_true rfl, Nat.le_of_ble_eq_true rfl⟩ dX11_leastAt_170) rfl rfl hB (fun H locs hB => ?_)
            obtain ⟨rfl, rfl⟩ := rt_ok hf
            exact hp_iret cx hB hr hlk (Nat.le_of_ble_eq_true rfl) (Nat.le_of_ble_eq_true rfl) dX11_leastAt_173
          · replace hf := it_f c30 hf
            refine lv_aload_n hx hb dX11_leastAt_131 rfl (lv_at hl 0 rfl) ?_
            refine lv_aload_n hx hb dX11_leastAt_132 rfl (lv_at hl 0 rfl) ?_
            obtain ⟨k48, hf⟩ := gk_ok hf
            obtain ⟨a49, q50, hf⟩ := bd_ok hf
            refine gf_X11_34 cx hB k48 q50 dX11_leastAt_133 ?_
            refine lv_iload_n hx hb dX11_leastAt_136 rfl (lv_at hl 1 rfl) ?_
            obtain ⟨k51, hf⟩ := gk_ok hf
            obtain ⟨j52, hf⟩ := gd_ok hf
            refine hp_iald cx hB k51 j52 dX11_leastAt_137 ?_
            refine lv_aload_n hx hb dX11_leastAt_138 rfl (lv_at hl 0 rfl) ?_
            obtain ⟨a53, q54, hf⟩ := bd_ok hf
            refine gf_X11_19 cx hB k48 q54 dX11_leastAt_139 ?_
            refine lv_iload_n hx hb dX11_leastAt_142 rfl (lv_at hl 1 rfl) ?_
            obtain ⟨k55, hf⟩ := gk_ok hf
            obtain ⟨j56, hf⟩ := gd_ok hf
            refine hp_iald cx hB k55 j56 dX11_leastAt_143 ?_
            obtain ⟨r59, g57, m58, hf⟩ := b2_ok hf
            refine hp_cI0 (cl_X11_180 cx hB (cX11_through l D cA t0 (g26.2.2.1 a49 (Int32.toNatClampNeg v1)) (g26.2.2.1 a53 (Int32.toNatClampNeg v1)) g26 _ g57 m58) k48 ⟨Nat.le_of_ble_eq_true rfl, Nat.le_of_ble_eq_true rfl⟩ rfl hl.1 rfl (Nat.le_of_ble_eq_true rfl) ⟨Nat.le_of_ble_eq_true rfl, Nat.le_of_ble_eq_true rfl⟩ dX11_leastAt_144) rfl rfl hB (fun H locs hB => ?_)
            refine lv_goto (tgt := 173) hx hb dX11_leastAt_147 (by decide) ?_
            obtain ⟨rfl, rfl⟩ := rt_ok hf
            exact hp_iret cx hB hr hlk (Nat.le_of_ble_eq_true rfl) (Nat.le_of_ble_eq_true rfl) dX11_leastAt_173
      · replace hf := it_t c10 hf
        refine lv_aload_n hx hb dX11_leastAt_84 rfl (lv_at hl 0 rfl) ?_
        refine lv_iconst (v := 0) hx hb dX11_leastAt_85 (by decide) ?_
        refine lv_aload_n hx hb dX11_leastAt_86 rfl (lv_at hl 0 rfl) ?_
        refine lv_iload_n hx hb dX11_leastAt_87 rfl (lv_at hl 1 rfl) ?_
        obtain ⟨r63, g61, m62, hf⟩ := b2_ok hf
        refine hp_cI0 (cl_X11_184 cx hB (cX11_isOpen l D cA t0 v1 h _ g61 m62) k1 ⟨Nat.le_of_ble_eq_true rfl, Nat.le_of_ble_eq_true rfl⟩ rfl hl.1 rfl (Nat.le_of_ble_eq_true rfl) ⟨Nat.le_of_ble_eq_true rfl, Nat.le_of_ble_eq_true rfl⟩ dX11_leastAt_88) rfl rfl hB (fun H locs hB => ?_)
        refine lv_if_eq (tgt := 103) hx hb dX11_leastAt_91 (by decide) (fun c65 => ?_) (fun c65 => ?_)
        · replace hf := it_t c65 hf
          refine lv_aload_n hx hb dX11_leastAt_103 rfl (lv_at hl 0 rfl) ?_
          obtain ⟨k66, hf⟩ := gk_ok hf
          obtain ⟨a67, q68, hf⟩ := bd_ok hf
          refine gf_X11_22 cx hB k66 q68 dX11_leastAt_104 ?_
          refine lv_iload_n hx hb dX11_leastAt_107 rfl (lv_at hl 1 rfl) ?_
          obtain ⟨k69, hf⟩ := gk_ok hf
          obtain ⟨j70, hf⟩ := gd_ok hf
          refine hp_iald cx hB k69 j70 dX11_leastAt_108 ?_
          obtain ⟨r73, g71, m72, hf⟩ := b2_ok hf
          refine hp_cI0 (cl_X11_180 cx hB (cX11_through l D cA t0 0 (g61.2.2.1 a67 (Int32.toNatClampNeg v1)) g61 _ g71 m72) k66 ⟨Nat.le_of_ble_eq_true rfl, Nat.le_of_ble_eq_true rfl⟩ rfl hl.1 rfl (Nat.le_of_ble_eq_true rfl) ⟨Nat.le_of_ble_eq_true rfl, Nat.le_of_ble_eq_true rfl⟩ dX11_leastAt_109) rfl rfl hB (fun H locs hB => ?_)
          obtain ⟨rfl, rfl⟩ := rt_ok hf
          exact hp_iret cx hB hr hlk (Nat.le_of_ble_eq_true rfl) (Nat.le_of_ble_eq_true rfl) dX11_leastAt_112
        · replace hf := it_f c65 hf
          refine lv_aload_n hx hb dX11_leastAt_94 rfl (lv_at hl 0 rfl) ?_
          obtain ⟨k75, hf⟩ := gk_ok hf
          obtain ⟨a76, q77, hf⟩ := bd_ok hf
          refine gf_X11_19 cx hB k75 q77 dX11_leastAt_95 ?_
          refine lv_iload_n hx hb dX11_leastAt_98 rfl (lv_at hl 1 rfl) ?_
          obtain ⟨k78, hf⟩ := gk_ok hf
          obtain ⟨j79, hf⟩ := gd_ok hf
          refine hp_iald cx hB k78 j79 dX11_leastAt_99 ?_
          refine lv_goto (tgt := 109) hx hb dX11_leastAt_100 (by decide) ?_
          obtain ⟨r82, g80, m81, hf⟩ := b2_ok hf
          refine hp_cI0 (cl_X11_180 cx hB (cX11_through l D cA t0 0 (g61.2.2.1 a76 (Int32.toNatClampNeg v1)) g61 _ g80 m81) k75 ⟨Nat.le_of_ble_eq_true rfl, Nat.le_of_ble_eq_true rfl⟩ rfl hl.1 rfl (Nat.le_of_ble_eq_true rfl) ⟨Nat.le_of_ble_eq_true rfl, Nat.le_of_ble_eq_true rfl⟩ dX11_leastAt_109) rfl rfl hB (fun H locs hB => ?_)
          obtain ⟨rfl, rfl⟩ := rt_ok hf
          exact hp_iret cx hB hr hlk (Nat.le_of_ble_eq_true rfl) (Nat.le_of_ble_eq_true rfl) dX11_leastAt_112
    · replace hf := it_t c8 hf
      refine lv_aload_n hx hb dX11_leastAt_40 rfl (lv_at hl 0 rfl) ?_
      refine lv_iload_n hx hb dX11_leastAt_41 rfl (lv_at hl 1 rfl) ?_
      obtain ⟨r86, g84, m85, hf⟩ := b2_ok hf
      refine hp_cI0 (cl_X11_177 cx hB (cX11_isServed l D cA t0 v1 h _ g84 m85) k1 ⟨Nat.le_of_ble_eq_true rfl, Nat.le_of_ble_eq_true rfl⟩ rfl hl.1 rfl (Nat.le_of_ble_eq_true rfl) ⟨Nat.le_of_ble_eq_true rfl, Nat.le_of_ble_eq_true rfl⟩ dX11_leastAt_42) rfl rfl hB (fun H locs hB => ?_)
      refine lv_if_eq (tgt := 57) hx hb dX11_leastAt_45 (by decide) (fun c88 => ?_) (fun c88 => ?_)
      · replace hf := it_t c88 hf
        refine lv_aload_n hx hb dX11_leastAt_57 rfl (lv_at hl 0 rfl) ?_
        refine lv_aload_n hx hb dX11_leastAt_58 rfl (lv_at hl 0 rfl) ?_
        obtain ⟨k89, hf⟩ := gk_ok hf
        obtain ⟨a90, q91, hf⟩ := bd_ok hf
        refine gf_X11_13 cx hB k89 q91 dX11_leastAt_59 ?_
        refine lv_iload_n hx hb dX11_leastAt_62 rfl (lv_at hl 1 rfl) ?_
        obtain ⟨k92, hf⟩ := gk_ok hf
        obtain ⟨j93, hf⟩ := gd_ok hf
        refine hp_iald cx hB k92 j93 dX11_leastAt_63 ?_
        refine lv_aload_n hx hb dX11_leastAt_64 rfl (lv_at hl 0 rfl) ?_
        obtain ⟨a94, q95, hf⟩ := bd_ok hf
        refine gf_X11_19 cx hB k89 q95 dX11_leastAt_65 ?_
        refine lv_iload_n hx hb dX11_leastAt_68 rfl (lv_at hl 1 rfl) ?_
        obtain ⟨k96, hf⟩ := gk_ok hf
        obtain ⟨j97, hf⟩ := gd_ok hf
        refine hp_iald cx hB k96 j97 dX11_leastAt_69 ?_
        obtain ⟨r100, g98, m99, hf⟩ := b2_ok hf
        refine hp_cI0 (cl_X11_180 cx hB (cX11_through l D cA t0 (g84.2.2.1 a90 (Int32.toNatClampNeg v1)) (g84.2.2.1 a94 (Int32.toNatClampNeg v1)) g84 _ g98 m99) k89 ⟨Nat.le_of_ble_eq_true rfl, Nat.le_of_ble_eq_true rfl⟩ rfl hl.1 rfl (Nat.le_of_ble_eq_true rfl) ⟨Nat.le_of_ble_eq_true rfl, Nat.le_of_ble_eq_true rfl⟩ dX11_leastAt_70) rfl rfl hB (fun H locs hB => ?_)
        obtain ⟨rfl, rfl⟩ := rt_ok hf
        exact hp_iret cx hB hr hlk (Nat.le_of_ble_eq_true rfl) (Nat.le_of_ble_eq_true rfl) dX11_leastAt_73
      · replace hf := it_f c88 hf
        refine lv_aload_n hx hb dX11_leastAt_48 rfl (lv_at hl 0 rfl) ?_
        obtain ⟨k102, hf⟩ := gk_ok hf
        obtain ⟨a103, q104, hf⟩ := bd_ok hf
        refine gf_X11_13 cx hB k102 q104 dX11_leastAt_49 ?_
        refine lv_iload_n hx hb dX11_leastAt_52 rfl (lv_at hl 1 rfl) ?_
        obtain ⟨k105, hf⟩ := gk_ok hf
        obtain ⟨j106, hf⟩ := gd_ok hf
        refine hp_iald cx hB k105 j106 dX11_leastAt_53 ?_
        refine lv_goto (tgt := 73) hx hb dX11_leastAt_54 (by decide) ?_
        obtain ⟨rfl, rfl⟩ := rt_ok hf
        exact hp_iret cx hB hr hlk (Nat.le_of_ble_eq_true rfl) (Nat.le_of_ble_eq_true rfl) dX11_leastAt_73
  · replace hf := it_t c6 hf
    refine lv_aload_n hx hb dX11_leastAt_10 rfl (lv_at hl 0 rfl) ?_
    refine lv_iload_n hx hb dX11_leastAt_11 rfl (lv_at hl 1 rfl) ?_
    obtain ⟨r109, g107, m108, hf⟩ := b2_ok hf
    refine hp_cI0 (cl_X11_177 cx hB (cX11_isServed l D cA t0 v1 h _ g107 m108) k1 ⟨Nat.le_of_ble_eq_true rfl, Nat.le_of_ble_eq_true rfl⟩ rfl hl.1 rfl (Nat.le_of_ble_eq_true rfl) ⟨Nat.le_of_ble_eq_true rfl, Nat.le_of_ble_eq_true rfl⟩ dX11_leastAt_12) rfl rfl hB (fun H locs hB => ?_)
    refine lv_if_eq (tgt := 27) hx hb dX11_leastAt_15 (by decide) (fun c111 => ?_) (fun c111 => ?_)
    · replace hf := it_t c111 hf
      refine lv_ldc (v := 100000000) hx hb cx.2.2.2.1 (cx.2.2.2.2 _ (tb_in qw_993 rfl)) dX11_leastAt_27 ?_
      obtain ⟨rfl, rfl⟩ := rt_ok hf
      exact hp_iret cx hB hr hlk (Nat.le_of_ble_eq_true rfl) (Nat.le_of_ble_eq_true rfl) dX11_leastAt_29
    · replace hf := it_f c111 hf
      refine lv_aload_n hx hb dX11_leastAt_18 rfl (lv_at hl 0 rfl) ?_
      obtain ⟨k112, hf⟩ := gk_ok hf
      obtain ⟨a113, q114, hf⟩ := bd_ok hf
      refine gf_X11_13 cx hB k112 q114 dX11_leastAt_19 ?_
      refine lv_iload_n hx hb dX11_leastAt_22 rfl (lv_at hl 1 rfl) ?_
      obtain ⟨k115, hf⟩ := gk_ok hf
      obtain ⟨j116, hf⟩ := gd_ok hf
      refine hp_iald cx hB k115 j116 dX11_leastAt_23 ?_
      refine lv_goto (tgt := 29) hx hb dX11_leastAt_24 (by decide) ?_
      obtain ⟨rfl, rfl⟩ := rt_ok hf
      exact hp_iret cx hB hr hlk (Nat.le_of_ble_eq_true rfl) (Nat.le_of_ble_eq_true rfl) dX11_leastAt_29
end
set_option maxHeartbeats 4000000 in
set_option maxRecDepth 100000 in
theorem cX11_leastAt (l : Launch) (D : va_G) (cA : Nat → ClassId) (t0 : Nat) (v1 : Int32) (h : Hp) (r : Int32) (h9 : Hp) (hf : fX11_leastAt t0 v1 h = some (r, h9)) : hp_M l yX11_leastAt prog_13_method_27_code 5 (Option.some FieldType.int) rmX11_leastAt D cA h [.ref t0, .int v1] (hp_Qi D cA h h9 r) := by
  refine Met.ofW (cc := prog_13_method_27_code) (maxL := 5) (ret := (Option.some FieldType.int)) (by decide) rfl ?_
  intro p e s m args below meth c s₁ B hml hv
  obtain ⟨rfl, hU⟩ := hv
  have hts := atoms_spec (ws := Cond.code yX11_leastAt prog_13_method_27_code 5 (Option.some FieldType.int) :: tbG) B.pre
  have hl := lv_entry ([.ref t0, .int v1]) (n := 5) (Nat.le_of_ble_eq_true rfl)
  rw [lg_entry_eq]
  generalize (lg_sl ([.ref t0, .int v1]) ++ List.replicate (5 - (lg_sl ([.ref t0, .int v1])).length) Slot.unset).toArray = ls at hl ⊢
  exact tX11_leastAt_0 ⟨B.exec, B.bytes, hml, findClass_of_methodNamed B.named, fun w hw => hts w (List.mem_cons_of_mem _ hw)⟩ B.returns B.notSynchronized t0 v1 h _ _ _ (hp_B.entry hU) hl hf
section
variable {p : Program} {l : Launch} {e : Env} {R : Room} {s : State} {m : MethodId} {args : Array Value} {below : List Frame} {meth : Method} {c : Code} {H : Heap} {locs : List Loc} {cells slots : Nat} {Q : State → Prop}
variable {cc : ByteArray} {pc nL : Nat} {ls : Array Slot} {rest : List Value} {D : va_G} {cA : Nat → ClassId} {A : Nat → Prop} {a : Nat} {h : Hp}
theorem cl_X11_193 {As st0 : List Value} {b : Nat} {Qc : Array Value → State → Outcome → State → Prop} (cx : CallFix p m c cc nL s args tbG RX11) (hB : hp_B D cA A s h H locs) (hM : hp_M l yX11_leastAt prog_13_method_27_code 5 (Option.some FieldType.int) rmX11_leastAt D cA h (.ref b :: As) Qc) (hkb : h.1 b = 12) (hR : rmX11_leastAt.frames + 1 ≤ R.frames ∧ 8 + (5 + 11) + rmX11_leastAt.locals ≤ R.locals) (hn : As.length = 1) (hls : ls.size = nL) (hst : st0 = As.reverse ++ .ref b :: rest) (hW : (rest.map fun v => v.category).sum ≤ 8) (hf : cells + rmX11_leastAt.cells ≤ R.cells ∧ slots + rmX11_leastAt.slots ≤ R.slots) (hdg : decode cc pc = .ok (.invokevirtual 193, 3)) :
    va_Run p l e R s m args below meth c H locs cells slots rmX11_leastAt.cells rmX11_leastAt.slots (F0 m pc ls st0) rest (Qc (Value.ref b :: As).toArray) (hp_A h) :=
  hp_runV cx hB hM (ci := 11) rfl (by decide) hkb qw_997 qw_994 qw_996 qp_23 qw_10 (by decide +kernel) hR hn hls hst hW hf hdg
end
abbrev yX11_layLeast : MethodName := ⟨"SpokenMenusModel", "layLeast", "()V"⟩
theorem dX11_layLeast_0 : decode prog_13_method_28_code 0 = .ok (.iconst 0, 1) := by decide +kernel
theorem dX11_layLeast_1 : decode prog_13_method_28_code 1 = .ok (.istore_n 1, 1) := by decide +kernel
theorem dX11_layLeast_2 : decode prog_13_method_28_code 2 = .ok (.iload_n 1, 1) := by decide +kernel
theorem dX11_layLeast_3 : decode prog_13_method_28_code 3 = .ok (.bipush 40, 2) := by decide +kernel
theorem dX11_layLeast_5 : decode prog_13_method_28_code 5 = .ok (.if_icmp .ge 17, 3) := by decide +kernel
theorem dX11_layLeast_8 : decode prog_13_method_28_code 8 = .ok (.aload_n 0, 1) := by decide +kernel
theorem dX11_layLeast_9 : decode prog_13_method_28_code 9 = .ok (.getfield 82, 3) := by decide +kernel
theorem dX11_layLeast_12 : decode prog_13_method_28_code 12 = .ok (.iload_n 1, 1) := by decide +kernel
theorem dX11_layLeast_13 : decode prog_13_method_28_code 13 = .ok (.ldc 172, 2) := by decide +kernel
theorem dX11_layLeast_15 : decode prog_13_method_28_code 15 = .ok (.iastore, 1) := by decide +kernel
theorem dX11_layLeast_16 : decode prog_13_method_28_code 16 = .ok (.iinc 1 1, 3) := by decide +kernel
theorem dX11_layLeast_19 : decode prog_13_method_28_code 19 = .ok (.goto (-17), 3) := by decide +kernel
theorem dX11_layLeast_22 : decode prog_13_method_28_code 22 = .ok (.iconst 1, 1) := by decide +kernel
theorem dX11_layLeast_23 : decode prog_13_method_28_code 23 = .ok (.istore_n 1, 1) := by decide +kernel
theorem dX11_layLeast_24 : decode prog_13_method_28_code 24 = .ok (.iload_n 1, 1) := by decide +kernel
theorem dX11_layLeast_25 : decode prog_13_method_28_code 25 = .ok (.ifCond .eq 49, 3) := by decide +kernel
theorem dX11_layLeast_28 : decode prog_13_method_28_code 28 = .ok (.iconst 0, 1) := by decide +kernel
theorem dX11_layLeast_29 : decode prog_13_method_28_code 29 = .ok (.istore_n 1, 1) := by decide +kernel
theorem dX11_layLeast_30 : decode prog_13_method_28_code 30 = .ok (.iconst 0, 1) := by decide +kernel
theorem dX11_layLeast_31 : decode prog_13_method_28_code 31 = .ok (.istore_n 2, 1) := by decide +kernel
theorem dX11_layLeast_32 : decode prog_13_method_28_code 32 = .ok (.iload_n 2, 1) := by decide +kernel
theorem dX11_layLeast_33 : decode prog_13_method_28_code 33 = .ok (.aload_n 0, 1) := by decide +kernel
theorem dX11_layLeast_34 : decode prog_13_method_28_code 34 = .ok (.getfield 125, 3) := by decide +kernel
theorem dX11_layLeast_37 : decode prog_13_method_28_code 37 = .ok (.if_icmp .ge 34, 3) := by decide +kernel
theorem dX11_layLeast_40 : decode prog_13_method_28_code 40 = .ok (.aload_n 0, 1) := by decide +kernel
theorem dX11_layLeast_41 : decode prog_13_method_28_code 41 = .ok (.iload_n 2, 1) := by decide +kernel
theorem dX11_layLeast_42 : decode prog_13_method_28_code 42 = .ok (.invokevirtual 193, 3) := by decide +kernel
theorem dX11_layLeast_45 : decode prog_13_method_28_code 45 = .ok (.istore_n 3, 1) := by decide +kernel
theorem dX11_layLeast_46 : decode prog_13_method_28_code 46 = .ok (.iload_n 3, 1) := by decide +kernel
theorem dX11_layLeast_47 : decode prog_13_method_28_code 47 = .ok (.aload_n 0, 1) := by decide +kernel
theorem dX11_layLeast_48 : decode prog_13_method_28_code 48 = .ok (.getfield 82, 3) := by decide +kernel
theorem dX11_layLeast_51 : decode prog_13_method_28_code 51 = .ok (.iload_n 2, 1) := by decide +kernel
theorem dX11_layLeast_52 : decode prog_13_method_28_code 52 = .ok (.iaload, 1) := by decide +kernel
theorem dX11_layLeast_53 : decode prog_13_method_28_code 53 = .ok (.if_icmp .ge 12, 3) := by decide +kernel
theorem dX11_layLeast_56 : decode prog_13_method_28_code 56 = .ok (.aload_n 0, 1) := by decide +kernel
theorem dX11_layLeast_57 : decode prog_13_method_28_code 57 = .ok (.getfield 82, 3) := by decide +kernel
theorem dX11_layLeast_60 : decode prog_13_method_28_code 60 = .ok (.iload_n 2, 1) := by decide +kernel
theorem dX11_layLeast_61 : decode prog_13_method_28_code 61 = .ok (.iload_n 3, 1) := by decide +kernel
theorem dX11_layLeast_62 : decode prog_13_method_28_code 62 = .ok (.iastore, 1) := by decide +kernel
theorem dX11_layLeast_63 : decode prog_13_method_28_code 63 = .ok (.iconst 1, 1) := by decide +kernel
theorem dX11_layLeast_64 : decode prog_13_method_28_code 64 = .ok (.istore_n 1, 1) := by decide +kernel
theorem dX11_layLeast_65 : decode prog_13_method_28_code 65 = .ok (.iinc 2 1, 3) := by decide +kernel
theorem dX11_layLeast_68 : decode prog_13_method_28_code 68 = .ok (.goto (-36), 3) := by decide +kernel
theorem dX11_layLeast_71 : decode prog_13_method_28_code 71 = .ok (.goto (-47), 3) := by decide +kernel
theorem dX11_layLeast_74 : decode prog_13_method_28_code 74 = .ok (.return_, 1) := by decide +kernel
abbrev rmX11_layLeast : Room := { frames := 5, cells := 0, slots := 0, locals := 111 }
def bX11_layLeast_32 (rc24 : Nat → Int32 → Hp → Option (Unit × Hp)) (rc : Nat → Int32 → Int32 → Hp → Option (Unit × Hp)) (t0 : Nat) (v1 : Int32) (v2 : Int32) (h : Hp) : Option (Unit × Hp) :=
  gk (h.1 t0) 12 <|
  if (h.2.2.1 t0 0) ≤ v2 then
  (rc24 t0 v1 h)
  else
  (b2 (fX11_leastAt t0 v2 h) fun r5 g3 =>
  gk (g3.1 t0) 12 <|
  bd (g3.2.2.2.1 t0 36) fun a8 =>
  gk (g3.1 a8) 13 <|
  gd (ix v2 (g3.2.1 a8)) <|
  if (g3.2.2.1 a8 (Int32.toNatClampNeg v2)) ≤ r5 then
  (nm (v2 + 1) fun x13 =>
  rc t0 v1 x13 g3)
  else
  (gd (ix v2 (g3.2.1 a8)) <|
  nm (hp_si g3 a8 (Int32.toNatClampNeg v2) r5) fun g15 =>
  nm (v2 + 1) fun x16 =>
  rc t0 1 x16 g15))
def fX11_layLeast_32 (rc24 : Nat → Int32 → Hp → Option (Unit × Hp)) : Nat → Int32 → Int32 → Hp → Option (Unit × Hp) := fx (bX11_layLeast_32 rc24) (fun _ _ _ _ => none) NF
def bX11_layLeast_24  (rc : Nat → Int32 → Hp → Option (Unit × Hp)) (t0 : Nat) (v1 : Int32) (h : Hp) : Option (Unit × Hp) :=
  if v1 = 0 then
  (some ((), h))
  else
  (fX11_layLeast_32 rc t0 0 0 h)
def fX11_layLeast_24  : Nat → Int32 → Hp → Option (Unit × Hp) := fx (bX11_layLeast_24 ) (fun _ _ _ => none) NF
def bX11_layLeast_2  (rc : Nat → Int32 → Hp → Option (Unit × Hp)) (t0 : Nat) (v1 : Int32) (h : Hp) : Option (Unit × Hp) :=
  if 40 ≤ v1 then
  (fX11_layLeast_24  t0 1 h)
  else
  (gk (h.1 t0) 12 <|
  bd (h.2.2.2.1 t0 36) fun a3 =>
  gk (h.1 a3) 13 <|
  gd (ix v1 (h.2.1 a3)) <|
  nm (hp_si h a3 (Int32.toNatClampNeg v1) 100000000) fun g7 =>
  nm (v1 + 1) fun x8 =>
  rc t0 x8 g7)
def fX11_layLeast_2  : Nat → Int32 → Hp → Option (Unit × Hp) := fx (bX11_layLeast_2 ) (fun _ _ _ => none) NF
def fX11_layLeast  (t0 : Nat) (h : Hp) : Option (Unit × Hp) :=
  fX11_layLeast_2  t0 0 h
section
variable {p : Program} {l : Launch} {e : Env} {s : State} {m : MethodId} {args : Array Value} {below : List Frame} {meth : Method} {c : Code} {D : va_G} {cA : Nat → ClassId} {h0 h9 : Hp}
set_option maxHeartbeats 4000000 in
set_option maxRecDepth 100000 in
theorem tX11_layLeast_32 {rc24 : Nat → Int32 → Hp → Option (Unit × Hp)} (cx : CallFix p m c prog_13_method_28_code 4 s args tbG RX11) (hr : meth.sig.returnType = none) (hlk : meth.locks = false) (hr24 : ∀ (t0 : Nat) (v1 : Int32) (h : Hp) (H : Heap) (locs : List Loc) (ls : Array Slot), hp_B D cA (hp_A h0) s h H locs → lv_has ls 4 [(0, .ref t0), (1, .int v1)] → rc24 t0 v1 h = some ((), h9) → W p l e rmX11_layLeast s m args below meth c H locs 0 0 (MQ below (hp_Qv D cA h0 h9) args s 0 0 (hp_A h0)) (F0 m 24 ls [])) (n : Nat) : ∀ (t0 : Nat) (v1 : Int32) (v2 : Int32) (h : Hp) (H : Heap) (locs : List Loc) (ls : Array Slot), hp_B D cA (hp_A h0) s h H locs → lv_has ls 4 [(0, .ref t0), (1, .int v1), (2, .int v2)] → fx (bX11_layLeast_32 rc24) (fun _ _ _ _ => none) n t0 v1 v2 h = some ((), h9) → W p l e rmX11_layLeast s m args below meth c H locs 0 0 (MQ below (hp_Qv D cA h0 h9) args s 0 0 (hp_A h0)) (F0 m 32 ls []) := by
  obtain ⟨hx, hb, -⟩ := id cx
  induction n with
  | zero => intro t0 v1 v2 h H locs ls hB hl hf; cases hf
  | succ n ih =>
    intro t0 v1 v2 h H locs ls hB hl hf
    replace hf : bX11_layLeast_32 rc24 (fx (bX11_layLeast_32 rc24) (fun _ _ _ _ => none) n) t0 v1 v2 h = some ((), h9) := hf
    unfold bX11_layLeast_32 at hf
    refine lv_iload_n hx hb dX11_layLeast_32 rfl (lv_at hl 2 rfl) ?_
    refine lv_aload_n hx hb dX11_layLeast_33 rfl (lv_at hl 0 rfl) ?_
    obtain ⟨k1, hf⟩ := gk_ok hf
    refine gf_X11_125 cx hB k1 dX11_layLeast_34 ?_
    refine lv_icmp_ge (tgt := 71) hx hb dX11_layLeast_37 (by decide) (fun c2 => ?_) (fun c2 => ?_)
    · replace hf := it_t c2 hf
      refine lv_goto (tgt := 24) hx hb dX11_layLeast_71 (by decide) ?_
      exact hr24 t0 v1 h _ _ _ hB (lv_sub hl [0, 1] rfl) hf
    · replace hf := it_f c2 hf
      refine lv_aload_n hx hb dX11_layLeast_40 rfl (lv_at hl 0 rfl) ?_
      refine lv_iload_n hx hb dX11_layLeast_41 rfl (lv_at hl 2 rfl) ?_
      obtain ⟨r5, g3, m4, hf⟩ := b2_ok hf
      refine hp_cI0 (cl_X11_193 cx hB (cX11_leastAt l D cA t0 v2 h _ g3 m4) k1 ⟨Nat.le_of_ble_eq_true rfl, Nat.le_of_ble_eq_true rfl⟩ rfl hl.1 rfl (Nat.le_of_ble_eq_true rfl) ⟨Nat.le_of_ble_eq_true rfl, Nat.le_of_ble_eq_true rfl⟩ dX11_layLeast_42) rfl rfl hB (fun H locs hB => ?_)
      refine lv_istore_n (lv' := [(3, .int r5), (0, .ref t0), (1, .int v1), (2, .int v2)]) hx hb dX11_layLeast_45 rfl hl (by decide) rfl (fun ls hl => ?_)
      refine lv_iload_n hx hb dX11_layLeast_46 rfl (lv_at hl 0 rfl) ?_
      refine lv_aload_n hx hb dX11_layLeast_47 rfl (lv_at hl 1 rfl) ?_
      obtain ⟨k7, hf⟩ := gk_ok hf
      obtain ⟨a8, q9, hf⟩ := bd_ok hf
      refine gf_X11_82 cx hB k7 q9 dX11_layLeast_48 ?_
      refine lv_iload_n hx hb dX11_layLeast_51 rfl (lv_at hl 3 rfl) ?_
      obtain ⟨k10, hf⟩ := gk_ok hf
      obtain ⟨j11, hf⟩ := gd_ok hf
      refine hp_iald cx hB k10 j11 dX11_layLeast_52 ?_
      refine lv_icmp_ge (tgt := 65) hx hb dX11_layLeast_53 (by decide) (fun c12 => ?_) (fun c12 => ?_)
      · replace hf := it_t c12 hf
        obtain ⟨x13, ex13, hf⟩ := nm_ok hf
        refine lv_iinc (v := x13) (lv' := [(2, .int x13), (3, .int r5), (0, .ref t0), (1, .int v1)]) hx hb dX11_layLeast_65 hl (k := 3) rfl (by rw [ex13]; rfl) (by decide) rfl (fun ls hl => ?_)
        refine lv_goto (tgt := 32) hx hb dX11_layLeast_68 (by decide) ?_
        exact ih t0 v1 x13 g3 _ _ _ hB (lv_sub hl [2, 3, 0] rfl) hf
      · replace hf := it_f c12 hf
        refine lv_aload_n hx hb dX11_layLeast_56 rfl (lv_at hl 1 rfl) ?_
        refine gf_X11_82 cx hB k7 q9 dX11_layLeast_57 ?_
        refine lv_iload_n hx hb dX11_layLeast_60 rfl (lv_at hl 3 rfl) ?_
        refine lv_iload_n hx hb dX11_layLeast_61 rfl (lv_at hl 0 rfl) ?_
        obtain ⟨j14, hf⟩ := gd_ok hf
        obtain ⟨g15, eg15, hf⟩ := nm_ok hf
        refine hp_iast cx hB k10 j14 dX11_layLeast_62 (fun H locs hB => ?_)
        rw [← eg15] at hB
        refine lv_iconst (v := 1) hx hb dX11_layLeast_63 (by decide) ?_
        refine lv_istore_n (lv' := [(1, .int 1), (3, .int r5), (0, .ref t0), (2, .int v2)]) hx hb dX11_layLeast_64 rfl hl (by decide) rfl (fun ls hl => ?_)
        obtain ⟨x16, ex16, hf⟩ := nm_ok hf
        refine lv_iinc (v := x16) (lv' := [(2, .int x16), (1, .int 1), (3, .int r5), (0, .ref t0)]) hx hb dX11_layLeast_65 hl (k := 3) rfl (by rw [ex16]; rfl) (by decide) rfl (fun ls hl => ?_)
        refine lv_goto (tgt := 32) hx hb dX11_layLeast_68 (by decide) ?_
        exact ih t0 1 x16 g15 _ _ _ hB (lv_sub hl [3, 1, 0] rfl) hf
set_option maxHeartbeats 4000000 in
set_option maxRecDepth 100000 in
theorem tX11_layLeast_24  (cx : CallFix p m c prog_13_method_28_code 4 s args tbG RX11) (hr : meth.sig.returnType = none) (hlk : meth.locks = false)  (n : Nat) : ∀ (t0 : Nat) (v1 : Int32) (h : Hp) (H : Heap) (locs : List Loc) (ls : Array Slot), hp_B D cA (hp_A h0) s h H locs → lv_has ls 4 [(0, .ref t0), (1, .int v1)] → fx (bX11_layLeast_24 ) (fun _ _ _ => none) n t0 v1 h = some ((), h9) → W p l e rmX11_layLeast s m args below meth c H locs 0 0 (MQ below (hp_Qv D cA h0 h9) args s 0 0 (hp_A h0)) (F0 m 24 ls []) := by
  obtain ⟨hx, hb, -⟩ := id cx
  induction n with
  | zero => intro t0 v1 h H locs ls hB hl hf; cases hf
  | succ n ih =>
    intro t0 v1 h H locs ls hB hl hf
    replace hf : bX11_layLeast_24  (fx (bX11_layLeast_24 ) (fun _ _ _ => none) n) t0 v1 h = some ((), h9) := hf
    unfold bX11_layLeast_24 at hf
    refine lv_iload_n hx hb dX11_layLeast_24 rfl (lv_at hl 1 rfl) ?_
    refine lv_if_eq (tgt := 74) hx hb dX11_layLeast_25 (by decide) (fun c1 => ?_) (fun c1 => ?_)
    · replace hf := it_t c1 hf
      obtain ⟨-, rfl⟩ := rt_ok hf
      exact hp_vret cx hB hr hlk (Nat.le_of_ble_eq_true rfl) (Nat.le_of_ble_eq_true rfl) dX11_layLeast_74
    · replace hf := it_f c1 hf
      refine lv_iconst (v := 0) hx hb dX11_layLeast_28 (by decide) ?_
      refine lv_istore_n (lv' := [(1, .int 0), (0, .ref t0)]) hx hb dX11_layLeast_29 rfl hl (by decide) rfl (fun ls hl => ?_)
      refine lv_iconst (v := 0) hx hb dX11_layLeast_30 (by decide) ?_
      refine lv_istore_n (lv' := [(2, .int 0), (1, .int 0), (0, .ref t0)]) hx hb dX11_layLeast_31 rfl hl (by decide) rfl (fun ls hl => ?_)
      exact tX11_layLeast_32 cx hr hlk ih NF t0 0 0 h _ _ _ hB (lv_sub hl [2, 1, 0] rfl) hf
set_option maxHeartbeats 4000000 in
set_option maxRecDepth 100000 in
theorem tX11_layLeast_2  (cx : CallFix p m c prog_13_method_28_code 4 s args tbG RX11) (hr : meth.sig.returnType = none) (hlk : meth.locks = false)  (n : Nat) : ∀ (t0 : Nat) (v1 : Int32) (h : Hp) (H : Heap) (locs : List Loc) (ls : Array Slot), hp_B D cA (hp_A h0) s h H locs → lv_has ls 4 [(0, .ref t0), (1, .int v1)] → fx (bX11_layLeast_2 ) (fun _ _ _ => none) n t0 v1 h = some ((), h9) → W p l e rmX11_layLeast s m args below meth c H locs 0 0 (MQ below (hp_Qv D cA h0 h9) args s 0 0 (hp_A h0)) (F0 m 2 ls []) := by
  obtain ⟨hx, hb, -⟩ := id cx
  induction n with
  | zero => intro t0 v1 h H locs ls hB hl hf; cases hf
  | succ n ih =>
    intro t0 v1 h H locs ls hB hl hf
    replace hf : bX11_layLeast_2  (fx (bX11_layLeast_2 ) (fun _ _ _ => none) n) t0 v1 h = some ((), h9) := hf
    unfold bX11_layLeast_2 at hf
    refine lv_iload_n hx hb dX11_layLeast_2 rfl (lv_at hl 1 rfl) ?_
    refine lv_bipush (v := 40) hx hb dX11_layLeast_3 (by decide) ?_
    refine lv_icmp_ge (tgt := 22) hx hb dX11_layLeast_5 (by decide) (fun c1 => ?_) (fun c1 => ?_)
    · replace hf := it_t c1 hf
      refine lv_iconst (v := 1) hx hb dX11_layLeast_22 (by decide) ?_
      refine lv_istore_n (lv' := [(1, .int 1), (0, .ref t0)]) hx hb dX11_layLeast_23 rfl hl (by decide) rfl (fun ls hl => ?_)
      exact tX11_layLeast_24 cx hr hlk  NF t0 1 h _ _ _ hB (lv_sub hl [1, 0] rfl) hf
    · replace hf := it_f c1 hf
      refine lv_aload_n hx hb dX11_layLeast_8 rfl (lv_at hl 0 rfl) ?_
      obtain ⟨k2, hf⟩ := gk_ok hf
      obtain ⟨a3, q4, hf⟩ := bd_ok hf
      refine gf_X11_82 cx hB k2 q4 dX11_layLeast_9 ?_
      refine lv_iload_n hx hb dX11_layLeast_12 rfl (lv_at hl 1 rfl) ?_
      refine lv_ldc (v := 100000000) hx hb cx.2.2.2.1 (cx.2.2.2.2 _ (tb_in qw_993 rfl)) dX11_layLeast_13 ?_
      obtain ⟨k5, hf⟩ := gk_ok hf
      obtain ⟨j6, hf⟩ := gd_ok hf
      obtain ⟨g7, eg7, hf⟩ := nm_ok hf
      refine hp_iast cx hB k5 j6 dX11_layLeast_15 (fun H locs hB => ?_)
      rw [← eg7] at hB
      obtain ⟨x8, ex8, hf⟩ := nm_ok hf
      refine lv_iinc (v := x8) (lv' := [(1, .int x8), (0, .ref t0)]) hx hb dX11_layLeast_16 hl (k := 1) rfl (by rw [ex8]; rfl) (by decide) rfl (fun ls hl => ?_)
      refine lv_goto (tgt := 2) hx hb dX11_layLeast_19 (by decide) ?_
      exact ih t0 x8 g7 _ _ _ hB (lv_sub hl [1, 0] rfl) hf
set_option maxHeartbeats 4000000 in
set_option maxRecDepth 100000 in
theorem tX11_layLeast_0  (cx : CallFix p m c prog_13_method_28_code 4 s args tbG RX11) (hr : meth.sig.returnType = none) (hlk : meth.locks = false)  (t0 : Nat) (h : Hp) (H : Heap) (locs : List Loc) (ls : Array Slot) (hB : hp_B D cA (hp_A h0) s h H locs) (hl : lv_has ls 4 [(0, .ref t0)]) (hf : fX11_layLeast  t0 h = some ((), h9)) : W p l e rmX11_layLeast s m args below meth c H locs 0 0 (MQ below (hp_Qv D cA h0 h9) args s 0 0 (hp_A h0)) (F0 m 0 ls []) := by
  obtain ⟨hx, hb, -⟩ := id cx
  unfold fX11_layLeast at hf
  refine lv_iconst (v := 0) hx hb dX11_layLeast_0 (by decide) ?_
  refine lv_istore_n (lv' := [(1, .int 0), (0, .ref t0)]) hx hb dX11_layLeast_1 rfl hl (by decide) rfl (fun ls hl => ?_)
  exact tX11_layLeast_2 cx hr hlk  NF t0 0 h _ _ _ hB (lv_sub hl [1, 0] rfl) hf
end
set_option maxHeartbeats 4000000 in
set_option maxRecDepth 100000 in
theorem cX11_layLeast (l : Launch) (D : va_G) (cA : Nat → ClassId) (t0 : Nat) (h : Hp) (_u : Unit) (h9 : Hp) (hf : fX11_layLeast t0 h = some (_u, h9)) : hp_M l yX11_layLeast prog_13_method_28_code 4 none rmX11_layLeast D cA h [.ref t0] (hp_Qv D cA h h9) := by
  refine Met.ofW (cc := prog_13_method_28_code) (maxL := 4) (ret := none) (by decide) rfl ?_
  intro p e s m args below meth c s₁ B hml hv
  obtain ⟨rfl, hU⟩ := hv
  have hts := atoms_spec (ws := Cond.code yX11_layLeast prog_13_method_28_code 4 none :: tbG) B.pre
  have hl := lv_entry ([.ref t0]) (n := 4) (Nat.le_of_ble_eq_true rfl)
  rw [lg_entry_eq]
  generalize (lg_sl ([.ref t0]) ++ List.replicate (4 - (lg_sl ([.ref t0])).length) Slot.unset).toArray = ls at hl ⊢
  exact tX11_layLeast_0 ⟨B.exec, B.bytes, hml, findClass_of_methodNamed B.named, fun w hw => hts w (List.mem_cons_of_mem _ hw)⟩ B.returns B.notSynchronized t0 h _ _ _ (hp_B.entry hU) hl hf
