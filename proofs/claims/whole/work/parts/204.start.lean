/-! the law from its entry, if the pure function comes to its end -/
def hp_0 (z : Nat) : Hp := (fun _ => 0, fun _ => 0, fun _ _ => 0, fun _ _ => none, z)
def fL (xs : Nat → Int32) (L : Nat) (h : Hp) : Option Unit :=
  nm h.2.2.2.2 fun a1 =>
  nm (hp_nw h 11 0) fun g1 =>
  b2 (fX10_init a1 g1) fun _ g2 =>
  nm g2.2.2.2.2 fun a2 =>
  nm (hp_nw g2 12 0) fun g3 =>
  b2 (fX11_init a2 g3) fun _ g4 =>
  lL xs L 514 a1 a2 0 g4
theorem aoA_spec {args : Array Value} {s : State} (h : (Cond.arrayOver (.array .int)).before args s = true) : ∃ comp c k, s.vm.findClass "[I" = some comp ∧ s.vm.classes[c]? = some k ∧ k.kind = .array comp (.array .int) ∧ s.vm.findClass "[[I" = some c := by
  have h1 : (Cond.arrayOver (.array .int)).holds args s none s [] = true := h
  simp only [Cond.holds, Cond.value, beq_iff_eq] at h1
  cases hc : s.vm.findClass (FieldType.array .int).toString with
  | none => simp [hc] at h1
  | some comp =>
    simp only [hc, Option.bind_some, Option.bind_eq_some_iff, Option.map_eq_some_iff] at h1
    obtain ⟨c, hi, k, hk, hb⟩ := h1
    obtain ⟨hlt, hp, -⟩ := Array.findIdx?_eq_some_iff_getElem.mp hi
    rw [(Array.getElem?_eq_some_iff.mp hk).2] at hp
    refine ⟨comp, c, k, hc, hk, ?_⟩
    cases hkind : k.kind with
    | array component ty =>
      rw [hkind] at hb hp
      simp at hb hp
      exact ⟨by rw [hp, hb.1], hb.2⟩
    | _ => rw [hkind] at hb; simp at hb
theorem nw_in : ∀ w ∈ hp_NW, w ∈ lw_tbl := by decide +kernel
theorem nw_on : ∀ w ∈ hp_NW, w.onTables = true := by decide +kernel
theorem arr_of {s : State} {c comp : ClassId} {k : Class} {ty : FieldType} (h1 : s.vm.classes[c]? = some k) (h2 : k.kind = .array comp ty) : ArrOfT s c ty := fun _ _ => ⟨fun _ h => (by cases h), k, h1, comp, h2⟩
theorem qi_0 : Cond.instantiable "SpokenMenus$Caller" 5 ∈ lw_tbl := (List.mem_of_getElem? (i := 457) (by decide +kernel))
theorem qi_1 : Cond.instantiable "SpokenMenus$Groups" 3 ∈ lw_tbl := (List.mem_of_getElem? (i := 111) (by decide +kernel))
theorem qi_2 : Cond.instantiable "SpokenMenus$House" 2 ∈ lw_tbl := (List.mem_of_getElem? (i := 66) (by decide +kernel))
theorem qi_3 : Cond.instantiable "SpokenMenus$Line" 4 ∈ lw_tbl := (List.mem_of_getElem? (i := 371) (by decide +kernel))
theorem qi_4 : Cond.instantiable "SpokenMenus$Ordering" 3 ∈ lw_tbl := (List.mem_of_getElem? (i := 132) (by decide +kernel))
theorem qi_5 : Cond.instantiable "SpokenMenus$Place" 11 ∈ lw_tbl := (List.mem_of_getElem? (i := 281) (by decide +kernel))
theorem qi_6 : Cond.instantiable "SpokenMenus$Planner" 10 ∈ lw_tbl := (List.mem_of_getElem? (i := 151) (by decide +kernel))
theorem qi_7 : Cond.instantiable "SpokenMenus$Traps" 2 ∈ lw_tbl := (List.mem_of_getElem? (i := 97) (by decide +kernel))
theorem qi_8 : Cond.instantiable "SpokenMenus$Walk" 10 ∈ lw_tbl := (List.mem_of_getElem? (i := 197) (by decide +kernel))
theorem qi_9 : Cond.instantiable "SpokenMenus$Ways" 1 ∈ lw_tbl := (List.mem_of_getElem? (i := 86) (by decide +kernel))
theorem qi_10 : Cond.instantiable "SpokenMenus" 8 ∈ lw_tbl := (List.mem_of_getElem? (i := 58) (by decide +kernel))
theorem qi_11 : Cond.instantiable "SpokenMenusModel" 57 ∈ lw_tbl := (List.mem_of_getElem? (i := 768) (by decide +kernel))
theorem qa_13 : Cond.arrayClass FieldType.int ∈ lw_tbl := List.mem_of_getElem? (i := 95) (by decide +kernel)
theorem qa_14 : Cond.arrayClass FieldType.boolean ∈ lw_tbl := List.mem_of_getElem? (i := 109) (by decide +kernel)
theorem qa_15 : Cond.arrayOver (FieldType.object "SpokenMenus$Caller") ∈ lw_tbl := List.mem_of_getElem? (i := 117) (by decide +kernel)
theorem qa_16 : Cond.arrayOver (FieldType.object "SpokenMenus$Line") ∈ lw_tbl := List.mem_of_getElem? (i := 138) (by decide +kernel)
theorem qa_17 : Cond.arrayOver (FieldType.object "SpokenMenus$Place") ∈ lw_tbl := List.mem_of_getElem? (i := 72) (by decide +kernel)
theorem qa_18 : Cond.arrayOver (FieldType.array FieldType.int) ∈ lw_tbl := List.mem_of_getElem? (i := 157) (by decide +kernel)
theorem qc_7 : Cond.classLink "SpokenMenusLaw" 7 "SpokenMenus" ∈ lw_tbl := List.mem_of_getElem? (i := 57) (by decide +kernel)
theorem qc_10 : Cond.classLink "SpokenMenusLaw" 10 "SpokenMenusModel" ∈ lw_tbl := List.mem_of_getElem? (i := 767) (by decide +kernel)
theorem qn_10 : Cond.initialized "SpokenMenus" ∈ lw_tbl := List.mem_of_getElem? (i := 42) (by decide +kernel)
theorem qn_11 : Cond.initialized "SpokenMenusModel" ∈ lw_tbl := List.mem_of_getElem? (i := 51) (by decide +kernel)
set_option maxHeartbeats 4000000 in
set_option maxRecDepth 100000 in
theorem tL_start {p : Program} {e : Env} {s : State} {m : MethodId} {below : List Frame} {meth : Method} {c : Code} (l : Launch) {b L : Nat} {xs : Nat → Int32} (C0 : lw_At p s m meth c b L xs) (hf : fL xs L (hp_0 s.heap.size) = some ()) : W p l e room_1 s m #[Value.ref b] below meth c s.heap [] 0 0 (lw_Z below #[Value.ref b] s) (entryFrame m ([Value.ref b] : List Value).toArray 4) := by
  obtain ⟨hx, hb, hr, hml, hown, hts, hX, hbl, hlocks, hgv⟩ := id C0
  have cx : CallFix p m c code 4 s #[Value.ref b] tbG "SpokenMenusLaw" := ⟨hx, hb, hml, hown, fun w hw => hts w (tb_of hw)⟩
  obtain ⟨c0, i0, hk0⟩ := u_known (C := RX0) (T := TX0) (N := 5) (n := 5) hts inX0 (hts _ qi_0)
  obtain ⟨c1, i1, hk1⟩ := u_known (C := RX1) (T := TX1) (N := 3) (n := 3) hts inX1 (hts _ qi_1)
  obtain ⟨c2, i2, hk2⟩ := u_known (C := RX2) (T := TX2) (N := 2) (n := 2) hts inX2 (hts _ qi_2)
  obtain ⟨c3, i3, hk3⟩ := u_known (C := RX3) (T := TX3) (N := 4) (n := 4) hts inX3 (hts _ qi_3)
  obtain ⟨c4, i4, hk4⟩ := u_known (C := RX4) (T := TX4) (N := 3) (n := 3) hts inX4 (hts _ qi_4)
  obtain ⟨c5, i5, hk5⟩ := u_known (C := RX5) (T := TX5) (N := 11) (n := 11) hts inX5 (hts _ qi_5)
  obtain ⟨c6, i6, hk6⟩ := u_known (C := RX6) (T := TX6) (N := 10) (n := 10) hts inX6 (hts _ qi_6)
  obtain ⟨c7, i7, hk7⟩ := u_known (C := RX7) (T := TX7) (N := 2) (n := 2) hts inX7 (hts _ qi_7)
  obtain ⟨c8, i8, hk8⟩ := u_known (C := RX8) (T := TX8) (N := 10) (n := 10) hts inX8 (hts _ qi_8)
  obtain ⟨c9, i9, hk9⟩ := u_known (C := RX9) (T := TX9) (N := 1) (n := 1) hts inX9 (hts _ qi_9)
  obtain ⟨c10, i10, hk10⟩ := u_known (C := RX10) (T := TX10) (N := 8) (n := 8) hts inX10 (hts _ qi_10)
  obtain ⟨c11, i11, hk11⟩ := u_known (C := RX11) (T := TX11) (N := 57) (n := 57) hts inX11 (hts _ qi_11)
  obtain ⟨dC, dI, hKc⟩ : ∃ (dC : Nat → ClassId) (dI : Nat → Nat → Nat), ∀ (k : Nat) (q : vw_C), vwCl[k]? = some q → u_Kn s q.1 q.2.1 q.2.2 (dC k) (dI k) := by
    refine ⟨fun k => match k with | 0 => c0 | 1 => c1 | 2 => c2 | 3 => c3 | 4 => c4 | 5 => c5 | 6 => c6 | 7 => c7 | 8 => c8 | 9 => c9 | 10 => c10 | _ => c11, fun k => match k with | 0 => i0 | 1 => i1 | 2 => i2 | 3 => i3 | 4 => i4 | 5 => i5 | 6 => i6 | 7 => i7 | 8 => i8 | 9 => i9 | 10 => i10 | _ => i11, ?_⟩
    intro k q hq
    match k, hq with
    | 0, hq => cases hq; exact hk0
    | 1, hq => cases hq; exact hk1
    | 2, hq => cases hq; exact hk2
    | 3, hq => cases hq; exact hk3
    | 4, hq => cases hq; exact hk4
    | 5, hq => cases hq; exact hk5
    | 6, hq => cases hq; exact hk6
    | 7, hq => cases hq; exact hk7
    | 8, hq => cases hq; exact hk8
    | 9, hq => cases hq; exact hk9
    | 10, hq => cases hq; exact hk10
    | 11, hq => cases hq; exact hk11
    | k + 12, hq => simp [vwCl] at hq
  obtain ⟨a13, k13, m13, x13, y13, z13⟩ := Cond.arrayClass_spec (hts _ qa_13)
  obtain ⟨a14, k14, m14, x14, y14, z14⟩ := Cond.arrayClass_spec (hts _ qa_14)
  obtain ⟨m15, a15, k15, v15, -, y15, z15, x15⟩ := Cond.arrayOver_spec (hts _ qa_15)
  obtain ⟨m16, a16, k16, v16, -, y16, z16, x16⟩ := Cond.arrayOver_spec (hts _ qa_16)
  obtain ⟨m17, a17, k17, v17, -, y17, z17, x17⟩ := Cond.arrayOver_spec (hts _ qa_17)
  obtain ⟨m18, a18, k18, v18, y18, z18, x18⟩ := aoA_spec (hts _ qa_18)
  have em : m18 = a13 := Option.some.inj (v18.symm.trans x13)
  subst em
  obtain ⟨cA, hcA⟩ : ∃ cA : Nat → ClassId, cA 13 = m18 ∧ cA 14 = a14 ∧ cA 15 = a15 ∧ cA 16 = a16 ∧ cA 17 = a17 ∧ cA 18 = a18 := ⟨fun k => match k with | 13 => m18 | 14 => a14 | 15 => a15 | 16 => a16 | 17 => a17 | _ => a18, rfl, rfl, rfl, rfl, rfl, rfl⟩
  obtain ⟨rfl, rfl, rfl, rfl, rfl, rfl⟩ := hcA
  have hK : va_K (dC, dI) vwCl (hp_ty cA) s := by
    refine ⟨hKc, fun k q hq => ?_⟩
    match k, hq with
    | 0, hq => cases hq; exact ⟨arr_of y13 z13, x13⟩
    | 1, hq => cases hq; exact ⟨arr_of y14 z14, x14⟩
    | 2, hq => cases hq; exact ⟨arr_of y15 z15, k15, m15, y15, z15, v15, x15⟩
    | 3, hq => cases hq; exact ⟨arr_of y16 z16, k16, m16, y16, z16, v16, x16⟩
    | 4, hq => cases hq; exact ⟨arr_of y17 z17, k17, m17, y17, z17, v17, x17⟩
    | 5, hq => cases hq; exact ⟨arr_of y18 z18, x18⟩
    | k + 6, hq => simp [hp_ty] at hq
  have hN : hp_N cA s := ⟨fun w hw => va_Nw.of (nw_on w hw) (hts w (nw_in w hw)), va_AO.of (hts _ qa_15), va_AO.of (hts _ qa_16), va_AO.of (hts _ qa_17), k18, y18, z18⟩
  have hB : hp_B (dC, dI) cA (fun q : Nat => s.heap.size ≤ q) s (hp_0 s.heap.size) s.heap [] := ⟨⟨rfl, fun a ha => absurd rfl ha⟩, hK, hN, fun a ha => absurd rfl ha, fun q hq => hq, va_S.rf⟩
  have hl := lv_entry ([.ref b]) (n := 4) (Nat.le_of_ble_eq_true rfl)
  rw [lg_entry_eq]
  generalize (lg_sl ([.ref b]) ++ List.replicate (4 - (lg_sl ([.ref b])).length) Slot.unset).toArray = ls at hl ⊢
  have hl : lv_has ls 4 [(0, .ref b)] := hl
  unfold fL at hf
  obtain ⟨a1, ea1, hf⟩ := nm_ok hf
  obtain ⟨g1, eg1, hf⟩ := nm_ok hf
  refine hp_new cx hB (ci := 10) tyX10 tyX10_ok rfl inX10 (by decide) rfl (by decide +kernel) qc_7 qi_10 qn_10 ea1 (Nat.le_of_ble_eq_true rfl) (Nat.le_of_ble_eq_true rfl) dL_0 (fun H hB => ?_)
  rw [← eg1] at hB
  refine lv_dup hx hb dL_3 rfl ?_
  obtain ⟨u1, g2, m1, hf⟩ := b2_ok hf
  refine hp_cV (cl_SpokenMenusLaw_9 cx hB (cX10_init l (dC, dI) cA a1 g1 _ g2 m1) ⟨Nat.le_of_ble_eq_true rfl, Nat.le_of_ble_eq_true rfl⟩ rfl hl.1 rfl (Nat.le_of_ble_eq_true rfl) ⟨Nat.le_of_ble_eq_true rfl, Nat.le_of_ble_eq_true rfl⟩ dL_4) hB (fun H locs hB => ?_)
  refine lv_astore_n (lv' := [(1, .ref a1), (0, .ref b)]) hx hb dL_7 rfl hl (by decide) rfl (fun ls hl => ?_)
  obtain ⟨a2, ea2, hf⟩ := nm_ok hf
  obtain ⟨g3, eg3, hf⟩ := nm_ok hf
  refine hp_new cx hB (ci := 11) tyX11 tyX11_ok rfl inX11 (by decide) rfl (by decide +kernel) qc_10 qi_11 qn_11 ea2 (Nat.le_of_ble_eq_true rfl) (Nat.le_of_ble_eq_true rfl) dL_8 (fun H hB => ?_)
  rw [← eg3] at hB
  refine lv_dup hx hb dL_11 rfl ?_
  obtain ⟨u2, g4, m2, hf⟩ := b2_ok hf
  refine hp_cV (cl_SpokenMenusLaw_12 cx hB (cX11_init l (dC, dI) cA a2 g3 _ g4 m2) ⟨Nat.le_of_ble_eq_true rfl, Nat.le_of_ble_eq_true rfl⟩ rfl hl.1 rfl (Nat.le_of_ble_eq_true rfl) ⟨Nat.le_of_ble_eq_true rfl, Nat.le_of_ble_eq_true rfl⟩ dL_12) hB (fun H locs hB => ?_)
  refine lv_astore_n (lv' := [(2, .ref a2), (1, .ref a1), (0, .ref b)]) hx hb dL_15 rfl hl (by decide) rfl (fun ls hl => ?_)
  refine lv_iconst (v := 0) hx hb dL_16 (by decide) ?_
  refine lv_istore_n (lv' := [(3, .int 0), (2, .ref a2), (1, .ref a1), (0, .ref b)]) hx hb dL_17 rfl hl (by decide) rfl (fun ls hl => ?_)
  refine W.widen (k := 2000 + 4 * 0) (n := 20000 + 64 * 0) (Nat.le_of_ble_eq_true rfl) (Nat.le_of_ble_eq_true rfl) ?_
  exact tL_loop cx hX hbl hr hlocks 514 0 0 g4 H locs ls (Nat.le_refl _) hB (lv_sub hl [3, 2, 1, 0] rfl) hf
