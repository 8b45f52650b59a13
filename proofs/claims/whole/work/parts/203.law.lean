/-! THE CLAIM OUT OF ONE WALK OF THE LAW'S BODY. Your part is whole_start (and what it stands on); all else here is the same for every law, but numbers. -/
def R_law : String := "SpokenMenusLaw"
def lw_P (b : Addr) (xs : List Int32) (args : Array Value) (s : State) : Prop := args = #[.ref b] ∧ s.IntsAt b xs ∧ xs.length ≤ 3584 ∧ (Jvm.Cond.and given_1 narrow_1).before args s = true
def lw_Q (_ : Array Value) (s : State) (o : Outcome) (t : State) : Prop := o = .returned (some (.int 1)) ∧ Framed s o t [] 600000 7302250
def lw_Z (below : List Frame) (a : Array Value) (s : State) : State → Prop := fun t => ∃ o, t.status = .running ∧ Ended t below o ∧ lw_Q a s o t
/-- the law's own end, with 1 on the stack, nothing written that was there before, its room as the claim has it -/
theorem lw_ret {p : Program} {l : Launch} {e : Env} {s : State} {m : MethodId} {below : List Frame} {meth : Method} {c : Code} {b : Nat} (hx : p.tables.exec = Jvm.exec) (hb : c.code = code) (hr : meth.sig.returnType = ret) (hlocks : meth.locks = false) {pc : Nat} {H : Heap} {ls : Array Slot} (hdg : decode code pc = .ok (.ireturn, 1)) : W p l e room_1 s m #[Value.ref b] below meth c H [] 600000 7302250 (lw_Z below #[Value.ref b] s) (F0 m pc ls [.int 1]) := by
  intro T hT X
  obtain ⟨fs, hret, hrun, hended, hW, hframe⟩ := X.leave (v := some (.int 1)) (hlocks := hlocks) (fun h => by rw [hr] at h; cases h)
  have hmeth' : T.vm.method? m = some meth := X.method'
  refine ⟨T.setFrames fs, ?_, .returned (some (.int 1)), hrun, hended, rfl, ⟨_, rfl⟩, hW, hframe⟩
  jvm_step X.here [X.here.top, hx, hb, hdg, hmeth', hr, ret, narrow_b1]
  (try refine ⟨rfl, ?_⟩); (try refine ⟨rfl, ?_⟩)
  first | (intro acts; rw [hret _ acts rfl rfl rfl]) | rw [hret _ _ rfl rfl rfl]
  exact Steps.refl _
/-- what holds at the law's entry: the machine, the code, the tables' words (any of lw_tbl by 'hts w (by decide +kernel)'), the script of L ints xs at the cell b, what the Statement gives of the start (any of its parts by flat_of_before) -/
def lw_At (p : Program) (s : State) (m : MethodId) (meth : Method) (c : Code) (b L : Nat) (xs : Nat → Int32) : Prop :=
  p.tables.exec = Jvm.exec ∧ c.code = code ∧ meth.sig.returnType = ret ∧ c.maxLocals = 4 ∧ s.vm.findClass R_law = some m.cls ∧ (∀ w ∈ lw_tbl, w.before #[Value.ref b] s = true) ∧ va_X b L xs s s.heap ∧ b < s.heap.size ∧ meth.locks = false ∧ (Jvm.Cond.and given_1 narrow_1).before #[Value.ref b] s = true
section
variable {p : Program} {l : Launch} {e : Env} {R : Room} {s : State} {m : MethodId} {args : Array Value} {below : List Frame} {meth : Method} {c : Code} {H : Heap} {locs : List Loc} {cells slots : Nat} {Q : State → Prop}
variable {cc : ByteArray} {pc nL : Nat} {ls : Array Slot} {rest : List Value} {D : va_G} {cA : Nat → ClassId} {A : Nat → Prop} {a : Nat} {h : Hp}
theorem cl_SpokenMenusLaw_13 {As st0 : List Value} {b : Nat} {Qc : Array Value → State → Outcome → State → Prop} (cx : CallFix p m c cc nL s args tbG "SpokenMenusLaw") (hB : hp_B D cA A s h H locs) (hM : hp_M l yX10_menu prog_1_method_2_code 5 (Option.some FieldType.int) rmX10_menu D cA h (.ref b :: As) Qc) (hkb : h.1 b = 11) (hR : rmX10_menu.frames + 1 ≤ R.frames ∧ 8 + (5 + 11) + rmX10_menu.locals ≤ R.locals) (hn : As.length = 3) (hls : ls.size = nL) (hst : st0 = As.reverse ++ .ref b :: rest) (hW : (rest.map fun v => v.category).sum ≤ 8) (hf : cells + rmX10_menu.cells ≤ R.cells ∧ slots + rmX10_menu.slots ≤ R.slots) (hdg : decode cc pc = .ok (.invokevirtual 13, 3)) :
    va_Run p l e R s m args below meth c H locs cells slots rmX10_menu.cells rmX10_menu.slots (F0 m pc ls st0) rest (Qc (Value.ref b :: As).toArray) (hp_A h) :=
  hp_runV cx hB hM (ci := 10) rfl (by decide) hkb qw_228 qw_225 qw_226 qw_227 qw_1 (by decide +kernel) hR hn hls hst hW hf hdg
theorem cl_SpokenMenusLaw_17 {As st0 : List Value} {b : Nat} {Qc : Array Value → State → Outcome → State → Prop} (cx : CallFix p m c cc nL s args tbG "SpokenMenusLaw") (hB : hp_B D cA A s h H locs) (hM : hp_M l yX11_menu prog_13_method_7_code 4 (Option.some FieldType.int) rmX11_menu D cA h (.ref b :: As) Qc) (hkb : h.1 b = 12) (hR : rmX11_menu.frames + 1 ≤ R.frames ∧ 8 + (4 + 11) + rmX11_menu.locals ≤ R.locals) (hn : As.length = 3) (hls : ls.size = nL) (hst : st0 = As.reverse ++ .ref b :: rest) (hW : (rest.map fun v => v.category).sum ≤ 8) (hf : cells + rmX11_menu.cells ≤ R.cells ∧ slots + rmX11_menu.slots ≤ R.slots) (hdg : decode cc pc = .ok (.invokevirtual 17, 3)) :
    va_Run p l e R s m args below meth c H locs cells slots rmX11_menu.cells rmX11_menu.slots (F0 m pc ls st0) rest (Qc (Value.ref b :: As).toArray) (hp_A h) :=
  hp_runV cx hB hM (ci := 11) rfl (by decide) hkb qw_907 qw_904 qw_905 qw_906 qw_10 (by decide +kernel) hR hn hls hst hW hf hdg
theorem cl_SpokenMenusLaw_18 {As st0 : List Value} {b : Nat} {Qc : Array Value → State → Outcome → State → Prop} (cx : CallFix p m c cc nL s args tbG "SpokenMenusLaw") (hB : hp_B D cA A s h H locs) (hM : hp_M l yX10_line prog_1_method_3_code 7 (Option.some FieldType.int) rmX10_line D cA h (.ref b :: As) Qc) (hkb : h.1 b = 11) (hR : rmX10_line.frames + 1 ≤ R.frames ∧ 8 + (7 + 11) + rmX10_line.locals ≤ R.locals) (hn : As.length = 5) (hls : ls.size = nL) (hst : st0 = As.reverse ++ .ref b :: rest) (hW : (rest.map fun v => v.category).sum ≤ 8) (hf : cells + rmX10_line.cells ≤ R.cells ∧ slots + rmX10_line.slots ≤ R.slots) (hdg : decode cc pc = .ok (.invokevirtual 18, 3)) :
    va_Run p l e R s m args below meth c H locs cells slots rmX10_line.cells rmX10_line.slots (F0 m pc ls st0) rest (Qc (Value.ref b :: As).toArray) (hp_A h) :=
  hp_runV cx hB hM (ci := 10) rfl (by decide) hkb qw_315 qw_312 qw_313 qw_314 qw_1 (by decide +kernel) hR hn hls hst hW hf hdg
theorem cl_SpokenMenusLaw_22 {As st0 : List Value} {b : Nat} {Qc : Array Value → State → Outcome → State → Prop} (cx : CallFix p m c cc nL s args tbG "SpokenMenusLaw") (hB : hp_B D cA A s h H locs) (hM : hp_M l yX11_line prog_13_method_9_code 7 (Option.some FieldType.int) rmX11_line D cA h (.ref b :: As) Qc) (hkb : h.1 b = 12) (hR : rmX11_line.frames + 1 ≤ R.frames ∧ 8 + (7 + 11) + rmX11_line.locals ≤ R.locals) (hn : As.length = 5) (hls : ls.size = nL) (hst : st0 = As.reverse ++ .ref b :: rest) (hW : (rest.map fun v => v.category).sum ≤ 8) (hf : cells + rmX11_line.cells ≤ R.cells ∧ slots + rmX11_line.slots ≤ R.slots) (hdg : decode cc pc = .ok (.invokevirtual 22, 3)) :
    va_Run p l e R s m args below meth c H locs cells slots rmX11_line.cells rmX11_line.slots (F0 m pc ls st0) rest (Qc (Value.ref b :: As).toArray) (hp_A h) :=
  hp_runV cx hB hM (ci := 11) rfl (by decide) hkb qw_921 qw_918 qw_919 qw_920 qw_10 (by decide +kernel) hR hn hls hst hW hf hdg
theorem cl_SpokenMenusLaw_23 {As st0 : List Value} {b : Nat} {Qc : Array Value → State → Outcome → State → Prop} (cx : CallFix p m c cc nL s args tbG "SpokenMenusLaw") (hB : hp_B D cA A s h H locs) (hM : hp_M l yX10_desk prog_1_method_4_code 3 (Option.some FieldType.int) rmX10_desk D cA h (.ref b :: As) Qc) (hkb : h.1 b = 11) (hR : rmX10_desk.frames + 1 ≤ R.frames ∧ 8 + (3 + 11) + rmX10_desk.locals ≤ R.locals) (hn : As.length = 2) (hls : ls.size = nL) (hst : st0 = As.reverse ++ .ref b :: rest) (hW : (rest.map fun v => v.category).sum ≤ 8) (hf : cells + rmX10_desk.cells ≤ R.cells ∧ slots + rmX10_desk.slots ≤ R.slots) (hdg : decode cc pc = .ok (.invokevirtual 23, 3)) :
    va_Run p l e R s m args below meth c H locs cells slots rmX10_desk.cells rmX10_desk.slots (F0 m pc ls st0) rest (Qc (Value.ref b :: As).toArray) (hp_A h) :=
  hp_runV cx hB hM (ci := 10) rfl (by decide) hkb qw_366 qw_363 qw_364 qw_365 qw_1 (by decide +kernel) hR hn hls hst hW hf hdg
theorem cl_SpokenMenusLaw_27 {As st0 : List Value} {b : Nat} {Qc : Array Value → State → Outcome → State → Prop} (cx : CallFix p m c cc nL s args tbG "SpokenMenusLaw") (hB : hp_B D cA A s h H locs) (hM : hp_M l yX11_desk prog_13_method_10_code 4 (Option.some FieldType.int) rmX11_desk D cA h (.ref b :: As) Qc) (hkb : h.1 b = 12) (hR : rmX11_desk.frames + 1 ≤ R.frames ∧ 8 + (4 + 11) + rmX11_desk.locals ≤ R.locals) (hn : As.length = 2) (hls : ls.size = nL) (hst : st0 = As.reverse ++ .ref b :: rest) (hW : (rest.map fun v => v.category).sum ≤ 8) (hf : cells + rmX11_desk.cells ≤ R.cells ∧ slots + rmX11_desk.slots ≤ R.slots) (hdg : decode cc pc = .ok (.invokevirtual 27, 3)) :
    va_Run p l e R s m args below meth c H locs cells slots rmX11_desk.cells rmX11_desk.slots (F0 m pc ls st0) rest (Qc (Value.ref b :: As).toArray) (hp_A h) :=
  hp_runV cx hB hM (ci := 11) rfl (by decide) hkb qw_937 qw_934 qw_935 qw_936 qw_10 (by decide +kernel) hR hn hls hst hW hf hdg
theorem cl_SpokenMenusLaw_28 {As st0 : List Value} {b : Nat} {Qc : Array Value → State → Outcome → State → Prop} (cx : CallFix p m c cc nL s args tbG "SpokenMenusLaw") (hB : hp_B D cA A s h H locs) (hM : hp_M l yX10_leaf prog_1_method_5_code 4 (Option.some FieldType.int) rmX10_leaf D cA h (.ref b :: As) Qc) (hkb : h.1 b = 11) (hR : rmX10_leaf.frames + 1 ≤ R.frames ∧ 8 + (4 + 11) + rmX10_leaf.locals ≤ R.locals) (hn : As.length = 3) (hls : ls.size = nL) (hst : st0 = As.reverse ++ .ref b :: rest) (hW : (rest.map fun v => v.category).sum ≤ 8) (hf : cells + rmX10_leaf.cells ≤ R.cells ∧ slots + rmX10_leaf.slots ≤ R.slots) (hdg : decode cc pc = .ok (.invokevirtual 28, 3)) :
    va_Run p l e R s m args below meth c H locs cells slots rmX10_leaf.cells rmX10_leaf.slots (F0 m pc ls st0) rest (Qc (Value.ref b :: As).toArray) (hp_A h) :=
  hp_runV cx hB hM (ci := 10) rfl (by decide) hkb qw_370 qw_367 qw_368 qw_369 qw_1 (by decide +kernel) hR hn hls hst hW hf hdg
theorem cl_SpokenMenusLaw_31 {As st0 : List Value} {b : Nat} {Qc : Array Value → State → Outcome → State → Prop} (cx : CallFix p m c cc nL s args tbG "SpokenMenusLaw") (hB : hp_B D cA A s h H locs) (hM : hp_M l yX11_leaf prog_13_method_11_code 5 (Option.some FieldType.int) rmX11_leaf D cA h (.ref b :: As) Qc) (hkb : h.1 b = 12) (hR : rmX11_leaf.frames + 1 ≤ R.frames ∧ 8 + (5 + 11) + rmX11_leaf.locals ≤ R.locals) (hn : As.length = 3) (hls : ls.size = nL) (hst : st0 = As.reverse ++ .ref b :: rest) (hW : (rest.map fun v => v.category).sum ≤ 8) (hf : cells + rmX11_leaf.cells ≤ R.cells ∧ slots + rmX11_leaf.slots ≤ R.slots) (hdg : decode cc pc = .ok (.invokevirtual 31, 3)) :
    va_Run p l e R s m args below meth c H locs cells slots rmX11_leaf.cells rmX11_leaf.slots (F0 m pc ls st0) rest (Qc (Value.ref b :: As).toArray) (hp_A h) :=
  hp_runV cx hB hM (ci := 11) rfl (by decide) hkb qw_941 qw_938 qw_939 qw_940 qw_10 (by decide +kernel) hR hn hls hst hW hf hdg
theorem cl_SpokenMenusLaw_32 {As st0 : List Value} {b : Nat} {Qc : Array Value → State → Outcome → State → Prop} (cx : CallFix p m c cc nL s args tbG "SpokenMenusLaw") (hB : hp_B D cA A s h H locs) (hM : hp_M l yX10_clock prog_1_method_6_code 6 (Option.some FieldType.int) rmX10_clock D cA h (.ref b :: As) Qc) (hkb : h.1 b = 11) (hR : rmX10_clock.frames + 1 ≤ R.frames ∧ 8 + (6 + 11) + rmX10_clock.locals ≤ R.locals) (hn : As.length = 4) (hls : ls.size = nL) (hst : st0 = As.reverse ++ .ref b :: rest) (hW : (rest.map fun v => v.category).sum ≤ 8) (hf : cells + rmX10_clock.cells ≤ R.cells ∧ slots + rmX10_clock.slots ≤ R.slots) (hdg : decode cc pc = .ok (.invokevirtual 32, 3)) :
    va_Run p l e R s m args below meth c H locs cells slots rmX10_clock.cells rmX10_clock.slots (F0 m pc ls st0) rest (Qc (Value.ref b :: As).toArray) (hp_A h) :=
  hp_runV cx hB hM (ci := 10) rfl (by decide) hkb qw_374 qw_371 qw_372 qw_373 qw_1 (by decide +kernel) hR hn hls hst hW hf hdg
theorem cl_SpokenMenusLaw_36 {As st0 : List Value} {b : Nat} {Qc : Array Value → State → Outcome → State → Prop} (cx : CallFix p m c cc nL s args tbG "SpokenMenusLaw") (hB : hp_B D cA A s h H locs) (hM : hp_M l yX11_clock prog_13_method_12_code 5 (Option.some FieldType.int) rmX11_clock D cA h (.ref b :: As) Qc) (hkb : h.1 b = 12) (hR : rmX11_clock.frames + 1 ≤ R.frames ∧ 8 + (5 + 11) + rmX11_clock.locals ≤ R.locals) (hn : As.length = 4) (hls : ls.size = nL) (hst : st0 = As.reverse ++ .ref b :: rest) (hW : (rest.map fun v => v.category).sum ≤ 8) (hf : cells + rmX11_clock.cells ≤ R.cells ∧ slots + rmX11_clock.slots ≤ R.slots) (hdg : decode cc pc = .ok (.invokevirtual 36, 3)) :
    va_Run p l e R s m args below meth c H locs cells slots rmX11_clock.cells rmX11_clock.slots (F0 m pc ls st0) rest (Qc (Value.ref b :: As).toArray) (hp_A h) :=
  hp_runV cx hB hM (ci := 11) rfl (by decide) hkb qw_945 qw_942 qw_943 qw_944 qw_10 (by decide +kernel) hR hn hls hst hW hf hdg
theorem cl_SpokenMenusLaw_37 {As st0 : List Value} {b : Nat} {Qc : Array Value → State → Outcome → State → Prop} (cx : CallFix p m c cc nL s args tbG "SpokenMenusLaw") (hB : hp_B D cA A s h H locs) (hM : hp_M l yX10_asked prog_1_method_7_code 7 (Option.some FieldType.int) rmX10_asked D cA h (.ref b :: As) Qc) (hkb : h.1 b = 11) (hR : rmX10_asked.frames + 1 ≤ R.frames ∧ 8 + (7 + 11) + rmX10_asked.locals ≤ R.locals) (hn : As.length = 5) (hls : ls.size = nL) (hst : st0 = As.reverse ++ .ref b :: rest) (hW : (rest.map fun v => v.category).sum ≤ 8) (hf : cells + rmX10_asked.cells ≤ R.cells ∧ slots + rmX10_asked.slots ≤ R.slots) (hdg : decode cc pc = .ok (.invokevirtual 37, 3)) :
    va_Run p l e R s m args below meth c H locs cells slots rmX10_asked.cells rmX10_asked.slots (F0 m pc ls st0) rest (Qc (Value.ref b :: As).toArray) (hp_A h) :=
  hp_runV cx hB hM (ci := 10) rfl (by decide) hkb qw_381 qw_378 qw_379 qw_380 qw_1 (by decide +kernel) hR hn hls hst hW hf hdg
theorem cl_SpokenMenusLaw_40 {As st0 : List Value} {b : Nat} {Qc : Array Value → State → Outcome → State → Prop} (cx : CallFix p m c cc nL s args tbG "SpokenMenusLaw") (hB : hp_B D cA A s h H locs) (hM : hp_M l yX11_asked prog_13_method_13_code 6 (Option.some FieldType.int) rmX11_asked D cA h (.ref b :: As) Qc) (hkb : h.1 b = 12) (hR : rmX11_asked.frames + 1 ≤ R.frames ∧ 8 + (6 + 11) + rmX11_asked.locals ≤ R.locals) (hn : As.length = 5) (hls : ls.size = nL) (hst : st0 = As.reverse ++ .ref b :: rest) (hW : (rest.map fun v => v.category).sum ≤ 8) (hf : cells + rmX11_asked.cells ≤ R.cells ∧ slots + rmX11_asked.slots ≤ R.slots) (hdg : decode cc pc = .ok (.invokevirtual 40, 3)) :
    va_Run p l e R s m args below meth c H locs cells slots rmX11_asked.cells rmX11_asked.slots (F0 m pc ls st0) rest (Qc (Value.ref b :: As).toArray) (hp_A h) :=
  hp_runV cx hB hM (ci := 11) rfl (by decide) hkb qw_949 qw_946 qw_947 qw_948 qw_10 (by decide +kernel) hR hn hls hst hW hf hdg
theorem cl_SpokenMenusLaw_41 {As st0 : List Value} {b : Nat} {Qc : Array Value → State → Outcome → State → Prop} (cx : CallFix p m c cc nL s args tbG "SpokenMenusLaw") (hB : hp_B D cA A s h H locs) (hM : hp_M l yX10_change prog_1_method_8_code 7 (Option.some FieldType.int) rmX10_change D cA h (.ref b :: As) Qc) (hkb : h.1 b = 11) (hR : rmX10_change.frames + 1 ≤ R.frames ∧ 8 + (7 + 11) + rmX10_change.locals ≤ R.locals) (hn : As.length = 4) (hls : ls.size = nL) (hst : st0 = As.reverse ++ .ref b :: rest) (hW : (rest.map fun v => v.category).sum ≤ 8) (hf : cells + rmX10_change.cells ≤ R.cells ∧ slots + rmX10_change.slots ≤ R.slots) (hdg : decode cc pc = .ok (.invokevirtual 41, 3)) :
    va_Run p l e R s m args below meth c H locs cells slots rmX10_change.cells rmX10_change.slots (F0 m pc ls st0) rest (Qc (Value.ref b :: As).toArray) (hp_A h) :=
  hp_runV cx hB hM (ci := 10) rfl (by decide) hkb qw_385 qw_382 qw_383 qw_384 qw_1 (by decide +kernel) hR hn hls hst hW hf hdg
theorem cl_SpokenMenusLaw_44 {As st0 : List Value} {b : Nat} {Qc : Array Value → State → Outcome → State → Prop} (cx : CallFix p m c cc nL s args tbG "SpokenMenusLaw") (hB : hp_B D cA A s h H locs) (hM : hp_M l yX11_change prog_13_method_15_code 7 (Option.some FieldType.int) rmX11_change D cA h (.ref b :: As) Qc) (hkb : h.1 b = 12) (hR : rmX11_change.frames + 1 ≤ R.frames ∧ 8 + (7 + 11) + rmX11_change.locals ≤ R.locals) (hn : As.length = 4) (hls : ls.size = nL) (hst : st0 = As.reverse ++ .ref b :: rest) (hW : (rest.map fun v => v.category).sum ≤ 8) (hf : cells + rmX11_change.cells ≤ R.cells ∧ slots + rmX11_change.slots ≤ R.slots) (hdg : decode cc pc = .ok (.invokevirtual 44, 3)) :
    va_Run p l e R s m args below meth c H locs cells slots rmX11_change.cells rmX11_change.slots (F0 m pc ls st0) rest (Qc (Value.ref b :: As).toArray) (hp_A h) :=
  hp_runV cx hB hM (ci := 11) rfl (by decide) hkb qw_953 qw_950 qw_951 qw_952 qw_10 (by decide +kernel) hR hn hls hst hW hf hdg
theorem cl_SpokenMenusLaw_45 {As st0 : List Value} {b : Nat} {Qc : Array Value → State → Outcome → State → Prop} (cx : CallFix p m c cc nL s args tbG "SpokenMenusLaw") (hB : hp_B D cA A s h H locs) (hM : hp_M l yX10_swap prog_1_method_9_code 7 (Option.some FieldType.int) rmX10_swap D cA h (.ref b :: As) Qc) (hkb : h.1 b = 11) (hR : rmX10_swap.frames + 1 ≤ R.frames ∧ 8 + (7 + 11) + rmX10_swap.locals ≤ R.locals) (hn : As.length = 3) (hls : ls.size = nL) (hst : st0 = As.reverse ++ .ref b :: rest) (hW : (rest.map fun v => v.category).sum ≤ 8) (hf : cells + rmX10_swap.cells ≤ R.cells ∧ slots + rmX10_swap.slots ≤ R.slots) (hdg : decode cc pc = .ok (.invokevirtual 45, 3)) :
    va_Run p l e R s m args below meth c H locs cells slots rmX10_swap.cells rmX10_swap.slots (F0 m pc ls st0) rest (Qc (Value.ref b :: As).toArray) (hp_A h) :=
  hp_runV cx hB hM (ci := 10) rfl (by decide) hkb qw_397 qw_394 qw_395 qw_396 qw_1 (by decide +kernel) hR hn hls hst hW hf hdg
theorem cl_SpokenMenusLaw_48 {As st0 : List Value} {b : Nat} {Qc : Array Value → State → Outcome → State → Prop} (cx : CallFix p m c cc nL s args tbG "SpokenMenusLaw") (hB : hp_B D cA A s h H locs) (hM : hp_M l yX11_swap prog_13_method_18_code 4 (Option.some FieldType.int) rmX11_swap D cA h (.ref b :: As) Qc) (hkb : h.1 b = 12) (hR : rmX11_swap.frames + 1 ≤ R.frames ∧ 8 + (4 + 11) + rmX11_swap.locals ≤ R.locals) (hn : As.length = 3) (hls : ls.size = nL) (hst : st0 = As.reverse ++ .ref b :: rest) (hW : (rest.map fun v => v.category).sum ≤ 8) (hf : cells + rmX11_swap.cells ≤ R.cells ∧ slots + rmX11_swap.slots ≤ R.slots) (hdg : decode cc pc = .ok (.invokevirtual 48, 3)) :
    va_Run p l e R s m args below meth c H locs cells slots rmX11_swap.cells rmX11_swap.slots (F0 m pc ls st0) rest (Qc (Value.ref b :: As).toArray) (hp_A h) :=
  hp_runV cx hB hM (ci := 11) rfl (by decide) hkb qw_961 qw_958 qw_959 qw_960 qw_10 (by decide +kernel) hR hn hls hst hW hf hdg
theorem cl_SpokenMenusLaw_49 {As st0 : List Value} {b : Nat} {Qc : Array Value → State → Outcome → State → Prop} (cx : CallFix p m c cc nL s args tbG "SpokenMenusLaw") (hB : hp_B D cA A s h H locs) (hM : hp_M l yX10_place prog_1_method_10_code 4 (Option.some FieldType.int) rmX10_place D cA h (.ref b :: As) Qc) (hkb : h.1 b = 11) (hR : rmX10_place.frames + 1 ≤ R.frames ∧ 8 + (4 + 11) + rmX10_place.locals ≤ R.locals) (hn : As.length = 2) (hls : ls.size = nL) (hst : st0 = As.reverse ++ .ref b :: rest) (hW : (rest.map fun v => v.category).sum ≤ 8) (hf : cells + rmX10_place.cells ≤ R.cells ∧ slots + rmX10_place.slots ≤ R.slots) (hdg : decode cc pc = .ok (.invokevirtual 49, 3)) :
    va_Run p l e R s m args below meth c H locs cells slots rmX10_place.cells rmX10_place.slots (F0 m pc ls st0) rest (Qc (Value.ref b :: As).toArray) (hp_A h) :=
  hp_runV cx hB hM (ci := 10) rfl (by decide) hkb qw_401 qw_398 qw_399 qw_400 qw_1 (by decide +kernel) hR hn hls hst hW hf hdg
theorem cl_SpokenMenusLaw_52 {As st0 : List Value} {b : Nat} {Qc : Array Value → State → Outcome → State → Prop} (cx : CallFix p m c cc nL s args tbG "SpokenMenusLaw") (hB : hp_B D cA A s h H locs) (hM : hp_M l yX11_place prog_13_method_19_code 3 (Option.some FieldType.int) rmX11_place D cA h (.ref b :: As) Qc) (hkb : h.1 b = 12) (hR : rmX11_place.frames + 1 ≤ R.frames ∧ 8 + (3 + 11) + rmX11_place.locals ≤ R.locals) (hn : As.length = 2) (hls : ls.size = nL) (hst : st0 = As.reverse ++ .ref b :: rest) (hW : (rest.map fun v => v.category).sum ≤ 8) (hf : cells + rmX11_place.cells ≤ R.cells ∧ slots + rmX11_place.slots ≤ R.slots) (hdg : decode cc pc = .ok (.invokevirtual 52, 3)) :
    va_Run p l e R s m args below meth c H locs cells slots rmX11_place.cells rmX11_place.slots (F0 m pc ls st0) rest (Qc (Value.ref b :: As).toArray) (hp_A h) :=
  hp_runV cx hB hM (ci := 11) rfl (by decide) hkb qw_972 qw_969 qw_970 qw_971 qw_10 (by decide +kernel) hR hn hls hst hW hf hdg
theorem cl_SpokenMenusLaw_53 {As st0 : List Value} {b : Nat} {Qc : Array Value → State → Outcome → State → Prop} (cx : CallFix p m c cc nL s args tbG "SpokenMenusLaw") (hB : hp_B D cA A s h H locs) (hM : hp_M l yX10_lineOf prog_1_method_11_code 5 (Option.some FieldType.int) rmX10_lineOf D cA h (.ref b :: As) Qc) (hkb : h.1 b = 11) (hR : rmX10_lineOf.frames + 1 ≤ R.frames ∧ 8 + (5 + 11) + rmX10_lineOf.locals ≤ R.locals) (hn : As.length = 3) (hls : ls.size = nL) (hst : st0 = As.reverse ++ .ref b :: rest) (hW : (rest.map fun v => v.category).sum ≤ 8) (hf : cells + rmX10_lineOf.cells ≤ R.cells ∧ slots + rmX10_lineOf.slots ≤ R.slots) (hdg : decode cc pc = .ok (.invokevirtual 53, 3)) :
    va_Run p l e R s m args below meth c H locs cells slots rmX10_lineOf.cells rmX10_lineOf.slots (F0 m pc ls st0) rest (Qc (Value.ref b :: As).toArray) (hp_A h) :=
  hp_runV cx hB hM (ci := 10) rfl (by decide) hkb qw_406 qw_403 qw_404 qw_405 qw_1 (by decide +kernel) hR hn hls hst hW hf hdg
theorem cl_SpokenMenusLaw_56 {As st0 : List Value} {b : Nat} {Qc : Array Value → State → Outcome → State → Prop} (cx : CallFix p m c cc nL s args tbG "SpokenMenusLaw") (hB : hp_B D cA A s h H locs) (hM : hp_M l yX11_lineOf prog_13_method_20_code 5 (Option.some FieldType.int) rmX11_lineOf D cA h (.ref b :: As) Qc) (hkb : h.1 b = 12) (hR : rmX11_lineOf.frames + 1 ≤ R.frames ∧ 8 + (5 + 11) + rmX11_lineOf.locals ≤ R.locals) (hn : As.length = 3) (hls : ls.size = nL) (hst : st0 = As.reverse ++ .ref b :: rest) (hW : (rest.map fun v => v.category).sum ≤ 8) (hf : cells + rmX11_lineOf.cells ≤ R.cells ∧ slots + rmX11_lineOf.slots ≤ R.slots) (hdg : decode cc pc = .ok (.invokevirtual 56, 3)) :
    va_Run p l e R s m args below meth c H locs cells slots rmX11_lineOf.cells rmX11_lineOf.slots (F0 m pc ls st0) rest (Qc (Value.ref b :: As).toArray) (hp_A h) :=
  hp_runV cx hB hM (ci := 11) rfl (by decide) hkb qw_976 qw_973 qw_974 qw_975 qw_10 (by decide +kernel) hR hn hls hst hW hf hdg
theorem cl_SpokenMenusLaw_57 {As st0 : List Value} {b : Nat} {Qc : Array Value → State → Outcome → State → Prop} (cx : CallFix p m c cc nL s args tbG "SpokenMenusLaw") (hB : hp_B D cA A s h H locs) (hM : hp_M l yX10_ring prog_1_method_12_code 6 (Option.some FieldType.int) rmX10_ring D cA h (.ref b :: As) Qc) (hkb : h.1 b = 11) (hR : rmX10_ring.frames + 1 ≤ R.frames ∧ 8 + (6 + 11) + rmX10_ring.locals ≤ R.locals) (hn : As.length = 5) (hls : ls.size = nL) (hst : st0 = As.reverse ++ .ref b :: rest) (hW : (rest.map fun v => v.category).sum ≤ 8) (hf : cells + rmX10_ring.cells ≤ R.cells ∧ slots + rmX10_ring.slots ≤ R.slots) (hdg : decode cc pc = .ok (.invokevirtual 57, 3)) :
    va_Run p l e R s m args below meth c H locs cells slots rmX10_ring.cells rmX10_ring.slots (F0 m pc ls st0) rest (Qc (Value.ref b :: As).toArray) (hp_A h) :=
  hp_runV cx hB hM (ci := 10) rfl (by decide) hkb qw_410 qw_407 qw_408 qw_409 qw_1 (by decide +kernel) hR hn hls hst hW hf hdg
theorem cl_SpokenMenusLaw_60 {As st0 : List Value} {b : Nat} {Qc : Array Value → State → Outcome → State → Prop} (cx : CallFix p m c cc nL s args tbG "SpokenMenusLaw") (hB : hp_B D cA A s h H locs) (hM : hp_M l yX11_ring prog_13_method_35_code 8 (Option.some FieldType.int) rmX11_ring D cA h (.ref b :: As) Qc) (hkb : h.1 b = 12) (hR : rmX11_ring.frames + 1 ≤ R.frames ∧ 8 + (8 + 11) + rmX11_ring.locals ≤ R.locals) (hn : As.length = 5) (hls : ls.size = nL) (hst : st0 = As.reverse ++ .ref b :: rest) (hW : (rest.map fun v => v.category).sum ≤ 8) (hf : cells + rmX11_ring.cells ≤ R.cells ∧ slots + rmX11_ring.slots ≤ R.slots) (hdg : decode cc pc = .ok (.invokevirtual 60, 3)) :
    va_Run p l e R s m args below meth c H locs cells slots rmX11_ring.cells rmX11_ring.slots (F0 m pc ls st0) rest (Qc (Value.ref b :: As).toArray) (hp_A h) :=
  hp_runV cx hB hM (ci := 11) rfl (by decide) hkb qw_980 qw_977 qw_978 qw_979 qw_10 (by decide +kernel) hR hn hls hst hW hf hdg
theorem cl_SpokenMenusLaw_61 {As st0 : List Value} {b : Nat} {Qc : Array Value → State → Outcome → State → Prop} (cx : CallFix p m c cc nL s args tbG "SpokenMenusLaw") (hB : hp_B D cA A s h H locs) (hM : hp_M l yX10_call prog_1_method_13_code 2 (Option.some FieldType.int) rmX10_call D cA h (.ref b :: As) Qc) (hkb : h.1 b = 11) (hR : rmX10_call.frames + 1 ≤ R.frames ∧ 8 + (2 + 11) + rmX10_call.locals ≤ R.locals) (hn : As.length = 1) (hls : ls.size = nL) (hst : st0 = As.reverse ++ .ref b :: rest) (hW : (rest.map fun v => v.category).sum ≤ 8) (hf : cells + rmX10_call.cells ≤ R.cells ∧ slots + rmX10_call.slots ≤ R.slots) (hdg : decode cc pc = .ok (.invokevirtual 61, 3)) :
    va_Run p l e R s m args below meth c H locs cells slots rmX10_call.cells rmX10_call.slots (F0 m pc ls st0) rest (Qc (Value.ref b :: As).toArray) (hp_A h) :=
  hp_runV cx hB hM (ci := 10) rfl (by decide) hkb qw_559 qw_556 qw_557 qw_558 qw_1 (by decide +kernel) hR hn hls hst hW hf hdg
theorem cl_SpokenMenusLaw_65 {As st0 : List Value} {b : Nat} {Qc : Array Value → State → Outcome → State → Prop} (cx : CallFix p m c cc nL s args tbG "SpokenMenusLaw") (hB : hp_B D cA A s h H locs) (hM : hp_M l yX11_call prog_13_method_36_code 2 (Option.some FieldType.int) rmX11_call D cA h (.ref b :: As) Qc) (hkb : h.1 b = 12) (hR : rmX11_call.frames + 1 ≤ R.frames ∧ 8 + (2 + 11) + rmX11_call.locals ≤ R.locals) (hn : As.length = 1) (hls : ls.size = nL) (hst : st0 = As.reverse ++ .ref b :: rest) (hW : (rest.map fun v => v.category).sum ≤ 8) (hf : cells + rmX11_call.cells ≤ R.cells ∧ slots + rmX11_call.slots ≤ R.slots) (hdg : decode cc pc = .ok (.invokevirtual 65, 3)) :
    va_Run p l e R s m args below meth c H locs cells slots rmX11_call.cells rmX11_call.slots (F0 m pc ls st0) rest (Qc (Value.ref b :: As).toArray) (hp_A h) :=
  hp_runV cx hB hM (ci := 11) rfl (by decide) hkb qw_1041 qw_1038 qw_1039 qw_1040 qw_10 (by decide +kernel) hR hn hls hst hW hf hdg
theorem cl_SpokenMenusLaw_66 {As st0 : List Value} {b : Nat} {Qc : Array Value → State → Outcome → State → Prop} (cx : CallFix p m c cc nL s args tbG "SpokenMenusLaw") (hB : hp_B D cA A s h H locs) (hM : hp_M l yX10_came prog_1_method_14_code 2 (Option.some FieldType.int) rmX10_came D cA h (.ref b :: As) Qc) (hkb : h.1 b = 11) (hR : rmX10_came.frames + 1 ≤ R.frames ∧ 8 + (2 + 11) + rmX10_came.locals ≤ R.locals) (hn : As.length = 1) (hls : ls.size = nL) (hst : st0 = As.reverse ++ .ref b :: rest) (hW : (rest.map fun v => v.category).sum ≤ 8) (hf : cells + rmX10_came.cells ≤ R.cells ∧ slots + rmX10_came.slots ≤ R.slots) (hdg : decode cc pc = .ok (.invokevirtual 66, 3)) :
    va_Run p l e R s m args below meth c H locs cells slots rmX10_came.cells rmX10_came.slots (F0 m pc ls st0) rest (Qc (Value.ref b :: As).toArray) (hp_A h) :=
  hp_runV cx hB hM (ci := 10) rfl (by decide) hkb qw_563 qw_560 qw_561 qw_562 qw_1 (by decide +kernel) hR hn hls hst hW hf hdg
theorem cl_SpokenMenusLaw_69 {As st0 : List Value} {b : Nat} {Qc : Array Value → State → Outcome → State → Prop} (cx : CallFix p m c cc nL s args tbG "SpokenMenusLaw") (hB : hp_B D cA A s h H locs) (hM : hp_M l yX11_came prog_13_method_37_code 2 (Option.some FieldType.int) rmX11_came D cA h (.ref b :: As) Qc) (hkb : h.1 b = 12) (hR : rmX11_came.frames + 1 ≤ R.frames ∧ 8 + (2 + 11) + rmX11_came.locals ≤ R.locals) (hn : As.length = 1) (hls : ls.size = nL) (hst : st0 = As.reverse ++ .ref b :: rest) (hW : (rest.map fun v => v.category).sum ≤ 8) (hf : cells + rmX11_came.cells ≤ R.cells ∧ slots + rmX11_came.slots ≤ R.slots) (hdg : decode cc pc = .ok (.invokevirtual 69, 3)) :
    va_Run p l e R s m args below meth c H locs cells slots rmX11_came.cells rmX11_came.slots (F0 m pc ls st0) rest (Qc (Value.ref b :: As).toArray) (hp_A h) :=
  hp_runV cx hB hM (ci := 11) rfl (by decide) hkb qw_1045 qw_1042 qw_1043 qw_1044 qw_10 (by decide +kernel) hR hn hls hst hW hf hdg
theorem cl_SpokenMenusLaw_70 {As st0 : List Value} {b : Nat} {Qc : Array Value → State → Outcome → State → Prop} (cx : CallFix p m c cc nL s args tbG "SpokenMenusLaw") (hB : hp_B D cA A s h H locs) (hM : hp_M l yX10_pressed prog_1_method_15_code 2 (Option.some FieldType.int) rmX10_pressed D cA h (.ref b :: As) Qc) (hkb : h.1 b = 11) (hR : rmX10_pressed.frames + 1 ≤ R.frames ∧ 8 + (2 + 11) + rmX10_pressed.locals ≤ R.locals) (hn : As.length = 1) (hls : ls.size = nL) (hst : st0 = As.reverse ++ .ref b :: rest) (hW : (rest.map fun v => v.category).sum ≤ 8) (hf : cells + rmX10_pressed.cells ≤ R.cells ∧ slots + rmX10_pressed.slots ≤ R.slots) (hdg : decode cc pc = .ok (.invokevirtual 70, 3)) :
    va_Run p l e R s m args below meth c H locs cells slots rmX10_pressed.cells rmX10_pressed.slots (F0 m pc ls st0) rest (Qc (Value.ref b :: As).toArray) (hp_A h) :=
  hp_runV cx hB hM (ci := 10) rfl (by decide) hkb qw_570 qw_567 qw_568 qw_569 qw_1 (by decide +kernel) hR hn hls hst hW hf hdg
theorem cl_SpokenMenusLaw_73 {As st0 : List Value} {b : Nat} {Qc : Array Value → State → Outcome → State → Prop} (cx : CallFix p m c cc nL s args tbG "SpokenMenusLaw") (hB : hp_B D cA A s h H locs) (hM : hp_M l yX11_pressed prog_13_method_38_code 2 (Option.some FieldType.int) rmX11_pressed D cA h (.ref b :: As) Qc) (hkb : h.1 b = 12) (hR : rmX11_pressed.frames + 1 ≤ R.frames ∧ 8 + (2 + 11) + rmX11_pressed.locals ≤ R.locals) (hn : As.length = 1) (hls : ls.size = nL) (hst : st0 = As.reverse ++ .ref b :: rest) (hW : (rest.map fun v => v.category).sum ≤ 8) (hf : cells + rmX11_pressed.cells ≤ R.cells ∧ slots + rmX11_pressed.slots ≤ R.slots) (hdg : decode cc pc = .ok (.invokevirtual 73, 3)) :
    va_Run p l e R s m args below meth c H locs cells slots rmX11_pressed.cells rmX11_pressed.slots (F0 m pc ls st0) rest (Qc (Value.ref b :: As).toArray) (hp_A h) :=
  hp_runV cx hB hM (ci := 11) rfl (by decide) hkb qw_1049 qw_1046 qw_1047 qw_1048 qw_10 (by decide +kernel) hR hn hls hst hW hf hdg
theorem cl_SpokenMenusLaw_74 {As st0 : List Value} {b : Nat} {Qc : Array Value → State → Outcome → State → Prop} (cx : CallFix p m c cc nL s args tbG "SpokenMenusLaw") (hB : hp_B D cA A s h H locs) (hM : hp_M l yX10_fewest prog_1_method_16_code 6 (Option.some FieldType.int) rmX10_fewest D cA h (.ref b :: As) Qc) (hkb : h.1 b = 11) (hR : rmX10_fewest.frames + 1 ≤ R.frames ∧ 8 + (6 + 11) + rmX10_fewest.locals ≤ R.locals) (hn : As.length = 4) (hls : ls.size = nL) (hst : st0 = As.reverse ++ .ref b :: rest) (hW : (rest.map fun v => v.category).sum ≤ 8) (hf : cells + rmX10_fewest.cells ≤ R.cells ∧ slots + rmX10_fewest.slots ≤ R.slots) (hdg : decode cc pc = .ok (.invokevirtual 74, 3)) :
    va_Run p l e R s m args below meth c H locs cells slots rmX10_fewest.cells rmX10_fewest.slots (F0 m pc ls st0) rest (Qc (Value.ref b :: As).toArray) (hp_A h) :=
  hp_runV cx hB hM (ci := 10) rfl (by decide) hkb qw_574 qw_571 qw_572 qw_573 qw_1 (by decide +kernel) hR hn hls hst hW hf hdg
theorem cl_SpokenMenusLaw_77 {As st0 : List Value} {b : Nat} {Qc : Array Value → State → Outcome → State → Prop} (cx : CallFix p m c cc nL s args tbG "SpokenMenusLaw") (hB : hp_B D cA A s h H locs) (hM : hp_M l yX11_fewest prog_13_method_39_code 5 (Option.some FieldType.int) rmX11_fewest D cA h (.ref b :: As) Qc) (hkb : h.1 b = 12) (hR : rmX11_fewest.frames + 1 ≤ R.frames ∧ 8 + (5 + 11) + rmX11_fewest.locals ≤ R.locals) (hn : As.length = 4) (hls : ls.size = nL) (hst : st0 = As.reverse ++ .ref b :: rest) (hW : (rest.map fun v => v.category).sum ≤ 8) (hf : cells + rmX11_fewest.cells ≤ R.cells ∧ slots + rmX11_fewest.slots ≤ R.slots) (hdg : decode cc pc = .ok (.invokevirtual 77, 3)) :
    va_Run p l e R s m args below meth c H locs cells slots rmX11_fewest.cells rmX11_fewest.slots (F0 m pc ls st0) rest (Qc (Value.ref b :: As).toArray) (hp_A h) :=
  hp_runV cx hB hM (ci := 11) rfl (by decide) hkb qw_1053 qw_1050 qw_1051 qw_1052 qw_10 (by decide +kernel) hR hn hls hst hW hf hdg
theorem cl_SpokenMenusLaw_78 {As st0 : List Value} {b : Nat} {Qc : Array Value → State → Outcome → State → Prop} (cx : CallFix p m c cc nL s args tbG "SpokenMenusLaw") (hB : hp_B D cA A s h H locs) (hM : hp_M l yX10_trap prog_1_method_17_code 3 (Option.some FieldType.int) rmX10_trap D cA h (.ref b :: As) Qc) (hkb : h.1 b = 11) (hR : rmX10_trap.frames + 1 ≤ R.frames ∧ 8 + (3 + 11) + rmX10_trap.locals ≤ R.locals) (hn : As.length = 2) (hls : ls.size = nL) (hst : st0 = As.reverse ++ .ref b :: rest) (hW : (rest.map fun v => v.category).sum ≤ 8) (hf : cells + rmX10_trap.cells ≤ R.cells ∧ slots + rmX10_trap.slots ≤ R.slots) (hdg : decode cc pc = .ok (.invokevirtual 78, 3)) :
    va_Run p l e R s m args below meth c H locs cells slots rmX10_trap.cells rmX10_trap.slots (F0 m pc ls st0) rest (Qc (Value.ref b :: As).toArray) (hp_A h) :=
  hp_runV cx hB hM (ci := 10) rfl (by decide) hkb qw_581 qw_578 qw_579 qw_580 qw_1 (by decide +kernel) hR hn hls hst hW hf hdg
theorem cl_SpokenMenusLaw_81 {As st0 : List Value} {b : Nat} {Qc : Array Value → State → Outcome → State → Prop} (cx : CallFix p m c cc nL s args tbG "SpokenMenusLaw") (hB : hp_B D cA A s h H locs) (hM : hp_M l yX11_trap prog_13_method_42_code 5 (Option.some FieldType.int) rmX11_trap D cA h (.ref b :: As) Qc) (hkb : h.1 b = 12) (hR : rmX11_trap.frames + 1 ≤ R.frames ∧ 8 + (5 + 11) + rmX11_trap.locals ≤ R.locals) (hn : As.length = 2) (hls : ls.size = nL) (hst : st0 = As.reverse ++ .ref b :: rest) (hW : (rest.map fun v => v.category).sum ≤ 8) (hf : cells + rmX11_trap.cells ≤ R.cells ∧ slots + rmX11_trap.slots ≤ R.slots) (hdg : decode cc pc = .ok (.invokevirtual 81, 3)) :
    va_Run p l e R s m args below meth c H locs cells slots rmX11_trap.cells rmX11_trap.slots (F0 m pc ls st0) rest (Qc (Value.ref b :: As).toArray) (hp_A h) :=
  hp_runV cx hB hM (ci := 11) rfl (by decide) hkb qw_1057 qw_1054 qw_1055 qw_1056 qw_10 (by decide +kernel) hR hn hls hst hW hf hdg
theorem cl_SpokenMenusLaw_82 {As st0 : List Value} {b : Nat} {Qc : Array Value → State → Outcome → State → Prop} (cx : CallFix p m c cc nL s args tbG "SpokenMenusLaw") (hB : hp_B D cA A s h H locs) (hM : hp_M l yX10_group prog_1_method_18_code 7 (Option.some FieldType.int) rmX10_group D cA h (.ref b :: As) Qc) (hkb : h.1 b = 11) (hR : rmX10_group.frames + 1 ≤ R.frames ∧ 8 + (7 + 11) + rmX10_group.locals ≤ R.locals) (hn : As.length = 6) (hls : ls.size = nL) (hst : st0 = As.reverse ++ .ref b :: rest) (hW : (rest.map fun v => v.category).sum ≤ 8) (hf : cells + rmX10_group.cells ≤ R.cells ∧ slots + rmX10_group.slots ≤ R.slots) (hdg : decode cc pc = .ok (.invokevirtual 82, 3)) :
    va_Run p l e R s m args below meth c H locs cells slots rmX10_group.cells rmX10_group.slots (F0 m pc ls st0) rest (Qc (Value.ref b :: As).toArray) (hp_A h) :=
  hp_runV cx hB hM (ci := 10) rfl (by decide) hkb qw_615 qw_612 qw_613 qw_614 qw_1 (by decide +kernel) hR hn hls hst hW hf hdg
theorem cl_SpokenMenusLaw_86 {As st0 : List Value} {b : Nat} {Qc : Array Value → State → Outcome → State → Prop} (cx : CallFix p m c cc nL s args tbG "SpokenMenusLaw") (hB : hp_B D cA A s h H locs) (hM : hp_M l yX11_group prog_13_method_43_code 7 (Option.some FieldType.int) rmX11_group D cA h (.ref b :: As) Qc) (hkb : h.1 b = 12) (hR : rmX11_group.frames + 1 ≤ R.frames ∧ 8 + (7 + 11) + rmX11_group.locals ≤ R.locals) (hn : As.length = 6) (hls : ls.size = nL) (hst : st0 = As.reverse ++ .ref b :: rest) (hW : (rest.map fun v => v.category).sum ≤ 8) (hf : cells + rmX11_group.cells ≤ R.cells ∧ slots + rmX11_group.slots ≤ R.slots) (hdg : decode cc pc = .ok (.invokevirtual 86, 3)) :
    va_Run p l e R s m args below meth c H locs cells slots rmX11_group.cells rmX11_group.slots (F0 m pc ls st0) rest (Qc (Value.ref b :: As).toArray) (hp_A h) :=
  hp_runV cx hB hM (ci := 11) rfl (by decide) hkb qw_1069 qw_1066 qw_1067 qw_1068 qw_10 (by decide +kernel) hR hn hls hst hW hf hdg
theorem cl_SpokenMenusLaw_87 {As st0 : List Value} {b : Nat} {Qc : Array Value → State → Outcome → State → Prop} (cx : CallFix p m c cc nL s args tbG "SpokenMenusLaw") (hB : hp_B D cA A s h H locs) (hM : hp_M l yX10_noGroups prog_1_method_19_code 2 (Option.some FieldType.int) rmX10_noGroups D cA h (.ref b :: As) Qc) (hkb : h.1 b = 11) (hR : rmX10_noGroups.frames + 1 ≤ R.frames ∧ 8 + (2 + 11) + rmX10_noGroups.locals ≤ R.locals) (hn : As.length = 0) (hls : ls.size = nL) (hst : st0 = As.reverse ++ .ref b :: rest) (hW : (rest.map fun v => v.category).sum ≤ 8) (hf : cells + rmX10_noGroups.cells ≤ R.cells ∧ slots + rmX10_noGroups.slots ≤ R.slots) (hdg : decode cc pc = .ok (.invokevirtual 87, 3)) :
    va_Run p l e R s m args below meth c H locs cells slots rmX10_noGroups.cells rmX10_noGroups.slots (F0 m pc ls st0) rest (Qc (Value.ref b :: As).toArray) (hp_A h) :=
  hp_runV cx hB hM (ci := 10) rfl (by decide) hkb qw_623 qw_620 qw_621 qw_622 qw_1 (by decide +kernel) hR hn hls hst hW hf hdg
theorem cl_SpokenMenusLaw_91 {As st0 : List Value} {b : Nat} {Qc : Array Value → State → Outcome → State → Prop} (cx : CallFix p m c cc nL s args tbG "SpokenMenusLaw") (hB : hp_B D cA A s h H locs) (hM : hp_M l yX11_noGroups prog_13_method_44_code 2 (Option.some FieldType.int) rmX11_noGroups D cA h (.ref b :: As) Qc) (hkb : h.1 b = 12) (hR : rmX11_noGroups.frames + 1 ≤ R.frames ∧ 8 + (2 + 11) + rmX11_noGroups.locals ≤ R.locals) (hn : As.length = 0) (hls : ls.size = nL) (hst : st0 = As.reverse ++ .ref b :: rest) (hW : (rest.map fun v => v.category).sum ≤ 8) (hf : cells + rmX11_noGroups.cells ≤ R.cells ∧ slots + rmX11_noGroups.slots ≤ R.slots) (hdg : decode cc pc = .ok (.invokevirtual 91, 3)) :
    va_Run p l e R s m args below meth c H locs cells slots rmX11_noGroups.cells rmX11_noGroups.slots (F0 m pc ls st0) rest (Qc (Value.ref b :: As).toArray) (hp_A h) :=
  hp_runV cx hB hM (ci := 11) rfl (by decide) hkb qw_1073 qw_1070 qw_1071 qw_1072 qw_10 (by decide +kernel) hR hn hls hst hW hf hdg
theorem cl_SpokenMenusLaw_92 {As st0 : List Value} {b : Nat} {Qc : Array Value → State → Outcome → State → Prop} (cx : CallFix p m c cc nL s args tbG "SpokenMenusLaw") (hB : hp_B D cA A s h H locs) (hM : hp_M l yX10_sum prog_1_method_20_code 4 (Option.some FieldType.int) rmX10_sum D cA h (.ref b :: As) Qc) (hkb : h.1 b = 11) (hR : rmX10_sum.frames + 1 ≤ R.frames ∧ 8 + (4 + 11) + rmX10_sum.locals ≤ R.locals) (hn : As.length = 1) (hls : ls.size = nL) (hst : st0 = As.reverse ++ .ref b :: rest) (hW : (rest.map fun v => v.category).sum ≤ 8) (hf : cells + rmX10_sum.cells ≤ R.cells ∧ slots + rmX10_sum.slots ≤ R.slots) (hdg : decode cc pc = .ok (.invokevirtual 92, 3)) :
    va_Run p l e R s m args below meth c H locs cells slots rmX10_sum.cells rmX10_sum.slots (F0 m pc ls st0) rest (Qc (Value.ref b :: As).toArray) (hp_A h) :=
  hp_runV cx hB hM (ci := 10) rfl (by decide) hkb qw_627 qw_624 qw_625 qw_626 qw_1 (by decide +kernel) hR hn hls hst hW hf hdg
theorem cl_SpokenMenusLaw_95 {As st0 : List Value} {b : Nat} {Qc : Array Value → State → Outcome → State → Prop} (cx : CallFix p m c cc nL s args tbG "SpokenMenusLaw") (hB : hp_B D cA A s h H locs) (hM : hp_M l yX11_sum prog_13_method_46_code 5 (Option.some FieldType.int) rmX11_sum D cA h (.ref b :: As) Qc) (hkb : h.1 b = 12) (hR : rmX11_sum.frames + 1 ≤ R.frames ∧ 8 + (5 + 11) + rmX11_sum.locals ≤ R.locals) (hn : As.length = 1) (hls : ls.size = nL) (hst : st0 = As.reverse ++ .ref b :: rest) (hW : (rest.map fun v => v.category).sum ≤ 8) (hf : cells + rmX11_sum.cells ≤ R.cells ∧ slots + rmX11_sum.slots ≤ R.slots) (hdg : decode cc pc = .ok (.invokevirtual 95, 3)) :
    va_Run p l e R s m args below meth c H locs cells slots rmX11_sum.cells rmX11_sum.slots (F0 m pc ls st0) rest (Qc (Value.ref b :: As).toArray) (hp_A h) :=
  hp_runV cx hB hM (ci := 11) rfl (by decide) hkb qw_1077 qw_1074 qw_1075 qw_1076 qw_10 (by decide +kernel) hR hn hls hst hW hf hdg
theorem cl_SpokenMenusLaw_96 {As st0 : List Value} {b : Nat} {Qc : Array Value → State → Outcome → State → Prop} (cx : CallFix p m c cc nL s args tbG "SpokenMenusLaw") (hB : hp_B D cA A s h H locs) (hM : hp_M l yX10_hung prog_1_method_21_code 4 (Option.some FieldType.int) rmX10_hung D cA h (.ref b :: As) Qc) (hkb : h.1 b = 11) (hR : rmX10_hung.frames + 1 ≤ R.frames ∧ 8 + (4 + 11) + rmX10_hung.locals ≤ R.locals) (hn : As.length = 1) (hls : ls.size = nL) (hst : st0 = As.reverse ++ .ref b :: rest) (hW : (rest.map fun v => v.category).sum ≤ 8) (hf : cells + rmX10_hung.cells ≤ R.cells ∧ slots + rmX10_hung.slots ≤ R.slots) (hdg : decode cc pc = .ok (.invokevirtual 96, 3)) :
    va_Run p l e R s m args below meth c H locs cells slots rmX10_hung.cells rmX10_hung.slots (F0 m pc ls st0) rest (Qc (Value.ref b :: As).toArray) (hp_A h) :=
  hp_runV cx hB hM (ci := 10) rfl (by decide) hkb qw_631 qw_628 qw_629 qw_630 qw_1 (by decide +kernel) hR hn hls hst hW hf hdg
theorem cl_SpokenMenusLaw_99 {As st0 : List Value} {b : Nat} {Qc : Array Value → State → Outcome → State → Prop} (cx : CallFix p m c cc nL s args tbG "SpokenMenusLaw") (hB : hp_B D cA A s h H locs) (hM : hp_M l yX11_hung prog_13_method_47_code 5 (Option.some FieldType.int) rmX11_hung D cA h (.ref b :: As) Qc) (hkb : h.1 b = 12) (hR : rmX11_hung.frames + 1 ≤ R.frames ∧ 8 + (5 + 11) + rmX11_hung.locals ≤ R.locals) (hn : As.length = 1) (hls : ls.size = nL) (hst : st0 = As.reverse ++ .ref b :: rest) (hW : (rest.map fun v => v.category).sum ≤ 8) (hf : cells + rmX11_hung.cells ≤ R.cells ∧ slots + rmX11_hung.slots ≤ R.slots) (hdg : decode cc pc = .ok (.invokevirtual 99, 3)) :
    va_Run p l e R s m args below meth c H locs cells slots rmX11_hung.cells rmX11_hung.slots (F0 m pc ls st0) rest (Qc (Value.ref b :: As).toArray) (hp_A h) :=
  hp_runV cx hB hM (ci := 11) rfl (by decide) hkb qw_1085 qw_1082 qw_1083 qw_1084 qw_10 (by decide +kernel) hR hn hls hst hW hf hdg
theorem cl_SpokenMenusLaw_100 {As st0 : List Value} {b : Nat} {Qc : Array Value → State → Outcome → State → Prop} (cx : CallFix p m c cc nL s args tbG "SpokenMenusLaw") (hB : hp_B D cA A s h H locs) (hM : hp_M l yX10_order prog_1_method_22_code 4 (Option.some FieldType.int) rmX10_order D cA h (.ref b :: As) Qc) (hkb : h.1 b = 11) (hR : rmX10_order.frames + 1 ≤ R.frames ∧ 8 + (4 + 11) + rmX10_order.locals ≤ R.locals) (hn : As.length = 2) (hls : ls.size = nL) (hst : st0 = As.reverse ++ .ref b :: rest) (hW : (rest.map fun v => v.category).sum ≤ 8) (hf : cells + rmX10_order.cells ≤ R.cells ∧ slots + rmX10_order.slots ≤ R.slots) (hdg : decode cc pc = .ok (.invokevirtual 100, 3)) :
    va_Run p l e R s m args below meth c H locs cells slots rmX10_order.cells rmX10_order.slots (F0 m pc ls st0) rest (Qc (Value.ref b :: As).toArray) (hp_A h) :=
  hp_runV cx hB hM (ci := 10) rfl (by decide) hkb qw_635 qw_632 qw_633 qw_634 qw_1 (by decide +kernel) hR hn hls hst hW hf hdg
theorem cl_SpokenMenusLaw_103 {As st0 : List Value} {b : Nat} {Qc : Array Value → State → Outcome → State → Prop} (cx : CallFix p m c cc nL s args tbG "SpokenMenusLaw") (hB : hp_B D cA A s h H locs) (hM : hp_M l yX11_order prog_13_method_49_code 7 (Option.some FieldType.int) rmX11_order D cA h (.ref b :: As) Qc) (hkb : h.1 b = 12) (hR : rmX11_order.frames + 1 ≤ R.frames ∧ 8 + (7 + 11) + rmX11_order.locals ≤ R.locals) (hn : As.length = 2) (hls : ls.size = nL) (hst : st0 = As.reverse ++ .ref b :: rest) (hW : (rest.map fun v => v.category).sum ≤ 8) (hf : cells + rmX11_order.cells ≤ R.cells ∧ slots + rmX11_order.slots ≤ R.slots) (hdg : decode cc pc = .ok (.invokevirtual 103, 3)) :
    va_Run p l e R s m args below meth c H locs cells slots rmX11_order.cells rmX11_order.slots (F0 m pc ls st0) rest (Qc (Value.ref b :: As).toArray) (hp_A h) :=
  hp_runV cx hB hM (ci := 11) rfl (by decide) hkb qw_1089 qw_1086 qw_1087 qw_1088 qw_10 (by decide +kernel) hR hn hls hst hW hf hdg
theorem cl_SpokenMenusLaw_104 {As st0 : List Value} {b : Nat} {Qc : Array Value → State → Outcome → State → Prop} (cx : CallFix p m c cc nL s args tbG "SpokenMenusLaw") (hB : hp_B D cA A s h H locs) (hM : hp_M l yX10_arrange prog_1_method_23_code 3 (Option.some FieldType.int) rmX10_arrange D cA h (.ref b :: As) Qc) (hkb : h.1 b = 11) (hR : rmX10_arrange.frames + 1 ≤ R.frames ∧ 8 + (3 + 11) + rmX10_arrange.locals ≤ R.locals) (hn : As.length = 1) (hls : ls.size = nL) (hst : st0 = As.reverse ++ .ref b :: rest) (hW : (rest.map fun v => v.category).sum ≤ 8) (hf : cells + rmX10_arrange.cells ≤ R.cells ∧ slots + rmX10_arrange.slots ≤ R.slots) (hdg : decode cc pc = .ok (.invokevirtual 104, 3)) :
    va_Run p l e R s m args below meth c H locs cells slots rmX10_arrange.cells rmX10_arrange.slots (F0 m pc ls st0) rest (Qc (Value.ref b :: As).toArray) (hp_A h) :=
  hp_runV cx hB hM (ci := 10) rfl (by decide) hkb qw_674 qw_671 qw_672 qw_673 qw_1 (by decide +kernel) hR hn hls hst hW hf hdg
theorem cl_SpokenMenusLaw_107 {As st0 : List Value} {b : Nat} {Qc : Array Value → State → Outcome → State → Prop} (cx : CallFix p m c cc nL s args tbG "SpokenMenusLaw") (hB : hp_B D cA A s h H locs) (hM : hp_M l yX11_arrange prog_13_method_50_code 4 (Option.some FieldType.int) rmX11_arrange D cA h (.ref b :: As) Qc) (hkb : h.1 b = 12) (hR : rmX11_arrange.frames + 1 ≤ R.frames ∧ 8 + (4 + 11) + rmX11_arrange.locals ≤ R.locals) (hn : As.length = 1) (hls : ls.size = nL) (hst : st0 = As.reverse ++ .ref b :: rest) (hW : (rest.map fun v => v.category).sum ≤ 8) (hf : cells + rmX11_arrange.cells ≤ R.cells ∧ slots + rmX11_arrange.slots ≤ R.slots) (hdg : decode cc pc = .ok (.invokevirtual 107, 3)) :
    va_Run p l e R s m args below meth c H locs cells slots rmX11_arrange.cells rmX11_arrange.slots (F0 m pc ls st0) rest (Qc (Value.ref b :: As).toArray) (hp_A h) :=
  hp_runV cx hB hM (ci := 11) rfl (by decide) hkb qw_1097 qw_1094 qw_1095 qw_1096 qw_10 (by decide +kernel) hR hn hls hst hW hf hdg
theorem cl_SpokenMenusLaw_108 {As st0 : List Value} {b : Nat} {Qc : Array Value → State → Outcome → State → Prop} (cx : CallFix p m c cc nL s args tbG "SpokenMenusLaw") (hB : hp_B D cA A s h H locs) (hM : hp_M l yX10_wish prog_1_method_24_code 4 (Option.some FieldType.int) rmX10_wish D cA h (.ref b :: As) Qc) (hkb : h.1 b = 11) (hR : rmX10_wish.frames + 1 ≤ R.frames ∧ 8 + (4 + 11) + rmX10_wish.locals ≤ R.locals) (hn : As.length = 3) (hls : ls.size = nL) (hst : st0 = As.reverse ++ .ref b :: rest) (hW : (rest.map fun v => v.category).sum ≤ 8) (hf : cells + rmX10_wish.cells ≤ R.cells ∧ slots + rmX10_wish.slots ≤ R.slots) (hdg : decode cc pc = .ok (.invokevirtual 108, 3)) :
    va_Run p l e R s m args below meth c H locs cells slots rmX10_wish.cells rmX10_wish.slots (F0 m pc ls st0) rest (Qc (Value.ref b :: As).toArray) (hp_A h) :=
  hp_runV cx hB hM (ci := 10) rfl (by decide) hkb qw_682 qw_679 qw_680 qw_681 qw_1 (by decide +kernel) hR hn hls hst hW hf hdg
theorem cl_SpokenMenusLaw_111 {As st0 : List Value} {b : Nat} {Qc : Array Value → State → Outcome → State → Prop} (cx : CallFix p m c cc nL s args tbG "SpokenMenusLaw") (hB : hp_B D cA A s h H locs) (hM : hp_M l yX11_wish prog_13_method_51_code 4 (Option.some FieldType.int) rmX11_wish D cA h (.ref b :: As) Qc) (hkb : h.1 b = 12) (hR : rmX11_wish.frames + 1 ≤ R.frames ∧ 8 + (4 + 11) + rmX11_wish.locals ≤ R.locals) (hn : As.length = 3) (hls : ls.size = nL) (hst : st0 = As.reverse ++ .ref b :: rest) (hW : (rest.map fun v => v.category).sum ≤ 8) (hf : cells + rmX11_wish.cells ≤ R.cells ∧ slots + rmX11_wish.slots ≤ R.slots) (hdg : decode cc pc = .ok (.invokevirtual 111, 3)) :
    va_Run p l e R s m args below meth c H locs cells slots rmX11_wish.cells rmX11_wish.slots (F0 m pc ls st0) rest (Qc (Value.ref b :: As).toArray) (hp_A h) :=
  hp_runV cx hB hM (ci := 11) rfl (by decide) hkb qw_1101 qw_1098 qw_1099 qw_1100 qw_10 (by decide +kernel) hR hn hls hst hW hf hdg
theorem cl_SpokenMenusLaw_112 {As st0 : List Value} {b : Nat} {Qc : Array Value → State → Outcome → State → Prop} (cx : CallFix p m c cc nL s args tbG "SpokenMenusLaw") (hB : hp_B D cA A s h H locs) (hM : hp_M l yX10_plan prog_1_method_25_code 4 (Option.some FieldType.int) rmX10_plan D cA h (.ref b :: As) Qc) (hkb : h.1 b = 11) (hR : rmX10_plan.frames + 1 ≤ R.frames ∧ 8 + (4 + 11) + rmX10_plan.locals ≤ R.locals) (hn : As.length = 3) (hls : ls.size = nL) (hst : st0 = As.reverse ++ .ref b :: rest) (hW : (rest.map fun v => v.category).sum ≤ 8) (hf : cells + rmX10_plan.cells ≤ R.cells ∧ slots + rmX10_plan.slots ≤ R.slots) (hdg : decode cc pc = .ok (.invokevirtual 112, 3)) :
    va_Run p l e R s m args below meth c H locs cells slots rmX10_plan.cells rmX10_plan.slots (F0 m pc ls st0) rest (Qc (Value.ref b :: As).toArray) (hp_A h) :=
  hp_runV cx hB hM (ci := 10) rfl (by decide) hkb qw_686 qw_683 qw_684 qw_685 qw_1 (by decide +kernel) hR hn hls hst hW hf hdg
theorem cl_SpokenMenusLaw_115 {As st0 : List Value} {b : Nat} {Qc : Array Value → State → Outcome → State → Prop} (cx : CallFix p m c cc nL s args tbG "SpokenMenusLaw") (hB : hp_B D cA A s h H locs) (hM : hp_M l yX11_plan prog_13_method_56_code 6 (Option.some FieldType.int) rmX11_plan D cA h (.ref b :: As) Qc) (hkb : h.1 b = 12) (hR : rmX11_plan.frames + 1 ≤ R.frames ∧ 8 + (6 + 11) + rmX11_plan.locals ≤ R.locals) (hn : As.length = 3) (hls : ls.size = nL) (hst : st0 = As.reverse ++ .ref b :: rest) (hW : (rest.map fun v => v.category).sum ≤ 8) (hf : cells + rmX11_plan.cells ≤ R.cells ∧ slots + rmX11_plan.slots ≤ R.slots) (hdg : decode cc pc = .ok (.invokevirtual 115, 3)) :
    va_Run p l e R s m args below meth c H locs cells slots rmX11_plan.cells rmX11_plan.slots (F0 m pc ls st0) rest (Qc (Value.ref b :: As).toArray) (hp_A h) :=
  hp_runV cx hB hM (ci := 11) rfl (by decide) hkb qw_1105 qw_1102 qw_1103 qw_1104 qw_10 (by decide +kernel) hR hn hls hst hW hf hdg
theorem cl_SpokenMenusLaw_116 {As st0 : List Value} {b : Nat} {Qc : Array Value → State → Outcome → State → Prop} (cx : CallFix p m c cc nL s args tbG "SpokenMenusLaw") (hB : hp_B D cA A s h H locs) (hM : hp_M l yX10_planned prog_1_method_26_code 3 (Option.some FieldType.int) rmX10_planned D cA h (.ref b :: As) Qc) (hkb : h.1 b = 11) (hR : rmX10_planned.frames + 1 ≤ R.frames ∧ 8 + (3 + 11) + rmX10_planned.locals ≤ R.locals) (hn : As.length = 2) (hls : ls.size = nL) (hst : st0 = As.reverse ++ .ref b :: rest) (hW : (rest.map fun v => v.category).sum ≤ 8) (hf : cells + rmX10_planned.cells ≤ R.cells ∧ slots + rmX10_planned.slots ≤ R.slots) (hdg : decode cc pc = .ok (.invokevirtual 116, 3)) :
    va_Run p l e R s m args below meth c H locs cells slots rmX10_planned.cells rmX10_planned.slots (F0 m pc ls st0) rest (Qc (Value.ref b :: As).toArray) (hp_A h) :=
  hp_runV cx hB hM (ci := 10) rfl (by decide) hkb qw_713 qw_710 qw_711 qw_712 qw_1 (by decide +kernel) hR hn hls hst hW hf hdg
theorem cl_SpokenMenusLaw_119 {As st0 : List Value} {b : Nat} {Qc : Array Value → State → Outcome → State → Prop} (cx : CallFix p m c cc nL s args tbG "SpokenMenusLaw") (hB : hp_B D cA A s h H locs) (hM : hp_M l yX11_planned prog_13_method_57_code 8 (Option.some FieldType.int) rmX11_planned D cA h (.ref b :: As) Qc) (hkb : h.1 b = 12) (hR : rmX11_planned.frames + 1 ≤ R.frames ∧ 8 + (8 + 11) + rmX11_planned.locals ≤ R.locals) (hn : As.length = 2) (hls : ls.size = nL) (hst : st0 = As.reverse ++ .ref b :: rest) (hW : (rest.map fun v => v.category).sum ≤ 8) (hf : cells + rmX11_planned.cells ≤ R.cells ∧ slots + rmX11_planned.slots ≤ R.slots) (hdg : decode cc pc = .ok (.invokevirtual 119, 3)) :
    va_Run p l e R s m args below meth c H locs cells slots rmX11_planned.cells rmX11_planned.slots (F0 m pc ls st0) rest (Qc (Value.ref b :: As).toArray) (hp_A h) :=
  hp_runV cx hB hM (ci := 11) rfl (by decide) hkb qw_1124 qw_1121 qw_1122 qw_1123 qw_10 (by decide +kernel) hR hn hls hst hW hf hdg
theorem cl_SpokenMenusLaw_120 {As st0 : List Value} {b : Nat} {Qc : Array Value → State → Outcome → State → Prop} (cx : CallFix p m c cc nL s args tbG "SpokenMenusLaw") (hB : hp_B D cA A s h H locs) (hM : hp_M l yX10_count prog_1_method_27_code 2 (Option.some FieldType.int) rmX10_count D cA h (.ref b :: As) Qc) (hkb : h.1 b = 11) (hR : rmX10_count.frames + 1 ≤ R.frames ∧ 8 + (2 + 11) + rmX10_count.locals ≤ R.locals) (hn : As.length = 1) (hls : ls.size = nL) (hst : st0 = As.reverse ++ .ref b :: rest) (hW : (rest.map fun v => v.category).sum ≤ 8) (hf : cells + rmX10_count.cells ≤ R.cells ∧ slots + rmX10_count.slots ≤ R.slots) (hdg : decode cc pc = .ok (.invokevirtual 120, 3)) :
    va_Run p l e R s m args below meth c H locs cells slots rmX10_count.cells rmX10_count.slots (F0 m pc ls st0) rest (Qc (Value.ref b :: As).toArray) (hp_A h) :=
  hp_runV cx hB hM (ci := 10) rfl (by decide) hkb qw_721 qw_718 qw_719 qw_720 qw_1 (by decide +kernel) hR hn hls hst hW hf hdg
theorem cl_SpokenMenusLaw_123 {As st0 : List Value} {b : Nat} {Qc : Array Value → State → Outcome → State → Prop} (cx : CallFix p m c cc nL s args tbG "SpokenMenusLaw") (hB : hp_B D cA A s h H locs) (hM : hp_M l yX11_count prog_13_method_58_code 4 (Option.some FieldType.int) rmX11_count D cA h (.ref b :: As) Qc) (hkb : h.1 b = 12) (hR : rmX11_count.frames + 1 ≤ R.frames ∧ 8 + (4 + 11) + rmX11_count.locals ≤ R.locals) (hn : As.length = 1) (hls : ls.size = nL) (hst : st0 = As.reverse ++ .ref b :: rest) (hW : (rest.map fun v => v.category).sum ≤ 8) (hf : cells + rmX11_count.cells ≤ R.cells ∧ slots + rmX11_count.slots ≤ R.slots) (hdg : decode cc pc = .ok (.invokevirtual 123, 3)) :
    va_Run p l e R s m args below meth c H locs cells slots rmX11_count.cells rmX11_count.slots (F0 m pc ls st0) rest (Qc (Value.ref b :: As).toArray) (hp_A h) :=
  hp_runV cx hB hM (ci := 11) rfl (by decide) hkb qw_1128 qw_1125 qw_1126 qw_1127 qw_10 (by decide +kernel) hR hn hls hst hW hf hdg
theorem cl_SpokenMenusLaw_9 {As st0 : List Value} {b : Nat} {Qc : Array Value → State → Outcome → State → Prop} (cx : CallFix p m c cc nL s args tbG "SpokenMenusLaw") (hB : hp_B D cA A s h H locs) (hM : hp_M l yX10_init prog_1_method_1_code 1 none rmX10_init D cA h (.ref b :: As) Qc) (hR : rmX10_init.frames + 1 ≤ R.frames ∧ 8 + (1 + 11) + rmX10_init.locals ≤ R.locals) (hn : As.length = 0) (hls : ls.size = nL) (hst : st0 = As.reverse ++ .ref b :: rest) (hW : (rest.map fun v => v.category).sum ≤ 8) (hf : cells + rmX10_init.cells ≤ R.cells ∧ slots + rmX10_init.slots ≤ R.slots) (hdg : decode cc pc = .ok (.invokespecial 9, 3)) :
    va_Run p l e R s m args below meth c H locs cells slots rmX10_init.cells rmX10_init.slots (F0 m pc ls st0) rest (Qc (Value.ref b :: As).toArray) (hp_A h) :=
  hp_runI cx hB hM qw_20 qw_18 qw_19 qw_1 rfl (by decide +kernel) hR hn hls hst hW hf hdg
theorem cl_SpokenMenusLaw_12 {As st0 : List Value} {b : Nat} {Qc : Array Value → State → Outcome → State → Prop} (cx : CallFix p m c cc nL s args tbG "SpokenMenusLaw") (hB : hp_B D cA A s h H locs) (hM : hp_M l yX11_init prog_13_method_1_code 2 none rmX11_init D cA h (.ref b :: As) Qc) (hR : rmX11_init.frames + 1 ≤ R.frames ∧ 8 + (2 + 11) + rmX11_init.locals ≤ R.locals) (hn : As.length = 0) (hls : ls.size = nL) (hst : st0 = As.reverse ++ .ref b :: rest) (hW : (rest.map fun v => v.category).sum ≤ 8) (hf : cells + rmX11_init.cells ≤ R.cells ∧ slots + rmX11_init.slots ≤ R.slots) (hdg : decode cc pc = .ok (.invokespecial 12, 3)) :
    va_Run p l e R s m args below meth c H locs cells slots rmX11_init.cells rmX11_init.slots (F0 m pc ls st0) rest (Qc (Value.ref b :: As).toArray) (hp_A h) :=
  hp_runI cx hB hM qw_730 qw_728 qw_729 qw_10 rfl (by decide +kernel) hR hn hls hst hW hf hdg
end
def lc_0 (xs : Nat → Int32) (L : Nat) (rc : Nat → Nat → Int32 → Hp → Option Unit) (t1 t2 : Nat) (v3 : Int32) (h : Hp) : Option Unit :=
  gd (ix (v3 + 1) L) <|
  gd (ix (v3 + 2) L) <|
  gd (ix (v3 + 3) L) <|
  gk (h.1 t1) 11 <|
  b2 (fX10_menu t1 (xs (Int32.toNatClampNeg (v3 + 1))) (xs (Int32.toNatClampNeg (v3 + 2))) (xs (Int32.toNatClampNeg (v3 + 3))) h) fun r7 g5 =>
  gk (g5.1 t2) 12 <|
  b2 (fX11_menu t2 (xs (Int32.toNatClampNeg (v3 + 1))) (xs (Int32.toNatClampNeg (v3 + 2))) (xs (Int32.toNatClampNeg (v3 + 3))) g5) fun r11 g9 =>
  gd (decide (r7 = r11)) <|
  nm (v3 + 7) fun x9 =>
  rc t1 t2 x9 g9
def lc_1 (xs : Nat → Int32) (L : Nat) (rc : Nat → Nat → Int32 → Hp → Option Unit) (t1 t2 : Nat) (v3 : Int32) (h : Hp) : Option Unit :=
  gd (ix (v3 + 1) L) <|
  gd (ix (v3 + 2) L) <|
  gd (ix (v3 + 3) L) <|
  gd (ix (v3 + 4) L) <|
  gd (ix (v3 + 5) L) <|
  gk (h.1 t1) 11 <|
  b2 (fX10_line t1 (xs (Int32.toNatClampNeg (v3 + 1))) (xs (Int32.toNatClampNeg (v3 + 2))) (xs (Int32.toNatClampNeg (v3 + 3))) (xs (Int32.toNatClampNeg (v3 + 4))) (xs (Int32.toNatClampNeg (v3 + 5))) h) fun r9 g7 =>
  gk (g7.1 t2) 12 <|
  b2 (fX11_line t2 (xs (Int32.toNatClampNeg (v3 + 1))) (xs (Int32.toNatClampNeg (v3 + 2))) (xs (Int32.toNatClampNeg (v3 + 3))) (xs (Int32.toNatClampNeg (v3 + 4))) (xs (Int32.toNatClampNeg (v3 + 5))) g7) fun r13 g11 =>
  gd (decide (r9 = r13)) <|
  nm (v3 + 7) fun x9 =>
  rc t1 t2 x9 g11
def lc_2 (xs : Nat → Int32) (L : Nat) (rc : Nat → Nat → Int32 → Hp → Option Unit) (t1 t2 : Nat) (v3 : Int32) (h : Hp) : Option Unit :=
  gd (ix (v3 + 1) L) <|
  gd (ix (v3 + 2) L) <|
  gk (h.1 t1) 11 <|
  b2 (fX10_desk t1 (xs (Int32.toNatClampNeg (v3 + 1))) (xs (Int32.toNatClampNeg (v3 + 2))) h) fun r6 g4 =>
  gk (g4.1 t2) 12 <|
  b2 (fX11_desk t2 (xs (Int32.toNatClampNeg (v3 + 1))) (xs (Int32.toNatClampNeg (v3 + 2))) g4) fun r10 g8 =>
  gd (decide (r6 = r10)) <|
  nm (v3 + 7) fun x9 =>
  rc t1 t2 x9 g8
def lc_3 (xs : Nat → Int32) (L : Nat) (rc : Nat → Nat → Int32 → Hp → Option Unit) (t1 t2 : Nat) (v3 : Int32) (h : Hp) : Option Unit :=
  gd (ix (v3 + 1) L) <|
  gd (ix (v3 + 2) L) <|
  gd (ix (v3 + 3) L) <|
  gk (h.1 t1) 11 <|
  b2 (fX10_leaf t1 (xs (Int32.toNatClampNeg (v3 + 1))) (xs (Int32.toNatClampNeg (v3 + 2))) (xs (Int32.toNatClampNeg (v3 + 3))) h) fun r7 g5 =>
  gk (g5.1 t2) 12 <|
  b2 (fX11_leaf t2 (xs (Int32.toNatClampNeg (v3 + 1))) (xs (Int32.toNatClampNeg (v3 + 2))) (xs (Int32.toNatClampNeg (v3 + 3))) g5) fun r11 g9 =>
  gd (decide (r7 = r11)) <|
  nm (v3 + 7) fun x9 =>
  rc t1 t2 x9 g9
def lc_4 (xs : Nat → Int32) (L : Nat) (rc : Nat → Nat → Int32 → Hp → Option Unit) (t1 t2 : Nat) (v3 : Int32) (h : Hp) : Option Unit :=
  gd (ix (v3 + 1) L) <|
  gd (ix (v3 + 2) L) <|
  gd (ix (v3 + 3) L) <|
  gd (ix (v3 + 4) L) <|
  gk (h.1 t1) 11 <|
  b2 (fX10_clock t1 (xs (Int32.toNatClampNeg (v3 + 1))) (xs (Int32.toNatClampNeg (v3 + 2))) (xs (Int32.toNatClampNeg (v3 + 3))) (xs (Int32.toNatClampNeg (v3 + 4))) h) fun r8 g6 =>
  gk (g6.1 t2) 12 <|
  b2 (fX11_clock t2 (xs (Int32.toNatClampNeg (v3 + 1))) (xs (Int32.toNatClampNeg (v3 + 2))) (xs (Int32.toNatClampNeg (v3 + 3))) (xs (Int32.toNatClampNeg (v3 + 4))) g6) fun r12 g10 =>
  gd (decide (r8 = r12)) <|
  nm (v3 + 7) fun x9 =>
  rc t1 t2 x9 g10
def lc_5 (xs : Nat → Int32) (L : Nat) (rc : Nat → Nat → Int32 → Hp → Option Unit) (t1 t2 : Nat) (v3 : Int32) (h : Hp) : Option Unit :=
  gd (ix (v3 + 1) L) <|
  gd (ix (v3 + 2) L) <|
  gd (ix (v3 + 3) L) <|
  gd (ix (v3 + 4) L) <|
  gd (ix (v3 + 5) L) <|
  gk (h.1 t1) 11 <|
  b2 (fX10_asked t1 (xs (Int32.toNatClampNeg (v3 + 1))) (xs (Int32.toNatClampNeg (v3 + 2))) (xs (Int32.toNatClampNeg (v3 + 3))) (xs (Int32.toNatClampNeg (v3 + 4))) (xs (Int32.toNatClampNeg (v3 + 5))) h) fun r9 g7 =>
  gk (g7.1 t2) 12 <|
  b2 (fX11_asked t2 (xs (Int32.toNatClampNeg (v3 + 1))) (xs (Int32.toNatClampNeg (v3 + 2))) (xs (Int32.toNatClampNeg (v3 + 3))) (xs (Int32.toNatClampNeg (v3 + 4))) (xs (Int32.toNatClampNeg (v3 + 5))) g7) fun r13 g11 =>
  gd (decide (r9 = r13)) <|
  nm (v3 + 7) fun x9 =>
  rc t1 t2 x9 g11
def lc_6 (xs : Nat → Int32) (L : Nat) (rc : Nat → Nat → Int32 → Hp → Option Unit) (t1 t2 : Nat) (v3 : Int32) (h : Hp) : Option Unit :=
  gd (ix (v3 + 1) L) <|
  gd (ix (v3 + 2) L) <|
  gd (ix (v3 + 3) L) <|
  gd (ix (v3 + 4) L) <|
  gk (h.1 t1) 11 <|
  b2 (fX10_change t1 (xs (Int32.toNatClampNeg (v3 + 1))) (xs (Int32.toNatClampNeg (v3 + 2))) (xs (Int32.toNatClampNeg (v3 + 3))) (xs (Int32.toNatClampNeg (v3 + 4))) h) fun r8 g6 =>
  gk (g6.1 t2) 12 <|
  b2 (fX11_change t2 (xs (Int32.toNatClampNeg (v3 + 1))) (xs (Int32.toNatClampNeg (v3 + 2))) (xs (Int32.toNatClampNeg (v3 + 3))) (xs (Int32.toNatClampNeg (v3 + 4))) g6) fun r12 g10 =>
  gd (decide (r8 = r12)) <|
  nm (v3 + 7) fun x9 =>
  rc t1 t2 x9 g10
def lc_7 (xs : Nat → Int32) (L : Nat) (rc : Nat → Nat → Int32 → Hp → Option Unit) (t1 t2 : Nat) (v3 : Int32) (h : Hp) : Option Unit :=
  gd (ix (v3 + 1) L) <|
  gd (ix (v3 + 2) L) <|
  gd (ix (v3 + 3) L) <|
  gk (h.1 t1) 11 <|
  b2 (fX10_swap t1 (xs (Int32.toNatClampNeg (v3 + 1))) (xs (Int32.toNatClampNeg (v3 + 2))) (xs (Int32.toNatClampNeg (v3 + 3))) h) fun r7 g5 =>
  gk (g5.1 t2) 12 <|
  b2 (fX11_swap t2 (xs (Int32.toNatClampNeg (v3 + 1))) (xs (Int32.toNatClampNeg (v3 + 2))) (xs (Int32.toNatClampNeg (v3 + 3))) g5) fun r11 g9 =>
  gd (decide (r7 = r11)) <|
  nm (v3 + 7) fun x9 =>
  rc t1 t2 x9 g9
def lc_8 (xs : Nat → Int32) (L : Nat) (rc : Nat → Nat → Int32 → Hp → Option Unit) (t1 t2 : Nat) (v3 : Int32) (h : Hp) : Option Unit :=
  gd (ix (v3 + 1) L) <|
  gd (ix (v3 + 2) L) <|
  gk (h.1 t1) 11 <|
  b2 (fX10_place t1 (xs (Int32.toNatClampNeg (v3 + 1))) (xs (Int32.toNatClampNeg (v3 + 2))) h) fun r6 g4 =>
  gk (g4.1 t2) 12 <|
  b2 (fX11_place t2 (xs (Int32.toNatClampNeg (v3 + 1))) (xs (Int32.toNatClampNeg (v3 + 2))) g4) fun r10 g8 =>
  gd (decide (r6 = r10)) <|
  nm (v3 + 7) fun x9 =>
  rc t1 t2 x9 g8
def lc_9 (xs : Nat → Int32) (L : Nat) (rc : Nat → Nat → Int32 → Hp → Option Unit) (t1 t2 : Nat) (v3 : Int32) (h : Hp) : Option Unit :=
  gd (ix (v3 + 1) L) <|
  gd (ix (v3 + 2) L) <|
  gd (ix (v3 + 3) L) <|
  gk (h.1 t1) 11 <|
  b2 (fX10_lineOf t1 (xs (Int32.toNatClampNeg (v3 + 1))) (xs (Int32.toNatClampNeg (v3 + 2))) (xs (Int32.toNatClampNeg (v3 + 3))) h) fun r7 g5 =>
  gk (g5.1 t2) 12 <|
  b2 (fX11_lineOf t2 (xs (Int32.toNatClampNeg (v3 + 1))) (xs (Int32.toNatClampNeg (v3 + 2))) (xs (Int32.toNatClampNeg (v3 + 3))) g5) fun r11 g9 =>
  gd (decide (r7 = r11)) <|
  nm (v3 + 7) fun x9 =>
  rc t1 t2 x9 g9
def lc_10 (xs : Nat → Int32) (L : Nat) (rc : Nat → Nat → Int32 → Hp → Option Unit) (t1 t2 : Nat) (v3 : Int32) (h : Hp) : Option Unit :=
  gd (ix (v3 + 1) L) <|
  gd (ix (v3 + 2) L) <|
  gd (ix (v3 + 3) L) <|
  gd (ix (v3 + 4) L) <|
  gd (ix (v3 + 5) L) <|
  gk (h.1 t1) 11 <|
  b2 (fX10_ring t1 (xs (Int32.toNatClampNeg (v3 + 1))) (xs (Int32.toNatClampNeg (v3 + 2))) (xs (Int32.toNatClampNeg (v3 + 3))) (xs (Int32.toNatClampNeg (v3 + 4))) (xs (Int32.toNatClampNeg (v3 + 5))) h) fun r9 g7 =>
  gk (g7.1 t2) 12 <|
  b2 (fX11_ring t2 (xs (Int32.toNatClampNeg (v3 + 1))) (xs (Int32.toNatClampNeg (v3 + 2))) (xs (Int32.toNatClampNeg (v3 + 3))) (xs (Int32.toNatClampNeg (v3 + 4))) (xs (Int32.toNatClampNeg (v3 + 5))) g7) fun r13 g11 =>
  gd (decide (r9 = r13)) <|
  nm (v3 + 7) fun x9 =>
  rc t1 t2 x9 g11
def lc_11 (xs : Nat → Int32) (L : Nat) (rc : Nat → Nat → Int32 → Hp → Option Unit) (t1 t2 : Nat) (v3 : Int32) (h : Hp) : Option Unit :=
  gd (ix (v3 + 1) L) <|
  gk (h.1 t1) 11 <|
  b2 (fX10_call t1 (xs (Int32.toNatClampNeg (v3 + 1))) h) fun r5 g3 =>
  gk (g3.1 t2) 12 <|
  b2 (fX11_call t2 (xs (Int32.toNatClampNeg (v3 + 1))) g3) fun r9 g7 =>
  gd (decide (r5 = r9)) <|
  nm (v3 + 7) fun x9 =>
  rc t1 t2 x9 g7
def lc_12 (xs : Nat → Int32) (L : Nat) (rc : Nat → Nat → Int32 → Hp → Option Unit) (t1 t2 : Nat) (v3 : Int32) (h : Hp) : Option Unit :=
  gd (ix (v3 + 1) L) <|
  gk (h.1 t1) 11 <|
  b2 (fX10_came t1 (xs (Int32.toNatClampNeg (v3 + 1))) h) fun r5 g3 =>
  gk (g3.1 t2) 12 <|
  b2 (fX11_came t2 (xs (Int32.toNatClampNeg (v3 + 1))) g3) fun r9 g7 =>
  gd (decide (r5 = r9)) <|
  nm (v3 + 7) fun x9 =>
  rc t1 t2 x9 g7
def lc_13 (xs : Nat → Int32) (L : Nat) (rc : Nat → Nat → Int32 → Hp → Option Unit) (t1 t2 : Nat) (v3 : Int32) (h : Hp) : Option Unit :=
  gd (ix (v3 + 1) L) <|
  gk (h.1 t1) 11 <|
  b2 (fX10_pressed t1 (xs (Int32.toNatClampNeg (v3 + 1))) h) fun r5 g3 =>
  gk (g3.1 t2) 12 <|
  b2 (fX11_pressed t2 (xs (Int32.toNatClampNeg (v3 + 1))) g3) fun r9 g7 =>
  gd (decide (r5 = r9)) <|
  nm (v3 + 7) fun x9 =>
  rc t1 t2 x9 g7
def lc_14 (xs : Nat → Int32) (L : Nat) (rc : Nat → Nat → Int32 → Hp → Option Unit) (t1 t2 : Nat) (v3 : Int32) (h : Hp) : Option Unit :=
  gd (ix (v3 + 1) L) <|
  gd (ix (v3 + 2) L) <|
  gd (ix (v3 + 3) L) <|
  gd (ix (v3 + 4) L) <|
  gk (h.1 t1) 11 <|
  b2 (fX10_fewest t1 (xs (Int32.toNatClampNeg (v3 + 1))) (xs (Int32.toNatClampNeg (v3 + 2))) (xs (Int32.toNatClampNeg (v3 + 3))) (xs (Int32.toNatClampNeg (v3 + 4))) h) fun r8 g6 =>
  gk (g6.1 t2) 12 <|
  b2 (fX11_fewest t2 (xs (Int32.toNatClampNeg (v3 + 1))) (xs (Int32.toNatClampNeg (v3 + 2))) (xs (Int32.toNatClampNeg (v3 + 3))) (xs (Int32.toNatClampNeg (v3 + 4))) g6) fun r12 g10 =>
  gd (decide (r8 = r12)) <|
  nm (v3 + 7) fun x9 =>
  rc t1 t2 x9 g10
def lc_15 (xs : Nat → Int32) (L : Nat) (rc : Nat → Nat → Int32 → Hp → Option Unit) (t1 t2 : Nat) (v3 : Int32) (h : Hp) : Option Unit :=
  gd (ix (v3 + 1) L) <|
  gd (ix (v3 + 2) L) <|
  gk (h.1 t1) 11 <|
  b2 (fX10_trap t1 (xs (Int32.toNatClampNeg (v3 + 1))) (xs (Int32.toNatClampNeg (v3 + 2))) h) fun r6 g4 =>
  gk (g4.1 t2) 12 <|
  b2 (fX11_trap t2 (xs (Int32.toNatClampNeg (v3 + 1))) (xs (Int32.toNatClampNeg (v3 + 2))) g4) fun r10 g8 =>
  gd (decide (r6 = r10)) <|
  nm (v3 + 7) fun x9 =>
  rc t1 t2 x9 g8
def lc_16 (xs : Nat → Int32) (L : Nat) (rc : Nat → Nat → Int32 → Hp → Option Unit) (t1 t2 : Nat) (v3 : Int32) (h : Hp) : Option Unit :=
  gd (ix (v3 + 1) L) <|
  gd (ix (v3 + 2) L) <|
  gd (ix (v3 + 3) L) <|
  gd (ix (v3 + 4) L) <|
  gd (ix (v3 + 5) L) <|
  gd (ix (v3 + 6) L) <|
  gk (h.1 t1) 11 <|
  b2 (fX10_group t1 (xs (Int32.toNatClampNeg (v3 + 1))) (xs (Int32.toNatClampNeg (v3 + 2))) (xs (Int32.toNatClampNeg (v3 + 3))) (xs (Int32.toNatClampNeg (v3 + 4))) (xs (Int32.toNatClampNeg (v3 + 5))) (xs (Int32.toNatClampNeg (v3 + 6))) h) fun r10 g8 =>
  gk (g8.1 t2) 12 <|
  b2 (fX11_group t2 (xs (Int32.toNatClampNeg (v3 + 1))) (xs (Int32.toNatClampNeg (v3 + 2))) (xs (Int32.toNatClampNeg (v3 + 3))) (xs (Int32.toNatClampNeg (v3 + 4))) (xs (Int32.toNatClampNeg (v3 + 5))) (xs (Int32.toNatClampNeg (v3 + 6))) g8) fun r14 g12 =>
  gd (decide (r10 = r14)) <|
  nm (v3 + 7) fun x9 =>
  rc t1 t2 x9 g12
def lc_17 (xs : Nat → Int32) (L : Nat) (rc : Nat → Nat → Int32 → Hp → Option Unit) (t1 t2 : Nat) (v3 : Int32) (h : Hp) : Option Unit :=
  gk (h.1 t1) 11 <|
  b2 (fX10_noGroups t1 h) fun r4 g2 =>
  gk (g2.1 t2) 12 <|
  b2 (fX11_noGroups t2 g2) fun r8 g6 =>
  gd (decide (r4 = r8)) <|
  nm (v3 + 7) fun x9 =>
  rc t1 t2 x9 g6
def lc_18 (xs : Nat → Int32) (L : Nat) (rc : Nat → Nat → Int32 → Hp → Option Unit) (t1 t2 : Nat) (v3 : Int32) (h : Hp) : Option Unit :=
  gd (ix (v3 + 1) L) <|
  gk (h.1 t1) 11 <|
  b2 (fX10_sum t1 (xs (Int32.toNatClampNeg (v3 + 1))) h) fun r5 g3 =>
  gk (g3.1 t2) 12 <|
  b2 (fX11_sum t2 (xs (Int32.toNatClampNeg (v3 + 1))) g3) fun r9 g7 =>
  gd (decide (r5 = r9)) <|
  nm (v3 + 7) fun x9 =>
  rc t1 t2 x9 g7
def lc_19 (xs : Nat → Int32) (L : Nat) (rc : Nat → Nat → Int32 → Hp → Option Unit) (t1 t2 : Nat) (v3 : Int32) (h : Hp) : Option Unit :=
  gd (ix (v3 + 1) L) <|
  gk (h.1 t1) 11 <|
  b2 (fX10_hung t1 (xs (Int32.toNatClampNeg (v3 + 1))) h) fun r5 g3 =>
  gk (g3.1 t2) 12 <|
  b2 (fX11_hung t2 (xs (Int32.toNatClampNeg (v3 + 1))) g3) fun r9 g7 =>
  gd (decide (r5 = r9)) <|
  nm (v3 + 7) fun x9 =>
  rc t1 t2 x9 g7
def lc_20 (xs : Nat → Int32) (L : Nat) (rc : Nat → Nat → Int32 → Hp → Option Unit) (t1 t2 : Nat) (v3 : Int32) (h : Hp) : Option Unit :=
  gd (ix (v3 + 1) L) <|
  gd (ix (v3 + 2) L) <|
  gk (h.1 t1) 11 <|
  b2 (fX10_order t1 (xs (Int32.toNatClampNeg (v3 + 1))) (xs (Int32.toNatClampNeg (v3 + 2))) h) fun r6 g4 =>
  gk (g4.1 t2) 12 <|
  b2 (fX11_order t2 (xs (Int32.toNatClampNeg (v3 + 1))) (xs (Int32.toNatClampNeg (v3 + 2))) g4) fun r10 g8 =>
  gd (decide (r6 = r10)) <|
  nm (v3 + 7) fun x9 =>
  rc t1 t2 x9 g8
def lc_21 (xs : Nat → Int32) (L : Nat) (rc : Nat → Nat → Int32 → Hp → Option Unit) (t1 t2 : Nat) (v3 : Int32) (h : Hp) : Option Unit :=
  gd (ix (v3 + 1) L) <|
  gk (h.1 t1) 11 <|
  b2 (fX10_arrange t1 (xs (Int32.toNatClampNeg (v3 + 1))) h) fun r5 g3 =>
  gk (g3.1 t2) 12 <|
  b2 (fX11_arrange t2 (xs (Int32.toNatClampNeg (v3 + 1))) g3) fun r9 g7 =>
  gd (decide (r5 = r9)) <|
  nm (v3 + 7) fun x9 =>
  rc t1 t2 x9 g7
def lc_22 (xs : Nat → Int32) (L : Nat) (rc : Nat → Nat → Int32 → Hp → Option Unit) (t1 t2 : Nat) (v3 : Int32) (h : Hp) : Option Unit :=
  gd (ix (v3 + 1) L) <|
  gd (ix (v3 + 2) L) <|
  gd (ix (v3 + 3) L) <|
  gk (h.1 t1) 11 <|
  b2 (fX10_wish t1 (xs (Int32.toNatClampNeg (v3 + 1))) (xs (Int32.toNatClampNeg (v3 + 2))) (xs (Int32.toNatClampNeg (v3 + 3))) h) fun r7 g5 =>
  gk (g5.1 t2) 12 <|
  b2 (fX11_wish t2 (xs (Int32.toNatClampNeg (v3 + 1))) (xs (Int32.toNatClampNeg (v3 + 2))) (xs (Int32.toNatClampNeg (v3 + 3))) g5) fun r11 g9 =>
  gd (decide (r7 = r11)) <|
  nm (v3 + 7) fun x9 =>
  rc t1 t2 x9 g9
def lc_23 (xs : Nat → Int32) (L : Nat) (rc : Nat → Nat → Int32 → Hp → Option Unit) (t1 t2 : Nat) (v3 : Int32) (h : Hp) : Option Unit :=
  gd (ix (v3 + 1) L) <|
  gd (ix (v3 + 2) L) <|
  gd (ix (v3 + 3) L) <|
  gk (h.1 t1) 11 <|
  b2 (fX10_plan t1 (xs (Int32.toNatClampNeg (v3 + 1))) (xs (Int32.toNatClampNeg (v3 + 2))) (xs (Int32.toNatClampNeg (v3 + 3))) h) fun r7 g5 =>
  gk (g5.1 t2) 12 <|
  b2 (fX11_plan t2 (xs (Int32.toNatClampNeg (v3 + 1))) (xs (Int32.toNatClampNeg (v3 + 2))) (xs (Int32.toNatClampNeg (v3 + 3))) g5) fun r11 g9 =>
  gd (decide (r7 = r11)) <|
  nm (v3 + 7) fun x9 =>
  rc t1 t2 x9 g9
def lc_24 (xs : Nat → Int32) (L : Nat) (rc : Nat → Nat → Int32 → Hp → Option Unit) (t1 t2 : Nat) (v3 : Int32) (h : Hp) : Option Unit :=
  gd (ix (v3 + 1) L) <|
  gd (ix (v3 + 2) L) <|
  gk (h.1 t1) 11 <|
  b2 (fX10_planned t1 (xs (Int32.toNatClampNeg (v3 + 1))) (xs (Int32.toNatClampNeg (v3 + 2))) h) fun r6 g4 =>
  gk (g4.1 t2) 12 <|
  b2 (fX11_planned t2 (xs (Int32.toNatClampNeg (v3 + 1))) (xs (Int32.toNatClampNeg (v3 + 2))) g4) fun r10 g8 =>
  gd (decide (r6 = r10)) <|
  nm (v3 + 7) fun x9 =>
  rc t1 t2 x9 g8
def lc_25 (xs : Nat → Int32) (L : Nat) (rc : Nat → Nat → Int32 → Hp → Option Unit) (t1 t2 : Nat) (v3 : Int32) (h : Hp) : Option Unit :=
  gd (ix (v3 + 1) L) <|
  gk (h.1 t1) 11 <|
  b2 (fX10_count t1 (xs (Int32.toNatClampNeg (v3 + 1))) h) fun r5 g3 =>
  gk (g3.1 t2) 12 <|
  b2 (fX11_count t2 (xs (Int32.toNatClampNeg (v3 + 1))) g3) fun r9 g7 =>
  gd (decide (r5 = r9)) <|
  nm (v3 + 7) fun x9 =>
  rc t1 t2 x9 g7
def lc_26 (xs : Nat → Int32) (L : Nat) (rc : Nat → Nat → Int32 → Hp → Option Unit) (t1 t2 : Nat) (v3 : Int32) (h : Hp) : Option Unit :=
  nm (v3 + 7) fun x9 =>
  rc t1 t2 x9 h
def lb (xs : Nat → Int32) (L : Nat) (rc : Nat → Nat → Int32 → Hp → Option Unit) (t1 t2 : Nat) (v3 : Int32) (h : Hp) : Option Unit :=
  if ((Int32.ofNat L) - 7) < v3 then some ()
  else
  (gd (ix v3 L) <|
  nm ((xs (Int32.toNatClampNeg v3)) &&& 31) fun x =>
  if x = 0 then (lc_0 xs L rc t1 t2 v3 h) else
  if x = 1 then (lc_1 xs L rc t1 t2 v3 h) else
  if x = 2 then (lc_2 xs L rc t1 t2 v3 h) else
  if x = 3 then (lc_3 xs L rc t1 t2 v3 h) else
  if x = 4 then (lc_4 xs L rc t1 t2 v3 h) else
  if x = 5 then (lc_5 xs L rc t1 t2 v3 h) else
  if x = 6 then (lc_6 xs L rc t1 t2 v3 h) else
  if x = 7 then (lc_7 xs L rc t1 t2 v3 h) else
  if x = 8 then (lc_8 xs L rc t1 t2 v3 h) else
  if x = 9 then (lc_9 xs L rc t1 t2 v3 h) else
  if x = 10 then (lc_10 xs L rc t1 t2 v3 h) else
  if x = 11 then (lc_11 xs L rc t1 t2 v3 h) else
  if x = 12 then (lc_12 xs L rc t1 t2 v3 h) else
  if x = 13 then (lc_13 xs L rc t1 t2 v3 h) else
  if x = 14 then (lc_14 xs L rc t1 t2 v3 h) else
  if x = 15 then (lc_15 xs L rc t1 t2 v3 h) else
  if x = 16 then (lc_16 xs L rc t1 t2 v3 h) else
  if x = 17 then (lc_17 xs L rc t1 t2 v3 h) else
  if x = 18 then (lc_18 xs L rc t1 t2 v3 h) else
  if x = 19 then (lc_19 xs L rc t1 t2 v3 h) else
  if x = 20 then (lc_20 xs L rc t1 t2 v3 h) else
  if x = 21 then (lc_21 xs L rc t1 t2 v3 h) else
  if x = 22 then (lc_22 xs L rc t1 t2 v3 h) else
  if x = 23 then (lc_23 xs L rc t1 t2 v3 h) else
  if x = 24 then (lc_24 xs L rc t1 t2 v3 h) else
  if x = 25 then (lc_25 xs L rc t1 t2 v3 h) else
  (lc_26 xs L rc t1 t2 v3 h))
def lL (xs : Nat → Int32) (L : Nat) (n : Nat) : Nat → Nat → Int32 → Hp → Option Unit := fx (lb xs L) (fun _ _ _ _ => none) n
section
variable {p : Program} {l : Launch} {e : Env} {s : State} {m : MethodId} {below : List Frame} {meth : Method} {c : Code} {D : va_G} {cA : Nat → ClassId} {b L : Nat} {xs : Nat → Int32}
set_option maxHeartbeats 4000000 in
set_option maxRecDepth 100000 in
theorem tL_0 {rc : Nat → Nat → Int32 → Hp → Option Unit} {cells slots : Nat} (cx : CallFix p m c code 4 s #[Value.ref b] tbG "SpokenMenusLaw") (hX : va_X b L xs s s.heap) (hbl : b < s.heap.size) (hcb : cells + 4 ≤ 600000) (hsb : slots + 64 ≤ 7302250) {t1 t2 : Nat} (hr : ∀ (v3 : Int32) (h : Hp) (H : Heap) (locs : List Loc) (ls : Array Slot), hp_B D cA (fun q : Nat => s.heap.size ≤ q) s h H locs → lv_has ls 4 [(0, .ref b), (1, .ref t1), (2, .ref t2), (3, .int v3)] → rc t1 t2 v3 h = some () → W p l e room_1 s m #[Value.ref b] below meth c H locs (cells + 4) (slots + 64) (lw_Z below #[Value.ref b] s) (F0 m 18 ls [])) (v3 : Int32) (h : Hp) (H : Heap) (locs : List Loc) (ls : Array Slot) (hB : hp_B D cA (fun q : Nat => s.heap.size ≤ q) s h H locs) (hl : lv_has ls 4 [(0, .ref b), (1, .ref t1), (2, .ref t2), (3, .int v3)]) (hf : lc_0 xs L rc t1 t2 v3 h = some ()) : W p l e room_1 s m #[Value.ref b] below meth c H locs cells slots (lw_Z below #[Value.ref b] s) (F0 m 152 ls []) := by
  obtain ⟨hx, hb, -⟩ := id cx
  have hbA : ¬ (fun q : Nat => s.heap.size ≤ q) b := Nat.not_le.mpr hbl
  unfold lc_0 at hf
  refine lv_aload_n hx hb dL_152 rfl (lv_at hl 1 rfl) ?_
  refine lv_aload_n hx hb dL_153 rfl (lv_at hl 0 rfl) ?_
  refine lv_iload_n hx hb dL_154 rfl (lv_at hl 3 rfl) ?_
  refine lv_iconst (v := 1) hx hb dL_155 (by decide) ?_
  refine lv_iadd hx hb dL_156 ?_
  obtain ⟨j1, hf⟩ := gd_ok hf
  refine va_sld hx hb hX hbl hbA hB.2.2.2.2.2 (ix_in j1) dL_157 ?_
  refine lv_aload_n hx hb dL_158 rfl (lv_at hl 0 rfl) ?_
  refine lv_iload_n hx hb dL_159 rfl (lv_at hl 3 rfl) ?_
  refine lv_iconst (v := 2) hx hb dL_160 (by decide) ?_
  refine lv_iadd hx hb dL_161 ?_
  obtain ⟨j2, hf⟩ := gd_ok hf
  refine va_sld hx hb hX hbl hbA hB.2.2.2.2.2 (ix_in j2) dL_162 ?_
  refine lv_aload_n hx hb dL_163 rfl (lv_at hl 0 rfl) ?_
  refine lv_iload_n hx hb dL_164 rfl (lv_at hl 3 rfl) ?_
  refine lv_iconst (v := 3) hx hb dL_165 (by decide) ?_
  refine lv_iadd hx hb dL_166 ?_
  obtain ⟨j3, hf⟩ := gd_ok hf
  refine va_sld hx hb hX hbl hbA hB.2.2.2.2.2 (ix_in j3) dL_167 ?_
  obtain ⟨k4, hf⟩ := gk_ok hf
  obtain ⟨r7, g5, m6, hf⟩ := b2_ok hf
  refine hp_cI (cl_SpokenMenusLaw_13 cx hB (cX10_menu l D cA t1 (xs (Int32.toNatClampNeg (v3 + 1))) (xs (Int32.toNatClampNeg (v3 + 2))) (xs (Int32.toNatClampNeg (v3 + 3))) h _ g5 m6) k4 ⟨Nat.le_of_ble_eq_true rfl, Nat.le_of_ble_eq_true rfl⟩ rfl hl.1 rfl (Nat.le_of_ble_eq_true rfl) ⟨Nat.le_trans (Nat.add_le_add_left (Nat.le_of_ble_eq_true rfl) _) hcb, Nat.le_trans (Nat.add_le_add_left (Nat.le_of_ble_eq_true rfl) _) hsb⟩ dL_168) hB (fun H locs hB => ?_)
  refine W.widen (k := cells + 4) (n := slots + 64) (Nat.add_le_add_left (Nat.le_of_ble_eq_true rfl) _) (Nat.add_le_add_left (Nat.le_of_ble_eq_true rfl) _) ?_
  refine lv_aload_n hx hb dL_171 rfl (lv_at hl 2 rfl) ?_
  refine lv_aload_n hx hb dL_172 rfl (lv_at hl 0 rfl) ?_
  refine lv_iload_n hx hb dL_173 rfl (lv_at hl 3 rfl) ?_
  refine lv_iconst (v := 1) hx hb dL_174 (by decide) ?_
  refine lv_iadd hx hb dL_175 ?_
  refine va_sld hx hb hX hbl hbA hB.2.2.2.2.2 (ix_in j1) dL_176 ?_
  refine lv_aload_n hx hb dL_177 rfl (lv_at hl 0 rfl) ?_
  refine lv_iload_n hx hb dL_178 rfl (lv_at hl 3 rfl) ?_
  refine lv_iconst (v := 2) hx hb dL_179 (by decide) ?_
  refine lv_iadd hx hb dL_180 ?_
  refine va_sld hx hb hX hbl hbA hB.2.2.2.2.2 (ix_in j2) dL_181 ?_
  refine lv_aload_n hx hb dL_182 rfl (lv_at hl 0 rfl) ?_
  refine lv_iload_n hx hb dL_183 rfl (lv_at hl 3 rfl) ?_
  refine lv_iconst (v := 3) hx hb dL_184 (by decide) ?_
  refine lv_iadd hx hb dL_185 ?_
  refine va_sld hx hb hX hbl hbA hB.2.2.2.2.2 (ix_in j3) dL_186 ?_
  obtain ⟨k8, hf⟩ := gk_ok hf
  obtain ⟨r11, g9, m10, hf⟩ := b2_ok hf
  refine hp_cI0 (cl_SpokenMenusLaw_17 cx hB (cX11_menu l D cA t2 (xs (Int32.toNatClampNeg (v3 + 1))) (xs (Int32.toNatClampNeg (v3 + 2))) (xs (Int32.toNatClampNeg (v3 + 3))) g5 _ g9 m10) k8 ⟨Nat.le_of_ble_eq_true rfl, Nat.le_of_ble_eq_true rfl⟩ rfl hl.1 rfl (Nat.le_of_ble_eq_true rfl) ⟨hcb, hsb⟩ dL_187) rfl rfl hB (fun H locs hB => ?_)
  obtain ⟨c12, hf⟩ := gd_ok hf
  refine lv_icmp_eq (tgt := 1172) hx hb dL_190 (by decide) (fun ce => ?_) (fun ce => absurd (of_decide_eq_true c12) ce)
  obtain ⟨x9, ex9, hf⟩ := nm_ok hf
  refine lv_iinc (v := x9) (lv' := [(3, .int x9), (0, .ref b), (1, .ref t1), (2, .ref t2)]) hx hb dL_1172 hl (k := 3) rfl (by rw [ex9]; rfl) (by decide) rfl (fun ls hl => ?_)
  refine lv_goto (tgt := 18) hx hb dL_1175 (by decide) ?_
  exact hr x9 g9 _ _ _ hB (lv_sub hl [1, 2, 3, 0] rfl) hf
set_option maxHeartbeats 4000000 in
set_option maxRecDepth 100000 in
theorem tL_1 {rc : Nat → Nat → Int32 → Hp → Option Unit} {cells slots : Nat} (cx : CallFix p m c code 4 s #[Value.ref b] tbG "SpokenMenusLaw") (hX : va_X b L xs s s.heap) (hbl : b < s.heap.size) (hcb : cells + 4 ≤ 600000) (hsb : slots + 64 ≤ 7302250) {t1 t2 : Nat} (hr : ∀ (v3 : Int32) (h : Hp) (H : Heap) (locs : List Loc) (ls : Array Slot), hp_B D cA (fun q : Nat => s.heap.size ≤ q) s h H locs → lv_has ls 4 [(0, .ref b), (1, .ref t1), (2, .ref t2), (3, .int v3)] → rc t1 t2 v3 h = some () → W p l e room_1 s m #[Value.ref b] below meth c H locs (cells + 4) (slots + 64) (lw_Z below #[Value.ref b] s) (F0 m 18 ls [])) (v3 : Int32) (h : Hp) (H : Heap) (locs : List Loc) (ls : Array Slot) (hB : hp_B D cA (fun q : Nat => s.heap.size ≤ q) s h H locs) (hl : lv_has ls 4 [(0, .ref b), (1, .ref t1), (2, .ref t2), (3, .int v3)]) (hf : lc_1 xs L rc t1 t2 v3 h = some ()) : W p l e room_1 s m #[Value.ref b] below meth c H locs cells slots (lw_Z below #[Value.ref b] s) (F0 m 195 ls []) := by
  obtain ⟨hx, hb, -⟩ := id cx
  have hbA : ¬ (fun q : Nat => s.heap.size ≤ q) b := Nat.not_le.mpr hbl
  unfold lc_1 at hf
  refine lv_aload_n hx hb dL_195 rfl (lv_at hl 1 rfl) ?_
  refine lv_aload_n hx hb dL_196 rfl (lv_at hl 0 rfl) ?_
  refine lv_iload_n hx hb dL_197 rfl (lv_at hl 3 rfl) ?_
  refine lv_iconst (v := 1) hx hb dL_198 (by decide) ?_
  refine lv_iadd hx hb dL_199 ?_
  obtain ⟨j1, hf⟩ := gd_ok hf
  refine va_sld hx hb hX hbl hbA hB.2.2.2.2.2 (ix_in j1) dL_200 ?_
  refine lv_aload_n hx hb dL_201 rfl (lv_at hl 0 rfl) ?_
  refine lv_iload_n hx hb dL_202 rfl (lv_at hl 3 rfl) ?_
  refine lv_iconst (v := 2) hx hb dL_203 (by decide) ?_
  refine lv_iadd hx hb dL_204 ?_
  obtain ⟨j2, hf⟩ := gd_ok hf
  refine va_sld hx hb hX hbl hbA hB.2.2.2.2.2 (ix_in j2) dL_205 ?_
  refine lv_aload_n hx hb dL_206 rfl (lv_at hl 0 rfl) ?_
  refine lv_iload_n hx hb dL_207 rfl (lv_at hl 3 rfl) ?_
  refine lv_iconst (v := 3) hx hb dL_208 (by decide) ?_
  refine lv_iadd hx hb dL_209 ?_
  obtain ⟨j3, hf⟩ := gd_ok hf
  refine va_sld hx hb hX hbl hbA hB.2.2.2.2.2 (ix_in j3) dL_210 ?_
  refine lv_aload_n hx hb dL_211 rfl (lv_at hl 0 rfl) ?_
  refine lv_iload_n hx hb dL_212 rfl (lv_at hl 3 rfl) ?_
  refine lv_iconst (v := 4) hx hb dL_213 (by decide) ?_
  refine lv_iadd hx hb dL_214 ?_
  obtain ⟨j4, hf⟩ := gd_ok hf
  refine va_sld hx hb hX hbl hbA hB.2.2.2.2.2 (ix_in j4) dL_215 ?_
  refine lv_aload_n hx hb dL_216 rfl (lv_at hl 0 rfl) ?_
  refine lv_iload_n hx hb dL_217 rfl (lv_at hl 3 rfl) ?_
  refine lv_iconst (v := 5) hx hb dL_218 (by decide) ?_
  refine lv_iadd hx hb dL_219 ?_
  obtain ⟨j5, hf⟩ := gd_ok hf
  refine va_sld hx hb hX hbl hbA hB.2.2.2.2.2 (ix_in j5) dL_220 ?_
  obtain ⟨k6, hf⟩ := gk_ok hf
  obtain ⟨r9, g7, m8, hf⟩ := b2_ok hf
  refine hp_cI (cl_SpokenMenusLaw_18 cx hB (cX10_line l D cA t1 (xs (Int32.toNatClampNeg (v3 + 1))) (xs (Int32.toNatClampNeg (v3 + 2))) (xs (Int32.toNatClampNeg (v3 + 3))) (xs (Int32.toNatClampNeg (v3 + 4))) (xs (Int32.toNatClampNeg (v3 + 5))) h _ g7 m8) k6 ⟨Nat.le_of_ble_eq_true rfl, Nat.le_of_ble_eq_true rfl⟩ rfl hl.1 rfl (Nat.le_of_ble_eq_true rfl) ⟨Nat.le_trans (Nat.add_le_add_left (Nat.le_of_ble_eq_true rfl) _) hcb, Nat.le_trans (Nat.add_le_add_left (Nat.le_of_ble_eq_true rfl) _) hsb⟩ dL_221) hB (fun H locs hB => ?_)
  refine W.widen (k := cells + 4) (n := slots + 64) (Nat.add_le_add_left (Nat.le_of_ble_eq_true rfl) _) (Nat.add_le_add_left (Nat.le_of_ble_eq_true rfl) _) ?_
  refine lv_aload_n hx hb dL_224 rfl (lv_at hl 2 rfl) ?_
  refine lv_aload_n hx hb dL_225 rfl (lv_at hl 0 rfl) ?_
  refine lv_iload_n hx hb dL_226 rfl (lv_at hl 3 rfl) ?_
  refine lv_iconst (v := 1) hx hb dL_227 (by decide) ?_
  refine lv_iadd hx hb dL_228 ?_
  refine va_sld hx hb hX hbl hbA hB.2.2.2.2.2 (ix_in j1) dL_229 ?_
  refine lv_aload_n hx hb dL_230 rfl (lv_at hl 0 rfl) ?_
  refine lv_iload_n hx hb dL_231 rfl (lv_at hl 3 rfl) ?_
  refine lv_iconst (v := 2) hx hb dL_232 (by decide) ?_
  refine lv_iadd hx hb dL_233 ?_
  refine va_sld hx hb hX hbl hbA hB.2.2.2.2.2 (ix_in j2) dL_234 ?_
  refine lv_aload_n hx hb dL_235 rfl (lv_at hl 0 rfl) ?_
  refine lv_iload_n hx hb dL_236 rfl (lv_at hl 3 rfl) ?_
  refine lv_iconst (v := 3) hx hb dL_237 (by decide) ?_
  refine lv_iadd hx hb dL_238 ?_
  refine va_sld hx hb hX hbl hbA hB.2.2.2.2.2 (ix_in j3) dL_239 ?_
  refine lv_aload_n hx hb dL_240 rfl (lv_at hl 0 rfl) ?_
  refine lv_iload_n hx hb dL_241 rfl (lv_at hl 3 rfl) ?_
  refine lv_iconst (v := 4) hx hb dL_242 (by decide) ?_
  refine lv_iadd hx hb dL_243 ?_
  refine va_sld hx hb hX hbl hbA hB.2.2.2.2.2 (ix_in j4) dL_244 ?_
  refine lv_aload_n hx hb dL_245 rfl (lv_at hl 0 rfl) ?_
  refine lv_iload_n hx hb dL_246 rfl (lv_at hl 3 rfl) ?_
  refine lv_iconst (v := 5) hx hb dL_247 (by decide) ?_
  refine lv_iadd hx hb dL_248 ?_
  refine va_sld hx hb hX hbl hbA hB.2.2.2.2.2 (ix_in j5) dL_249 ?_
  obtain ⟨k10, hf⟩ := gk_ok hf
  obtain ⟨r13, g11, m12, hf⟩ := b2_ok hf
  refine hp_cI0 (cl_SpokenMenusLaw_22 cx hB (cX11_line l D cA t2 (xs (Int32.toNatClampNeg (v3 + 1))) (xs (Int32.toNatClampNeg (v3 + 2))) (xs (Int32.toNatClampNeg (v3 + 3))) (xs (Int32.toNatClampNeg (v3 + 4))) (xs (Int32.toNatClampNeg (v3 + 5))) g7 _ g11 m12) k10 ⟨Nat.le_of_ble_eq_true rfl, Nat.le_of_ble_eq_true rfl⟩ rfl hl.1 rfl (Nat.le_of_ble_eq_true rfl) ⟨hcb, hsb⟩ dL_250) rfl rfl hB (fun H locs hB => ?_)
  obtain ⟨c14, hf⟩ := gd_ok hf
  refine lv_icmp_eq (tgt := 1172) hx hb dL_253 (by decide) (fun ce => ?_) (fun ce => absurd (of_decide_eq_true c14) ce)
  obtain ⟨x9, ex9, hf⟩ := nm_ok hf
  refine lv_iinc (v := x9) (lv' := [(3, .int x9), (0, .ref b), (1, .ref t1), (2, .ref t2)]) hx hb dL_1172 hl (k := 3) rfl (by rw [ex9]; rfl) (by decide) rfl (fun ls hl => ?_)
  refine lv_goto (tgt := 18) hx hb dL_1175 (by decide) ?_
  exact hr x9 g11 _ _ _ hB (lv_sub hl [1, 2, 3, 0] rfl) hf
set_option maxHeartbeats 4000000 in
set_option maxRecDepth 100000 in
theorem tL_2 {rc : Nat → Nat → Int32 → Hp → Option Unit} {cells slots : Nat} (cx : CallFix p m c code 4 s #[Value.ref b] tbG "SpokenMenusLaw") (hX : va_X b L xs s s.heap) (hbl : b < s.heap.size) (hcb : cells + 4 ≤ 600000) (hsb : slots + 64 ≤ 7302250) {t1 t2 : Nat} (hr : ∀ (v3 : Int32) (h : Hp) (H : Heap) (locs : List Loc) (ls : Array Slot), hp_B D cA (fun q : Nat => s.heap.size ≤ q) s h H locs → lv_has ls 4 [(0, .ref b), (1, .ref t1), (2, .ref t2), (3, .int v3)] → rc t1 t2 v3 h = some () → W p l e room_1 s m #[Value.ref b] below meth c H locs (cells + 4) (slots + 64) (lw_Z below #[Value.ref b] s) (F0 m 18 ls [])) (v3 : Int32) (h : Hp) (H : Heap) (locs : List Loc) (ls : Array Slot) (hB : hp_B D cA (fun q : Nat => s.heap.size ≤ q) s h H locs) (hl : lv_has ls 4 [(0, .ref b), (1, .ref t1), (2, .ref t2), (3, .int v3)]) (hf : lc_2 xs L rc t1 t2 v3 h = some ()) : W p l e room_1 s m #[Value.ref b] below meth c H locs cells slots (lw_Z below #[Value.ref b] s) (F0 m 258 ls []) := by
  obtain ⟨hx, hb, -⟩ := id cx
  have hbA : ¬ (fun q : Nat => s.heap.size ≤ q) b := Nat.not_le.mpr hbl
  unfold lc_2 at hf
  refine lv_aload_n hx hb dL_258 rfl (lv_at hl 1 rfl) ?_
  refine lv_aload_n hx hb dL_259 rfl (lv_at hl 0 rfl) ?_
  refine lv_iload_n hx hb dL_260 rfl (lv_at hl 3 rfl) ?_
  refine lv_iconst (v := 1) hx hb dL_261 (by decide) ?_
  refine lv_iadd hx hb dL_262 ?_
  obtain ⟨j1, hf⟩ := gd_ok hf
  refine va_sld hx hb hX hbl hbA hB.2.2.2.2.2 (ix_in j1) dL_263 ?_
  refine lv_aload_n hx hb dL_264 rfl (lv_at hl 0 rfl) ?_
  refine lv_iload_n hx hb dL_265 rfl (lv_at hl 3 rfl) ?_
  refine lv_iconst (v := 2) hx hb dL_266 (by decide) ?_
  refine lv_iadd hx hb dL_267 ?_
  obtain ⟨j2, hf⟩ := gd_ok hf
  refine va_sld hx hb hX hbl hbA hB.2.2.2.2.2 (ix_in j2) dL_268 ?_
  obtain ⟨k3, hf⟩ := gk_ok hf
  obtain ⟨r6, g4, m5, hf⟩ := b2_ok hf
  refine hp_cI (cl_SpokenMenusLaw_23 cx hB (cX10_desk l D cA t1 (xs (Int32.toNatClampNeg (v3 + 1))) (xs (Int32.toNatClampNeg (v3 + 2))) h _ g4 m5) k3 ⟨Nat.le_of_ble_eq_true rfl, Nat.le_of_ble_eq_true rfl⟩ rfl hl.1 rfl (Nat.le_of_ble_eq_true rfl) ⟨Nat.le_trans (Nat.add_le_add_left (Nat.le_of_ble_eq_true rfl) _) hcb, Nat.le_trans (Nat.add_le_add_left (Nat.le_of_ble_eq_true rfl) _) hsb⟩ dL_269) hB (fun H locs hB => ?_)
  refine W.widen (k := cells + 4) (n := slots + 64) (Nat.add_le_add_left (Nat.le_of_ble_eq_true rfl) _) (Nat.add_le_add_left (Nat.le_of_ble_eq_true rfl) _) ?_
  refine lv_aload_n hx hb dL_272 rfl (lv_at hl 2 rfl) ?_
  refine lv_aload_n hx hb dL_273 rfl (lv_at hl 0 rfl) ?_
  refine lv_iload_n hx hb dL_274 rfl (lv_at hl 3 rfl) ?_
  refine lv_iconst (v := 1) hx hb dL_275 (by decide) ?_
  refine lv_iadd hx hb dL_276 ?_
  refine va_sld hx hb hX hbl hbA hB.2.2.2.2.2 (ix_in j1) dL_277 ?_
  refine lv_aload_n hx hb dL_278 rfl (lv_at hl 0 rfl) ?_
  refine lv_iload_n hx hb dL_279 rfl (lv_at hl 3 rfl) ?_
  refine lv_iconst (v := 2) hx hb dL_280 (by decide) ?_
  refine lv_iadd hx hb dL_281 ?_
  refine va_sld hx hb hX hbl hbA hB.2.2.2.2.2 (ix_in j2) dL_282 ?_
  obtain ⟨k7, hf⟩ := gk_ok hf
  obtain ⟨r10, g8, m9, hf⟩ := b2_ok hf
  refine hp_cI0 (cl_SpokenMenusLaw_27 cx hB (cX11_desk l D cA t2 (xs (Int32.toNatClampNeg (v3 + 1))) (xs (Int32.toNatClampNeg (v3 + 2))) g4 _ g8 m9) k7 ⟨Nat.le_of_ble_eq_true rfl, Nat.le_of_ble_eq_true rfl⟩ rfl hl.1 rfl (Nat.le_of_ble_eq_true rfl) ⟨hcb, hsb⟩ dL_283) rfl rfl hB (fun H locs hB => ?_)
  obtain ⟨c11, hf⟩ := gd_ok hf
  refine lv_icmp_eq (tgt := 1172) hx hb dL_286 (by decide) (fun ce => ?_) (fun ce => absurd (of_decide_eq_true c11) ce)
  obtain ⟨x9, ex9, hf⟩ := nm_ok hf
  refine lv_iinc (v := x9) (lv' := [(3, .int x9), (0, .ref b), (1, .ref t1), (2, .ref t2)]) hx hb dL_1172 hl (k := 3) rfl (by rw [ex9]; rfl) (by decide) rfl (fun ls hl => ?_)
  refine lv_goto (tgt := 18) hx hb dL_1175 (by decide) ?_
  exact hr x9 g8 _ _ _ hB (lv_sub hl [1, 2, 3, 0] rfl) hf
set_option maxHeartbeats 4000000 in
set_option maxRecDepth 100000 in
theorem tL_3 {rc : Nat → Nat → Int32 → Hp → Option Unit} {cells slots : Nat} (cx : CallFix p m c code 4 s #[Value.ref b] tbG "SpokenMenusLaw") (hX : va_X b L xs s s.heap) (hbl : b < s.heap.size) (hcb : cells + 4 ≤ 600000) (hsb : slots + 64 ≤ 7302250) {t1 t2 : Nat} (hr : ∀ (v3 : Int32) (h : Hp) (H : Heap) (locs : List Loc) (ls : Array Slot), hp_B D cA (fun q : Nat => s.heap.size ≤ q) s h H locs → lv_has ls 4 [(0, .ref b), (1, .ref t1), (2, .ref t2), (3, .int v3)] → rc t1 t2 v3 h = some () → W p l e room_1 s m #[Value.ref b] below meth c H locs (cells + 4) (slots + 64) (lw_Z below #[Value.ref b] s) (F0 m 18 ls [])) (v3 : Int32) (h : Hp) (H : Heap) (locs : List Loc) (ls : Array Slot) (hB : hp_B D cA (fun q : Nat => s.heap.size ≤ q) s h H locs) (hl : lv_has ls 4 [(0, .ref b), (1, .ref t1), (2, .ref t2), (3, .int v3)]) (hf : lc_3 xs L rc t1 t2 v3 h = some ()) : W p l e room_1 s m #[Value.ref b] below meth c H locs cells slots (lw_Z below #[Value.ref b] s) (F0 m 291 ls []) := by
  obtain ⟨hx, hb, -⟩ := id cx
  have hbA : ¬ (fun q : Nat => s.heap.size ≤ q) b := Nat.not_le.mpr hbl
  unfold lc_3 at hf
  refine lv_aload_n hx hb dL_291 rfl (lv_at hl 1 rfl) ?_
  refine lv_aload_n hx hb dL_292 rfl (lv_at hl 0 rfl) ?_
  refine lv_iload_n hx hb dL_293 rfl (lv_at hl 3 rfl) ?_
  refine lv_iconst (v := 1) hx hb dL_294 (by decide) ?_
  refine lv_iadd hx hb dL_295 ?_
  obtain ⟨j1, hf⟩ := gd_ok hf
  refine va_sld hx hb hX hbl hbA hB.2.2.2.2.2 (ix_in j1) dL_296 ?_
  refine lv_aload_n hx hb dL_297 rfl (lv_at hl 0 rfl) ?_
  refine lv_iload_n hx hb dL_298 rfl (lv_at hl 3 rfl) ?_
  refine lv_iconst (v := 2) hx hb dL_299 (by decide) ?_
  refine lv_iadd hx hb dL_300 ?_
  obtain ⟨j2, hf⟩ := gd_ok hf
  refine va_sld hx hb hX hbl hbA hB.2.2.2.2.2 (ix_in j2) dL_301 ?_
  refine lv_aload_n hx hb dL_302 rfl (lv_at hl 0 rfl) ?_
  refine lv_iload_n hx hb dL_303 rfl (lv_at hl 3 rfl) ?_
  refine lv_iconst (v := 3) hx hb dL_304 (by decide) ?_
  refine lv_iadd hx hb dL_305 ?_
  obtain ⟨j3, hf⟩ := gd_ok hf
  refine va_sld hx hb hX hbl hbA hB.2.2.2.2.2 (ix_in j3) dL_306 ?_
  obtain ⟨k4, hf⟩ := gk_ok hf
  obtain ⟨r7, g5, m6, hf⟩ := b2_ok hf
  refine hp_cI (cl_SpokenMenusLaw_28 cx hB (cX10_leaf l D cA t1 (xs (Int32.toNatClampNeg (v3 + 1))) (xs (Int32.toNatClampNeg (v3 + 2))) (xs (Int32.toNatClampNeg (v3 + 3))) h _ g5 m6) k4 ⟨Nat.le_of_ble_eq_true rfl, Nat.le_of_ble_eq_true rfl⟩ rfl hl.1 rfl (Nat.le_of_ble_eq_true rfl) ⟨Nat.le_trans (Nat.add_le_add_left (Nat.le_of_ble_eq_true rfl) _) hcb, Nat.le_trans (Nat.add_le_add_left (Nat.le_of_ble_eq_true rfl) _) hsb⟩ dL_307) hB (fun H locs hB => ?_)
  refine W.widen (k := cells + 4) (n := slots + 64) (Nat.add_le_add_left (Nat.le_of_ble_eq_true rfl) _) (Nat.add_le_add_left (Nat.le_of_ble_eq_true rfl) _) ?_
  refine lv_aload_n hx hb dL_310 rfl (lv_at hl 2 rfl) ?_
  refine lv_aload_n hx hb dL_311 rfl (lv_at hl 0 rfl) ?_
  refine lv_iload_n hx hb dL_312 rfl (lv_at hl 3 rfl) ?_
  refine lv_iconst (v := 1) hx hb dL_313 (by decide) ?_
  refine lv_iadd hx hb dL_314 ?_
  refine va_sld hx hb hX hbl hbA hB.2.2.2.2.2 (ix_in j1) dL_315 ?_
  refine lv_aload_n hx hb dL_316 rfl (lv_at hl 0 rfl) ?_
  refine lv_iload_n hx hb dL_317 rfl (lv_at hl 3 rfl) ?_
  refine lv_iconst (v := 2) hx hb dL_318 (by decide) ?_
  refine lv_iadd hx hb dL_319 ?_
  refine va_sld hx hb hX hbl hbA hB.2.2.2.2.2 (ix_in j2) dL_320 ?_
  refine lv_aload_n hx hb dL_321 rfl (lv_at hl 0 rfl) ?_
  refine lv_iload_n hx hb dL_322 rfl (lv_at hl 3 rfl) ?_
  refine lv_iconst (v := 3) hx hb dL_323 (by decide) ?_
  refine lv_iadd hx hb dL_324 ?_
  refine va_sld hx hb hX hbl hbA hB.2.2.2.2.2 (ix_in j3) dL_325 ?_
  obtain ⟨k8, hf⟩ := gk_ok hf
  obtain ⟨r11, g9, m10, hf⟩ := b2_ok hf
  refine hp_cI0 (cl_SpokenMenusLaw_31 cx hB (cX11_leaf l D cA t2 (xs (Int32.toNatClampNeg (v3 + 1))) (xs (Int32.toNatClampNeg (v3 + 2))) (xs (Int32.toNatClampNeg (v3 + 3))) g5 _ g9 m10) k8 ⟨Nat.le_of_ble_eq_true rfl, Nat.le_of_ble_eq_true rfl⟩ rfl hl.1 rfl (Nat.le_of_ble_eq_true rfl) ⟨hcb, hsb⟩ dL_326) rfl rfl hB (fun H locs hB => ?_)
  obtain ⟨c12, hf⟩ := gd_ok hf
  refine lv_icmp_eq (tgt := 1172) hx hb dL_329 (by decide) (fun ce => ?_) (fun ce => absurd (of_decide_eq_true c12) ce)
  obtain ⟨x9, ex9, hf⟩ := nm_ok hf
  refine lv_iinc (v := x9) (lv' := [(3, .int x9), (0, .ref b), (1, .ref t1), (2, .ref t2)]) hx hb dL_1172 hl (k := 3) rfl (by rw [ex9]; rfl) (by decide) rfl (fun ls hl => ?_)
  refine lv_goto (tgt := 18) hx hb dL_1175 (by decide) ?_
  exact hr x9 g9 _ _ _ hB (lv_sub hl [1, 2, 3, 0] rfl) hf
set_option maxHeartbeats 4000000 in
set_option maxRecDepth 100000 in
theorem tL_4 {rc : Nat → Nat → Int32 → Hp → Option Unit} {cells slots : Nat} (cx : CallFix p m c code 4 s #[Value.ref b] tbG "SpokenMenusLaw") (hX : va_X b L xs s s.heap) (hbl : b < s.heap.size) (hcb : cells + 4 ≤ 600000) (hsb : slots + 64 ≤ 7302250) {t1 t2 : Nat} (hr : ∀ (v3 : Int32) (h : Hp) (H : Heap) (locs : List Loc) (ls : Array Slot), hp_B D cA (fun q : Nat => s.heap.size ≤ q) s h H locs → lv_has ls 4 [(0, .ref b), (1, .ref t1), (2, .ref t2), (3, .int v3)] → rc t1 t2 v3 h = some () → W p l e room_1 s m #[Value.ref b] below meth c H locs (cells + 4) (slots + 64) (lw_Z below #[Value.ref b] s) (F0 m 18 ls [])) (v3 : Int32) (h : Hp) (H : Heap) (locs : List Loc) (ls : Array Slot) (hB : hp_B D cA (fun q : Nat => s.heap.size ≤ q) s h H locs) (hl : lv_has ls 4 [(0, .ref b), (1, .ref t1), (2, .ref t2), (3, .int v3)]) (hf : lc_4 xs L rc t1 t2 v3 h = some ()) : W p l e room_1 s m #[Value.ref b] below meth c H locs cells slots (lw_Z below #[Value.ref b] s) (F0 m 334 ls []) := by
  obtain ⟨hx, hb, -⟩ := id cx
  have hbA : ¬ (fun q : Nat => s.heap.size ≤ q) b := Nat.not_le.mpr hbl
  unfold lc_4 at hf
  refine lv_aload_n hx hb dL_334 rfl (lv_at hl 1 rfl) ?_
  refine lv_aload_n hx hb dL_335 rfl (lv_at hl 0 rfl) ?_
  refine lv_iload_n hx hb dL_336 rfl (lv_at hl 3 rfl) ?_
  refine lv_iconst (v := 1) hx hb dL_337 (by decide) ?_
  refine lv_iadd hx hb dL_338 ?_
  obtain ⟨j1, hf⟩ := gd_ok hf
  refine va_sld hx hb hX hbl hbA hB.2.2.2.2.2 (ix_in j1) dL_339 ?_
  refine lv_aload_n hx hb dL_340 rfl (lv_at hl 0 rfl) ?_
  refine lv_iload_n hx hb dL_341 rfl (lv_at hl 3 rfl) ?_
  refine lv_iconst (v := 2) hx hb dL_342 (by decide) ?_
  refine lv_iadd hx hb dL_343 ?_
  obtain ⟨j2, hf⟩ := gd_ok hf
  refine va_sld hx hb hX hbl hbA hB.2.2.2.2.2 (ix_in j2) dL_344 ?_
  refine lv_aload_n hx hb dL_345 rfl (lv_at hl 0 rfl) ?_
  refine lv_iload_n hx hb dL_346 rfl (lv_at hl 3 rfl) ?_
  refine lv_iconst (v := 3) hx hb dL_347 (by decide) ?_
  refine lv_iadd hx hb dL_348 ?_
  obtain ⟨j3, hf⟩ := gd_ok hf
  refine va_sld hx hb hX hbl hbA hB.2.2.2.2.2 (ix_in j3) dL_349 ?_
  refine lv_aload_n hx hb dL_350 rfl (lv_at hl 0 rfl) ?_
  refine lv_iload_n hx hb dL_351 rfl (lv_at hl 3 rfl) ?_
  refine lv_iconst (v := 4) hx hb dL_352 (by decide) ?_
  refine lv_iadd hx hb dL_353 ?_
  obtain ⟨j4, hf⟩ := gd_ok hf
  refine va_sld hx hb hX hbl hbA hB.2.2.2.2.2 (ix_in j4) dL_354 ?_
  obtain ⟨k5, hf⟩ := gk_ok hf
  obtain ⟨r8, g6, m7, hf⟩ := b2_ok hf
  refine hp_cI (cl_SpokenMenusLaw_32 cx hB (cX10_clock l D cA t1 (xs (Int32.toNatClampNeg (v3 + 1))) (xs (Int32.toNatClampNeg (v3 + 2))) (xs (Int32.toNatClampNeg (v3 + 3))) (xs (Int32.toNatClampNeg (v3 + 4))) h _ g6 m7) k5 ⟨Nat.le_of_ble_eq_true rfl, Nat.le_of_ble_eq_true rfl⟩ rfl hl.1 rfl (Nat.le_of_ble_eq_true rfl) ⟨Nat.le_trans (Nat.add_le_add_left (Nat.le_of_ble_eq_true rfl) _) hcb, Nat.le_trans (Nat.add_le_add_left (Nat.le_of_ble_eq_true rfl) _) hsb⟩ dL_355) hB (fun H locs hB => ?_)
  refine W.widen (k := cells + 4) (n := slots + 64) (Nat.add_le_add_left (Nat.le_of_ble_eq_true rfl) _) (Nat.add_le_add_left (Nat.le_of_ble_eq_true rfl) _) ?_
  refine lv_aload_n hx hb dL_358 rfl (lv_at hl 2 rfl) ?_
  refine lv_aload_n hx hb dL_359 rfl (lv_at hl 0 rfl) ?_
  refine lv_iload_n hx hb dL_360 rfl (lv_at hl 3 rfl) ?_
  refine lv_iconst (v := 1) hx hb dL_361 (by decide) ?_
  refine lv_iadd hx hb dL_362 ?_
  refine va_sld hx hb hX hbl hbA hB.2.2.2.2.2 (ix_in j1) dL_363 ?_
  refine lv_aload_n hx hb dL_364 rfl (lv_at hl 0 rfl) ?_
  refine lv_iload_n hx hb dL_365 rfl (lv_at hl 3 rfl) ?_
  refine lv_iconst (v := 2) hx hb dL_366 (by decide) ?_
  refine lv_iadd hx hb dL_367 ?_
  refine va_sld hx hb hX hbl hbA hB.2.2.2.2.2 (ix_in j2) dL_368 ?_
  refine lv_aload_n hx hb dL_369 rfl (lv_at hl 0 rfl) ?_
  refine lv_iload_n hx hb dL_370 rfl (lv_at hl 3 rfl) ?_
  refine lv_iconst (v := 3) hx hb dL_371 (by decide) ?_
  refine lv_iadd hx hb dL_372 ?_
  refine va_sld hx hb hX hbl hbA hB.2.2.2.2.2 (ix_in j3) dL_373 ?_
  refine lv_aload_n hx hb dL_374 rfl (lv_at hl 0 rfl) ?_
  refine lv_iload_n hx hb dL_375 rfl (lv_at hl 3 rfl) ?_
  refine lv_iconst (v := 4) hx hb dL_376 (by decide) ?_
  refine lv_iadd hx hb dL_377 ?_
  refine va_sld hx hb hX hbl hbA hB.2.2.2.2.2 (ix_in j4) dL_378 ?_
  obtain ⟨k9, hf⟩ := gk_ok hf
  obtain ⟨r12, g10, m11, hf⟩ := b2_ok hf
  refine hp_cI0 (cl_SpokenMenusLaw_36 cx hB (cX11_clock l D cA t2 (xs (Int32.toNatClampNeg (v3 + 1))) (xs (Int32.toNatClampNeg (v3 + 2))) (xs (Int32.toNatClampNeg (v3 + 3))) (xs (Int32.toNatClampNeg (v3 + 4))) g6 _ g10 m11) k9 ⟨Nat.le_of_ble_eq_true rfl, Nat.le_of_ble_eq_true rfl⟩ rfl hl.1 rfl (Nat.le_of_ble_eq_true rfl) ⟨hcb, hsb⟩ dL_379) rfl rfl hB (fun H locs hB => ?_)
  obtain ⟨c13, hf⟩ := gd_ok hf
  refine lv_icmp_eq (tgt := 1172) hx hb dL_382 (by decide) (fun ce => ?_) (fun ce => absurd (of_decide_eq_true c13) ce)
  obtain ⟨x9, ex9, hf⟩ := nm_ok hf
  refine lv_iinc (v := x9) (lv' := [(3, .int x9), (0, .ref b), (1, .ref t1), (2, .ref t2)]) hx hb dL_1172 hl (k := 3) rfl (by rw [ex9]; rfl) (by decide) rfl (fun ls hl => ?_)
  refine lv_goto (tgt := 18) hx hb dL_1175 (by decide) ?_
  exact hr x9 g10 _ _ _ hB (lv_sub hl [1, 2, 3, 0] rfl) hf
set_option maxHeartbeats 4000000 in
set_option maxRecDepth 100000 in
theorem tL_5 {rc : Nat → Nat → Int32 → Hp → Option Unit} {cells slots : Nat} (cx : CallFix p m c code 4 s #[Value.ref b] tbG "SpokenMenusLaw") (hX : va_X b L xs s s.heap) (hbl : b < s.heap.size) (hcb : cells + 4 ≤ 600000) (hsb : slots + 64 ≤ 7302250) {t1 t2 : Nat} (hr : ∀ (v3 : Int32) (h : Hp) (H : Heap) (locs : List Loc) (ls : Array Slot), hp_B D cA (fun q : Nat => s.heap.size ≤ q) s h H locs → lv_has ls 4 [(0, .ref b), (1, .ref t1), (2, .ref t2), (3, .int v3)] → rc t1 t2 v3 h = some () → W p l e room_1 s m #[Value.ref b] below meth c H locs (cells + 4) (slots + 64) (lw_Z below #[Value.ref b] s) (F0 m 18 ls [])) (v3 : Int32) (h : Hp) (H : Heap) (locs : List Loc) (ls : Array Slot) (hB : hp_B D cA (fun q : Nat => s.heap.size ≤ q) s h H locs) (hl : lv_has ls 4 [(0, .ref b), (1, .ref t1), (2, .ref t2), (3, .int v3)]) (hf : lc_5 xs L rc t1 t2 v3 h = some ()) : W p l e room_1 s m #[Value.ref b] below meth c H locs cells slots (lw_Z below #[Value.ref b] s) (F0 m 387 ls []) := by
  obtain ⟨hx, hb, -⟩ := id cx
  have hbA : ¬ (fun q : Nat => s.heap.size ≤ q) b := Nat.not_le.mpr hbl
  unfold lc_5 at hf
  refine lv_aload_n hx hb dL_387 rfl (lv_at hl 1 rfl) ?_
  refine lv_aload_n hx hb dL_388 rfl (lv_at hl 0 rfl) ?_
  refine lv_iload_n hx hb dL_389 rfl (lv_at hl 3 rfl) ?_
  refine lv_iconst (v := 1) hx hb dL_390 (by decide) ?_
  refine lv_iadd hx hb dL_391 ?_
  obtain ⟨j1, hf⟩ := gd_ok hf
  refine va_sld hx hb hX hbl hbA hB.2.2.2.2.2 (ix_in j1) dL_392 ?_
  refine lv_aload_n hx hb dL_393 rfl (lv_at hl 0 rfl) ?_
  refine lv_iload_n hx hb dL_394 rfl (lv_at hl 3 rfl) ?_
  refine lv_iconst (v := 2) hx hb dL_395 (by decide) ?_
  refine lv_iadd hx hb dL_396 ?_
  obtain ⟨j2, hf⟩ := gd_ok hf
  refine va_sld hx hb hX hbl hbA hB.2.2.2.2.2 (ix_in j2) dL_397 ?_
  refine lv_aload_n hx hb dL_398 rfl (lv_at hl 0 rfl) ?_
  refine lv_iload_n hx hb dL_399 rfl (lv_at hl 3 rfl) ?_
  refine lv_iconst (v := 3) hx hb dL_400 (by decide) ?_
  refine lv_iadd hx hb dL_401 ?_
  obtain ⟨j3, hf⟩ := gd_ok hf
  refine va_sld hx hb hX hbl hbA hB.2.2.2.2.2 (ix_in j3) dL_402 ?_
  refine lv_aload_n hx hb dL_403 rfl (lv_at hl 0 rfl) ?_
  refine lv_iload_n hx hb dL_404 rfl (lv_at hl 3 rfl) ?_
  refine lv_iconst (v := 4) hx hb dL_405 (by decide) ?_
  refine lv_iadd hx hb dL_406 ?_
  obtain ⟨j4, hf⟩ := gd_ok hf
  refine va_sld hx hb hX hbl hbA hB.2.2.2.2.2 (ix_in j4) dL_407 ?_
  refine lv_aload_n hx hb dL_408 rfl (lv_at hl 0 rfl) ?_
  refine lv_iload_n hx hb dL_409 rfl (lv_at hl 3 rfl) ?_
  refine lv_iconst (v := 5) hx hb dL_410 (by decide) ?_
  refine lv_iadd hx hb dL_411 ?_
  obtain ⟨j5, hf⟩ := gd_ok hf
  refine va_sld hx hb hX hbl hbA hB.2.2.2.2.2 (ix_in j5) dL_412 ?_
  obtain ⟨k6, hf⟩ := gk_ok hf
  obtain ⟨r9, g7, m8, hf⟩ := b2_ok hf
  refine hp_cI (cl_SpokenMenusLaw_37 cx hB (cX10_asked l D cA t1 (xs (Int32.toNatClampNeg (v3 + 1))) (xs (Int32.toNatClampNeg (v3 + 2))) (xs (Int32.toNatClampNeg (v3 + 3))) (xs (Int32.toNatClampNeg (v3 + 4))) (xs (Int32.toNatClampNeg (v3 + 5))) h _ g7 m8) k6 ⟨Nat.le_of_ble_eq_true rfl, Nat.le_of_ble_eq_true rfl⟩ rfl hl.1 rfl (Nat.le_of_ble_eq_true rfl) ⟨Nat.le_trans (Nat.add_le_add_left (Nat.le_of_ble_eq_true rfl) _) hcb, Nat.le_trans (Nat.add_le_add_left (Nat.le_of_ble_eq_true rfl) _) hsb⟩ dL_413) hB (fun H locs hB => ?_)
  refine W.widen (k := cells + 4) (n := slots + 64) (Nat.add_le_add_left (Nat.le_of_ble_eq_true rfl) _) (Nat.add_le_add_left (Nat.le_of_ble_eq_true rfl) _) ?_
  refine lv_aload_n hx hb dL_416 rfl (lv_at hl 2 rfl) ?_
  refine lv_aload_n hx hb dL_417 rfl (lv_at hl 0 rfl) ?_
  refine lv_iload_n hx hb dL_418 rfl (lv_at hl 3 rfl) ?_
  refine lv_iconst (v := 1) hx hb dL_419 (by decide) ?_
  refine lv_iadd hx hb dL_420 ?_
  refine va_sld hx hb hX hbl hbA hB.2.2.2.2.2 (ix_in j1) dL_421 ?_
  refine lv_aload_n hx hb dL_422 rfl (lv_at hl 0 rfl) ?_
  refine lv_iload_n hx hb dL_423 rfl (lv_at hl 3 rfl) ?_
  refine lv_iconst (v := 2) hx hb dL_424 (by decide) ?_
  refine lv_iadd hx hb dL_425 ?_
  refine va_sld hx hb hX hbl hbA hB.2.2.2.2.2 (ix_in j2) dL_426 ?_
  refine lv_aload_n hx hb dL_427 rfl (lv_at hl 0 rfl) ?_
  refine lv_iload_n hx hb dL_428 rfl (lv_at hl 3 rfl) ?_
  refine lv_iconst (v := 3) hx hb dL_429 (by decide) ?_
  refine lv_iadd hx hb dL_430 ?_
  refine va_sld hx hb hX hbl hbA hB.2.2.2.2.2 (ix_in j3) dL_431 ?_
  refine lv_aload_n hx hb dL_432 rfl (lv_at hl 0 rfl) ?_
  refine lv_iload_n hx hb dL_433 rfl (lv_at hl 3 rfl) ?_
  refine lv_iconst (v := 4) hx hb dL_434 (by decide) ?_
  refine lv_iadd hx hb dL_435 ?_
  refine va_sld hx hb hX hbl hbA hB.2.2.2.2.2 (ix_in j4) dL_436 ?_
  refine lv_aload_n hx hb dL_437 rfl (lv_at hl 0 rfl) ?_
  refine lv_iload_n hx hb dL_438 rfl (lv_at hl 3 rfl) ?_
  refine lv_iconst (v := 5) hx hb dL_439 (by decide) ?_
  refine lv_iadd hx hb dL_440 ?_
  refine va_sld hx hb hX hbl hbA hB.2.2.2.2.2 (ix_in j5) dL_441 ?_
  obtain ⟨k10, hf⟩ := gk_ok hf
  obtain ⟨r13, g11, m12, hf⟩ := b2_ok hf
  refine hp_cI0 (cl_SpokenMenusLaw_40 cx hB (cX11_asked l D cA t2 (xs (Int32.toNatClampNeg (v3 + 1))) (xs (Int32.toNatClampNeg (v3 + 2))) (xs (Int32.toNatClampNeg (v3 + 3))) (xs (Int32.toNatClampNeg (v3 + 4))) (xs (Int32.toNatClampNeg (v3 + 5))) g7 _ g11 m12) k10 ⟨Nat.le_of_ble_eq_true rfl, Nat.le_of_ble_eq_true rfl⟩ rfl hl.1 rfl (Nat.le_of_ble_eq_true rfl) ⟨hcb, hsb⟩ dL_442) rfl rfl hB (fun H locs hB => ?_)
  obtain ⟨c14, hf⟩ := gd_ok hf
  refine lv_icmp_eq (tgt := 1172) hx hb dL_445 (by decide) (fun ce => ?_) (fun ce => absurd (of_decide_eq_true c14) ce)
  obtain ⟨x9, ex9, hf⟩ := nm_ok hf
  refine lv_iinc (v := x9) (lv' := [(3, .int x9), (0, .ref b), (1, .ref t1), (2, .ref t2)]) hx hb dL_1172 hl (k := 3) rfl (by rw [ex9]; rfl) (by decide) rfl (fun ls hl => ?_)
  refine lv_goto (tgt := 18) hx hb dL_1175 (by decide) ?_
  exact hr x9 g11 _ _ _ hB (lv_sub hl [1, 2, 3, 0] rfl) hf
set_option maxHeartbeats 4000000 in
set_option maxRecDepth 100000 in
theorem tL_6 {rc : Nat → Nat → Int32 → Hp → Option Unit} {cells slots : Nat} (cx : CallFix p m c code 4 s #[Value.ref b] tbG "SpokenMenusLaw") (hX : va_X b L xs s s.heap) (hbl : b < s.heap.size) (hcb : cells + 4 ≤ 600000) (hsb : slots + 64 ≤ 7302250) {t1 t2 : Nat} (hr : ∀ (v3 : Int32) (h : Hp) (H : Heap) (locs : List Loc) (ls : Array Slot), hp_B D cA (fun q : Nat => s.heap.size ≤ q) s h H locs → lv_has ls 4 [(0, .ref b), (1, .ref t1), (2, .ref t2), (3, .int v3)] → rc t1 t2 v3 h = some () → W p l e room_1 s m #[Value.ref b] below meth c H locs (cells + 4) (slots + 64) (lw_Z below #[Value.ref b] s) (F0 m 18 ls [])) (v3 : Int32) (h : Hp) (H : Heap) (locs : List Loc) (ls : Array Slot) (hB : hp_B D cA (fun q : Nat => s.heap.size ≤ q) s h H locs) (hl : lv_has ls 4 [(0, .ref b), (1, .ref t1), (2, .ref t2), (3, .int v3)]) (hf : lc_6 xs L rc t1 t2 v3 h = some ()) : W p l e room_1 s m #[Value.ref b] below meth c H locs cells slots (lw_Z below #[Value.ref b] s) (F0 m 450 ls []) := by
  obtain ⟨hx, hb, -⟩ := id cx
  have hbA : ¬ (fun q : Nat => s.heap.size ≤ q) b := Nat.not_le.mpr hbl
  unfold lc_6 at hf
  refine lv_aload_n hx hb dL_450 rfl (lv_at hl 1 rfl) ?_
  refine lv_aload_n hx hb dL_451 rfl (lv_at hl 0 rfl) ?_
  refine lv_iload_n hx hb dL_452 rfl (lv_at hl 3 rfl) ?_
  refine lv_iconst (v := 1) hx hb dL_453 (by decide) ?_
  refine lv_iadd hx hb dL_454 ?_
  obtain ⟨j1, hf⟩ := gd_ok hf
  refine va_sld hx hb hX hbl hbA hB.2.2.2.2.2 (ix_in j1) dL_455 ?_
  refine lv_aload_n hx hb dL_456 rfl (lv_at hl 0 rfl) ?_
  refine lv_iload_n hx hb dL_457 rfl (lv_at hl 3 rfl) ?_
  refine lv_iconst (v := 2) hx hb dL_458 (by decide) ?_
  refine lv_iadd hx hb dL_459 ?_
  obtain ⟨j2, hf⟩ := gd_ok hf
  refine va_sld hx hb hX hbl hbA hB.2.2.2.2.2 (ix_in j2) dL_460 ?_
  refine lv_aload_n hx hb dL_461 rfl (lv_at hl 0 rfl) ?_
  refine lv_iload_n hx hb dL_462 rfl (lv_at hl 3 rfl) ?_
  refine lv_iconst (v := 3) hx hb dL_463 (by decide) ?_
  refine lv_iadd hx hb dL_464 ?_
  obtain ⟨j3, hf⟩ := gd_ok hf
  refine va_sld hx hb hX hbl hbA hB.2.2.2.2.2 (ix_in j3) dL_465 ?_
  refine lv_aload_n hx hb dL_466 rfl (lv_at hl 0 rfl) ?_
  refine lv_iload_n hx hb dL_467 rfl (lv_at hl 3 rfl) ?_
  refine lv_iconst (v := 4) hx hb dL_468 (by decide) ?_
  refine lv_iadd hx hb dL_469 ?_
  obtain ⟨j4, hf⟩ := gd_ok hf
  refine va_sld hx hb hX hbl hbA hB.2.2.2.2.2 (ix_in j4) dL_470 ?_
  obtain ⟨k5, hf⟩ := gk_ok hf
  obtain ⟨r8, g6, m7, hf⟩ := b2_ok hf
  refine hp_cI0 (cl_SpokenMenusLaw_41 cx hB (cX10_change l D cA t1 (xs (Int32.toNatClampNeg (v3 + 1))) (xs (Int32.toNatClampNeg (v3 + 2))) (xs (Int32.toNatClampNeg (v3 + 3))) (xs (Int32.toNatClampNeg (v3 + 4))) h _ g6 m7) k5 ⟨Nat.le_of_ble_eq_true rfl, Nat.le_of_ble_eq_true rfl⟩ rfl hl.1 rfl (Nat.le_of_ble_eq_true rfl) ⟨Nat.le_trans (Nat.add_le_add_left (Nat.le_of_ble_eq_true rfl) _) hcb, Nat.le_trans (Nat.add_le_add_left (Nat.le_of_ble_eq_true rfl) _) hsb⟩ dL_471) rfl rfl hB (fun H locs hB => ?_)
  refine lv_aload_n hx hb dL_474 rfl (lv_at hl 2 rfl) ?_
  refine lv_aload_n hx hb dL_475 rfl (lv_at hl 0 rfl) ?_
  refine lv_iload_n hx hb dL_476 rfl (lv_at hl 3 rfl) ?_
  refine lv_iconst (v := 1) hx hb dL_477 (by decide) ?_
  refine lv_iadd hx hb dL_478 ?_
  refine va_sld hx hb hX hbl hbA hB.2.2.2.2.2 (ix_in j1) dL_479 ?_
  refine lv_aload_n hx hb dL_480 rfl (lv_at hl 0 rfl) ?_
  refine lv_iload_n hx hb dL_481 rfl (lv_at hl 3 rfl) ?_
  refine lv_iconst (v := 2) hx hb dL_482 (by decide) ?_
  refine lv_iadd hx hb dL_483 ?_
  refine va_sld hx hb hX hbl hbA hB.2.2.2.2.2 (ix_in j2) dL_484 ?_
  refine lv_aload_n hx hb dL_485 rfl (lv_at hl 0 rfl) ?_
  refine lv_iload_n hx hb dL_486 rfl (lv_at hl 3 rfl) ?_
  refine lv_iconst (v := 3) hx hb dL_487 (by decide) ?_
  refine lv_iadd hx hb dL_488 ?_
  refine va_sld hx hb hX hbl hbA hB.2.2.2.2.2 (ix_in j3) dL_489 ?_
  refine lv_aload_n hx hb dL_490 rfl (lv_at hl 0 rfl) ?_
  refine lv_iload_n hx hb dL_491 rfl (lv_at hl 3 rfl) ?_
  refine lv_iconst (v := 4) hx hb dL_492 (by decide) ?_
  refine lv_iadd hx hb dL_493 ?_
  refine va_sld hx hb hX hbl hbA hB.2.2.2.2.2 (ix_in j4) dL_494 ?_
  obtain ⟨k9, hf⟩ := gk_ok hf
  obtain ⟨r12, g10, m11, hf⟩ := b2_ok hf
  refine hp_cI0 (cl_SpokenMenusLaw_44 cx hB (cX11_change l D cA t2 (xs (Int32.toNatClampNeg (v3 + 1))) (xs (Int32.toNatClampNeg (v3 + 2))) (xs (Int32.toNatClampNeg (v3 + 3))) (xs (Int32.toNatClampNeg (v3 + 4))) g6 _ g10 m11) k9 ⟨Nat.le_of_ble_eq_true rfl, Nat.le_of_ble_eq_true rfl⟩ rfl hl.1 rfl (Nat.le_of_ble_eq_true rfl) ⟨Nat.le_trans (Nat.add_le_add_left (Nat.le_of_ble_eq_true rfl) _) hcb, Nat.le_trans (Nat.add_le_add_left (Nat.le_of_ble_eq_true rfl) _) hsb⟩ dL_495) rfl rfl hB (fun H locs hB => ?_)
  obtain ⟨c13, hf⟩ := gd_ok hf
  refine lv_icmp_eq (tgt := 1172) hx hb dL_498 (by decide) (fun ce => ?_) (fun ce => absurd (of_decide_eq_true c13) ce)
  obtain ⟨x9, ex9, hf⟩ := nm_ok hf
  refine lv_iinc (v := x9) (lv' := [(3, .int x9), (0, .ref b), (1, .ref t1), (2, .ref t2)]) hx hb dL_1172 hl (k := 3) rfl (by rw [ex9]; rfl) (by decide) rfl (fun ls hl => ?_)
  refine lv_goto (tgt := 18) hx hb dL_1175 (by decide) ?_
  refine W.widen (k := cells + 4) (n := slots + 64) (Nat.le_add_right _ _) (Nat.le_add_right _ _) ?_
  exact hr x9 g10 _ _ _ hB (lv_sub hl [1, 2, 3, 0] rfl) hf
set_option maxHeartbeats 4000000 in
set_option maxRecDepth 100000 in
theorem tL_7 {rc : Nat → Nat → Int32 → Hp → Option Unit} {cells slots : Nat} (cx : CallFix p m c code 4 s #[Value.ref b] tbG "SpokenMenusLaw") (hX : va_X b L xs s s.heap) (hbl : b < s.heap.size) (hcb : cells + 4 ≤ 600000) (hsb : slots + 64 ≤ 7302250) {t1 t2 : Nat} (hr : ∀ (v3 : Int32) (h : Hp) (H : Heap) (locs : List Loc) (ls : Array Slot), hp_B D cA (fun q : Nat => s.heap.size ≤ q) s h H locs → lv_has ls 4 [(0, .ref b), (1, .ref t1), (2, .ref t2), (3, .int v3)] → rc t1 t2 v3 h = some () → W p l e room_1 s m #[Value.ref b] below meth c H locs (cells + 4) (slots + 64) (lw_Z below #[Value.ref b] s) (F0 m 18 ls [])) (v3 : Int32) (h : Hp) (H : Heap) (locs : List Loc) (ls : Array Slot) (hB : hp_B D cA (fun q : Nat => s.heap.size ≤ q) s h H locs) (hl : lv_has ls 4 [(0, .ref b), (1, .ref t1), (2, .ref t2), (3, .int v3)]) (hf : lc_7 xs L rc t1 t2 v3 h = some ()) : W p l e room_1 s m #[Value.ref b] below meth c H locs cells slots (lw_Z below #[Value.ref b] s) (F0 m 503 ls []) := by
  obtain ⟨hx, hb, -⟩ := id cx
  have hbA : ¬ (fun q : Nat => s.heap.size ≤ q) b := Nat.not_le.mpr hbl
  unfold lc_7 at hf
  refine lv_aload_n hx hb dL_503 rfl (lv_at hl 1 rfl) ?_
  refine lv_aload_n hx hb dL_504 rfl (lv_at hl 0 rfl) ?_
  refine lv_iload_n hx hb dL_505 rfl (lv_at hl 3 rfl) ?_
  refine lv_iconst (v := 1) hx hb dL_506 (by decide) ?_
  refine lv_iadd hx hb dL_507 ?_
  obtain ⟨j1, hf⟩ := gd_ok hf
  refine va_sld hx hb hX hbl hbA hB.2.2.2.2.2 (ix_in j1) dL_508 ?_
  refine lv_aload_n hx hb dL_509 rfl (lv_at hl 0 rfl) ?_
  refine lv_iload_n hx hb dL_510 rfl (lv_at hl 3 rfl) ?_
  refine lv_iconst (v := 2) hx hb dL_511 (by decide) ?_
  refine lv_iadd hx hb dL_512 ?_
  obtain ⟨j2, hf⟩ := gd_ok hf
  refine va_sld hx hb hX hbl hbA hB.2.2.2.2.2 (ix_in j2) dL_513 ?_
  refine lv_aload_n hx hb dL_514 rfl (lv_at hl 0 rfl) ?_
  refine lv_iload_n hx hb dL_515 rfl (lv_at hl 3 rfl) ?_
  refine lv_iconst (v := 3) hx hb dL_516 (by decide) ?_
  refine lv_iadd hx hb dL_517 ?_
  obtain ⟨j3, hf⟩ := gd_ok hf
  refine va_sld hx hb hX hbl hbA hB.2.2.2.2.2 (ix_in j3) dL_518 ?_
  obtain ⟨k4, hf⟩ := gk_ok hf
  obtain ⟨r7, g5, m6, hf⟩ := b2_ok hf
  refine hp_cI0 (cl_SpokenMenusLaw_45 cx hB (cX10_swap l D cA t1 (xs (Int32.toNatClampNeg (v3 + 1))) (xs (Int32.toNatClampNeg (v3 + 2))) (xs (Int32.toNatClampNeg (v3 + 3))) h _ g5 m6) k4 ⟨Nat.le_of_ble_eq_true rfl, Nat.le_of_ble_eq_true rfl⟩ rfl hl.1 rfl (Nat.le_of_ble_eq_true rfl) ⟨Nat.le_trans (Nat.add_le_add_left (Nat.le_of_ble_eq_true rfl) _) hcb, Nat.le_trans (Nat.add_le_add_left (Nat.le_of_ble_eq_true rfl) _) hsb⟩ dL_519) rfl rfl hB (fun H locs hB => ?_)
  refine lv_aload_n hx hb dL_522 rfl (lv_at hl 2 rfl) ?_
  refine lv_aload_n hx hb dL_523 rfl (lv_at hl 0 rfl) ?_
  refine lv_iload_n hx hb dL_524 rfl (lv_at hl 3 rfl) ?_
  refine lv_iconst (v := 1) hx hb dL_525 (by decide) ?_
  refine lv_iadd hx hb dL_526 ?_
  refine va_sld hx hb hX hbl hbA hB.2.2.2.2.2 (ix_in j1) dL_527 ?_
  refine lv_aload_n hx hb dL_528 rfl (lv_at hl 0 rfl) ?_
  refine lv_iload_n hx hb dL_529 rfl (lv_at hl 3 rfl) ?_
  refine lv_iconst (v := 2) hx hb dL_530 (by decide) ?_
  refine lv_iadd hx hb dL_531 ?_
  refine va_sld hx hb hX hbl hbA hB.2.2.2.2.2 (ix_in j2) dL_532 ?_
  refine lv_aload_n hx hb dL_533 rfl (lv_at hl 0 rfl) ?_
  refine lv_iload_n hx hb dL_534 rfl (lv_at hl 3 rfl) ?_
  refine lv_iconst (v := 3) hx hb dL_535 (by decide) ?_
  refine lv_iadd hx hb dL_536 ?_
  refine va_sld hx hb hX hbl hbA hB.2.2.2.2.2 (ix_in j3) dL_537 ?_
  obtain ⟨k8, hf⟩ := gk_ok hf
  obtain ⟨r11, g9, m10, hf⟩ := b2_ok hf
  refine hp_cI0 (cl_SpokenMenusLaw_48 cx hB (cX11_swap l D cA t2 (xs (Int32.toNatClampNeg (v3 + 1))) (xs (Int32.toNatClampNeg (v3 + 2))) (xs (Int32.toNatClampNeg (v3 + 3))) g5 _ g9 m10) k8 ⟨Nat.le_of_ble_eq_true rfl, Nat.le_of_ble_eq_true rfl⟩ rfl hl.1 rfl (Nat.le_of_ble_eq_true rfl) ⟨Nat.le_trans (Nat.add_le_add_left (Nat.le_of_ble_eq_true rfl) _) hcb, Nat.le_trans (Nat.add_le_add_left (Nat.le_of_ble_eq_true rfl) _) hsb⟩ dL_538) rfl rfl hB (fun H locs hB => ?_)
  obtain ⟨c12, hf⟩ := gd_ok hf
  refine lv_icmp_eq (tgt := 1172) hx hb dL_541 (by decide) (fun ce => ?_) (fun ce => absurd (of_decide_eq_true c12) ce)
  obtain ⟨x9, ex9, hf⟩ := nm_ok hf
  refine lv_iinc (v := x9) (lv' := [(3, .int x9), (0, .ref b), (1, .ref t1), (2, .ref t2)]) hx hb dL_1172 hl (k := 3) rfl (by rw [ex9]; rfl) (by decide) rfl (fun ls hl => ?_)
  refine lv_goto (tgt := 18) hx hb dL_1175 (by decide) ?_
  refine W.widen (k := cells + 4) (n := slots + 64) (Nat.le_add_right _ _) (Nat.le_add_right _ _) ?_
  exact hr x9 g9 _ _ _ hB (lv_sub hl [1, 2, 3, 0] rfl) hf
set_option maxHeartbeats 4000000 in
set_option maxRecDepth 100000 in
theorem tL_8 {rc : Nat → Nat → Int32 → Hp → Option Unit} {cells slots : Nat} (cx : CallFix p m c code 4 s #[Value.ref b] tbG "SpokenMenusLaw") (hX : va_X b L xs s s.heap) (hbl : b < s.heap.size) (hcb : cells + 4 ≤ 600000) (hsb : slots + 64 ≤ 7302250) {t1 t2 : Nat} (hr : ∀ (v3 : Int32) (h : Hp) (H : Heap) (locs : List Loc) (ls : Array Slot), hp_B D cA (fun q : Nat => s.heap.size ≤ q) s h H locs → lv_has ls 4 [(0, .ref b), (1, .ref t1), (2, .ref t2), (3, .int v3)] → rc t1 t2 v3 h = some () → W p l e room_1 s m #[Value.ref b] below meth c H locs (cells + 4) (slots + 64) (lw_Z below #[Value.ref b] s) (F0 m 18 ls [])) (v3 : Int32) (h : Hp) (H : Heap) (locs : List Loc) (ls : Array Slot) (hB : hp_B D cA (fun q : Nat => s.heap.size ≤ q) s h H locs) (hl : lv_has ls 4 [(0, .ref b), (1, .ref t1), (2, .ref t2), (3, .int v3)]) (hf : lc_8 xs L rc t1 t2 v3 h = some ()) : W p l e room_1 s m #[Value.ref b] below meth c H locs cells slots (lw_Z below #[Value.ref b] s) (F0 m 546 ls []) := by
  obtain ⟨hx, hb, -⟩ := id cx
  have hbA : ¬ (fun q : Nat => s.heap.size ≤ q) b := Nat.not_le.mpr hbl
  unfold lc_8 at hf
  refine lv_aload_n hx hb dL_546 rfl (lv_at hl 1 rfl) ?_
  refine lv_aload_n hx hb dL_547 rfl (lv_at hl 0 rfl) ?_
  refine lv_iload_n hx hb dL_548 rfl (lv_at hl 3 rfl) ?_
  refine lv_iconst (v := 1) hx hb dL_549 (by decide) ?_
  refine lv_iadd hx hb dL_550 ?_
  obtain ⟨j1, hf⟩ := gd_ok hf
  refine va_sld hx hb hX hbl hbA hB.2.2.2.2.2 (ix_in j1) dL_551 ?_
  refine lv_aload_n hx hb dL_552 rfl (lv_at hl 0 rfl) ?_
  refine lv_iload_n hx hb dL_553 rfl (lv_at hl 3 rfl) ?_
  refine lv_iconst (v := 2) hx hb dL_554 (by decide) ?_
  refine lv_iadd hx hb dL_555 ?_
  obtain ⟨j2, hf⟩ := gd_ok hf
  refine va_sld hx hb hX hbl hbA hB.2.2.2.2.2 (ix_in j2) dL_556 ?_
  obtain ⟨k3, hf⟩ := gk_ok hf
  obtain ⟨r6, g4, m5, hf⟩ := b2_ok hf
  refine hp_cI0 (cl_SpokenMenusLaw_49 cx hB (cX10_place l D cA t1 (xs (Int32.toNatClampNeg (v3 + 1))) (xs (Int32.toNatClampNeg (v3 + 2))) h _ g4 m5) k3 ⟨Nat.le_of_ble_eq_true rfl, Nat.le_of_ble_eq_true rfl⟩ rfl hl.1 rfl (Nat.le_of_ble_eq_true rfl) ⟨Nat.le_trans (Nat.add_le_add_left (Nat.le_of_ble_eq_true rfl) _) hcb, Nat.le_trans (Nat.add_le_add_left (Nat.le_of_ble_eq_true rfl) _) hsb⟩ dL_557) rfl rfl hB (fun H locs hB => ?_)
  refine lv_aload_n hx hb dL_560 rfl (lv_at hl 2 rfl) ?_
  refine lv_aload_n hx hb dL_561 rfl (lv_at hl 0 rfl) ?_
  refine lv_iload_n hx hb dL_562 rfl (lv_at hl 3 rfl) ?_
  refine lv_iconst (v := 1) hx hb dL_563 (by decide) ?_
  refine lv_iadd hx hb dL_564 ?_
  refine va_sld hx hb hX hbl hbA hB.2.2.2.2.2 (ix_in j1) dL_565 ?_
  refine lv_aload_n hx hb dL_566 rfl (lv_at hl 0 rfl) ?_
  refine lv_iload_n hx hb dL_567 rfl (lv_at hl 3 rfl) ?_
  refine lv_iconst (v := 2) hx hb dL_568 (by decide) ?_
  refine lv_iadd hx hb dL_569 ?_
  refine va_sld hx hb hX hbl hbA hB.2.2.2.2.2 (ix_in j2) dL_570 ?_
  obtain ⟨k7, hf⟩ := gk_ok hf
  obtain ⟨r10, g8, m9, hf⟩ := b2_ok hf
  refine hp_cI0 (cl_SpokenMenusLaw_52 cx hB (cX11_place l D cA t2 (xs (Int32.toNatClampNeg (v3 + 1))) (xs (Int32.toNatClampNeg (v3 + 2))) g4 _ g8 m9) k7 ⟨Nat.le_of_ble_eq_true rfl, Nat.le_of_ble_eq_true rfl⟩ rfl hl.1 rfl (Nat.le_of_ble_eq_true rfl) ⟨Nat.le_trans (Nat.add_le_add_left (Nat.le_of_ble_eq_true rfl) _) hcb, Nat.le_trans (Nat.add_le_add_left (Nat.le_of_ble_eq_true rfl) _) hsb⟩ dL_571) rfl rfl hB (fun H locs hB => ?_)
  obtain ⟨c11, hf⟩ := gd_ok hf
  refine lv_icmp_eq (tgt := 1172) hx hb dL_574 (by decide) (fun ce => ?_) (fun ce => absurd (of_decide_eq_true c11) ce)
  obtain ⟨x9, ex9, hf⟩ := nm_ok hf
  refine lv_iinc (v := x9) (lv' := [(3, .int x9), (0, .ref b), (1, .ref t1), (2, .ref t2)]) hx hb dL_1172 hl (k := 3) rfl (by rw [ex9]; rfl) (by decide) rfl (fun ls hl => ?_)
  refine lv_goto (tgt := 18) hx hb dL_1175 (by decide) ?_
  refine W.widen (k := cells + 4) (n := slots + 64) (Nat.le_add_right _ _) (Nat.le_add_right _ _) ?_
  exact hr x9 g8 _ _ _ hB (lv_sub hl [1, 2, 3, 0] rfl) hf
set_option maxHeartbeats 4000000 in
set_option maxRecDepth 100000 in
theorem tL_9 {rc : Nat → Nat → Int32 → Hp → Option Unit} {cells slots : Nat} (cx : CallFix p m c code 4 s #[Value.ref b] tbG "SpokenMenusLaw") (hX : va_X b L xs s s.heap) (hbl : b < s.heap.size) (hcb : cells + 4 ≤ 600000) (hsb : slots + 64 ≤ 7302250) {t1 t2 : Nat} (hr : ∀ (v3 : Int32) (h : Hp) (H : Heap) (locs : List Loc) (ls : Array Slot), hp_B D cA (fun q : Nat => s.heap.size ≤ q) s h H locs → lv_has ls 4 [(0, .ref b), (1, .ref t1), (2, .ref t2), (3, .int v3)] → rc t1 t2 v3 h = some () → W p l e room_1 s m #[Value.ref b] below meth c H locs (cells + 4) (slots + 64) (lw_Z below #[Value.ref b] s) (F0 m 18 ls [])) (v3 : Int32) (h : Hp) (H : Heap) (locs : List Loc) (ls : Array Slot) (hB : hp_B D cA (fun q : Nat => s.heap.size ≤ q) s h H locs) (hl : lv_has ls 4 [(0, .ref b), (1, .ref t1), (2, .ref t2), (3, .int v3)]) (hf : lc_9 xs L rc t1 t2 v3 h = some ()) : W p l e room_1 s m #[Value.ref b] below meth c H locs cells slots (lw_Z below #[Value.ref b] s) (F0 m 579 ls []) := by
  obtain ⟨hx, hb, -⟩ := id cx
  have hbA : ¬ (fun q : Nat => s.heap.size ≤ q) b := Nat.not_le.mpr hbl
  unfold lc_9 at hf
  refine lv_aload_n hx hb dL_579 rfl (lv_at hl 1 rfl) ?_
  refine lv_aload_n hx hb dL_580 rfl (lv_at hl 0 rfl) ?_
  refine lv_iload_n hx hb dL_581 rfl (lv_at hl 3 rfl) ?_
  refine lv_iconst (v := 1) hx hb dL_582 (by decide) ?_
  refine lv_iadd hx hb dL_583 ?_
  obtain ⟨j1, hf⟩ := gd_ok hf
  refine va_sld hx hb hX hbl hbA hB.2.2.2.2.2 (ix_in j1) dL_584 ?_
  refine lv_aload_n hx hb dL_585 rfl (lv_at hl 0 rfl) ?_
  refine lv_iload_n hx hb dL_586 rfl (lv_at hl 3 rfl) ?_
  refine lv_iconst (v := 2) hx hb dL_587 (by decide) ?_
  refine lv_iadd hx hb dL_588 ?_
  obtain ⟨j2, hf⟩ := gd_ok hf
  refine va_sld hx hb hX hbl hbA hB.2.2.2.2.2 (ix_in j2) dL_589 ?_
  refine lv_aload_n hx hb dL_590 rfl (lv_at hl 0 rfl) ?_
  refine lv_iload_n hx hb dL_591 rfl (lv_at hl 3 rfl) ?_
  refine lv_iconst (v := 3) hx hb dL_592 (by decide) ?_
  refine lv_iadd hx hb dL_593 ?_
  obtain ⟨j3, hf⟩ := gd_ok hf
  refine va_sld hx hb hX hbl hbA hB.2.2.2.2.2 (ix_in j3) dL_594 ?_
  obtain ⟨k4, hf⟩ := gk_ok hf
  obtain ⟨r7, g5, m6, hf⟩ := b2_ok hf
  refine hp_cI0 (cl_SpokenMenusLaw_53 cx hB (cX10_lineOf l D cA t1 (xs (Int32.toNatClampNeg (v3 + 1))) (xs (Int32.toNatClampNeg (v3 + 2))) (xs (Int32.toNatClampNeg (v3 + 3))) h _ g5 m6) k4 ⟨Nat.le_of_ble_eq_true rfl, Nat.le_of_ble_eq_true rfl⟩ rfl hl.1 rfl (Nat.le_of_ble_eq_true rfl) ⟨Nat.le_trans (Nat.add_le_add_left (Nat.le_of_ble_eq_true rfl) _) hcb, Nat.le_trans (Nat.add_le_add_left (Nat.le_of_ble_eq_true rfl) _) hsb⟩ dL_595) rfl rfl hB (fun H locs hB => ?_)
  refine lv_aload_n hx hb dL_598 rfl (lv_at hl 2 rfl) ?_
  refine lv_aload_n hx hb dL_599 rfl (lv_at hl 0 rfl) ?_
  refine lv_iload_n hx hb dL_600 rfl (lv_at hl 3 rfl) ?_
  refine lv_iconst (v := 1) hx hb dL_601 (by decide) ?_
  refine lv_iadd hx hb dL_602 ?_
  refine va_sld hx hb hX hbl hbA hB.2.2.2.2.2 (ix_in j1) dL_603 ?_
  refine lv_aload_n hx hb dL_604 rfl (lv_at hl 0 rfl) ?_
  refine lv_iload_n hx hb dL_605 rfl (lv_at hl 3 rfl) ?_
  refine lv_iconst (v := 2) hx hb dL_606 (by decide) ?_
  refine lv_iadd hx hb dL_607 ?_
  refine va_sld hx hb hX hbl hbA hB.2.2.2.2.2 (ix_in j2) dL_608 ?_
  refine lv_aload_n hx hb dL_609 rfl (lv_at hl 0 rfl) ?_
  refine lv_iload_n hx hb dL_610 rfl (lv_at hl 3 rfl) ?_
  refine lv_iconst (v := 3) hx hb dL_611 (by decide) ?_
  refine lv_iadd hx hb dL_612 ?_
  refine va_sld hx hb hX hbl hbA hB.2.2.2.2.2 (ix_in j3) dL_613 ?_
  obtain ⟨k8, hf⟩ := gk_ok hf
  obtain ⟨r11, g9, m10, hf⟩ := b2_ok hf
  refine hp_cI0 (cl_SpokenMenusLaw_56 cx hB (cX11_lineOf l D cA t2 (xs (Int32.toNatClampNeg (v3 + 1))) (xs (Int32.toNatClampNeg (v3 + 2))) (xs (Int32.toNatClampNeg (v3 + 3))) g5 _ g9 m10) k8 ⟨Nat.le_of_ble_eq_true rfl, Nat.le_of_ble_eq_true rfl⟩ rfl hl.1 rfl (Nat.le_of_ble_eq_true rfl) ⟨Nat.le_trans (Nat.add_le_add_left (Nat.le_of_ble_eq_true rfl) _) hcb, Nat.le_trans (Nat.add_le_add_left (Nat.le_of_ble_eq_true rfl) _) hsb⟩ dL_614) rfl rfl hB (fun H locs hB => ?_)
  obtain ⟨c12, hf⟩ := gd_ok hf
  refine lv_icmp_eq (tgt := 1172) hx hb dL_617 (by decide) (fun ce => ?_) (fun ce => absurd (of_decide_eq_true c12) ce)
  obtain ⟨x9, ex9, hf⟩ := nm_ok hf
  refine lv_iinc (v := x9) (lv' := [(3, .int x9), (0, .ref b), (1, .ref t1), (2, .ref t2)]) hx hb dL_1172 hl (k := 3) rfl (by rw [ex9]; rfl) (by decide) rfl (fun ls hl => ?_)
  refine lv_goto (tgt := 18) hx hb dL_1175 (by decide) ?_
  refine W.widen (k := cells + 4) (n := slots + 64) (Nat.le_add_right _ _) (Nat.le_add_right _ _) ?_
  exact hr x9 g9 _ _ _ hB (lv_sub hl [1, 2, 3, 0] rfl) hf
set_option maxHeartbeats 4000000 in
set_option maxRecDepth 100000 in
theorem tL_10 {rc : Nat → Nat → Int32 → Hp → Option Unit} {cells slots : Nat} (cx : CallFix p m c code 4 s #[Value.ref b] tbG "SpokenMenusLaw") (hX : va_X b L xs s s.heap) (hbl : b < s.heap.size) (hcb : cells + 4 ≤ 600000) (hsb : slots + 64 ≤ 7302250) {t1 t2 : Nat} (hr : ∀ (v3 : Int32) (h : Hp) (H : Heap) (locs : List Loc) (ls : Array Slot), hp_B D cA (fun q : Nat => s.heap.size ≤ q) s h H locs → lv_has ls 4 [(0, .ref b), (1, .ref t1), (2, .ref t2), (3, .int v3)] → rc t1 t2 v3 h = some () → W p l e room_1 s m #[Value.ref b] below meth c H locs (cells + 4) (slots + 64) (lw_Z below #[Value.ref b] s) (F0 m 18 ls [])) (v3 : Int32) (h : Hp) (H : Heap) (locs : List Loc) (ls : Array Slot) (hB : hp_B D cA (fun q : Nat => s.heap.size ≤ q) s h H locs) (hl : lv_has ls 4 [(0, .ref b), (1, .ref t1), (2, .ref t2), (3, .int v3)]) (hf : lc_10 xs L rc t1 t2 v3 h = some ()) : W p l e room_1 s m #[Value.ref b] below meth c H locs cells slots (lw_Z below #[Value.ref b] s) (F0 m 622 ls []) := by
  obtain ⟨hx, hb, -⟩ := id cx
  have hbA : ¬ (fun q : Nat => s.heap.size ≤ q) b := Nat.not_le.mpr hbl
  unfold lc_10 at hf
  refine lv_aload_n hx hb dL_622 rfl (lv_at hl 1 rfl) ?_
  refine lv_aload_n hx hb dL_623 rfl (lv_at hl 0 rfl) ?_
  refine lv_iload_n hx hb dL_624 rfl (lv_at hl 3 rfl) ?_
  refine lv_iconst (v := 1) hx hb dL_625 (by decide) ?_
  refine lv_iadd hx hb dL_626 ?_
  obtain ⟨j1, hf⟩ := gd_ok hf
  refine va_sld hx hb hX hbl hbA hB.2.2.2.2.2 (ix_in j1) dL_627 ?_
  refine lv_aload_n hx hb dL_628 rfl (lv_at hl 0 rfl) ?_
  refine lv_iload_n hx hb dL_629 rfl (lv_at hl 3 rfl) ?_
  refine lv_iconst (v := 2) hx hb dL_630 (by decide) ?_
  refine lv_iadd hx hb dL_631 ?_
  obtain ⟨j2, hf⟩ := gd_ok hf
  refine va_sld hx hb hX hbl hbA hB.2.2.2.2.2 (ix_in j2) dL_632 ?_
  refine lv_aload_n hx hb dL_633 rfl (lv_at hl 0 rfl) ?_
  refine lv_iload_n hx hb dL_634 rfl (lv_at hl 3 rfl) ?_
  refine lv_iconst (v := 3) hx hb dL_635 (by decide) ?_
  refine lv_iadd hx hb dL_636 ?_
  obtain ⟨j3, hf⟩ := gd_ok hf
  refine va_sld hx hb hX hbl hbA hB.2.2.2.2.2 (ix_in j3) dL_637 ?_
  refine lv_aload_n hx hb dL_638 rfl (lv_at hl 0 rfl) ?_
  refine lv_iload_n hx hb dL_639 rfl (lv_at hl 3 rfl) ?_
  refine lv_iconst (v := 4) hx hb dL_640 (by decide) ?_
  refine lv_iadd hx hb dL_641 ?_
  obtain ⟨j4, hf⟩ := gd_ok hf
  refine va_sld hx hb hX hbl hbA hB.2.2.2.2.2 (ix_in j4) dL_642 ?_
  refine lv_aload_n hx hb dL_643 rfl (lv_at hl 0 rfl) ?_
  refine lv_iload_n hx hb dL_644 rfl (lv_at hl 3 rfl) ?_
  refine lv_iconst (v := 5) hx hb dL_645 (by decide) ?_
  refine lv_iadd hx hb dL_646 ?_
  obtain ⟨j5, hf⟩ := gd_ok hf
  refine va_sld hx hb hX hbl hbA hB.2.2.2.2.2 (ix_in j5) dL_647 ?_
  obtain ⟨k6, hf⟩ := gk_ok hf
  obtain ⟨r9, g7, m8, hf⟩ := b2_ok hf
  refine hp_cI (cl_SpokenMenusLaw_57 cx hB (cX10_ring l D cA t1 (xs (Int32.toNatClampNeg (v3 + 1))) (xs (Int32.toNatClampNeg (v3 + 2))) (xs (Int32.toNatClampNeg (v3 + 3))) (xs (Int32.toNatClampNeg (v3 + 4))) (xs (Int32.toNatClampNeg (v3 + 5))) h _ g7 m8) k6 ⟨Nat.le_of_ble_eq_true rfl, Nat.le_of_ble_eq_true rfl⟩ rfl hl.1 rfl (Nat.le_of_ble_eq_true rfl) ⟨Nat.le_trans (Nat.add_le_add_left (Nat.le_of_ble_eq_true rfl) _) hcb, Nat.le_trans (Nat.add_le_add_left (Nat.le_of_ble_eq_true rfl) _) hsb⟩ dL_648) hB (fun H locs hB => ?_)
  refine W.widen (k := cells + 4) (n := slots + 64) (Nat.add_le_add_left (Nat.le_of_ble_eq_true rfl) _) (Nat.add_le_add_left (Nat.le_of_ble_eq_true rfl) _) ?_
  refine lv_aload_n hx hb dL_651 rfl (lv_at hl 2 rfl) ?_
  refine lv_aload_n hx hb dL_652 rfl (lv_at hl 0 rfl) ?_
  refine lv_iload_n hx hb dL_653 rfl (lv_at hl 3 rfl) ?_
  refine lv_iconst (v := 1) hx hb dL_654 (by decide) ?_
  refine lv_iadd hx hb dL_655 ?_
  refine va_sld hx hb hX hbl hbA hB.2.2.2.2.2 (ix_in j1) dL_656 ?_
  refine lv_aload_n hx hb dL_657 rfl (lv_at hl 0 rfl) ?_
  refine lv_iload_n hx hb dL_658 rfl (lv_at hl 3 rfl) ?_
  refine lv_iconst (v := 2) hx hb dL_659 (by decide) ?_
  refine lv_iadd hx hb dL_660 ?_
  refine va_sld hx hb hX hbl hbA hB.2.2.2.2.2 (ix_in j2) dL_661 ?_
  refine lv_aload_n hx hb dL_662 rfl (lv_at hl 0 rfl) ?_
  refine lv_iload_n hx hb dL_663 rfl (lv_at hl 3 rfl) ?_
  refine lv_iconst (v := 3) hx hb dL_664 (by decide) ?_
  refine lv_iadd hx hb dL_665 ?_
  refine va_sld hx hb hX hbl hbA hB.2.2.2.2.2 (ix_in j3) dL_666 ?_
  refine lv_aload_n hx hb dL_667 rfl (lv_at hl 0 rfl) ?_
  refine lv_iload_n hx hb dL_668 rfl (lv_at hl 3 rfl) ?_
  refine lv_iconst (v := 4) hx hb dL_669 (by decide) ?_
  refine lv_iadd hx hb dL_670 ?_
  refine va_sld hx hb hX hbl hbA hB.2.2.2.2.2 (ix_in j4) dL_671 ?_
  refine lv_aload_n hx hb dL_672 rfl (lv_at hl 0 rfl) ?_
  refine lv_iload_n hx hb dL_673 rfl (lv_at hl 3 rfl) ?_
  refine lv_iconst (v := 5) hx hb dL_674 (by decide) ?_
  refine lv_iadd hx hb dL_675 ?_
  refine va_sld hx hb hX hbl hbA hB.2.2.2.2.2 (ix_in j5) dL_676 ?_
  obtain ⟨k10, hf⟩ := gk_ok hf
  obtain ⟨r13, g11, m12, hf⟩ := b2_ok hf
  refine hp_cI0 (cl_SpokenMenusLaw_60 cx hB (cX11_ring l D cA t2 (xs (Int32.toNatClampNeg (v3 + 1))) (xs (Int32.toNatClampNeg (v3 + 2))) (xs (Int32.toNatClampNeg (v3 + 3))) (xs (Int32.toNatClampNeg (v3 + 4))) (xs (Int32.toNatClampNeg (v3 + 5))) g7 _ g11 m12) k10 ⟨Nat.le_of_ble_eq_true rfl, Nat.le_of_ble_eq_true rfl⟩ rfl hl.1 rfl (Nat.le_of_ble_eq_true rfl) ⟨hcb, hsb⟩ dL_677) rfl rfl hB (fun H locs hB => ?_)
  obtain ⟨c14, hf⟩ := gd_ok hf
  refine lv_icmp_eq (tgt := 1172) hx hb dL_680 (by decide) (fun ce => ?_) (fun ce => absurd (of_decide_eq_true c14) ce)
  obtain ⟨x9, ex9, hf⟩ := nm_ok hf
  refine lv_iinc (v := x9) (lv' := [(3, .int x9), (0, .ref b), (1, .ref t1), (2, .ref t2)]) hx hb dL_1172 hl (k := 3) rfl (by rw [ex9]; rfl) (by decide) rfl (fun ls hl => ?_)
  refine lv_goto (tgt := 18) hx hb dL_1175 (by decide) ?_
  exact hr x9 g11 _ _ _ hB (lv_sub hl [1, 2, 3, 0] rfl) hf
set_option maxHeartbeats 4000000 in
set_option maxRecDepth 100000 in
theorem tL_11 {rc : Nat → Nat → Int32 → Hp → Option Unit} {cells slots : Nat} (cx : CallFix p m c code 4 s #[Value.ref b] tbG "SpokenMenusLaw") (hX : va_X b L xs s s.heap) (hbl : b < s.heap.size) (hcb : cells + 4 ≤ 600000) (hsb : slots + 64 ≤ 7302250) {t1 t2 : Nat} (hr : ∀ (v3 : Int32) (h : Hp) (H : Heap) (locs : List Loc) (ls : Array Slot), hp_B D cA (fun q : Nat => s.heap.size ≤ q) s h H locs → lv_has ls 4 [(0, .ref b), (1, .ref t1), (2, .ref t2), (3, .int v3)] → rc t1 t2 v3 h = some () → W p l e room_1 s m #[Value.ref b] below meth c H locs (cells + 4) (slots + 64) (lw_Z below #[Value.ref b] s) (F0 m 18 ls [])) (v3 : Int32) (h : Hp) (H : Heap) (locs : List Loc) (ls : Array Slot) (hB : hp_B D cA (fun q : Nat => s.heap.size ≤ q) s h H locs) (hl : lv_has ls 4 [(0, .ref b), (1, .ref t1), (2, .ref t2), (3, .int v3)]) (hf : lc_11 xs L rc t1 t2 v3 h = some ()) : W p l e room_1 s m #[Value.ref b] below meth c H locs cells slots (lw_Z below #[Value.ref b] s) (F0 m 685 ls []) := by
  obtain ⟨hx, hb, -⟩ := id cx
  have hbA : ¬ (fun q : Nat => s.heap.size ≤ q) b := Nat.not_le.mpr hbl
  unfold lc_11 at hf
  refine lv_aload_n hx hb dL_685 rfl (lv_at hl 1 rfl) ?_
  refine lv_aload_n hx hb dL_686 rfl (lv_at hl 0 rfl) ?_
  refine lv_iload_n hx hb dL_687 rfl (lv_at hl 3 rfl) ?_
  refine lv_iconst (v := 1) hx hb dL_688 (by decide) ?_
  refine lv_iadd hx hb dL_689 ?_
  obtain ⟨j1, hf⟩ := gd_ok hf
  refine va_sld hx hb hX hbl hbA hB.2.2.2.2.2 (ix_in j1) dL_690 ?_
  obtain ⟨k2, hf⟩ := gk_ok hf
  obtain ⟨r5, g3, m4, hf⟩ := b2_ok hf
  refine hp_cI0 (cl_SpokenMenusLaw_61 cx hB (cX10_call l D cA t1 (xs (Int32.toNatClampNeg (v3 + 1))) h _ g3 m4) k2 ⟨Nat.le_of_ble_eq_true rfl, Nat.le_of_ble_eq_true rfl⟩ rfl hl.1 rfl (Nat.le_of_ble_eq_true rfl) ⟨Nat.le_trans (Nat.add_le_add_left (Nat.le_of_ble_eq_true rfl) _) hcb, Nat.le_trans (Nat.add_le_add_left (Nat.le_of_ble_eq_true rfl) _) hsb⟩ dL_691) rfl rfl hB (fun H locs hB => ?_)
  refine lv_aload_n hx hb dL_694 rfl (lv_at hl 2 rfl) ?_
  refine lv_aload_n hx hb dL_695 rfl (lv_at hl 0 rfl) ?_
  refine lv_iload_n hx hb dL_696 rfl (lv_at hl 3 rfl) ?_
  refine lv_iconst (v := 1) hx hb dL_697 (by decide) ?_
  refine lv_iadd hx hb dL_698 ?_
  refine va_sld hx hb hX hbl hbA hB.2.2.2.2.2 (ix_in j1) dL_699 ?_
  obtain ⟨k6, hf⟩ := gk_ok hf
  obtain ⟨r9, g7, m8, hf⟩ := b2_ok hf
  refine hp_cI0 (cl_SpokenMenusLaw_65 cx hB (cX11_call l D cA t2 (xs (Int32.toNatClampNeg (v3 + 1))) g3 _ g7 m8) k6 ⟨Nat.le_of_ble_eq_true rfl, Nat.le_of_ble_eq_true rfl⟩ rfl hl.1 rfl (Nat.le_of_ble_eq_true rfl) ⟨Nat.le_trans (Nat.add_le_add_left (Nat.le_of_ble_eq_true rfl) _) hcb, Nat.le_trans (Nat.add_le_add_left (Nat.le_of_ble_eq_true rfl) _) hsb⟩ dL_700) rfl rfl hB (fun H locs hB => ?_)
  obtain ⟨c10, hf⟩ := gd_ok hf
  refine lv_icmp_eq (tgt := 1172) hx hb dL_703 (by decide) (fun ce => ?_) (fun ce => absurd (of_decide_eq_true c10) ce)
  obtain ⟨x9, ex9, hf⟩ := nm_ok hf
  refine lv_iinc (v := x9) (lv' := [(3, .int x9), (0, .ref b), (1, .ref t1), (2, .ref t2)]) hx hb dL_1172 hl (k := 3) rfl (by rw [ex9]; rfl) (by decide) rfl (fun ls hl => ?_)
  refine lv_goto (tgt := 18) hx hb dL_1175 (by decide) ?_
  refine W.widen (k := cells + 4) (n := slots + 64) (Nat.le_add_right _ _) (Nat.le_add_right _ _) ?_
  exact hr x9 g7 _ _ _ hB (lv_sub hl [1, 2, 3, 0] rfl) hf
set_option maxHeartbeats 4000000 in
set_option maxRecDepth 100000 in
theorem tL_12 {rc : Nat → Nat → Int32 → Hp → Option Unit} {cells slots : Nat} (cx : CallFix p m c code 4 s #[Value.ref b] tbG "SpokenMenusLaw") (hX : va_X b L xs s s.heap) (hbl : b < s.heap.size) (hcb : cells + 4 ≤ 600000) (hsb : slots + 64 ≤ 7302250) {t1 t2 : Nat} (hr : ∀ (v3 : Int32) (h : Hp) (H : Heap) (locs : List Loc) (ls : Array Slot), hp_B D cA (fun q : Nat => s.heap.size ≤ q) s h H locs → lv_has ls 4 [(0, .ref b), (1, .ref t1), (2, .ref t2), (3, .int v3)] → rc t1 t2 v3 h = some () → W p l e room_1 s m #[Value.ref b] below meth c H locs (cells + 4) (slots + 64) (lw_Z below #[Value.ref b] s) (F0 m 18 ls [])) (v3 : Int32) (h : Hp) (H : Heap) (locs : List Loc) (ls : Array Slot) (hB : hp_B D cA (fun q : Nat => s.heap.size ≤ q) s h H locs) (hl : lv_has ls 4 [(0, .ref b), (1, .ref t1), (2, .ref t2), (3, .int v3)]) (hf : lc_12 xs L rc t1 t2 v3 h = some ()) : W p l e room_1 s m #[Value.ref b] below meth c H locs cells slots (lw_Z below #[Value.ref b] s) (F0 m 708 ls []) := by
  obtain ⟨hx, hb, -⟩ := id cx
  have hbA : ¬ (fun q : Nat => s.heap.size ≤ q) b := Nat.not_le.mpr hbl
  unfold lc_12 at hf
  refine lv_aload_n hx hb dL_708 rfl (lv_at hl 1 rfl) ?_
  refine lv_aload_n hx hb dL_709 rfl (lv_at hl 0 rfl) ?_
  refine lv_iload_n hx hb dL_710 rfl (lv_at hl 3 rfl) ?_
  refine lv_iconst (v := 1) hx hb dL_711 (by decide) ?_
  refine lv_iadd hx hb dL_712 ?_
  obtain ⟨j1, hf⟩ := gd_ok hf
  refine va_sld hx hb hX hbl hbA hB.2.2.2.2.2 (ix_in j1) dL_713 ?_
  obtain ⟨k2, hf⟩ := gk_ok hf
  obtain ⟨r5, g3, m4, hf⟩ := b2_ok hf
  refine hp_cI0 (cl_SpokenMenusLaw_66 cx hB (cX10_came l D cA t1 (xs (Int32.toNatClampNeg (v3 + 1))) h _ g3 m4) k2 ⟨Nat.le_of_ble_eq_true rfl, Nat.le_of_ble_eq_true rfl⟩ rfl hl.1 rfl (Nat.le_of_ble_eq_true rfl) ⟨Nat.le_trans (Nat.add_le_add_left (Nat.le_of_ble_eq_true rfl) _) hcb, Nat.le_trans (Nat.add_le_add_left (Nat.le_of_ble_eq_true rfl) _) hsb⟩ dL_714) rfl rfl hB (fun H locs hB => ?_)
  refine lv_aload_n hx hb dL_717 rfl (lv_at hl 2 rfl) ?_
  refine lv_aload_n hx hb dL_718 rfl (lv_at hl 0 rfl) ?_
  refine lv_iload_n hx hb dL_719 rfl (lv_at hl 3 rfl) ?_
  refine lv_iconst (v := 1) hx hb dL_720 (by decide) ?_
  refine lv_iadd hx hb dL_721 ?_
  refine va_sld hx hb hX hbl hbA hB.2.2.2.2.2 (ix_in j1) dL_722 ?_
  obtain ⟨k6, hf⟩ := gk_ok hf
  obtain ⟨r9, g7, m8, hf⟩ := b2_ok hf
  refine hp_cI0 (cl_SpokenMenusLaw_69 cx hB (cX11_came l D cA t2 (xs (Int32.toNatClampNeg (v3 + 1))) g3 _ g7 m8) k6 ⟨Nat.le_of_ble_eq_true rfl, Nat.le_of_ble_eq_true rfl⟩ rfl hl.1 rfl (Nat.le_of_ble_eq_true rfl) ⟨Nat.le_trans (Nat.add_le_add_left (Nat.le_of_ble_eq_true rfl) _) hcb, Nat.le_trans (Nat.add_le_add_left (Nat.le_of_ble_eq_true rfl) _) hsb⟩ dL_723) rfl rfl hB (fun H locs hB => ?_)
  obtain ⟨c10, hf⟩ := gd_ok hf
  refine lv_icmp_eq (tgt := 1172) hx hb dL_726 (by decide) (fun ce => ?_) (fun ce => absurd (of_decide_eq_true c10) ce)
  obtain ⟨x9, ex9, hf⟩ := nm_ok hf
  refine lv_iinc (v := x9) (lv' := [(3, .int x9), (0, .ref b), (1, .ref t1), (2, .ref t2)]) hx hb dL_1172 hl (k := 3) rfl (by rw [ex9]; rfl) (by decide) rfl (fun ls hl => ?_)
  refine lv_goto (tgt := 18) hx hb dL_1175 (by decide) ?_
  refine W.widen (k := cells + 4) (n := slots + 64) (Nat.le_add_right _ _) (Nat.le_add_right _ _) ?_
  exact hr x9 g7 _ _ _ hB (lv_sub hl [1, 2, 3, 0] rfl) hf
set_option maxHeartbeats 4000000 in
set_option maxRecDepth 100000 in
theorem tL_13 {rc : Nat → Nat → Int32 → Hp → Option Unit} {cells slots : Nat} (cx : CallFix p m c code 4 s #[Value.ref b] tbG "SpokenMenusLaw") (hX : va_X b L xs s s.heap) (hbl : b < s.heap.size) (hcb : cells + 4 ≤ 600000) (hsb : slots + 64 ≤ 7302250) {t1 t2 : Nat} (hr : ∀ (v3 : Int32) (h : Hp) (H : Heap) (locs : List Loc) (ls : Array Slot), hp_B D cA (fun q : Nat => s.heap.size ≤ q) s h H locs → lv_has ls 4 [(0, .ref b), (1, .ref t1), (2, .ref t2), (3, .int v3)] → rc t1 t2 v3 h = some () → W p l e room_1 s m #[Value.ref b] below meth c H locs (cells + 4) (slots + 64) (lw_Z below #[Value.ref b] s) (F0 m 18 ls [])) (v3 : Int32) (h : Hp) (H : Heap) (locs : List Loc) (ls : Array Slot) (hB : hp_B D cA (fun q : Nat => s.heap.size ≤ q) s h H locs) (hl : lv_has ls 4 [(0, .ref b), (1, .ref t1), (2, .ref t2), (3, .int v3)]) (hf : lc_13 xs L rc t1 t2 v3 h = some ()) : W p l e room_1 s m #[Value.ref b] below meth c H locs cells slots (lw_Z below #[Value.ref b] s) (F0 m 731 ls []) := by
  obtain ⟨hx, hb, -⟩ := id cx
  have hbA : ¬ (fun q : Nat => s.heap.size ≤ q) b := Nat.not_le.mpr hbl
  unfold lc_13 at hf
  refine lv_aload_n hx hb dL_731 rfl (lv_at hl 1 rfl) ?_
  refine lv_aload_n hx hb dL_732 rfl (lv_at hl 0 rfl) ?_
  refine lv_iload_n hx hb dL_733 rfl (lv_at hl 3 rfl) ?_
  refine lv_iconst (v := 1) hx hb dL_734 (by decide) ?_
  refine lv_iadd hx hb dL_735 ?_
  obtain ⟨j1, hf⟩ := gd_ok hf
  refine va_sld hx hb hX hbl hbA hB.2.2.2.2.2 (ix_in j1) dL_736 ?_
  obtain ⟨k2, hf⟩ := gk_ok hf
  obtain ⟨r5, g3, m4, hf⟩ := b2_ok hf
  refine hp_cI0 (cl_SpokenMenusLaw_70 cx hB (cX10_pressed l D cA t1 (xs (Int32.toNatClampNeg (v3 + 1))) h _ g3 m4) k2 ⟨Nat.le_of_ble_eq_true rfl, Nat.le_of_ble_eq_true rfl⟩ rfl hl.1 rfl (Nat.le_of_ble_eq_true rfl) ⟨Nat.le_trans (Nat.add_le_add_left (Nat.le_of_ble_eq_true rfl) _) hcb, Nat.le_trans (Nat.add_le_add_left (Nat.le_of_ble_eq_true rfl) _) hsb⟩ dL_737) rfl rfl hB (fun H locs hB => ?_)
  refine lv_aload_n hx hb dL_740 rfl (lv_at hl 2 rfl) ?_
  refine lv_aload_n hx hb dL_741 rfl (lv_at hl 0 rfl) ?_
  refine lv_iload_n hx hb dL_742 rfl (lv_at hl 3 rfl) ?_
  refine lv_iconst (v := 1) hx hb dL_743 (by decide) ?_
  refine lv_iadd hx hb dL_744 ?_
  refine va_sld hx hb hX hbl hbA hB.2.2.2.2.2 (ix_in j1) dL_745 ?_
  obtain ⟨k6, hf⟩ := gk_ok hf
  obtain ⟨r9, g7, m8, hf⟩ := b2_ok hf
  refine hp_cI0 (cl_SpokenMenusLaw_73 cx hB (cX11_pressed l D cA t2 (xs (Int32.toNatClampNeg (v3 + 1))) g3 _ g7 m8) k6 ⟨Nat.le_of_ble_eq_true rfl, Nat.le_of_ble_eq_true rfl⟩ rfl hl.1 rfl (Nat.le_of_ble_eq_true rfl) ⟨Nat.le_trans (Nat.add_le_add_left (Nat.le_of_ble_eq_true rfl) _) hcb, Nat.le_trans (Nat.add_le_add_left (Nat.le_of_ble_eq_true rfl) _) hsb⟩ dL_746) rfl rfl hB (fun H locs hB => ?_)
  obtain ⟨c10, hf⟩ := gd_ok hf
  refine lv_icmp_eq (tgt := 1172) hx hb dL_749 (by decide) (fun ce => ?_) (fun ce => absurd (of_decide_eq_true c10) ce)
  obtain ⟨x9, ex9, hf⟩ := nm_ok hf
  refine lv_iinc (v := x9) (lv' := [(3, .int x9), (0, .ref b), (1, .ref t1), (2, .ref t2)]) hx hb dL_1172 hl (k := 3) rfl (by rw [ex9]; rfl) (by decide) rfl (fun ls hl => ?_)
  refine lv_goto (tgt := 18) hx hb dL_1175 (by decide) ?_
  refine W.widen (k := cells + 4) (n := slots + 64) (Nat.le_add_right _ _) (Nat.le_add_right _ _) ?_
  exact hr x9 g7 _ _ _ hB (lv_sub hl [1, 2, 3, 0] rfl) hf
set_option maxHeartbeats 4000000 in
set_option maxRecDepth 100000 in
theorem tL_14 {rc : Nat → Nat → Int32 → Hp → Option Unit} {cells slots : Nat} (cx : CallFix p m c code 4 s #[Value.ref b] tbG "SpokenMenusLaw") (hX : va_X b L xs s s.heap) (hbl : b < s.heap.size) (hcb : cells + 4 ≤ 600000) (hsb : slots + 64 ≤ 7302250) {t1 t2 : Nat} (hr : ∀ (v3 : Int32) (h : Hp) (H : Heap) (locs : List Loc) (ls : Array Slot), hp_B D cA (fun q : Nat => s.heap.size ≤ q) s h H locs → lv_has ls 4 [(0, .ref b), (1, .ref t1), (2, .ref t2), (3, .int v3)] → rc t1 t2 v3 h = some () → W p l e room_1 s m #[Value.ref b] below meth c H locs (cells + 4) (slots + 64) (lw_Z below #[Value.ref b] s) (F0 m 18 ls [])) (v3 : Int32) (h : Hp) (H : Heap) (locs : List Loc) (ls : Array Slot) (hB : hp_B D cA (fun q : Nat => s.heap.size ≤ q) s h H locs) (hl : lv_has ls 4 [(0, .ref b), (1, .ref t1), (2, .ref t2), (3, .int v3)]) (hf : lc_14 xs L rc t1 t2 v3 h = some ()) : W p l e room_1 s m #[Value.ref b] below meth c H locs cells slots (lw_Z below #[Value.ref b] s) (F0 m 754 ls []) := by
  obtain ⟨hx, hb, -⟩ := id cx
  have hbA : ¬ (fun q : Nat => s.heap.size ≤ q) b := Nat.not_le.mpr hbl
  unfold lc_14 at hf
  refine lv_aload_n hx hb dL_754 rfl (lv_at hl 1 rfl) ?_
  refine lv_aload_n hx hb dL_755 rfl (lv_at hl 0 rfl) ?_
  refine lv_iload_n hx hb dL_756 rfl (lv_at hl 3 rfl) ?_
  refine lv_iconst (v := 1) hx hb dL_757 (by decide) ?_
  refine lv_iadd hx hb dL_758 ?_
  obtain ⟨j1, hf⟩ := gd_ok hf
  refine va_sld hx hb hX hbl hbA hB.2.2.2.2.2 (ix_in j1) dL_759 ?_
  refine lv_aload_n hx hb dL_760 rfl (lv_at hl 0 rfl) ?_
  refine lv_iload_n hx hb dL_761 rfl (lv_at hl 3 rfl) ?_
  refine lv_iconst (v := 2) hx hb dL_762 (by decide) ?_
  refine lv_iadd hx hb dL_763 ?_
  obtain ⟨j2, hf⟩ := gd_ok hf
  refine va_sld hx hb hX hbl hbA hB.2.2.2.2.2 (ix_in j2) dL_764 ?_
  refine lv_aload_n hx hb dL_765 rfl (lv_at hl 0 rfl) ?_
  refine lv_iload_n hx hb dL_766 rfl (lv_at hl 3 rfl) ?_
  refine lv_iconst (v := 3) hx hb dL_767 (by decide) ?_
  refine lv_iadd hx hb dL_768 ?_
  obtain ⟨j3, hf⟩ := gd_ok hf
  refine va_sld hx hb hX hbl hbA hB.2.2.2.2.2 (ix_in j3) dL_769 ?_
  refine lv_aload_n hx hb dL_770 rfl (lv_at hl 0 rfl) ?_
  refine lv_iload_n hx hb dL_771 rfl (lv_at hl 3 rfl) ?_
  refine lv_iconst (v := 4) hx hb dL_772 (by decide) ?_
  refine lv_iadd hx hb dL_773 ?_
  obtain ⟨j4, hf⟩ := gd_ok hf
  refine va_sld hx hb hX hbl hbA hB.2.2.2.2.2 (ix_in j4) dL_774 ?_
  obtain ⟨k5, hf⟩ := gk_ok hf
  obtain ⟨r8, g6, m7, hf⟩ := b2_ok hf
  refine hp_cI (cl_SpokenMenusLaw_74 cx hB (cX10_fewest l D cA t1 (xs (Int32.toNatClampNeg (v3 + 1))) (xs (Int32.toNatClampNeg (v3 + 2))) (xs (Int32.toNatClampNeg (v3 + 3))) (xs (Int32.toNatClampNeg (v3 + 4))) h _ g6 m7) k5 ⟨Nat.le_of_ble_eq_true rfl, Nat.le_of_ble_eq_true rfl⟩ rfl hl.1 rfl (Nat.le_of_ble_eq_true rfl) ⟨Nat.le_trans (Nat.add_le_add_left (Nat.le_of_ble_eq_true rfl) _) hcb, Nat.le_trans (Nat.add_le_add_left (Nat.le_of_ble_eq_true rfl) _) hsb⟩ dL_775) hB (fun H locs hB => ?_)
  refine W.widen (k := cells + 4) (n := slots + 64) (Nat.add_le_add_left (Nat.le_of_ble_eq_true rfl) _) (Nat.add_le_add_left (Nat.le_of_ble_eq_true rfl) _) ?_
  refine lv_aload_n hx hb dL_778 rfl (lv_at hl 2 rfl) ?_
  refine lv_aload_n hx hb dL_779 rfl (lv_at hl 0 rfl) ?_
  refine lv_iload_n hx hb dL_780 rfl (lv_at hl 3 rfl) ?_
  refine lv_iconst (v := 1) hx hb dL_781 (by decide) ?_
  refine lv_iadd hx hb dL_782 ?_
  refine va_sld hx hb hX hbl hbA hB.2.2.2.2.2 (ix_in j1) dL_783 ?_
  refine lv_aload_n hx hb dL_784 rfl (lv_at hl 0 rfl) ?_
  refine lv_iload_n hx hb dL_785 rfl (lv_at hl 3 rfl) ?_
  refine lv_iconst (v := 2) hx hb dL_786 (by decide) ?_
  refine lv_iadd hx hb dL_787 ?_
  refine va_sld hx hb hX hbl hbA hB.2.2.2.2.2 (ix_in j2) dL_788 ?_
  refine lv_aload_n hx hb dL_789 rfl (lv_at hl 0 rfl) ?_
  refine lv_iload_n hx hb dL_790 rfl (lv_at hl 3 rfl) ?_
  refine lv_iconst (v := 3) hx hb dL_791 (by decide) ?_
  refine lv_iadd hx hb dL_792 ?_
  refine va_sld hx hb hX hbl hbA hB.2.2.2.2.2 (ix_in j3) dL_793 ?_
  refine lv_aload_n hx hb dL_794 rfl (lv_at hl 0 rfl) ?_
  refine lv_iload_n hx hb dL_795 rfl (lv_at hl 3 rfl) ?_
  refine lv_iconst (v := 4) hx hb dL_796 (by decide) ?_
  refine lv_iadd hx hb dL_797 ?_
  refine va_sld hx hb hX hbl hbA hB.2.2.2.2.2 (ix_in j4) dL_798 ?_
  obtain ⟨k9, hf⟩ := gk_ok hf
  obtain ⟨r12, g10, m11, hf⟩ := b2_ok hf
  refine hp_cI0 (cl_SpokenMenusLaw_77 cx hB (cX11_fewest l D cA t2 (xs (Int32.toNatClampNeg (v3 + 1))) (xs (Int32.toNatClampNeg (v3 + 2))) (xs (Int32.toNatClampNeg (v3 + 3))) (xs (Int32.toNatClampNeg (v3 + 4))) g6 _ g10 m11) k9 ⟨Nat.le_of_ble_eq_true rfl, Nat.le_of_ble_eq_true rfl⟩ rfl hl.1 rfl (Nat.le_of_ble_eq_true rfl) ⟨hcb, hsb⟩ dL_799) rfl rfl hB (fun H locs hB => ?_)
  obtain ⟨c13, hf⟩ := gd_ok hf
  refine lv_icmp_eq (tgt := 1172) hx hb dL_802 (by decide) (fun ce => ?_) (fun ce => absurd (of_decide_eq_true c13) ce)
  obtain ⟨x9, ex9, hf⟩ := nm_ok hf
  refine lv_iinc (v := x9) (lv' := [(3, .int x9), (0, .ref b), (1, .ref t1), (2, .ref t2)]) hx hb dL_1172 hl (k := 3) rfl (by rw [ex9]; rfl) (by decide) rfl (fun ls hl => ?_)
  refine lv_goto (tgt := 18) hx hb dL_1175 (by decide) ?_
  exact hr x9 g10 _ _ _ hB (lv_sub hl [1, 2, 3, 0] rfl) hf
set_option maxHeartbeats 4000000 in
set_option maxRecDepth 100000 in
theorem tL_15 {rc : Nat → Nat → Int32 → Hp → Option Unit} {cells slots : Nat} (cx : CallFix p m c code 4 s #[Value.ref b] tbG "SpokenMenusLaw") (hX : va_X b L xs s s.heap) (hbl : b < s.heap.size) (hcb : cells + 4 ≤ 600000) (hsb : slots + 64 ≤ 7302250) {t1 t2 : Nat} (hr : ∀ (v3 : Int32) (h : Hp) (H : Heap) (locs : List Loc) (ls : Array Slot), hp_B D cA (fun q : Nat => s.heap.size ≤ q) s h H locs → lv_has ls 4 [(0, .ref b), (1, .ref t1), (2, .ref t2), (3, .int v3)] → rc t1 t2 v3 h = some () → W p l e room_1 s m #[Value.ref b] below meth c H locs (cells + 4) (slots + 64) (lw_Z below #[Value.ref b] s) (F0 m 18 ls [])) (v3 : Int32) (h : Hp) (H : Heap) (locs : List Loc) (ls : Array Slot) (hB : hp_B D cA (fun q : Nat => s.heap.size ≤ q) s h H locs) (hl : lv_has ls 4 [(0, .ref b), (1, .ref t1), (2, .ref t2), (3, .int v3)]) (hf : lc_15 xs L rc t1 t2 v3 h = some ()) : W p l e room_1 s m #[Value.ref b] below meth c H locs cells slots (lw_Z below #[Value.ref b] s) (F0 m 807 ls []) := by
  obtain ⟨hx, hb, -⟩ := id cx
  have hbA : ¬ (fun q : Nat => s.heap.size ≤ q) b := Nat.not_le.mpr hbl
  unfold lc_15 at hf
  refine lv_aload_n hx hb dL_807 rfl (lv_at hl 1 rfl) ?_
  refine lv_aload_n hx hb dL_808 rfl (lv_at hl 0 rfl) ?_
  refine lv_iload_n hx hb dL_809 rfl (lv_at hl 3 rfl) ?_
  refine lv_iconst (v := 1) hx hb dL_810 (by decide) ?_
  refine lv_iadd hx hb dL_811 ?_
  obtain ⟨j1, hf⟩ := gd_ok hf
  refine va_sld hx hb hX hbl hbA hB.2.2.2.2.2 (ix_in j1) dL_812 ?_
  refine lv_aload_n hx hb dL_813 rfl (lv_at hl 0 rfl) ?_
  refine lv_iload_n hx hb dL_814 rfl (lv_at hl 3 rfl) ?_
  refine lv_iconst (v := 2) hx hb dL_815 (by decide) ?_
  refine lv_iadd hx hb dL_816 ?_
  obtain ⟨j2, hf⟩ := gd_ok hf
  refine va_sld hx hb hX hbl hbA hB.2.2.2.2.2 (ix_in j2) dL_817 ?_
  obtain ⟨k3, hf⟩ := gk_ok hf
  obtain ⟨r6, g4, m5, hf⟩ := b2_ok hf
  refine hp_cI0 (cl_SpokenMenusLaw_78 cx hB (cX10_trap l D cA t1 (xs (Int32.toNatClampNeg (v3 + 1))) (xs (Int32.toNatClampNeg (v3 + 2))) h _ g4 m5) k3 ⟨Nat.le_of_ble_eq_true rfl, Nat.le_of_ble_eq_true rfl⟩ rfl hl.1 rfl (Nat.le_of_ble_eq_true rfl) ⟨Nat.le_trans (Nat.add_le_add_left (Nat.le_of_ble_eq_true rfl) _) hcb, Nat.le_trans (Nat.add_le_add_left (Nat.le_of_ble_eq_true rfl) _) hsb⟩ dL_818) rfl rfl hB (fun H locs hB => ?_)
  refine lv_aload_n hx hb dL_821 rfl (lv_at hl 2 rfl) ?_
  refine lv_aload_n hx hb dL_822 rfl (lv_at hl 0 rfl) ?_
  refine lv_iload_n hx hb dL_823 rfl (lv_at hl 3 rfl) ?_
  refine lv_iconst (v := 1) hx hb dL_824 (by decide) ?_
  refine lv_iadd hx hb dL_825 ?_
  refine va_sld hx hb hX hbl hbA hB.2.2.2.2.2 (ix_in j1) dL_826 ?_
  refine lv_aload_n hx hb dL_827 rfl (lv_at hl 0 rfl) ?_
  refine lv_iload_n hx hb dL_828 rfl (lv_at hl 3 rfl) ?_
  refine lv_iconst (v := 2) hx hb dL_829 (by decide) ?_
  refine lv_iadd hx hb dL_830 ?_
  refine va_sld hx hb hX hbl hbA hB.2.2.2.2.2 (ix_in j2) dL_831 ?_
  obtain ⟨k7, hf⟩ := gk_ok hf
  obtain ⟨r10, g8, m9, hf⟩ := b2_ok hf
  refine hp_cI0 (cl_SpokenMenusLaw_81 cx hB (cX11_trap l D cA t2 (xs (Int32.toNatClampNeg (v3 + 1))) (xs (Int32.toNatClampNeg (v3 + 2))) g4 _ g8 m9) k7 ⟨Nat.le_of_ble_eq_true rfl, Nat.le_of_ble_eq_true rfl⟩ rfl hl.1 rfl (Nat.le_of_ble_eq_true rfl) ⟨Nat.le_trans (Nat.add_le_add_left (Nat.le_of_ble_eq_true rfl) _) hcb, Nat.le_trans (Nat.add_le_add_left (Nat.le_of_ble_eq_true rfl) _) hsb⟩ dL_832) rfl rfl hB (fun H locs hB => ?_)
  obtain ⟨c11, hf⟩ := gd_ok hf
  refine lv_icmp_eq (tgt := 1172) hx hb dL_835 (by decide) (fun ce => ?_) (fun ce => absurd (of_decide_eq_true c11) ce)
  obtain ⟨x9, ex9, hf⟩ := nm_ok hf
  refine lv_iinc (v := x9) (lv' := [(3, .int x9), (0, .ref b), (1, .ref t1), (2, .ref t2)]) hx hb dL_1172 hl (k := 3) rfl (by rw [ex9]; rfl) (by decide) rfl (fun ls hl => ?_)
  refine lv_goto (tgt := 18) hx hb dL_1175 (by decide) ?_
  refine W.widen (k := cells + 4) (n := slots + 64) (Nat.le_add_right _ _) (Nat.le_add_right _ _) ?_
  exact hr x9 g8 _ _ _ hB (lv_sub hl [1, 2, 3, 0] rfl) hf
set_option maxHeartbeats 4000000 in
set_option maxRecDepth 100000 in
theorem tL_16 {rc : Nat → Nat → Int32 → Hp → Option Unit} {cells slots : Nat} (cx : CallFix p m c code 4 s #[Value.ref b] tbG "SpokenMenusLaw") (hX : va_X b L xs s s.heap) (hbl : b < s.heap.size) (hcb : cells + 4 ≤ 600000) (hsb : slots + 64 ≤ 7302250) {t1 t2 : Nat} (hr : ∀ (v3 : Int32) (h : Hp) (H : Heap) (locs : List Loc) (ls : Array Slot), hp_B D cA (fun q : Nat => s.heap.size ≤ q) s h H locs → lv_has ls 4 [(0, .ref b), (1, .ref t1), (2, .ref t2), (3, .int v3)] → rc t1 t2 v3 h = some () → W p l e room_1 s m #[Value.ref b] below meth c H locs (cells + 4) (slots + 64) (lw_Z below #[Value.ref b] s) (F0 m 18 ls [])) (v3 : Int32) (h : Hp) (H : Heap) (locs : List Loc) (ls : Array Slot) (hB : hp_B D cA (fun q : Nat => s.heap.size ≤ q) s h H locs) (hl : lv_has ls 4 [(0, .ref b), (1, .ref t1), (2, .ref t2), (3, .int v3)]) (hf : lc_16 xs L rc t1 t2 v3 h = some ()) : W p l e room_1 s m #[Value.ref b] below meth c H locs cells slots (lw_Z below #[Value.ref b] s) (F0 m 840 ls []) := by
  obtain ⟨hx, hb, -⟩ := id cx
  have hbA : ¬ (fun q : Nat => s.heap.size ≤ q) b := Nat.not_le.mpr hbl
  unfold lc_16 at hf
  refine lv_aload_n hx hb dL_840 rfl (lv_at hl 1 rfl) ?_
  refine lv_aload_n hx hb dL_841 rfl (lv_at hl 0 rfl) ?_
  refine lv_iload_n hx hb dL_842 rfl (lv_at hl 3 rfl) ?_
  refine lv_iconst (v := 1) hx hb dL_843 (by decide) ?_
  refine lv_iadd hx hb dL_844 ?_
  obtain ⟨j1, hf⟩ := gd_ok hf
  refine va_sld hx hb hX hbl hbA hB.2.2.2.2.2 (ix_in j1) dL_845 ?_
  refine lv_aload_n hx hb dL_846 rfl (lv_at hl 0 rfl) ?_
  refine lv_iload_n hx hb dL_847 rfl (lv_at hl 3 rfl) ?_
  refine lv_iconst (v := 2) hx hb dL_848 (by decide) ?_
  refine lv_iadd hx hb dL_849 ?_
  obtain ⟨j2, hf⟩ := gd_ok hf
  refine va_sld hx hb hX hbl hbA hB.2.2.2.2.2 (ix_in j2) dL_850 ?_
  refine lv_aload_n hx hb dL_851 rfl (lv_at hl 0 rfl) ?_
  refine lv_iload_n hx hb dL_852 rfl (lv_at hl 3 rfl) ?_
  refine lv_iconst (v := 3) hx hb dL_853 (by decide) ?_
  refine lv_iadd hx hb dL_854 ?_
  obtain ⟨j3, hf⟩ := gd_ok hf
  refine va_sld hx hb hX hbl hbA hB.2.2.2.2.2 (ix_in j3) dL_855 ?_
  refine lv_aload_n hx hb dL_856 rfl (lv_at hl 0 rfl) ?_
  refine lv_iload_n hx hb dL_857 rfl (lv_at hl 3 rfl) ?_
  refine lv_iconst (v := 4) hx hb dL_858 (by decide) ?_
  refine lv_iadd hx hb dL_859 ?_
  obtain ⟨j4, hf⟩ := gd_ok hf
  refine va_sld hx hb hX hbl hbA hB.2.2.2.2.2 (ix_in j4) dL_860 ?_
  refine lv_aload_n hx hb dL_861 rfl (lv_at hl 0 rfl) ?_
  refine lv_iload_n hx hb dL_862 rfl (lv_at hl 3 rfl) ?_
  refine lv_iconst (v := 5) hx hb dL_863 (by decide) ?_
  refine lv_iadd hx hb dL_864 ?_
  obtain ⟨j5, hf⟩ := gd_ok hf
  refine va_sld hx hb hX hbl hbA hB.2.2.2.2.2 (ix_in j5) dL_865 ?_
  refine lv_aload_n hx hb dL_866 rfl (lv_at hl 0 rfl) ?_
  refine lv_iload_n hx hb dL_867 rfl (lv_at hl 3 rfl) ?_
  refine lv_bipush (v := 6) hx hb dL_868 (by decide) ?_
  refine lv_iadd hx hb dL_870 ?_
  obtain ⟨j6, hf⟩ := gd_ok hf
  refine va_sld hx hb hX hbl hbA hB.2.2.2.2.2 (ix_in j6) dL_871 ?_
  obtain ⟨k7, hf⟩ := gk_ok hf
  obtain ⟨r10, g8, m9, hf⟩ := b2_ok hf
  refine hp_cI (cl_SpokenMenusLaw_82 cx hB (cX10_group l D cA t1 (xs (Int32.toNatClampNeg (v3 + 1))) (xs (Int32.toNatClampNeg (v3 + 2))) (xs (Int32.toNatClampNeg (v3 + 3))) (xs (Int32.toNatClampNeg (v3 + 4))) (xs (Int32.toNatClampNeg (v3 + 5))) (xs (Int32.toNatClampNeg (v3 + 6))) h _ g8 m9) k7 ⟨Nat.le_of_ble_eq_true rfl, Nat.le_of_ble_eq_true rfl⟩ rfl hl.1 rfl (Nat.le_of_ble_eq_true rfl) ⟨Nat.le_trans (Nat.add_le_add_left (Nat.le_of_ble_eq_true rfl) _) hcb, Nat.le_trans (Nat.add_le_add_left (Nat.le_of_ble_eq_true rfl) _) hsb⟩ dL_872) hB (fun H locs hB => ?_)
  refine W.widen (k := cells + 4) (n := slots + 64) (Nat.add_le_add_left (Nat.le_of_ble_eq_true rfl) _) (Nat.add_le_add_left (Nat.le_of_ble_eq_true rfl) _) ?_
  refine lv_aload_n hx hb dL_875 rfl (lv_at hl 2 rfl) ?_
  refine lv_aload_n hx hb dL_876 rfl (lv_at hl 0 rfl) ?_
  refine lv_iload_n hx hb dL_877 rfl (lv_at hl 3 rfl) ?_
  refine lv_iconst (v := 1) hx hb dL_878 (by decide) ?_
  refine lv_iadd hx hb dL_879 ?_
  refine va_sld hx hb hX hbl hbA hB.2.2.2.2.2 (ix_in j1) dL_880 ?_
  refine lv_aload_n hx hb dL_881 rfl (lv_at hl 0 rfl) ?_
  refine lv_iload_n hx hb dL_882 rfl (lv_at hl 3 rfl) ?_
  refine lv_iconst (v := 2) hx hb dL_883 (by decide) ?_
  refine lv_iadd hx hb dL_884 ?_
  refine va_sld hx hb hX hbl hbA hB.2.2.2.2.2 (ix_in j2) dL_885 ?_
  refine lv_aload_n hx hb dL_886 rfl (lv_at hl 0 rfl) ?_
  refine lv_iload_n hx hb dL_887 rfl (lv_at hl 3 rfl) ?_
  refine lv_iconst (v := 3) hx hb dL_888 (by decide) ?_
  refine lv_iadd hx hb dL_889 ?_
  refine va_sld hx hb hX hbl hbA hB.2.2.2.2.2 (ix_in j3) dL_890 ?_
  refine lv_aload_n hx hb dL_891 rfl (lv_at hl 0 rfl) ?_
  refine lv_iload_n hx hb dL_892 rfl (lv_at hl 3 rfl) ?_
  refine lv_iconst (v := 4) hx hb dL_893 (by decide) ?_
  refine lv_iadd hx hb dL_894 ?_
  refine va_sld hx hb hX hbl hbA hB.2.2.2.2.2 (ix_in j4) dL_895 ?_
  refine lv_aload_n hx hb dL_896 rfl (lv_at hl 0 rfl) ?_
  refine lv_iload_n hx hb dL_897 rfl (lv_at hl 3 rfl) ?_
  refine lv_iconst (v := 5) hx hb dL_898 (by decide) ?_
  refine lv_iadd hx hb dL_899 ?_
  refine va_sld hx hb hX hbl hbA hB.2.2.2.2.2 (ix_in j5) dL_900 ?_
  refine lv_aload_n hx hb dL_901 rfl (lv_at hl 0 rfl) ?_
  refine lv_iload_n hx hb dL_902 rfl (lv_at hl 3 rfl) ?_
  refine lv_bipush (v := 6) hx hb dL_903 (by decide) ?_
  refine lv_iadd hx hb dL_905 ?_
  refine va_sld hx hb hX hbl hbA hB.2.2.2.2.2 (ix_in j6) dL_906 ?_
  obtain ⟨k11, hf⟩ := gk_ok hf
  obtain ⟨r14, g12, m13, hf⟩ := b2_ok hf
  refine hp_cI0 (cl_SpokenMenusLaw_86 cx hB (cX11_group l D cA t2 (xs (Int32.toNatClampNeg (v3 + 1))) (xs (Int32.toNatClampNeg (v3 + 2))) (xs (Int32.toNatClampNeg (v3 + 3))) (xs (Int32.toNatClampNeg (v3 + 4))) (xs (Int32.toNatClampNeg (v3 + 5))) (xs (Int32.toNatClampNeg (v3 + 6))) g8 _ g12 m13) k11 ⟨Nat.le_of_ble_eq_true rfl, Nat.le_of_ble_eq_true rfl⟩ rfl hl.1 rfl (Nat.le_of_ble_eq_true rfl) ⟨hcb, hsb⟩ dL_907) rfl rfl hB (fun H locs hB => ?_)
  obtain ⟨c15, hf⟩ := gd_ok hf
  refine lv_icmp_eq (tgt := 1172) hx hb dL_910 (by decide) (fun ce => ?_) (fun ce => absurd (of_decide_eq_true c15) ce)
  obtain ⟨x9, ex9, hf⟩ := nm_ok hf
  refine lv_iinc (v := x9) (lv' := [(3, .int x9), (0, .ref b), (1, .ref t1), (2, .ref t2)]) hx hb dL_1172 hl (k := 3) rfl (by rw [ex9]; rfl) (by decide) rfl (fun ls hl => ?_)
  refine lv_goto (tgt := 18) hx hb dL_1175 (by decide) ?_
  exact hr x9 g12 _ _ _ hB (lv_sub hl [1, 2, 3, 0] rfl) hf
set_option maxHeartbeats 4000000 in
set_option maxRecDepth 100000 in
theorem tL_17 {rc : Nat → Nat → Int32 → Hp → Option Unit} {cells slots : Nat} (cx : CallFix p m c code 4 s #[Value.ref b] tbG "SpokenMenusLaw") (hX : va_X b L xs s s.heap) (hbl : b < s.heap.size) (hcb : cells + 4 ≤ 600000) (hsb : slots + 64 ≤ 7302250) {t1 t2 : Nat} (hr : ∀ (v3 : Int32) (h : Hp) (H : Heap) (locs : List Loc) (ls : Array Slot), hp_B D cA (fun q : Nat => s.heap.size ≤ q) s h H locs → lv_has ls 4 [(0, .ref b), (1, .ref t1), (2, .ref t2), (3, .int v3)] → rc t1 t2 v3 h = some () → W p l e room_1 s m #[Value.ref b] below meth c H locs (cells + 4) (slots + 64) (lw_Z below #[Value.ref b] s) (F0 m 18 ls [])) (v3 : Int32) (h : Hp) (H : Heap) (locs : List Loc) (ls : Array Slot) (hB : hp_B D cA (fun q : Nat => s.heap.size ≤ q) s h H locs) (hl : lv_has ls 4 [(0, .ref b), (1, .ref t1), (2, .ref t2), (3, .int v3)]) (hf : lc_17 xs L rc t1 t2 v3 h = some ()) : W p l e room_1 s m #[Value.ref b] below meth c H locs cells slots (lw_Z below #[Value.ref b] s) (F0 m 915 ls []) := by
  obtain ⟨hx, hb, -⟩ := id cx
  have hbA : ¬ (fun q : Nat => s.heap.size ≤ q) b := Nat.not_le.mpr hbl
  unfold lc_17 at hf
  refine lv_aload_n hx hb dL_915 rfl (lv_at hl 1 rfl) ?_
  obtain ⟨k1, hf⟩ := gk_ok hf
  obtain ⟨r4, g2, m3, hf⟩ := b2_ok hf
  refine hp_cI0 (cl_SpokenMenusLaw_87 cx hB (cX10_noGroups l D cA t1 h _ g2 m3) k1 ⟨Nat.le_of_ble_eq_true rfl, Nat.le_of_ble_eq_true rfl⟩ rfl hl.1 rfl (Nat.le_of_ble_eq_true rfl) ⟨Nat.le_trans (Nat.add_le_add_left (Nat.le_of_ble_eq_true rfl) _) hcb, Nat.le_trans (Nat.add_le_add_left (Nat.le_of_ble_eq_true rfl) _) hsb⟩ dL_916) rfl rfl hB (fun H locs hB => ?_)
  refine lv_aload_n hx hb dL_919 rfl (lv_at hl 2 rfl) ?_
  obtain ⟨k5, hf⟩ := gk_ok hf
  obtain ⟨r8, g6, m7, hf⟩ := b2_ok hf
  refine hp_cI0 (cl_SpokenMenusLaw_91 cx hB (cX11_noGroups l D cA t2 g2 _ g6 m7) k5 ⟨Nat.le_of_ble_eq_true rfl, Nat.le_of_ble_eq_true rfl⟩ rfl hl.1 rfl (Nat.le_of_ble_eq_true rfl) ⟨Nat.le_trans (Nat.add_le_add_left (Nat.le_of_ble_eq_true rfl) _) hcb, Nat.le_trans (Nat.add_le_add_left (Nat.le_of_ble_eq_true rfl) _) hsb⟩ dL_920) rfl rfl hB (fun H locs hB => ?_)
  obtain ⟨c9, hf⟩ := gd_ok hf
  refine lv_icmp_eq (tgt := 1172) hx hb dL_923 (by decide) (fun ce => ?_) (fun ce => absurd (of_decide_eq_true c9) ce)
  obtain ⟨x9, ex9, hf⟩ := nm_ok hf
  refine lv_iinc (v := x9) (lv' := [(3, .int x9), (0, .ref b), (1, .ref t1), (2, .ref t2)]) hx hb dL_1172 hl (k := 3) rfl (by rw [ex9]; rfl) (by decide) rfl (fun ls hl => ?_)
  refine lv_goto (tgt := 18) hx hb dL_1175 (by decide) ?_
  refine W.widen (k := cells + 4) (n := slots + 64) (Nat.le_add_right _ _) (Nat.le_add_right _ _) ?_
  exact hr x9 g6 _ _ _ hB (lv_sub hl [1, 2, 3, 0] rfl) hf
set_option maxHeartbeats 4000000 in
set_option maxRecDepth 100000 in
theorem tL_18 {rc : Nat → Nat → Int32 → Hp → Option Unit} {cells slots : Nat} (cx : CallFix p m c code 4 s #[Value.ref b] tbG "SpokenMenusLaw") (hX : va_X b L xs s s.heap) (hbl : b < s.heap.size) (hcb : cells + 4 ≤ 600000) (hsb : slots + 64 ≤ 7302250) {t1 t2 : Nat} (hr : ∀ (v3 : Int32) (h : Hp) (H : Heap) (locs : List Loc) (ls : Array Slot), hp_B D cA (fun q : Nat => s.heap.size ≤ q) s h H locs → lv_has ls 4 [(0, .ref b), (1, .ref t1), (2, .ref t2), (3, .int v3)] → rc t1 t2 v3 h = some () → W p l e room_1 s m #[Value.ref b] below meth c H locs (cells + 4) (slots + 64) (lw_Z below #[Value.ref b] s) (F0 m 18 ls [])) (v3 : Int32) (h : Hp) (H : Heap) (locs : List Loc) (ls : Array Slot) (hB : hp_B D cA (fun q : Nat => s.heap.size ≤ q) s h H locs) (hl : lv_has ls 4 [(0, .ref b), (1, .ref t1), (2, .ref t2), (3, .int v3)]) (hf : lc_18 xs L rc t1 t2 v3 h = some ()) : W p l e room_1 s m #[Value.ref b] below meth c H locs cells slots (lw_Z below #[Value.ref b] s) (F0 m 928 ls []) := by
  obtain ⟨hx, hb, -⟩ := id cx
  have hbA : ¬ (fun q : Nat => s.heap.size ≤ q) b := Nat.not_le.mpr hbl
  unfold lc_18 at hf
  refine lv_aload_n hx hb dL_928 rfl (lv_at hl 1 rfl) ?_
  refine lv_aload_n hx hb dL_929 rfl (lv_at hl 0 rfl) ?_
  refine lv_iload_n hx hb dL_930 rfl (lv_at hl 3 rfl) ?_
  refine lv_iconst (v := 1) hx hb dL_931 (by decide) ?_
  refine lv_iadd hx hb dL_932 ?_
  obtain ⟨j1, hf⟩ := gd_ok hf
  refine va_sld hx hb hX hbl hbA hB.2.2.2.2.2 (ix_in j1) dL_933 ?_
  obtain ⟨k2, hf⟩ := gk_ok hf
  obtain ⟨r5, g3, m4, hf⟩ := b2_ok hf
  refine hp_cI0 (cl_SpokenMenusLaw_92 cx hB (cX10_sum l D cA t1 (xs (Int32.toNatClampNeg (v3 + 1))) h _ g3 m4) k2 ⟨Nat.le_of_ble_eq_true rfl, Nat.le_of_ble_eq_true rfl⟩ rfl hl.1 rfl (Nat.le_of_ble_eq_true rfl) ⟨Nat.le_trans (Nat.add_le_add_left (Nat.le_of_ble_eq_true rfl) _) hcb, Nat.le_trans (Nat.add_le_add_left (Nat.le_of_ble_eq_true rfl) _) hsb⟩ dL_934) rfl rfl hB (fun H locs hB => ?_)
  refine lv_aload_n hx hb dL_937 rfl (lv_at hl 2 rfl) ?_
  refine lv_aload_n hx hb dL_938 rfl (lv_at hl 0 rfl) ?_
  refine lv_iload_n hx hb dL_939 rfl (lv_at hl 3 rfl) ?_
  refine lv_iconst (v := 1) hx hb dL_940 (by decide) ?_
  refine lv_iadd hx hb dL_941 ?_
  refine va_sld hx hb hX hbl hbA hB.2.2.2.2.2 (ix_in j1) dL_942 ?_
  obtain ⟨k6, hf⟩ := gk_ok hf
  obtain ⟨r9, g7, m8, hf⟩ := b2_ok hf
  refine hp_cI0 (cl_SpokenMenusLaw_95 cx hB (cX11_sum l D cA t2 (xs (Int32.toNatClampNeg (v3 + 1))) g3 _ g7 m8) k6 ⟨Nat.le_of_ble_eq_true rfl, Nat.le_of_ble_eq_true rfl⟩ rfl hl.1 rfl (Nat.le_of_ble_eq_true rfl) ⟨Nat.le_trans (Nat.add_le_add_left (Nat.le_of_ble_eq_true rfl) _) hcb, Nat.le_trans (Nat.add_le_add_left (Nat.le_of_ble_eq_true rfl) _) hsb⟩ dL_943) rfl rfl hB (fun H locs hB => ?_)
  obtain ⟨c10, hf⟩ := gd_ok hf
  refine lv_icmp_eq (tgt := 1172) hx hb dL_946 (by decide) (fun ce => ?_) (fun ce => absurd (of_decide_eq_true c10) ce)
  obtain ⟨x9, ex9, hf⟩ := nm_ok hf
  refine lv_iinc (v := x9) (lv' := [(3, .int x9), (0, .ref b), (1, .ref t1), (2, .ref t2)]) hx hb dL_1172 hl (k := 3) rfl (by rw [ex9]; rfl) (by decide) rfl (fun ls hl => ?_)
  refine lv_goto (tgt := 18) hx hb dL_1175 (by decide) ?_
  refine W.widen (k := cells + 4) (n := slots + 64) (Nat.le_add_right _ _) (Nat.le_add_right _ _) ?_
  exact hr x9 g7 _ _ _ hB (lv_sub hl [1, 2, 3, 0] rfl) hf
set_option maxHeartbeats 4000000 in
set_option maxRecDepth 100000 in
theorem tL_19 {rc : Nat → Nat → Int32 → Hp → Option Unit} {cells slots : Nat} (cx : CallFix p m c code 4 s #[Value.ref b] tbG "SpokenMenusLaw") (hX : va_X b L xs s s.heap) (hbl : b < s.heap.size) (hcb : cells + 4 ≤ 600000) (hsb : slots + 64 ≤ 7302250) {t1 t2 : Nat} (hr : ∀ (v3 : Int32) (h : Hp) (H : Heap) (locs : List Loc) (ls : Array Slot), hp_B D cA (fun q : Nat => s.heap.size ≤ q) s h H locs → lv_has ls 4 [(0, .ref b), (1, .ref t1), (2, .ref t2), (3, .int v3)] → rc t1 t2 v3 h = some () → W p l e room_1 s m #[Value.ref b] below meth c H locs (cells + 4) (slots + 64) (lw_Z below #[Value.ref b] s) (F0 m 18 ls [])) (v3 : Int32) (h : Hp) (H : Heap) (locs : List Loc) (ls : Array Slot) (hB : hp_B D cA (fun q : Nat => s.heap.size ≤ q) s h H locs) (hl : lv_has ls 4 [(0, .ref b), (1, .ref t1), (2, .ref t2), (3, .int v3)]) (hf : lc_19 xs L rc t1 t2 v3 h = some ()) : W p l e room_1 s m #[Value.ref b] below meth c H locs cells slots (lw_Z below #[Value.ref b] s) (F0 m 951 ls []) := by
  obtain ⟨hx, hb, -⟩ := id cx
  have hbA : ¬ (fun q : Nat => s.heap.size ≤ q) b := Nat.not_le.mpr hbl
  unfold lc_19 at hf
  refine lv_aload_n hx hb dL_951 rfl (lv_at hl 1 rfl) ?_
  refine lv_aload_n hx hb dL_952 rfl (lv_at hl 0 rfl) ?_
  refine lv_iload_n hx hb dL_953 rfl (lv_at hl 3 rfl) ?_
  refine lv_iconst (v := 1) hx hb dL_954 (by decide) ?_
  refine lv_iadd hx hb dL_955 ?_
  obtain ⟨j1, hf⟩ := gd_ok hf
  refine va_sld hx hb hX hbl hbA hB.2.2.2.2.2 (ix_in j1) dL_956 ?_
  obtain ⟨k2, hf⟩ := gk_ok hf
  obtain ⟨r5, g3, m4, hf⟩ := b2_ok hf
  refine hp_cI0 (cl_SpokenMenusLaw_96 cx hB (cX10_hung l D cA t1 (xs (Int32.toNatClampNeg (v3 + 1))) h _ g3 m4) k2 ⟨Nat.le_of_ble_eq_true rfl, Nat.le_of_ble_eq_true rfl⟩ rfl hl.1 rfl (Nat.le_of_ble_eq_true rfl) ⟨Nat.le_trans (Nat.add_le_add_left (Nat.le_of_ble_eq_true rfl) _) hcb, Nat.le_trans (Nat.add_le_add_left (Nat.le_of_ble_eq_true rfl) _) hsb⟩ dL_957) rfl rfl hB (fun H locs hB => ?_)
  refine lv_aload_n hx hb dL_960 rfl (lv_at hl 2 rfl) ?_
  refine lv_aload_n hx hb dL_961 rfl (lv_at hl 0 rfl) ?_
  refine lv_iload_n hx hb dL_962 rfl (lv_at hl 3 rfl) ?_
  refine lv_iconst (v := 1) hx hb dL_963 (by decide) ?_
  refine lv_iadd hx hb dL_964 ?_
  refine va_sld hx hb hX hbl hbA hB.2.2.2.2.2 (ix_in j1) dL_965 ?_
  obtain ⟨k6, hf⟩ := gk_ok hf
  obtain ⟨r9, g7, m8, hf⟩ := b2_ok hf
  refine hp_cI0 (cl_SpokenMenusLaw_99 cx hB (cX11_hung l D cA t2 (xs (Int32.toNatClampNeg (v3 + 1))) g3 _ g7 m8) k6 ⟨Nat.le_of_ble_eq_true rfl, Nat.le_of_ble_eq_true rfl⟩ rfl hl.1 rfl (Nat.le_of_ble_eq_true rfl) ⟨Nat.le_trans (Nat.add_le_add_left (Nat.le_of_ble_eq_true rfl) _) hcb, Nat.le_trans (Nat.add_le_add_left (Nat.le_of_ble_eq_true rfl) _) hsb⟩ dL_966) rfl rfl hB (fun H locs hB => ?_)
  obtain ⟨c10, hf⟩ := gd_ok hf
  refine lv_icmp_eq (tgt := 1172) hx hb dL_969 (by decide) (fun ce => ?_) (fun ce => absurd (of_decide_eq_true c10) ce)
  obtain ⟨x9, ex9, hf⟩ := nm_ok hf
  refine lv_iinc (v := x9) (lv' := [(3, .int x9), (0, .ref b), (1, .ref t1), (2, .ref t2)]) hx hb dL_1172 hl (k := 3) rfl (by rw [ex9]; rfl) (by decide) rfl (fun ls hl => ?_)
  refine lv_goto (tgt := 18) hx hb dL_1175 (by decide) ?_
  refine W.widen (k := cells + 4) (n := slots + 64) (Nat.le_add_right _ _) (Nat.le_add_right _ _) ?_
  exact hr x9 g7 _ _ _ hB (lv_sub hl [1, 2, 3, 0] rfl) hf
set_option maxHeartbeats 4000000 in
set_option maxRecDepth 100000 in
theorem tL_20 {rc : Nat → Nat → Int32 → Hp → Option Unit} {cells slots : Nat} (cx : CallFix p m c code 4 s #[Value.ref b] tbG "SpokenMenusLaw") (hX : va_X b L xs s s.heap) (hbl : b < s.heap.size) (hcb : cells + 4 ≤ 600000) (hsb : slots + 64 ≤ 7302250) {t1 t2 : Nat} (hr : ∀ (v3 : Int32) (h : Hp) (H : Heap) (locs : List Loc) (ls : Array Slot), hp_B D cA (fun q : Nat => s.heap.size ≤ q) s h H locs → lv_has ls 4 [(0, .ref b), (1, .ref t1), (2, .ref t2), (3, .int v3)] → rc t1 t2 v3 h = some () → W p l e room_1 s m #[Value.ref b] below meth c H locs (cells + 4) (slots + 64) (lw_Z below #[Value.ref b] s) (F0 m 18 ls [])) (v3 : Int32) (h : Hp) (H : Heap) (locs : List Loc) (ls : Array Slot) (hB : hp_B D cA (fun q : Nat => s.heap.size ≤ q) s h H locs) (hl : lv_has ls 4 [(0, .ref b), (1, .ref t1), (2, .ref t2), (3, .int v3)]) (hf : lc_20 xs L rc t1 t2 v3 h = some ()) : W p l e room_1 s m #[Value.ref b] below meth c H locs cells slots (lw_Z below #[Value.ref b] s) (F0 m 974 ls []) := by
  obtain ⟨hx, hb, -⟩ := id cx
  have hbA : ¬ (fun q : Nat => s.heap.size ≤ q) b := Nat.not_le.mpr hbl
  unfold lc_20 at hf
  refine lv_aload_n hx hb dL_974 rfl (lv_at hl 1 rfl) ?_
  refine lv_aload_n hx hb dL_975 rfl (lv_at hl 0 rfl) ?_
  refine lv_iload_n hx hb dL_976 rfl (lv_at hl 3 rfl) ?_
  refine lv_iconst (v := 1) hx hb dL_977 (by decide) ?_
  refine lv_iadd hx hb dL_978 ?_
  obtain ⟨j1, hf⟩ := gd_ok hf
  refine va_sld hx hb hX hbl hbA hB.2.2.2.2.2 (ix_in j1) dL_979 ?_
  refine lv_aload_n hx hb dL_980 rfl (lv_at hl 0 rfl) ?_
  refine lv_iload_n hx hb dL_981 rfl (lv_at hl 3 rfl) ?_
  refine lv_iconst (v := 2) hx hb dL_982 (by decide) ?_
  refine lv_iadd hx hb dL_983 ?_
  obtain ⟨j2, hf⟩ := gd_ok hf
  refine va_sld hx hb hX hbl hbA hB.2.2.2.2.2 (ix_in j2) dL_984 ?_
  obtain ⟨k3, hf⟩ := gk_ok hf
  obtain ⟨r6, g4, m5, hf⟩ := b2_ok hf
  refine hp_cI0 (cl_SpokenMenusLaw_100 cx hB (cX10_order l D cA t1 (xs (Int32.toNatClampNeg (v3 + 1))) (xs (Int32.toNatClampNeg (v3 + 2))) h _ g4 m5) k3 ⟨Nat.le_of_ble_eq_true rfl, Nat.le_of_ble_eq_true rfl⟩ rfl hl.1 rfl (Nat.le_of_ble_eq_true rfl) ⟨Nat.le_trans (Nat.add_le_add_left (Nat.le_of_ble_eq_true rfl) _) hcb, Nat.le_trans (Nat.add_le_add_left (Nat.le_of_ble_eq_true rfl) _) hsb⟩ dL_985) rfl rfl hB (fun H locs hB => ?_)
  refine lv_aload_n hx hb dL_988 rfl (lv_at hl 2 rfl) ?_
  refine lv_aload_n hx hb dL_989 rfl (lv_at hl 0 rfl) ?_
  refine lv_iload_n hx hb dL_990 rfl (lv_at hl 3 rfl) ?_
  refine lv_iconst (v := 1) hx hb dL_991 (by decide) ?_
  refine lv_iadd hx hb dL_992 ?_
  refine va_sld hx hb hX hbl hbA hB.2.2.2.2.2 (ix_in j1) dL_993 ?_
  refine lv_aload_n hx hb dL_994 rfl (lv_at hl 0 rfl) ?_
  refine lv_iload_n hx hb dL_995 rfl (lv_at hl 3 rfl) ?_
  refine lv_iconst (v := 2) hx hb dL_996 (by decide) ?_
  refine lv_iadd hx hb dL_997 ?_
  refine va_sld hx hb hX hbl hbA hB.2.2.2.2.2 (ix_in j2) dL_998 ?_
  obtain ⟨k7, hf⟩ := gk_ok hf
  obtain ⟨r10, g8, m9, hf⟩ := b2_ok hf
  refine hp_cI0 (cl_SpokenMenusLaw_103 cx hB (cX11_order l D cA t2 (xs (Int32.toNatClampNeg (v3 + 1))) (xs (Int32.toNatClampNeg (v3 + 2))) g4 _ g8 m9) k7 ⟨Nat.le_of_ble_eq_true rfl, Nat.le_of_ble_eq_true rfl⟩ rfl hl.1 rfl (Nat.le_of_ble_eq_true rfl) ⟨Nat.le_trans (Nat.add_le_add_left (Nat.le_of_ble_eq_true rfl) _) hcb, Nat.le_trans (Nat.add_le_add_left (Nat.le_of_ble_eq_true rfl) _) hsb⟩ dL_999) rfl rfl hB (fun H locs hB => ?_)
  obtain ⟨c11, hf⟩ := gd_ok hf
  refine lv_icmp_eq (tgt := 1172) hx hb dL_1002 (by decide) (fun ce => ?_) (fun ce => absurd (of_decide_eq_true c11) ce)
  obtain ⟨x9, ex9, hf⟩ := nm_ok hf
  refine lv_iinc (v := x9) (lv' := [(3, .int x9), (0, .ref b), (1, .ref t1), (2, .ref t2)]) hx hb dL_1172 hl (k := 3) rfl (by rw [ex9]; rfl) (by decide) rfl (fun ls hl => ?_)
  refine lv_goto (tgt := 18) hx hb dL_1175 (by decide) ?_
  refine W.widen (k := cells + 4) (n := slots + 64) (Nat.le_add_right _ _) (Nat.le_add_right _ _) ?_
  exact hr x9 g8 _ _ _ hB (lv_sub hl [1, 2, 3, 0] rfl) hf
set_option maxHeartbeats 4000000 in
set_option maxRecDepth 100000 in
theorem tL_21 {rc : Nat → Nat → Int32 → Hp → Option Unit} {cells slots : Nat} (cx : CallFix p m c code 4 s #[Value.ref b] tbG "SpokenMenusLaw") (hX : va_X b L xs s s.heap) (hbl : b < s.heap.size) (hcb : cells + 4 ≤ 600000) (hsb : slots + 64 ≤ 7302250) {t1 t2 : Nat} (hr : ∀ (v3 : Int32) (h : Hp) (H : Heap) (locs : List Loc) (ls : Array Slot), hp_B D cA (fun q : Nat => s.heap.size ≤ q) s h H locs → lv_has ls 4 [(0, .ref b), (1, .ref t1), (2, .ref t2), (3, .int v3)] → rc t1 t2 v3 h = some () → W p l e room_1 s m #[Value.ref b] below meth c H locs (cells + 4) (slots + 64) (lw_Z below #[Value.ref b] s) (F0 m 18 ls [])) (v3 : Int32) (h : Hp) (H : Heap) (locs : List Loc) (ls : Array Slot) (hB : hp_B D cA (fun q : Nat => s.heap.size ≤ q) s h H locs) (hl : lv_has ls 4 [(0, .ref b), (1, .ref t1), (2, .ref t2), (3, .int v3)]) (hf : lc_21 xs L rc t1 t2 v3 h = some ()) : W p l e room_1 s m #[Value.ref b] below meth c H locs cells slots (lw_Z below #[Value.ref b] s) (F0 m 1007 ls []) := by
  obtain ⟨hx, hb, -⟩ := id cx
  have hbA : ¬ (fun q : Nat => s.heap.size ≤ q) b := Nat.not_le.mpr hbl
  unfold lc_21 at hf
  refine lv_aload_n hx hb dL_1007 rfl (lv_at hl 1 rfl) ?_
  refine lv_aload_n hx hb dL_1008 rfl (lv_at hl 0 rfl) ?_
  refine lv_iload_n hx hb dL_1009 rfl (lv_at hl 3 rfl) ?_
  refine lv_iconst (v := 1) hx hb dL_1010 (by decide) ?_
  refine lv_iadd hx hb dL_1011 ?_
  obtain ⟨j1, hf⟩ := gd_ok hf
  refine va_sld hx hb hX hbl hbA hB.2.2.2.2.2 (ix_in j1) dL_1012 ?_
  obtain ⟨k2, hf⟩ := gk_ok hf
  obtain ⟨r5, g3, m4, hf⟩ := b2_ok hf
  refine hp_cI0 (cl_SpokenMenusLaw_104 cx hB (cX10_arrange l D cA t1 (xs (Int32.toNatClampNeg (v3 + 1))) h _ g3 m4) k2 ⟨Nat.le_of_ble_eq_true rfl, Nat.le_of_ble_eq_true rfl⟩ rfl hl.1 rfl (Nat.le_of_ble_eq_true rfl) ⟨Nat.le_trans (Nat.add_le_add_left (Nat.le_of_ble_eq_true rfl) _) hcb, Nat.le_trans (Nat.add_le_add_left (Nat.le_of_ble_eq_true rfl) _) hsb⟩ dL_1013) rfl rfl hB (fun H locs hB => ?_)
  refine lv_aload_n hx hb dL_1016 rfl (lv_at hl 2 rfl) ?_
  refine lv_aload_n hx hb dL_1017 rfl (lv_at hl 0 rfl) ?_
  refine lv_iload_n hx hb dL_1018 rfl (lv_at hl 3 rfl) ?_
  refine lv_iconst (v := 1) hx hb dL_1019 (by decide) ?_
  refine lv_iadd hx hb dL_1020 ?_
  refine va_sld hx hb hX hbl hbA hB.2.2.2.2.2 (ix_in j1) dL_1021 ?_
  obtain ⟨k6, hf⟩ := gk_ok hf
  obtain ⟨r9, g7, m8, hf⟩ := b2_ok hf
  refine hp_cI0 (cl_SpokenMenusLaw_107 cx hB (cX11_arrange l D cA t2 (xs (Int32.toNatClampNeg (v3 + 1))) g3 _ g7 m8) k6 ⟨Nat.le_of_ble_eq_true rfl, Nat.le_of_ble_eq_true rfl⟩ rfl hl.1 rfl (Nat.le_of_ble_eq_true rfl) ⟨Nat.le_trans (Nat.add_le_add_left (Nat.le_of_ble_eq_true rfl) _) hcb, Nat.le_trans (Nat.add_le_add_left (Nat.le_of_ble_eq_true rfl) _) hsb⟩ dL_1022) rfl rfl hB (fun H locs hB => ?_)
  obtain ⟨c10, hf⟩ := gd_ok hf
  refine lv_icmp_eq (tgt := 1172) hx hb dL_1025 (by decide) (fun ce => ?_) (fun ce => absurd (of_decide_eq_true c10) ce)
  obtain ⟨x9, ex9, hf⟩ := nm_ok hf
  refine lv_iinc (v := x9) (lv' := [(3, .int x9), (0, .ref b), (1, .ref t1), (2, .ref t2)]) hx hb dL_1172 hl (k := 3) rfl (by rw [ex9]; rfl) (by decide) rfl (fun ls hl => ?_)
  refine lv_goto (tgt := 18) hx hb dL_1175 (by decide) ?_
  refine W.widen (k := cells + 4) (n := slots + 64) (Nat.le_add_right _ _) (Nat.le_add_right _ _) ?_
  exact hr x9 g7 _ _ _ hB (lv_sub hl [1, 2, 3, 0] rfl) hf
set_option maxHeartbeats 4000000 in
set_option maxRecDepth 100000 in
theorem tL_22 {rc : Nat → Nat → Int32 → Hp → Option Unit} {cells slots : Nat} (cx : CallFix p m c code 4 s #[Value.ref b] tbG "SpokenMenusLaw") (hX : va_X b L xs s s.heap) (hbl : b < s.heap.size) (hcb : cells + 4 ≤ 600000) (hsb : slots + 64 ≤ 7302250) {t1 t2 : Nat} (hr : ∀ (v3 : Int32) (h : Hp) (H : Heap) (locs : List Loc) (ls : Array Slot), hp_B D cA (fun q : Nat => s.heap.size ≤ q) s h H locs → lv_has ls 4 [(0, .ref b), (1, .ref t1), (2, .ref t2), (3, .int v3)] → rc t1 t2 v3 h = some () → W p l e room_1 s m #[Value.ref b] below meth c H locs (cells + 4) (slots + 64) (lw_Z below #[Value.ref b] s) (F0 m 18 ls [])) (v3 : Int32) (h : Hp) (H : Heap) (locs : List Loc) (ls : Array Slot) (hB : hp_B D cA (fun q : Nat => s.heap.size ≤ q) s h H locs) (hl : lv_has ls 4 [(0, .ref b), (1, .ref t1), (2, .ref t2), (3, .int v3)]) (hf : lc_22 xs L rc t1 t2 v3 h = some ()) : W p l e room_1 s m #[Value.ref b] below meth c H locs cells slots (lw_Z below #[Value.ref b] s) (F0 m 1030 ls []) := by
  obtain ⟨hx, hb, -⟩ := id cx
  have hbA : ¬ (fun q : Nat => s.heap.size ≤ q) b := Nat.not_le.mpr hbl
  unfold lc_22 at hf
  refine lv_aload_n hx hb dL_1030 rfl (lv_at hl 1 rfl) ?_
  refine lv_aload_n hx hb dL_1031 rfl (lv_at hl 0 rfl) ?_
  refine lv_iload_n hx hb dL_1032 rfl (lv_at hl 3 rfl) ?_
  refine lv_iconst (v := 1) hx hb dL_1033 (by decide) ?_
  refine lv_iadd hx hb dL_1034 ?_
  obtain ⟨j1, hf⟩ := gd_ok hf
  refine va_sld hx hb hX hbl hbA hB.2.2.2.2.2 (ix_in j1) dL_1035 ?_
  refine lv_aload_n hx hb dL_1036 rfl (lv_at hl 0 rfl) ?_
  refine lv_iload_n hx hb dL_1037 rfl (lv_at hl 3 rfl) ?_
  refine lv_iconst (v := 2) hx hb dL_1038 (by decide) ?_
  refine lv_iadd hx hb dL_1039 ?_
  obtain ⟨j2, hf⟩ := gd_ok hf
  refine va_sld hx hb hX hbl hbA hB.2.2.2.2.2 (ix_in j2) dL_1040 ?_
  refine lv_aload_n hx hb dL_1041 rfl (lv_at hl 0 rfl) ?_
  refine lv_iload_n hx hb dL_1042 rfl (lv_at hl 3 rfl) ?_
  refine lv_iconst (v := 3) hx hb dL_1043 (by decide) ?_
  refine lv_iadd hx hb dL_1044 ?_
  obtain ⟨j3, hf⟩ := gd_ok hf
  refine va_sld hx hb hX hbl hbA hB.2.2.2.2.2 (ix_in j3) dL_1045 ?_
  obtain ⟨k4, hf⟩ := gk_ok hf
  obtain ⟨r7, g5, m6, hf⟩ := b2_ok hf
  refine hp_cI0 (cl_SpokenMenusLaw_108 cx hB (cX10_wish l D cA t1 (xs (Int32.toNatClampNeg (v3 + 1))) (xs (Int32.toNatClampNeg (v3 + 2))) (xs (Int32.toNatClampNeg (v3 + 3))) h _ g5 m6) k4 ⟨Nat.le_of_ble_eq_true rfl, Nat.le_of_ble_eq_true rfl⟩ rfl hl.1 rfl (Nat.le_of_ble_eq_true rfl) ⟨Nat.le_trans (Nat.add_le_add_left (Nat.le_of_ble_eq_true rfl) _) hcb, Nat.le_trans (Nat.add_le_add_left (Nat.le_of_ble_eq_true rfl) _) hsb⟩ dL_1046) rfl rfl hB (fun H locs hB => ?_)
  refine lv_aload_n hx hb dL_1049 rfl (lv_at hl 2 rfl) ?_
  refine lv_aload_n hx hb dL_1050 rfl (lv_at hl 0 rfl) ?_
  refine lv_iload_n hx hb dL_1051 rfl (lv_at hl 3 rfl) ?_
  refine lv_iconst (v := 1) hx hb dL_1052 (by decide) ?_
  refine lv_iadd hx hb dL_1053 ?_
  refine va_sld hx hb hX hbl hbA hB.2.2.2.2.2 (ix_in j1) dL_1054 ?_
  refine lv_aload_n hx hb dL_1055 rfl (lv_at hl 0 rfl) ?_
  refine lv_iload_n hx hb dL_1056 rfl (lv_at hl 3 rfl) ?_
  refine lv_iconst (v := 2) hx hb dL_1057 (by decide) ?_
  refine lv_iadd hx hb dL_1058 ?_
  refine va_sld hx hb hX hbl hbA hB.2.2.2.2.2 (ix_in j2) dL_1059 ?_
  refine lv_aload_n hx hb dL_1060 rfl (lv_at hl 0 rfl) ?_
  refine lv_iload_n hx hb dL_1061 rfl (lv_at hl 3 rfl) ?_
  refine lv_iconst (v := 3) hx hb dL_1062 (by decide) ?_
  refine lv_iadd hx hb dL_1063 ?_
  refine va_sld hx hb hX hbl hbA hB.2.2.2.2.2 (ix_in j3) dL_1064 ?_
  obtain ⟨k8, hf⟩ := gk_ok hf
  obtain ⟨r11, g9, m10, hf⟩ := b2_ok hf
  refine hp_cI0 (cl_SpokenMenusLaw_111 cx hB (cX11_wish l D cA t2 (xs (Int32.toNatClampNeg (v3 + 1))) (xs (Int32.toNatClampNeg (v3 + 2))) (xs (Int32.toNatClampNeg (v3 + 3))) g5 _ g9 m10) k8 ⟨Nat.le_of_ble_eq_true rfl, Nat.le_of_ble_eq_true rfl⟩ rfl hl.1 rfl (Nat.le_of_ble_eq_true rfl) ⟨Nat.le_trans (Nat.add_le_add_left (Nat.le_of_ble_eq_true rfl) _) hcb, Nat.le_trans (Nat.add_le_add_left (Nat.le_of_ble_eq_true rfl) _) hsb⟩ dL_1065) rfl rfl hB (fun H locs hB => ?_)
  obtain ⟨c12, hf⟩ := gd_ok hf
  refine lv_icmp_eq (tgt := 1172) hx hb dL_1068 (by decide) (fun ce => ?_) (fun ce => absurd (of_decide_eq_true c12) ce)
  obtain ⟨x9, ex9, hf⟩ := nm_ok hf
  refine lv_iinc (v := x9) (lv' := [(3, .int x9), (0, .ref b), (1, .ref t1), (2, .ref t2)]) hx hb dL_1172 hl (k := 3) rfl (by rw [ex9]; rfl) (by decide) rfl (fun ls hl => ?_)
  refine lv_goto (tgt := 18) hx hb dL_1175 (by decide) ?_
  refine W.widen (k := cells + 4) (n := slots + 64) (Nat.le_add_right _ _) (Nat.le_add_right _ _) ?_
  exact hr x9 g9 _ _ _ hB (lv_sub hl [1, 2, 3, 0] rfl) hf
set_option maxHeartbeats 4000000 in
set_option maxRecDepth 100000 in
theorem tL_23 {rc : Nat → Nat → Int32 → Hp → Option Unit} {cells slots : Nat} (cx : CallFix p m c code 4 s #[Value.ref b] tbG "SpokenMenusLaw") (hX : va_X b L xs s s.heap) (hbl : b < s.heap.size) (hcb : cells + 4 ≤ 600000) (hsb : slots + 64 ≤ 7302250) {t1 t2 : Nat} (hr : ∀ (v3 : Int32) (h : Hp) (H : Heap) (locs : List Loc) (ls : Array Slot), hp_B D cA (fun q : Nat => s.heap.size ≤ q) s h H locs → lv_has ls 4 [(0, .ref b), (1, .ref t1), (2, .ref t2), (3, .int v3)] → rc t1 t2 v3 h = some () → W p l e room_1 s m #[Value.ref b] below meth c H locs (cells + 4) (slots + 64) (lw_Z below #[Value.ref b] s) (F0 m 18 ls [])) (v3 : Int32) (h : Hp) (H : Heap) (locs : List Loc) (ls : Array Slot) (hB : hp_B D cA (fun q : Nat => s.heap.size ≤ q) s h H locs) (hl : lv_has ls 4 [(0, .ref b), (1, .ref t1), (2, .ref t2), (3, .int v3)]) (hf : lc_23 xs L rc t1 t2 v3 h = some ()) : W p l e room_1 s m #[Value.ref b] below meth c H locs cells slots (lw_Z below #[Value.ref b] s) (F0 m 1073 ls []) := by
  obtain ⟨hx, hb, -⟩ := id cx
  have hbA : ¬ (fun q : Nat => s.heap.size ≤ q) b := Nat.not_le.mpr hbl
  unfold lc_23 at hf
  refine lv_aload_n hx hb dL_1073 rfl (lv_at hl 1 rfl) ?_
  refine lv_aload_n hx hb dL_1074 rfl (lv_at hl 0 rfl) ?_
  refine lv_iload_n hx hb dL_1075 rfl (lv_at hl 3 rfl) ?_
  refine lv_iconst (v := 1) hx hb dL_1076 (by decide) ?_
  refine lv_iadd hx hb dL_1077 ?_
  obtain ⟨j1, hf⟩ := gd_ok hf
  refine va_sld hx hb hX hbl hbA hB.2.2.2.2.2 (ix_in j1) dL_1078 ?_
  refine lv_aload_n hx hb dL_1079 rfl (lv_at hl 0 rfl) ?_
  refine lv_iload_n hx hb dL_1080 rfl (lv_at hl 3 rfl) ?_
  refine lv_iconst (v := 2) hx hb dL_1081 (by decide) ?_
  refine lv_iadd hx hb dL_1082 ?_
  obtain ⟨j2, hf⟩ := gd_ok hf
  refine va_sld hx hb hX hbl hbA hB.2.2.2.2.2 (ix_in j2) dL_1083 ?_
  refine lv_aload_n hx hb dL_1084 rfl (lv_at hl 0 rfl) ?_
  refine lv_iload_n hx hb dL_1085 rfl (lv_at hl 3 rfl) ?_
  refine lv_iconst (v := 3) hx hb dL_1086 (by decide) ?_
  refine lv_iadd hx hb dL_1087 ?_
  obtain ⟨j3, hf⟩ := gd_ok hf
  refine va_sld hx hb hX hbl hbA hB.2.2.2.2.2 (ix_in j3) dL_1088 ?_
  obtain ⟨k4, hf⟩ := gk_ok hf
  obtain ⟨r7, g5, m6, hf⟩ := b2_ok hf
  refine hp_cI0 (cl_SpokenMenusLaw_112 cx hB (cX10_plan l D cA t1 (xs (Int32.toNatClampNeg (v3 + 1))) (xs (Int32.toNatClampNeg (v3 + 2))) (xs (Int32.toNatClampNeg (v3 + 3))) h _ g5 m6) k4 ⟨Nat.le_of_ble_eq_true rfl, Nat.le_of_ble_eq_true rfl⟩ rfl hl.1 rfl (Nat.le_of_ble_eq_true rfl) ⟨Nat.le_trans (Nat.add_le_add_left (Nat.le_of_ble_eq_true rfl) _) hcb, Nat.le_trans (Nat.add_le_add_left (Nat.le_of_ble_eq_true rfl) _) hsb⟩ dL_1089) rfl rfl hB (fun H locs hB => ?_)
  refine lv_aload_n hx hb dL_1092 rfl (lv_at hl 2 rfl) ?_
  refine lv_aload_n hx hb dL_1093 rfl (lv_at hl 0 rfl) ?_
  refine lv_iload_n hx hb dL_1094 rfl (lv_at hl 3 rfl) ?_
  refine lv_iconst (v := 1) hx hb dL_1095 (by decide) ?_
  refine lv_iadd hx hb dL_1096 ?_
  refine va_sld hx hb hX hbl hbA hB.2.2.2.2.2 (ix_in j1) dL_1097 ?_
  refine lv_aload_n hx hb dL_1098 rfl (lv_at hl 0 rfl) ?_
  refine lv_iload_n hx hb dL_1099 rfl (lv_at hl 3 rfl) ?_
  refine lv_iconst (v := 2) hx hb dL_1100 (by decide) ?_
  refine lv_iadd hx hb dL_1101 ?_
  refine va_sld hx hb hX hbl hbA hB.2.2.2.2.2 (ix_in j2) dL_1102 ?_
  refine lv_aload_n hx hb dL_1103 rfl (lv_at hl 0 rfl) ?_
  refine lv_iload_n hx hb dL_1104 rfl (lv_at hl 3 rfl) ?_
  refine lv_iconst (v := 3) hx hb dL_1105 (by decide) ?_
  refine lv_iadd hx hb dL_1106 ?_
  refine va_sld hx hb hX hbl hbA hB.2.2.2.2.2 (ix_in j3) dL_1107 ?_
  obtain ⟨k8, hf⟩ := gk_ok hf
  obtain ⟨r11, g9, m10, hf⟩ := b2_ok hf
  refine hp_cI0 (cl_SpokenMenusLaw_115 cx hB (cX11_plan l D cA t2 (xs (Int32.toNatClampNeg (v3 + 1))) (xs (Int32.toNatClampNeg (v3 + 2))) (xs (Int32.toNatClampNeg (v3 + 3))) g5 _ g9 m10) k8 ⟨Nat.le_of_ble_eq_true rfl, Nat.le_of_ble_eq_true rfl⟩ rfl hl.1 rfl (Nat.le_of_ble_eq_true rfl) ⟨Nat.le_trans (Nat.add_le_add_left (Nat.le_of_ble_eq_true rfl) _) hcb, Nat.le_trans (Nat.add_le_add_left (Nat.le_of_ble_eq_true rfl) _) hsb⟩ dL_1108) rfl rfl hB (fun H locs hB => ?_)
  obtain ⟨c12, hf⟩ := gd_ok hf
  refine lv_icmp_eq (tgt := 1172) hx hb dL_1111 (by decide) (fun ce => ?_) (fun ce => absurd (of_decide_eq_true c12) ce)
  obtain ⟨x9, ex9, hf⟩ := nm_ok hf
  refine lv_iinc (v := x9) (lv' := [(3, .int x9), (0, .ref b), (1, .ref t1), (2, .ref t2)]) hx hb dL_1172 hl (k := 3) rfl (by rw [ex9]; rfl) (by decide) rfl (fun ls hl => ?_)
  refine lv_goto (tgt := 18) hx hb dL_1175 (by decide) ?_
  refine W.widen (k := cells + 4) (n := slots + 64) (Nat.le_add_right _ _) (Nat.le_add_right _ _) ?_
  exact hr x9 g9 _ _ _ hB (lv_sub hl [1, 2, 3, 0] rfl) hf
set_option maxHeartbeats 4000000 in
set_option maxRecDepth 100000 in
theorem tL_24 {rc : Nat → Nat → Int32 → Hp → Option Unit} {cells slots : Nat} (cx : CallFix p m c code 4 s #[Value.ref b] tbG "SpokenMenusLaw") (hX : va_X b L xs s s.heap) (hbl : b < s.heap.size) (hcb : cells + 4 ≤ 600000) (hsb : slots + 64 ≤ 7302250) {t1 t2 : Nat} (hr : ∀ (v3 : Int32) (h : Hp) (H : Heap) (locs : List Loc) (ls : Array Slot), hp_B D cA (fun q : Nat => s.heap.size ≤ q) s h H locs → lv_has ls 4 [(0, .ref b), (1, .ref t1), (2, .ref t2), (3, .int v3)] → rc t1 t2 v3 h = some () → W p l e room_1 s m #[Value.ref b] below meth c H locs (cells + 4) (slots + 64) (lw_Z below #[Value.ref b] s) (F0 m 18 ls [])) (v3 : Int32) (h : Hp) (H : Heap) (locs : List Loc) (ls : Array Slot) (hB : hp_B D cA (fun q : Nat => s.heap.size ≤ q) s h H locs) (hl : lv_has ls 4 [(0, .ref b), (1, .ref t1), (2, .ref t2), (3, .int v3)]) (hf : lc_24 xs L rc t1 t2 v3 h = some ()) : W p l e room_1 s m #[Value.ref b] below meth c H locs cells slots (lw_Z below #[Value.ref b] s) (F0 m 1116 ls []) := by
  obtain ⟨hx, hb, -⟩ := id cx
  have hbA : ¬ (fun q : Nat => s.heap.size ≤ q) b := Nat.not_le.mpr hbl
  unfold lc_24 at hf
  refine lv_aload_n hx hb dL_1116 rfl (lv_at hl 1 rfl) ?_
  refine lv_aload_n hx hb dL_1117 rfl (lv_at hl 0 rfl) ?_
  refine lv_iload_n hx hb dL_1118 rfl (lv_at hl 3 rfl) ?_
  refine lv_iconst (v := 1) hx hb dL_1119 (by decide) ?_
  refine lv_iadd hx hb dL_1120 ?_
  obtain ⟨j1, hf⟩ := gd_ok hf
  refine va_sld hx hb hX hbl hbA hB.2.2.2.2.2 (ix_in j1) dL_1121 ?_
  refine lv_aload_n hx hb dL_1122 rfl (lv_at hl 0 rfl) ?_
  refine lv_iload_n hx hb dL_1123 rfl (lv_at hl 3 rfl) ?_
  refine lv_iconst (v := 2) hx hb dL_1124 (by decide) ?_
  refine lv_iadd hx hb dL_1125 ?_
  obtain ⟨j2, hf⟩ := gd_ok hf
  refine va_sld hx hb hX hbl hbA hB.2.2.2.2.2 (ix_in j2) dL_1126 ?_
  obtain ⟨k3, hf⟩ := gk_ok hf
  obtain ⟨r6, g4, m5, hf⟩ := b2_ok hf
  refine hp_cI0 (cl_SpokenMenusLaw_116 cx hB (cX10_planned l D cA t1 (xs (Int32.toNatClampNeg (v3 + 1))) (xs (Int32.toNatClampNeg (v3 + 2))) h _ g4 m5) k3 ⟨Nat.le_of_ble_eq_true rfl, Nat.le_of_ble_eq_true rfl⟩ rfl hl.1 rfl (Nat.le_of_ble_eq_true rfl) ⟨Nat.le_trans (Nat.add_le_add_left (Nat.le_of_ble_eq_true rfl) _) hcb, Nat.le_trans (Nat.add_le_add_left (Nat.le_of_ble_eq_true rfl) _) hsb⟩ dL_1127) rfl rfl hB (fun H locs hB => ?_)
  refine lv_aload_n hx hb dL_1130 rfl (lv_at hl 2 rfl) ?_
  refine lv_aload_n hx hb dL_1131 rfl (lv_at hl 0 rfl) ?_
  refine lv_iload_n hx hb dL_1132 rfl (lv_at hl 3 rfl) ?_
  refine lv_iconst (v := 1) hx hb dL_1133 (by decide) ?_
  refine lv_iadd hx hb dL_1134 ?_
  refine va_sld hx hb hX hbl hbA hB.2.2.2.2.2 (ix_in j1) dL_1135 ?_
  refine lv_aload_n hx hb dL_1136 rfl (lv_at hl 0 rfl) ?_
  refine lv_iload_n hx hb dL_1137 rfl (lv_at hl 3 rfl) ?_
  refine lv_iconst (v := 2) hx hb dL_1138 (by decide) ?_
  refine lv_iadd hx hb dL_1139 ?_
  refine va_sld hx hb hX hbl hbA hB.2.2.2.2.2 (ix_in j2) dL_1140 ?_
  obtain ⟨k7, hf⟩ := gk_ok hf
  obtain ⟨r10, g8, m9, hf⟩ := b2_ok hf
  refine hp_cI0 (cl_SpokenMenusLaw_119 cx hB (cX11_planned l D cA t2 (xs (Int32.toNatClampNeg (v3 + 1))) (xs (Int32.toNatClampNeg (v3 + 2))) g4 _ g8 m9) k7 ⟨Nat.le_of_ble_eq_true rfl, Nat.le_of_ble_eq_true rfl⟩ rfl hl.1 rfl (Nat.le_of_ble_eq_true rfl) ⟨Nat.le_trans (Nat.add_le_add_left (Nat.le_of_ble_eq_true rfl) _) hcb, Nat.le_trans (Nat.add_le_add_left (Nat.le_of_ble_eq_true rfl) _) hsb⟩ dL_1141) rfl rfl hB (fun H locs hB => ?_)
  obtain ⟨c11, hf⟩ := gd_ok hf
  refine lv_icmp_eq (tgt := 1172) hx hb dL_1144 (by decide) (fun ce => ?_) (fun ce => absurd (of_decide_eq_true c11) ce)
  obtain ⟨x9, ex9, hf⟩ := nm_ok hf
  refine lv_iinc (v := x9) (lv' := [(3, .int x9), (0, .ref b), (1, .ref t1), (2, .ref t2)]) hx hb dL_1172 hl (k := 3) rfl (by rw [ex9]; rfl) (by decide) rfl (fun ls hl => ?_)
  refine lv_goto (tgt := 18) hx hb dL_1175 (by decide) ?_
  refine W.widen (k := cells + 4) (n := slots + 64) (Nat.le_add_right _ _) (Nat.le_add_right _ _) ?_
  exact hr x9 g8 _ _ _ hB (lv_sub hl [1, 2, 3, 0] rfl) hf
set_option maxHeartbeats 4000000 in
set_option maxRecDepth 100000 in
theorem tL_25 {rc : Nat → Nat → Int32 → Hp → Option Unit} {cells slots : Nat} (cx : CallFix p m c code 4 s #[Value.ref b] tbG "SpokenMenusLaw") (hX : va_X b L xs s s.heap) (hbl : b < s.heap.size) (hcb : cells + 4 ≤ 600000) (hsb : slots + 64 ≤ 7302250) {t1 t2 : Nat} (hr : ∀ (v3 : Int32) (h : Hp) (H : Heap) (locs : List Loc) (ls : Array Slot), hp_B D cA (fun q : Nat => s.heap.size ≤ q) s h H locs → lv_has ls 4 [(0, .ref b), (1, .ref t1), (2, .ref t2), (3, .int v3)] → rc t1 t2 v3 h = some () → W p l e room_1 s m #[Value.ref b] below meth c H locs (cells + 4) (slots + 64) (lw_Z below #[Value.ref b] s) (F0 m 18 ls [])) (v3 : Int32) (h : Hp) (H : Heap) (locs : List Loc) (ls : Array Slot) (hB : hp_B D cA (fun q : Nat => s.heap.size ≤ q) s h H locs) (hl : lv_has ls 4 [(0, .ref b), (1, .ref t1), (2, .ref t2), (3, .int v3)]) (hf : lc_25 xs L rc t1 t2 v3 h = some ()) : W p l e room_1 s m #[Value.ref b] below meth c H locs cells slots (lw_Z below #[Value.ref b] s) (F0 m 1149 ls []) := by
  obtain ⟨hx, hb, -⟩ := id cx
  have hbA : ¬ (fun q : Nat => s.heap.size ≤ q) b := Nat.not_le.mpr hbl
  unfold lc_25 at hf
  refine lv_aload_n hx hb dL_1149 rfl (lv_at hl 1 rfl) ?_
  refine lv_aload_n hx hb dL_1150 rfl (lv_at hl 0 rfl) ?_
  refine lv_iload_n hx hb dL_1151 rfl (lv_at hl 3 rfl) ?_
  refine lv_iconst (v := 1) hx hb dL_1152 (by decide) ?_
  refine lv_iadd hx hb dL_1153 ?_
  obtain ⟨j1, hf⟩ := gd_ok hf
  refine va_sld hx hb hX hbl hbA hB.2.2.2.2.2 (ix_in j1) dL_1154 ?_
  obtain ⟨k2, hf⟩ := gk_ok hf
  obtain ⟨r5, g3, m4, hf⟩ := b2_ok hf
  refine hp_cI0 (cl_SpokenMenusLaw_120 cx hB (cX10_count l D cA t1 (xs (Int32.toNatClampNeg (v3 + 1))) h _ g3 m4) k2 ⟨Nat.le_of_ble_eq_true rfl, Nat.le_of_ble_eq_true rfl⟩ rfl hl.1 rfl (Nat.le_of_ble_eq_true rfl) ⟨Nat.le_trans (Nat.add_le_add_left (Nat.le_of_ble_eq_true rfl) _) hcb, Nat.le_trans (Nat.add_le_add_left (Nat.le_of_ble_eq_true rfl) _) hsb⟩ dL_1155) rfl rfl hB (fun H locs hB => ?_)
  refine lv_aload_n hx hb dL_1158 rfl (lv_at hl 2 rfl) ?_
  refine lv_aload_n hx hb dL_1159 rfl (lv_at hl 0 rfl) ?_
  refine lv_iload_n hx hb dL_1160 rfl (lv_at hl 3 rfl) ?_
  refine lv_iconst (v := 1) hx hb dL_1161 (by decide) ?_
  refine lv_iadd hx hb dL_1162 ?_
  refine va_sld hx hb hX hbl hbA hB.2.2.2.2.2 (ix_in j1) dL_1163 ?_
  obtain ⟨k6, hf⟩ := gk_ok hf
  obtain ⟨r9, g7, m8, hf⟩ := b2_ok hf
  refine hp_cI0 (cl_SpokenMenusLaw_123 cx hB (cX11_count l D cA t2 (xs (Int32.toNatClampNeg (v3 + 1))) g3 _ g7 m8) k6 ⟨Nat.le_of_ble_eq_true rfl, Nat.le_of_ble_eq_true rfl⟩ rfl hl.1 rfl (Nat.le_of_ble_eq_true rfl) ⟨Nat.le_trans (Nat.add_le_add_left (Nat.le_of_ble_eq_true rfl) _) hcb, Nat.le_trans (Nat.add_le_add_left (Nat.le_of_ble_eq_true rfl) _) hsb⟩ dL_1164) rfl rfl hB (fun H locs hB => ?_)
  obtain ⟨c10, hf⟩ := gd_ok hf
  refine lv_icmp_eq (tgt := 1172) hx hb dL_1167 (by decide) (fun ce => ?_) (fun ce => absurd (of_decide_eq_true c10) ce)
  obtain ⟨x9, ex9, hf⟩ := nm_ok hf
  refine lv_iinc (v := x9) (lv' := [(3, .int x9), (0, .ref b), (1, .ref t1), (2, .ref t2)]) hx hb dL_1172 hl (k := 3) rfl (by rw [ex9]; rfl) (by decide) rfl (fun ls hl => ?_)
  refine lv_goto (tgt := 18) hx hb dL_1175 (by decide) ?_
  refine W.widen (k := cells + 4) (n := slots + 64) (Nat.le_add_right _ _) (Nat.le_add_right _ _) ?_
  exact hr x9 g7 _ _ _ hB (lv_sub hl [1, 2, 3, 0] rfl) hf
set_option maxHeartbeats 4000000 in
set_option maxRecDepth 100000 in
theorem tL_26 {rc : Nat → Nat → Int32 → Hp → Option Unit} {cells slots : Nat} (cx : CallFix p m c code 4 s #[Value.ref b] tbG "SpokenMenusLaw") (hX : va_X b L xs s s.heap) (hbl : b < s.heap.size) (hcb : cells + 4 ≤ 600000) (hsb : slots + 64 ≤ 7302250) {t1 t2 : Nat} (hr : ∀ (v3 : Int32) (h : Hp) (H : Heap) (locs : List Loc) (ls : Array Slot), hp_B D cA (fun q : Nat => s.heap.size ≤ q) s h H locs → lv_has ls 4 [(0, .ref b), (1, .ref t1), (2, .ref t2), (3, .int v3)] → rc t1 t2 v3 h = some () → W p l e room_1 s m #[Value.ref b] below meth c H locs (cells + 4) (slots + 64) (lw_Z below #[Value.ref b] s) (F0 m 18 ls [])) (v3 : Int32) (h : Hp) (H : Heap) (locs : List Loc) (ls : Array Slot) (hB : hp_B D cA (fun q : Nat => s.heap.size ≤ q) s h H locs) (hl : lv_has ls 4 [(0, .ref b), (1, .ref t1), (2, .ref t2), (3, .int v3)]) (hf : lc_26 xs L rc t1 t2 v3 h = some ()) : W p l e room_1 s m #[Value.ref b] below meth c H locs cells slots (lw_Z below #[Value.ref b] s) (F0 m 1172 ls []) := by
  obtain ⟨hx, hb, -⟩ := id cx
  have hbA : ¬ (fun q : Nat => s.heap.size ≤ q) b := Nat.not_le.mpr hbl
  unfold lc_26 at hf
  obtain ⟨x9, ex9, hf⟩ := nm_ok hf
  refine lv_iinc (v := x9) (lv' := [(3, .int x9), (0, .ref b), (1, .ref t1), (2, .ref t2)]) hx hb dL_1172 hl (k := 3) rfl (by rw [ex9]; rfl) (by decide) rfl (fun ls hl => ?_)
  refine lv_goto (tgt := 18) hx hb dL_1175 (by decide) ?_
  refine W.widen (k := cells + 4) (n := slots + 64) (Nat.le_add_right _ _) (Nat.le_add_right _ _) ?_
  exact hr x9 h _ _ _ hB (lv_sub hl [1, 2, 3, 0] rfl) hf
set_option maxHeartbeats 4000000 in
set_option maxRecDepth 100000 in
theorem tL_body {rc : Nat → Nat → Int32 → Hp → Option Unit} {cells slots : Nat} (cx : CallFix p m c code 4 s #[Value.ref b] tbG "SpokenMenusLaw") (hX : va_X b L xs s s.heap) (hbl : b < s.heap.size) (hrt : meth.sig.returnType = ret) (hlk : meth.locks = false) (hcb : cells + 4 ≤ 600000) (hsb : slots + 64 ≤ 7302250) {t1 t2 : Nat} (hr : ∀ (v3 : Int32) (h : Hp) (H : Heap) (locs : List Loc) (ls : Array Slot), hp_B D cA (fun q : Nat => s.heap.size ≤ q) s h H locs → lv_has ls 4 [(0, .ref b), (1, .ref t1), (2, .ref t2), (3, .int v3)] → rc t1 t2 v3 h = some () → W p l e room_1 s m #[Value.ref b] below meth c H locs (cells + 4) (slots + 64) (lw_Z below #[Value.ref b] s) (F0 m 18 ls [])) (v3 : Int32) (h : Hp) (H : Heap) (locs : List Loc) (ls : Array Slot) (hB : hp_B D cA (fun q : Nat => s.heap.size ≤ q) s h H locs) (hl : lv_has ls 4 [(0, .ref b), (1, .ref t1), (2, .ref t2), (3, .int v3)]) (hf : lb xs L rc t1 t2 v3 h = some ()) : W p l e room_1 s m #[Value.ref b] below meth c H locs cells slots (lw_Z below #[Value.ref b] s) (F0 m 18 ls []) := by
  obtain ⟨hx, hb, -⟩ := id cx
  have hbA : ¬ (fun q : Nat => s.heap.size ≤ q) b := Nat.not_le.mpr hbl
  unfold lb at hf
  refine lv_iload_n hx hb dL_18 rfl (lv_at hl 3 rfl) ?_
  refine lv_aload_n hx hb dL_19 rfl (lv_at hl 0 rfl) ?_
  refine va_slen hx hb hX hbl hbA hB.2.2.2.2.2 dL_20 ?_
  refine lv_bipush (v := 7) hx hb dL_21 (by decide) ?_
  refine lv_isub hx hb dL_23 ?_
  refine lv_icmp_gt (tgt := 1178) hx hb dL_24 (by decide) (fun c1 => ?_) (fun c1 => ?_)
  · refine lv_iconst (v := 1) hx hb dL_1178 (by decide) ?_
    refine va_forget (fun q hq => hB.2.2.2.2.2.2.2 q hq) ?_
    refine W.widen (k := 600000) (n := 7302250) (Nat.le_trans (Nat.le_add_right _ _) hcb) (Nat.le_trans (Nat.le_add_right _ _) hsb) ?_
    exact lw_ret hx hb hrt hlk dL_1179
  replace hf := it_f c1 hf
  refine lv_aload_n hx hb dL_27 rfl (lv_at hl 0 rfl) ?_
  refine lv_iload_n hx hb dL_28 rfl (lv_at hl 3 rfl) ?_
  obtain ⟨j1, hf⟩ := gd_ok hf
  refine va_sld hx hb hX hbl hbA hB.2.2.2.2.2 (ix_in j1) dL_29 ?_
  refine lv_bipush (v := 31) hx hb dL_30 (by decide) ?_
  refine lv_iand hx hb dL_32 ?_
  obtain ⟨x, ex, hf⟩ := nm_ok hf
  refine lv_ren ex ?_
  by_cases d0 : x = 0
  · replace hf := it_t d0 hf
    refine lv_tableIn (off := 119) (tgt := 152) hx hb dL_33 (by rw [d0]; decide) (by rw [d0]; decide) (by rw [d0]; rfl) (by decide) ?_
    exact tL_0 cx hX hbl hcb hsb hr v3 h H locs ls hB hl hf
  replace hf := it_f d0 hf
  by_cases d1 : x = 1
  · replace hf := it_t d1 hf
    refine lv_tableIn (off := 162) (tgt := 195) hx hb dL_33 (by rw [d1]; decide) (by rw [d1]; decide) (by rw [d1]; rfl) (by decide) ?_
    exact tL_1 cx hX hbl hcb hsb hr v3 h H locs ls hB hl hf
  replace hf := it_f d1 hf
  by_cases d2 : x = 2
  · replace hf := it_t d2 hf
    refine lv_tableIn (off := 225) (tgt := 258) hx hb dL_33 (by rw [d2]; decide) (by rw [d2]; decide) (by rw [d2]; rfl) (by decide) ?_
    exact tL_2 cx hX hbl hcb hsb hr v3 h H locs ls hB hl hf
  replace hf := it_f d2 hf
  by_cases d3 : x = 3
  · replace hf := it_t d3 hf
    refine lv_tableIn (off := 258) (tgt := 291) hx hb dL_33 (by rw [d3]; decide) (by rw [d3]; decide) (by rw [d3]; rfl) (by decide) ?_
    exact tL_3 cx hX hbl hcb hsb hr v3 h H locs ls hB hl hf
  replace hf := it_f d3 hf
  by_cases d4 : x = 4
  · replace hf := it_t d4 hf
    refine lv_tableIn (off := 301) (tgt := 334) hx hb dL_33 (by rw [d4]; decide) (by rw [d4]; decide) (by rw [d4]; rfl) (by decide) ?_
    exact tL_4 cx hX hbl hcb hsb hr v3 h H locs ls hB hl hf
  replace hf := it_f d4 hf
  by_cases d5 : x = 5
  · replace hf := it_t d5 hf
    refine lv_tableIn (off := 354) (tgt := 387) hx hb dL_33 (by rw [d5]; decide) (by rw [d5]; decide) (by rw [d5]; rfl) (by decide) ?_
    exact tL_5 cx hX hbl hcb hsb hr v3 h H locs ls hB hl hf
  replace hf := it_f d5 hf
  by_cases d6 : x = 6
  · replace hf := it_t d6 hf
    refine lv_tableIn (off := 417) (tgt := 450) hx hb dL_33 (by rw [d6]; decide) (by rw [d6]; decide) (by rw [d6]; rfl) (by decide) ?_
    exact tL_6 cx hX hbl hcb hsb hr v3 h H locs ls hB hl hf
  replace hf := it_f d6 hf
  by_cases d7 : x = 7
  · replace hf := it_t d7 hf
    refine lv_tableIn (off := 470) (tgt := 503) hx hb dL_33 (by rw [d7]; decide) (by rw [d7]; decide) (by rw [d7]; rfl) (by decide) ?_
    exact tL_7 cx hX hbl hcb hsb hr v3 h H locs ls hB hl hf
  replace hf := it_f d7 hf
  by_cases d8 : x = 8
  · replace hf := it_t d8 hf
    refine lv_tableIn (off := 513) (tgt := 546) hx hb dL_33 (by rw [d8]; decide) (by rw [d8]; decide) (by rw [d8]; rfl) (by decide) ?_
    exact tL_8 cx hX hbl hcb hsb hr v3 h H locs ls hB hl hf
  replace hf := it_f d8 hf
  by_cases d9 : x = 9
  · replace hf := it_t d9 hf
    refine lv_tableIn (off := 546) (tgt := 579) hx hb dL_33 (by rw [d9]; decide) (by rw [d9]; decide) (by rw [d9]; rfl) (by decide) ?_
    exact tL_9 cx hX hbl hcb hsb hr v3 h H locs ls hB hl hf
  replace hf := it_f d9 hf
  by_cases d10 : x = 10
  · replace hf := it_t d10 hf
    refine lv_tableIn (off := 589) (tgt := 622) hx hb dL_33 (by rw [d10]; decide) (by rw [d10]; decide) (by rw [d10]; rfl) (by decide) ?_
    exact tL_10 cx hX hbl hcb hsb hr v3 h H locs ls hB hl hf
  replace hf := it_f d10 hf
  by_cases d11 : x = 11
  · replace hf := it_t d11 hf
    refine lv_tableIn (off := 652) (tgt := 685) hx hb dL_33 (by rw [d11]; decide) (by rw [d11]; decide) (by rw [d11]; rfl) (by decide) ?_
    exact tL_11 cx hX hbl hcb hsb hr v3 h H locs ls hB hl hf
  replace hf := it_f d11 hf
  by_cases d12 : x = 12
  · replace hf := it_t d12 hf
    refine lv_tableIn (off := 675) (tgt := 708) hx hb dL_33 (by rw [d12]; decide) (by rw [d12]; decide) (by rw [d12]; rfl) (by decide) ?_
    exact tL_12 cx hX hbl hcb hsb hr v3 h H locs ls hB hl hf
  replace hf := it_f d12 hf
  by_cases d13 : x = 13
  · replace hf := it_t d13 hf
    refine lv_tableIn (off := 698) (tgt := 731) hx hb dL_33 (by rw [d13]; decide) (by rw [d13]; decide) (by rw [d13]; rfl) (by decide) ?_
    exact tL_13 cx hX hbl hcb hsb hr v3 h H locs ls hB hl hf
  replace hf := it_f d13 hf
  by_cases d14 : x = 14
  · replace hf := it_t d14 hf
    refine lv_tableIn (off := 721) (tgt := 754) hx hb dL_33 (by rw [d14]; decide) (by rw [d14]; decide) (by rw [d14]; rfl) (by decide) ?_
    exact tL_14 cx hX hbl hcb hsb hr v3 h H locs ls hB hl hf
  replace hf := it_f d14 hf
  by_cases d15 : x = 15
  · replace hf := it_t d15 hf
    refine lv_tableIn (off := 774) (tgt := 807) hx hb dL_33 (by rw [d15]; decide) (by rw [d15]; decide) (by rw [d15]; rfl) (by decide) ?_
    exact tL_15 cx hX hbl hcb hsb hr v3 h H locs ls hB hl hf
  replace hf := it_f d15 hf
  by_cases d16 : x = 16
  · replace hf := it_t d16 hf
    refine lv_tableIn (off := 807) (tgt := 840) hx hb dL_33 (by rw [d16]; decide) (by rw [d16]; decide) (by rw [d16]; rfl) (by decide) ?_
    exact tL_16 cx hX hbl hcb hsb hr v3 h H locs ls hB hl hf
  replace hf := it_f d16 hf
  by_cases d17 : x = 17
  · replace hf := it_t d17 hf
    refine lv_tableIn (off := 882) (tgt := 915) hx hb dL_33 (by rw [d17]; decide) (by rw [d17]; decide) (by rw [d17]; rfl) (by decide) ?_
    exact tL_17 cx hX hbl hcb hsb hr v3 h H locs ls hB hl hf
  replace hf := it_f d17 hf
  by_cases d18 : x = 18
  · replace hf := it_t d18 hf
    refine lv_tableIn (off := 895) (tgt := 928) hx hb dL_33 (by rw [d18]; decide) (by rw [d18]; decide) (by rw [d18]; rfl) (by decide) ?_
    exact tL_18 cx hX hbl hcb hsb hr v3 h H locs ls hB hl hf
  replace hf := it_f d18 hf
  by_cases d19 : x = 19
  · replace hf := it_t d19 hf
    refine lv_tableIn (off := 918) (tgt := 951) hx hb dL_33 (by rw [d19]; decide) (by rw [d19]; decide) (by rw [d19]; rfl) (by decide) ?_
    exact tL_19 cx hX hbl hcb hsb hr v3 h H locs ls hB hl hf
  replace hf := it_f d19 hf
  by_cases d20 : x = 20
  · replace hf := it_t d20 hf
    refine lv_tableIn (off := 941) (tgt := 974) hx hb dL_33 (by rw [d20]; decide) (by rw [d20]; decide) (by rw [d20]; rfl) (by decide) ?_
    exact tL_20 cx hX hbl hcb hsb hr v3 h H locs ls hB hl hf
  replace hf := it_f d20 hf
  by_cases d21 : x = 21
  · replace hf := it_t d21 hf
    refine lv_tableIn (off := 974) (tgt := 1007) hx hb dL_33 (by rw [d21]; decide) (by rw [d21]; decide) (by rw [d21]; rfl) (by decide) ?_
    exact tL_21 cx hX hbl hcb hsb hr v3 h H locs ls hB hl hf
  replace hf := it_f d21 hf
  by_cases d22 : x = 22
  · replace hf := it_t d22 hf
    refine lv_tableIn (off := 997) (tgt := 1030) hx hb dL_33 (by rw [d22]; decide) (by rw [d22]; decide) (by rw [d22]; rfl) (by decide) ?_
    exact tL_22 cx hX hbl hcb hsb hr v3 h H locs ls hB hl hf
  replace hf := it_f d22 hf
  by_cases d23 : x = 23
  · replace hf := it_t d23 hf
    refine lv_tableIn (off := 1040) (tgt := 1073) hx hb dL_33 (by rw [d23]; decide) (by rw [d23]; decide) (by rw [d23]; rfl) (by decide) ?_
    exact tL_23 cx hX hbl hcb hsb hr v3 h H locs ls hB hl hf
  replace hf := it_f d23 hf
  by_cases d24 : x = 24
  · replace hf := it_t d24 hf
    refine lv_tableIn (off := 1083) (tgt := 1116) hx hb dL_33 (by rw [d24]; decide) (by rw [d24]; decide) (by rw [d24]; rfl) (by decide) ?_
    exact tL_24 cx hX hbl hcb hsb hr v3 h H locs ls hB hl hf
  replace hf := it_f d24 hf
  by_cases d25 : x = 25
  · replace hf := it_t d25 hf
    refine lv_tableIn (off := 1116) (tgt := 1149) hx hb dL_33 (by rw [d25]; decide) (by rw [d25]; decide) (by rw [d25]; rfl) (by decide) ?_
    exact tL_25 cx hX hbl hcb hsb hr v3 h H locs ls hB hl hf
  replace hf := it_f d25 hf
  refine lv_tableOut (tgt := 1172) hx hb dL_33 (by have n0 := lv_neT d0 (a := 0) rfl; have n1 := lv_neT d1 (a := 1) rfl; have n2 := lv_neT d2 (a := 2) rfl; have n3 := lv_neT d3 (a := 3) rfl; have n4 := lv_neT d4 (a := 4) rfl; have n5 := lv_neT d5 (a := 5) rfl; have n6 := lv_neT d6 (a := 6) rfl; have n7 := lv_neT d7 (a := 7) rfl; have n8 := lv_neT d8 (a := 8) rfl; have n9 := lv_neT d9 (a := 9) rfl; have n10 := lv_neT d10 (a := 10) rfl; have n11 := lv_neT d11 (a := 11) rfl; have n12 := lv_neT d12 (a := 12) rfl; have n13 := lv_neT d13 (a := 13) rfl; have n14 := lv_neT d14 (a := 14) rfl; have n15 := lv_neT d15 (a := 15) rfl; have n16 := lv_neT d16 (a := 16) rfl; have n17 := lv_neT d17 (a := 17) rfl; have n18 := lv_neT d18 (a := 18) rfl; have n19 := lv_neT d19 (a := 19) rfl; have n20 := lv_neT d20 (a := 20) rfl; have n21 := lv_neT d21 (a := 21) rfl; have n22 := lv_neT d22 (a := 22) rfl; have n23 := lv_neT d23 (a := 23) rfl; have n24 := lv_neT d24 (a := 24) rfl; have n25 := lv_neT d25 (a := 25) rfl; omega) (by decide) ?_
  exact tL_26 cx hX hbl hcb hsb hr v3 h H locs ls hB hl hf
theorem tL_loop (cx : CallFix p m c code 4 s #[Value.ref b] tbG "SpokenMenusLaw") (hX : va_X b L xs s s.heap) (hbl : b < s.heap.size) (hrt : meth.sig.returnType = ret) (hlk : meth.locks = false) {t1 t2 : Nat} (n : Nat) : ∀ (j : Nat) (v3 : Int32) (h : Hp) (H : Heap) (locs : List Loc) (ls : Array Slot), j + n ≤ 514 → hp_B D cA (fun q : Nat => s.heap.size ≤ q) s h H locs → lv_has ls 4 [(0, .ref b), (1, .ref t1), (2, .ref t2), (3, .int v3)] → lL xs L n t1 t2 v3 h = some () → W p l e room_1 s m #[Value.ref b] below meth c H locs (2000 + 4 * j) (20000 + 64 * j) (lw_Z below #[Value.ref b] s) (F0 m 18 ls []) := by
  induction n with
  | zero => intro j v3 h H locs ls hj hB hl hf; cases hf
  | succ n ih =>
    intro j v3 h H locs ls hj hB hl hf
    exact tL_body (rc := lL xs L n) cx hX hbl hrt hlk (by omega) (by omega) (fun v3 h H locs ls hB hl hf => W.widen (k := 2000 + 4 * (j + 1)) (n := 20000 + 64 * (j + 1)) (by omega) (by omega) (ih (j + 1) v3 h H locs ls (by omega) hB hl hf)) v3 h H locs ls hB hl hf
end
