/-! new int[6][256]: one step of the machine that makes seven cells -/
def hp_mn (h : Hp) : Hp :=
  (fun a => if a = h.2.2.2.2 then 18 else if h.2.2.2.2 < a ∧ a < h.2.2.2.2 + 7 then 13 else h.1 a,
   fun a => if a = h.2.2.2.2 then 6 else if h.2.2.2.2 < a ∧ a < h.2.2.2.2 + 7 then 256 else h.2.1 a,
   fun a => if h.2.2.2.2 ≤ a ∧ a < h.2.2.2.2 + 7 then fun _ => 0 else h.2.2.1 a,
   fun a => if a = h.2.2.2.2 then fun j => if j < 6 then some (h.2.2.2.2 + 1 + j) else none else if h.2.2.2.2 < a ∧ a < h.2.2.2.2 + 7 then fun _ => none else h.2.2.2.1 a,
   h.2.2.2.2 + 7)
/-- the outer row when i of the inner ones are there; an inner one; the state then -/
def mn_o (cO : ClassId) (b i : Nat) : Cell := arrV cO 6 (fun j => va_rf (if j < i then some (b + 1 + j) else none))
def mn_i (cI : ClassId) : Cell := arrV cI 256 (fun _ => .int 0)
def mn_S (T : State) (cO cI : ClassId) : Nat → State
  | 0 => T.pushCell (mn_o cO T.heap.size 0)
  | i + 1 => ((mn_S T cO cI i).pushCell (mn_i cI)).setCell T.heap.size (mn_o cO T.heap.size (i + 1))
theorem mn_o_size (cO : ClassId) (b i : Nat) : (mn_o cO b i).slots.size = 6 := arrV_size _ _ _
theorem mn_i_size (cI : ClassId) : (mn_i cI).slots.size = 256 := arrV_size _ _ _
theorem mn_o_set (cO : ClassId) (b i : Nat) : (mn_o cO b i).setSlot i (.ref (b + 1 + i)) = mn_o cO b (i + 1) := by
  unfold mn_o
  rw [arrV_store]
  refine congrArg (arrV cO 6) (funext fun j => ?_)
  by_cases hj : j = i
  · subst hj
    simp [updV, va_rf]
  · by_cases h2 : j < i
    · simp [updV, hj, h2, Nat.lt_succ_of_lt h2]
    · simp [updV, hj, h2, show ¬ j < i + 1 by omega]
theorem mn_S_facts (T : State) (cO cI : ClassId) : ∀ i : Nat, (mn_S T cO cI i).heap.size = T.heap.size + 1 + i ∧ (mn_S T cO cI i).heap[T.heap.size]? = some (mn_o cO T.heap.size i) ∧ (mn_S T cO cI i).vm = T.vm ∧ (mn_S T cO cI i).slotsUsed = T.slotsUsed + 6 + 256 * i ∧ (∀ a, a < T.heap.size → (mn_S T cO cI i).heap[a]? = T.heap[a]?) ∧ ∀ j, j < i → (mn_S T cO cI i).heap[T.heap.size + 1 + j]? = some (mn_i cI)
  | 0 => by
    refine ⟨by simp [mn_S], by simp [mn_S], rfl, ?_, fun a ha => State.heap_pushCell_of_lt _ _ ha, fun j hj => absurd hj (Nat.not_lt_zero j)⟩
    simp [mn_S, mn_o_size]
  | i + 1 => by
    obtain ⟨h1, h2, h3, h4, h5, h6⟩ := mn_S_facts T cO cI i
    have hlt : T.heap.size < (mn_S T cO cI i).heap.size := by omega
    have hb : ((mn_S T cO cI i).pushCell (mn_i cI)).heap[T.heap.size]? = some (mn_o cO T.heap.size i) := by rw [State.heap_pushCell_of_lt (h := hlt)]; exact h2
    refine ⟨?_, State.heap_setCell_self hb, ?_, ?_, fun a ha => ?_, fun j hj => ?_⟩
    · simp [mn_S, State.setCell, h1]; omega
    · simp [mn_S, h3]
    · simp [mn_S, h4, mn_i_size]; omega
    · show (((mn_S T cO cI i).pushCell (mn_i cI)).setCell T.heap.size _).heap[a]? = _
      rw [State.heap_setCell_other (Nat.ne_of_gt ha), State.heap_pushCell_of_lt (h := Nat.lt_trans ha hlt)]
      exact h5 a ha
    · show (((mn_S T cO cI i).pushCell (mn_i cI)).setCell T.heap.size _).heap[T.heap.size + 1 + j]? = _
      rw [State.heap_setCell_other (show T.heap.size ≠ T.heap.size + 1 + j by omega)]
      by_cases hji : j = i
      · subst hji
        rw [← h1]
        exact State.heap_pushCell_size _ _
      · have hl2 : T.heap.size + 1 + j < (mn_S T cO cI i).heap.size := by rw [h1]; omega
        rw [State.heap_pushCell_of_lt (h := hl2)]
        exact h6 j (by omega)
theorem mn_S_top (T : State) (f : JFrame) (cO cI : ClassId) : ∀ i : Nat, mn_S (T.setTop f) cO cI i = (mn_S T cO cI i).setTop f
  | 0 => rfl
  | i + 1 => by simp only [mn_S, mn_S_top T f cO cI i, State.heap_setTop, State.pushCell_setTop, State.setCell_setTop]
section HPMW
variable {E : CtlPost} {e : Env} {d : Bool} {acts : List Action} {s : State}
theorem mn_new {c comp : ClassId} {k : Class} {ty : FieldType} {len : Nat} {v : Value} (hk : s.vm.classes[c]? = some k) (hkind : k.kind = .array comp ty) (h1 : ¬ len > e.platform.arrayLengthLimit) (h2 : ¬ len * componentBytes ty > e.platform.maxHeapBytes) (hv : fits ty v = true) (hd : v.isDefault = true) (h3 : s.heap.size < e.platform.maxCells) (h4 : s.slotsUsed + len ≤ e.platform.maxSlots) {Q : Addr → Pre} (hq : Q s.heap.size d acts (s.pushCell (arrV c len (fun _ => v)))) : wp (Jvm.newArray c len v) Q E e d acts s := by
  have a1 : ∀ i w, (Array.replicate len v)[i]? = some w → s.fitsSlot c .none i w = true := fun i w hw => by
    rw [Array.getElem?_replicate] at hw
    split at hw
    · cases hw
      simp [State.fitsSlot, State.slotType?, hk, hkind, hv]
    · cases hw
  have a2 : allocActs (Array.replicate len v) s.heap.size acts = acts := by
    have ha : ((Array.replicate len v).all (·.isDefault)) = true := by
      rw [Array.all_replicate]
      split <;> simp [hd]
    unfold allocActs
    rw [if_pos ha]
  simp only [Jvm.newArray, Jvm.arrayFits, wp_bind', W.ask, W.ite, h1, if_false, wp_pure', W.theClass, hk, hkind, h2, W.alloc, W.stop, Option.some.injEq, exists_eq_left', Array.size_replicate, a2]
  rw [if_neg (by omega)]
  rw [← arrV_new] at hq
  exact ⟨h3, h4, a1, hq⟩
end HPMW
section HPM
variable {p : Program} {l : Launch} {e : Env} {R : Room} {s : State} {m : MethodId} {args : Array Value} {below : List Frame} {meth : Method} {c : Code} {H : Heap} {locs : List Loc} {cells slots : Nat} {Q : State → Prop}
theorem mn_stand {T : State} (X : Stand p l e R s m args below meth c T locs cells slots) (hg : s.heap.size ≤ T.heap.size) (cO cI : ClassId) : ∀ i : Nat, Stand p l e R s m args below meth c (mn_S T cO cI i) locs (cells + 1 + i) (slots + 6 + 256 * i)
  | 0 => by
    have h1 := X.pushed (mn_o cO T.heap.size 0)
    rw [mn_o_size] at h1
    exact h1
  | i + 1 => by
    have Xi := mn_stand X hg cO cI i
    obtain ⟨h1, h2, -⟩ := mn_S_facts T cO cI i
    have hlt : T.heap.size < (mn_S T cO cI i).heap.size := by omega
    have hb : ((mn_S T cO cI i).pushCell (mn_i cI)).heap[T.heap.size]? = some (mn_o cO T.heap.size i) := by rw [State.heap_pushCell_of_lt (h := hlt)]; exact h2
    have h3 := (Xi.pushed (mn_i cI)).stored hb i (.ref (T.heap.size + 1 + i))
    rw [mn_o_set, mn_i_size] at h3
    have h4 := Stand.forget h3 (fun y hy => by rw [List.mem_singleton.mp hy]; exact hg)
    rw [show slots + 6 + 256 * (i + 1) = slots + 6 + 256 * i + 256 by omega, show cells + 1 + (i + 1) = cells + 1 + i + 1 by omega]
    exact h4
theorem mn_make {E : CtlPost} {d : Bool} {acts : List Action} {T : State} {cO cI comp : ClassId} {kO kI : Class} (hkO : T.vm.classes[cO]? = some kO) (hkindO : kO.kind = .array cI (.array .int)) (hkI : T.vm.classes[cI]? = some kI) (hkindI : kI.kind = .array comp .int) (hl : 256 ≤ e.platform.arrayLengthLimit) (hh : 1024 ≤ e.platform.maxHeapBytes) (h3 : T.heap.size + 7 ≤ e.platform.maxCells) (h4 : T.slotsUsed + 1542 ≤ e.platform.maxSlots) {Qa : Addr → Pre} (hq : ∀ d' acts', Qa T.heap.size d' acts' (mn_S T cO cI 6)) : wp (multianewarray.make cO [6, 256]) Qa E e d acts T := by
  rw [multianewarray.make]
  simp only [wp_bind', W.ite, show ¬ (6 : Int32) < 0 by decide, if_false, wp_pure', W.theClass, hkO, hkindO, Option.some.injEq, exists_eq_left']
  have n6 : (6 : Int32).toNatClampNeg = 6 := by decide
  have n256 : (256 : Int32).toNatClampNeg = 256 := by decide
  rw [n6]
  refine mn_new hkO hkindO (by omega) (by show ¬ 6 * 4 > _; omega) rfl rfl (by omega) (by omega) ?_
  simp only [show ([256] : List Int32).find? (· < 0) = none by decide, ite_self]
  rw [wp_bind', Std.Legacy.Range.forIn_eq_forIn_range']
  rw [show ([:6] : Std.Legacy.Range).size = 6 by rfl]
  show wp (forIn (List.range' 0 6 1) PUnit.unit _) _ E e d acts _
  have h00 : T.pushCell (arrV cO 6 (fun _ => .null)) = mn_S T cO cI 0 := by
    show _ = T.pushCell (arrV cO 6 _)
    rfl
  rw [h00]
  refine wp_forIn_inv (fun rest s' => ∃ i, i ≤ 6 ∧ rest = List.range' i (6 - i) ∧ s' = mn_S T cO cI i) _ _ ⟨0, by decide, rfl, rfl⟩ ?_ ?_
  · rintro x rest s' d' acts' Q' ⟨i, hi, hlst, rfl⟩ hnext
    have hi6 : i < 6 := by
      rcases Nat.lt_or_ge i 6 with q | q
      · exact q
      · rw [show 6 - i = 0 by omega] at hlst; simp at hlst
    rw [show 6 - i = (6 - (i + 1)) + 1 by omega, List.range'_succ] at hlst
    obtain ⟨rfl, hrest⟩ := List.cons.inj hlst
    obtain ⟨f1, f2, f3, f4, -, -⟩ := mn_S_facts T cO cI x
    have hlt : T.heap.size < (mn_S T cO cI x).heap.size := by omega
    simp only [wp_bind']
    rw [multianewarray.make]
    simp only [wp_bind', W.ite, show ¬ (256 : Int32) < 0 by decide, if_false, wp_pure', W.theClass, f3, hkI, hkindI, Option.some.injEq, exists_eq_left']
    rw [n256]
    refine mn_new (by rw [f3]; exact hkI) hkindI (by omega) (by show ¬ 256 * 4 > _; omega) rfl rfl (by omega) (by omega) ?_
    simp only [wp_bind', W.writeLoc, wp_pure']
    refine ⟨mn_o cO T.heap.size x, by rw [State.heap_pushCell_of_lt (h := hlt)]; exact f2, by simp [mn_o, arrV], by rw [mn_o_size]; exact hi6, ?_, hnext _ _ _ ⟨x + 1, by omega, hrest, ?_⟩⟩
    · simp [mn_o, arrV, State.fitsSlot, State.slotType?, f3, hkO, hkindO, fits]
    · rw [f1, mn_o_set]
      rfl
  · rintro s' d' acts' ⟨i, hi, hlst, rfl⟩
    have hi6 : i = 6 := by
      rcases Nat.lt_or_ge i 6 with q | q
      · rw [show 6 - i = (6 - (i + 1)) + 1 by omega, List.range'_succ] at hlst; cases hlst
      · omega
    subst hi6
    simp only [wp_pure']
    exact hq _ _
variable {cc : ByteArray} {pc nL : Nat} {ls : Array Slot} {rest : List Value} {D : va_G} {cA : Nat → ClassId} {A : Nat → Prop} {a : Nat} {h : Hp} {own : String}
theorem mn_w {H1 : Heap} (hw : hp_w D cA h H) (hz : H1.size = H.size + 7) (ho : ∀ a, a < H.size → H1[a]? = H[a]?) (h1 : H1[H.size]? = some (mn_o (cA 18) H.size 6)) (h2 : ∀ j, j < 6 → H1[H.size + 1 + j]? = some (mn_i (cA 13))) : hp_w D cA (hp_mn h) H1 := by
  obtain ⟨hs, hc⟩ := hw
  refine ⟨by rw [hz, hs]; rfl, fun b hb => ?_⟩
  rw [hs] at h1 h2 ho
  by_cases e1 : b = h.2.2.2.2
  · subst e1
    have k1 : (hp_mn h).1 h.2.2.2.2 = 18 := if_pos rfl
    rw [hp_c_ref (by rw [k1]; decide), k1]
    show H1[h.2.2.2.2]? = some (vp_cell _ _)
    rw [h1, vp_cell_q]
    show some (arrV _ _ _) = some (arrV _ _ _)
    rw [show (hp_mn h).2.1 h.2.2.2.2 = 6 from if_pos rfl, show (hp_mn h).2.2.2.1 h.2.2.2.2 = fun j => if j < 6 then some (h.2.2.2.2 + 1 + j) else none from if_pos rfl]
  · by_cases e2 : h.2.2.2.2 < b ∧ b < h.2.2.2.2 + 7
    · have k1 : (hp_mn h).1 b = 13 := by show (if _ then _ else _) = _; rw [if_neg e1, if_pos e2]
      have k2 : (hp_mn h).2.1 b = 256 := by show (if _ then _ else _) = _; rw [if_neg e1, if_pos e2]
      have k3 : (hp_mn h).2.2.1 b = fun _ => 0 := by show (if _ then _ else _) = _; rw [if_pos (by omega)]
      rw [hp_c_int k1, k2, k3]
      show H1[b]? = some (vp_cell _ _)
      obtain ⟨j, hj⟩ : ∃ j, b = h.2.2.2.2 + 1 + j := ⟨b - h.2.2.2.2 - 1, by omega⟩
      rw [hj, h2 j (by omega), vp_cell_i]
      rfl
    · have k1 : (hp_mn h).1 b = h.1 b := by show (if _ then _ else _) = _; rw [if_neg e1, if_neg e2]
      have hb' : h.1 b ≠ 0 := by rw [← k1]; exact hb
      have hlt := (hc b hb').lt
      rw [hs] at hlt
      have k2 : (hp_mn h).2.1 b = h.2.1 b := by show (if _ then _ else _) = _; rw [if_neg e1, if_neg e2]
      have k3 : (hp_mn h).2.2.1 b = h.2.2.1 b := by show (if _ then _ else _) = _; rw [if_neg (by omega)]
      have k4 : (hp_mn h).2.2.2.1 b = h.2.2.2.1 b := by show (if _ then _ else _) = _; rw [if_neg e1, if_neg e2]
      have e7 : ∀ ci, hp_fv (hp_mn h) ci b = hp_fv h ci b := fun ci => funext fun j => by simp only [hp_fv, k3, k4]
      have e5 : hp_c cA (hp_mn h) b = hp_c cA h b := by simp only [hp_c, hp_fs, k1, k2, k3, k4, e7]
      rw [e5]
      exact (hc b hb').kept (ho b hlt)
theorem hp_mna (cx : CallFix p m c cc nL s args tbG own) (hB : hp_B D cA A s h H locs) {index : Nat} (hcl : Cond.classLink own index "[[I" ∈ lw_tbl) (harr : Cond.arrayClass .int ∈ lw_tbl) {q : Nat} (hq : q = h.2.2.2.2) (hcells : cells + 7 ≤ R.cells) (hslots : slots + 1542 ≤ R.slots) (hdg : decode cc pc = .ok (.multianewarray index 2, 4))
    (kk : ∀ (H1 : Heap), hp_B D cA A s (hp_mn h) H1 locs → W p l e R s m args below meth c H1 locs (cells + 7) (slots + 1542) Q (F0 m (pc + 4) ls (.ref q :: rest))) : W p l e R s m args below meth c H locs cells slots Q (F0 m pc ls (.int 256 :: .int 6 :: rest)) := by
  obtain ⟨hx, hb, hml, hown, hts⟩ := cx
  intro T hT X
  subst hb
  obtain ⟨kO, hkO, hkindO⟩ := hB.2.2.1.2.2.2.2
  have hNm : s.vm.findClass "[[I" = some (cA 18) := (hB.2.1.2 5 _ rfl).2
  obtain ⟨cI, kI, comp, g1, g2, g3⟩ := Cond.arrayClass_spec (hts _ (tb_in harr rfl))
  have hI : s.vm.findClass "[I" = some (cA 13) := (hB.2.1.2 0 _ rfl).2
  have eI : cI = cA 13 := Option.some.inj (g1.symm.trans hI)
  subst eI
  have hpl : e.platform.magicAccessors = ({} : Platform).magicAccessors := by rw [X.admits.platform]
  obtain ⟨c0, hf0, hc0⟩ := Cond.classLink_spec hown (hts _ (tb_in hcl rfl)) e.platform hpl
  have e0 : c0 = cA 18 := Option.some.inj (hf0.symm.trans hNm)
  subst e0
  obtain ⟨w1, w2, -⟩ := State.classEntry (e := e) X.warmed hc0
  generalize T.vm.noted m.cls index (.cls (cA 18)) = vm₁ at w1 w2
  obtain ⟨kO₁, hkO₁, heO⟩ := w2.alike.2.2 _ _ hkO
  obtain ⟨kI₁, hkI₁, heI⟩ := w2.alike.2.2 _ _ g2
  have X₁ := X.noted w2
  obtain ⟨r1, r2⟩ := X.roomAbove hcells hslots
  have hgrow : s.heap.size ≤ (T.setVm vm₁).heap.size := by
    show s.heap.size ≤ T.heap.size
    rw [hT]
    exact hB.2.2.2.2.2.1
  have XF := mn_stand X₁ hgrow (cA 18) (cA 13) 6
  obtain ⟨f1, f2, f3, f4, f5, f6⟩ := mn_S_facts (T.setVm vm₁) (cA 18) (cA 13) 6
  have hTs : (T.setVm vm₁).heap = H := hT
  rw [hTs] at f1 f2 f5 f6
  have hw1 : hp_w D cA (hp_mn h) (mn_S (T.setVm vm₁) (cA 18) (cA 13) 6).heap := mn_w hB.1 (by omega) f5 f2 f6
  have hB1 : hp_B D cA A s (hp_mn h) (mn_S (T.setVm vm₁) (cA 18) (cA 13) 6).heap locs := by
    refine ⟨hw1, hB.2.1, hB.2.2.1, fun b hb => ?_, hB.2.2.2.2.1, ⟨by rw [f1]; have := hB.2.2.2.2.2.1; omega, fun x h1 h2 => (f5 x (Nat.lt_of_lt_of_le h1 hB.2.2.2.2.2.1)).trans (hB.2.2.2.2.2.2.1 x h1 h2), hB.2.2.2.2.2.2.2⟩⟩
    by_cases e1 : h.2.2.2.2 ≤ b
    · exact hB.2.2.2.2.1 b (Nat.le_trans hB.2.2.2.2.2.1 (by rw [hB.1.1]; exact e1))
    · refine hB.2.2.2.1 b ?_
      have k1 : (hp_mn h).1 b = h.1 b := by show (if _ then _ else _) = _; rw [if_neg (by omega), if_neg (by omega)]
      rw [← k1]
      exact hb
  obtain ⟨t, a1, b1⟩ := kk _ hB1 _ rfl XF
  refine ⟨t, ?_, b1⟩
  jvm_step X.here [hx, hdg]
  simp only [multianewarray.sem, wp_bind', W.resolveClassAt_links (State.method?_setTop (F0 m pc ls (.int 256 :: .int 6 :: rest)) X.here.top) w1]
  rw [W.popN, if_neg (by decide)]
  refine ⟨F0 m pc ls (.int 256 :: .int 6 :: rest), State.topJava?_setTop' (s := T.setVm vm₁) _ X.here.top, [.int 6, .int 256], rest, rfl, rfl, ?_⟩
  simp only [List.mapM_cons, List.mapM_nil, wp_bind', wp_pure']
  refine mn_make (kO := kO₁) (kI := kI₁) (cI := cA 13) (comp := comp) hkO₁ (by rw [heO]; exact hkindO) hkI₁ (by rw [heI]; exact g3) (by rw [Launch.admits_arrayLengthLimit X.admits]; decide) (by rw [Launch.admits_maxHeapBytes X.admits]; decide) (by show T.heap.size + 7 ≤ _; exact r1) (by show T.slotsUsed + 1542 ≤ _; exact r2) (fun d' acts' => ?_)
  have eS : ((T.setTop (F0 m pc ls (.int 256 :: .int 6 :: rest))).setVm vm₁).setTop { F0 m pc ls (.int 256 :: .int 6 :: rest) with stack := rest } = (T.setVm vm₁).setTop { F0 m pc ls (.int 256 :: .int 6 :: rest) with stack := rest } := by
    show ((T.setVm vm₁).setTop _).setTop _ = _
    rw [State.setTop_setTop]
  rw [eS, mn_S_top]
  simp only [wp_bind', W.mark, W.pushRef, State.topJava?_setTop' _ XF.here.top, Option.some.injEq, exists_eq_left', State.setTop_setTop, State.heap_setTop]
  intro acts
  simp [jvm, XF.here.top]
  rw [hq, ← hB.1.1, ← hTs] at a1
  exact a1
end HPM

section
variable {p : Program} {l : Launch} {e : Env} {R : Room} {s : State} {m : MethodId} {args : Array Value} {below : List Frame} {meth : Method} {c : Code} {H : Heap} {locs : List Loc} {cells slots : Nat} {Q : State → Prop}
variable {cc : ByteArray} {pc nL : Nat} {ls : Array Slot} {rest : List Value} {D : va_G} {cA : Nat → ClassId} {A : Nat → Prop} {a : Nat} {h : Hp}
theorem pf_X6_9 (cx : CallFix p m c cc nL s args tbG RX6) (hB : hp_B D cA A s h H locs) (hnm : meth.name = "<init>") (hka : h.1 a = 7) {b : Nat} (hdg : decode cc pc = .ok (.putfield 9, 3)) (kk : ∀ (H1 : Heap) (locs1 : List Loc), hp_B D cA A s (hp_sr h a 0 (some b)) H1 locs1 → W p l e R s m args below meth c H1 locs1 cells slots Q (F0 m (pc + 3) ls rest)) : W p l e R s m args below meth c H locs cells slots Q (F0 m pc ls (.ref b :: .ref a :: rest)) :=
  hp_putX cx hB (ci := 6) 0 tyX6 tyX6_ok nmX6 rfl inX6 (by decide) rfl (by decide) (Or.inr ⟨rfl, hnm, rfl⟩) qw_121 hka (v := va_rf (some b)) (hp_like_sr h a 0 (some b)) (hp_fs_sr (by decide) rfl) rfl rfl hdg kk
theorem pf_X6_15 (cx : CallFix p m c cc nL s args tbG RX6) (hB : hp_B D cA A s h H locs) (hnm : meth.name = "<init>") (hka : h.1 a = 7) {b : Nat} (hdg : decode cc pc = .ok (.putfield 15, 3)) (kk : ∀ (H1 : Heap) (locs1 : List Loc), hp_B D cA A s (hp_sr h a 1 (some b)) H1 locs1 → W p l e R s m args below meth c H1 locs1 cells slots Q (F0 m (pc + 3) ls rest)) : W p l e R s m args below meth c H locs cells slots Q (F0 m pc ls (.ref b :: .ref a :: rest)) :=
  hp_putX cx hB (ci := 6) 1 tyX6 tyX6_ok nmX6 rfl inX6 (by decide) rfl (by decide) (Or.inr ⟨rfl, hnm, rfl⟩) qw_123 hka (v := va_rf (some b)) (hp_like_sr h a 1 (some b)) (hp_fs_sr (by decide) rfl) rfl rfl hdg kk
theorem pf_X6_28 (cx : CallFix p m c cc nL s args tbG RX6) (hB : hp_B D cA A s h H locs) (hnm : meth.name = "<init>") (hka : h.1 a = 7) {b : Nat} (hdg : decode cc pc = .ok (.putfield 28, 3)) (kk : ∀ (H1 : Heap) (locs1 : List Loc), hp_B D cA A s (hp_sr h a 5 (some b)) H1 locs1 → W p l e R s m args below meth c H1 locs1 cells slots Q (F0 m (pc + 3) ls rest)) : W p l e R s m args below meth c H locs cells slots Q (F0 m pc ls (.ref b :: .ref a :: rest)) :=
  hp_putX cx hB (ci := 6) 5 tyX6 tyX6_ok nmX6 rfl inX6 (by decide) rfl (by decide) (Or.inr ⟨rfl, hnm, rfl⟩) qw_129 hka (v := va_rf (some b)) (hp_like_sr h a 5 (some b)) (hp_fs_sr (by decide) rfl) rfl rfl hdg kk
theorem pf_X6_31 (cx : CallFix p m c cc nL s args tbG RX6) (hB : hp_B D cA A s h H locs) (hnm : meth.name = "<init>") (hka : h.1 a = 7) {b : Nat} (hdg : decode cc pc = .ok (.putfield 31, 3)) (kk : ∀ (H1 : Heap) (locs1 : List Loc), hp_B D cA A s (hp_sr h a 6 (some b)) H1 locs1 → W p l e R s m args below meth c H1 locs1 cells slots Q (F0 m (pc + 3) ls rest)) : W p l e R s m args below meth c H locs cells slots Q (F0 m pc ls (.ref b :: .ref a :: rest)) :=
  hp_putX cx hB (ci := 6) 6 tyX6 tyX6_ok nmX6 rfl inX6 (by decide) rfl (by decide) (Or.inr ⟨rfl, hnm, rfl⟩) qw_130 hka (v := va_rf (some b)) (hp_like_sr h a 6 (some b)) (hp_fs_sr (by decide) rfl) rfl rfl hdg kk
theorem pf_X6_34 (cx : CallFix p m c cc nL s args tbG RX6) (hB : hp_B D cA A s h H locs) (hnm : meth.name = "<init>") (hka : h.1 a = 7) {b : Nat} (hdg : decode cc pc = .ok (.putfield 34, 3)) (kk : ∀ (H1 : Heap) (locs1 : List Loc), hp_B D cA A s (hp_sr h a 7 (some b)) H1 locs1 → W p l e R s m args below meth c H1 locs1 cells slots Q (F0 m (pc + 3) ls rest)) : W p l e R s m args below meth c H locs cells slots Q (F0 m pc ls (.ref b :: .ref a :: rest)) :=
  hp_putX cx hB (ci := 6) 7 tyX6 tyX6_ok nmX6 rfl inX6 (by decide) rfl (by decide) (Or.inr ⟨rfl, hnm, rfl⟩) qw_131 hka (v := va_rf (some b)) (hp_like_sr h a 7 (some b)) (hp_fs_sr (by decide) rfl) rfl rfl hdg kk
theorem pf_X6_39 (cx : CallFix p m c cc nL s args tbG RX6) (hB : hp_B D cA A s h H locs) (hnm : meth.name = "<init>") (hka : h.1 a = 7) {b : Nat} (hdg : decode cc pc = .ok (.putfield 39, 3)) (kk : ∀ (H1 : Heap) (locs1 : List Loc), hp_B D cA A s (hp_sr h a 8 (some b)) H1 locs1 → W p l e R s m args below meth c H1 locs1 cells slots Q (F0 m (pc + 3) ls rest)) : W p l e R s m args below meth c H locs cells slots Q (F0 m pc ls (.ref b :: .ref a :: rest)) :=
  hp_putX cx hB (ci := 6) 8 tyX6 tyX6_ok nmX6 rfl inX6 (by decide) rfl (by decide) (Or.inr ⟨rfl, hnm, rfl⟩) qw_132 hka (v := va_rf (some b)) (hp_like_sr h a 8 (some b)) (hp_fs_sr (by decide) rfl) rfl rfl hdg kk
theorem pf_X6_42 (cx : CallFix p m c cc nL s args tbG RX6) (hB : hp_B D cA A s h H locs) (hnm : meth.name = "<init>") (hka : h.1 a = 7) {b : Nat} (hdg : decode cc pc = .ok (.putfield 42, 3)) (kk : ∀ (H1 : Heap) (locs1 : List Loc), hp_B D cA A s (hp_sr h a 9 (some b)) H1 locs1 → W p l e R s m args below meth c H1 locs1 cells slots Q (F0 m (pc + 3) ls rest)) : W p l e R s m args below meth c H locs cells slots Q (F0 m pc ls (.ref b :: .ref a :: rest)) :=
  hp_putX cx hB (ci := 6) 9 tyX6 tyX6_ok nmX6 rfl inX6 (by decide) rfl (by decide) (Or.inr ⟨rfl, hnm, rfl⟩) qw_133 hka (v := va_rf (some b)) (hp_like_sr h a 9 (some b)) (hp_fs_sr (by decide) rfl) rfl rfl hdg kk
theorem cl_X6_45 {As st0 : List Value} {Qc : Array Value → State → Outcome → State → Prop} (cx : CallFix p m c cc nL s args tbG RX6) (hB : hp_B D cA A s h H locs) (hM : hp_M l yJ7_fill_53178 prog_16_method_103_code 4 none rmJ7_fill_53178 D cA h As Qc) (hR : rmJ7_fill_53178.frames + 1 ≤ R.frames ∧ 8 + (4 + 11) + rmJ7_fill_53178.locals ≤ R.locals) (hn : As.length = 2) (hls : ls.size = nL) (hst : st0 = As.reverse ++ rest) (hW : (rest.map fun v => v.category).sum ≤ 8) (hf : cells + rmJ7_fill_53178.cells ≤ R.cells ∧ slots + rmJ7_fill_53178.slots ≤ R.slots) (hdg : decode cc pc = .ok (.invokestatic 45, 3)) :
    va_Run p l e R s m args below meth c H locs cells slots rmJ7_fill_53178.cells rmJ7_fill_53178.slots (F0 m pc ls st0) rest (Qc As.toArray) (hp_A h) :=
  hp_runS cx hB hM qw_119 qw_117 qw_118 qw_8 (by decide +kernel) hR hn hls hst hW hf hdg
end
abbrev yX6_init : MethodName := ⟨"SpokenMenus$Planner", "<init>", "()V"⟩
theorem dX6_init_0 : decode prog_8_method_1_code 0 = .ok (.aload_n 0, 1) := by decide +kernel
theorem dX6_init_1 : decode prog_8_method_1_code 1 = .ok (.invokespecial 3, 3) := by decide +kernel
theorem dX6_init_4 : decode prog_8_method_1_code 4 = .ok (.aload_n 0, 1) := by decide +kernel
theorem dX6_init_5 : decode prog_8_method_1_code 5 = .ok (.bipush 8, 2) := by decide +kernel
theorem dX6_init_7 : decode prog_8_method_1_code 7 = .ok (.newarray .int, 2) := by decide +kernel
theorem dX6_init_9 : decode prog_8_method_1_code 9 = .ok (.putfield 9, 3) := by decide +kernel
theorem dX6_init_12 : decode prog_8_method_1_code 12 = .ok (.aload_n 0, 1) := by decide +kernel
theorem dX6_init_13 : decode prog_8_method_1_code 13 = .ok (.bipush 8, 2) := by decide +kernel
theorem dX6_init_15 : decode prog_8_method_1_code 15 = .ok (.newarray .int, 2) := by decide +kernel
theorem dX6_init_17 : decode prog_8_method_1_code 17 = .ok (.putfield 15, 3) := by decide +kernel
theorem dX6_init_20 : decode prog_8_method_1_code 20 = .ok (.aload_n 0, 1) := by decide +kernel
theorem dX6_init_21 : decode prog_8_method_1_code 21 = .ok (.iconst 0, 1) := by decide +kernel
theorem dX6_init_22 : decode prog_8_method_1_code 22 = .ok (.putfield 18, 3) := by decide +kernel
theorem dX6_init_25 : decode prog_8_method_1_code 25 = .ok (.aload_n 0, 1) := by decide +kernel
theorem dX6_init_26 : decode prog_8_method_1_code 26 = .ok (.iconst 0, 1) := by decide +kernel
theorem dX6_init_27 : decode prog_8_method_1_code 27 = .ok (.putfield 22, 3) := by decide +kernel
theorem dX6_init_30 : decode prog_8_method_1_code 30 = .ok (.aload_n 0, 1) := by decide +kernel
theorem dX6_init_31 : decode prog_8_method_1_code 31 = .ok (.iconst 0, 1) := by decide +kernel
theorem dX6_init_32 : decode prog_8_method_1_code 32 = .ok (.putfield 25, 3) := by decide +kernel
theorem dX6_init_35 : decode prog_8_method_1_code 35 = .ok (.aload_n 0, 1) := by decide +kernel
theorem dX6_init_36 : decode prog_8_method_1_code 36 = .ok (.sipush 256, 3) := by decide +kernel
theorem dX6_init_39 : decode prog_8_method_1_code 39 = .ok (.newarray .int, 2) := by decide +kernel
theorem dX6_init_41 : decode prog_8_method_1_code 41 = .ok (.putfield 28, 3) := by decide +kernel
theorem dX6_init_44 : decode prog_8_method_1_code 44 = .ok (.aload_n 0, 1) := by decide +kernel
theorem dX6_init_45 : decode prog_8_method_1_code 45 = .ok (.sipush 256, 3) := by decide +kernel
theorem dX6_init_48 : decode prog_8_method_1_code 48 = .ok (.newarray .int, 2) := by decide +kernel
theorem dX6_init_50 : decode prog_8_method_1_code 50 = .ok (.putfield 31, 3) := by decide +kernel
theorem dX6_init_53 : decode prog_8_method_1_code 53 = .ok (.aload_n 0, 1) := by decide +kernel
theorem dX6_init_54 : decode prog_8_method_1_code 54 = .ok (.sipush 256, 3) := by decide +kernel
theorem dX6_init_57 : decode prog_8_method_1_code 57 = .ok (.newarray .int, 2) := by decide +kernel
theorem dX6_init_59 : decode prog_8_method_1_code 59 = .ok (.putfield 34, 3) := by decide +kernel
theorem dX6_init_62 : decode prog_8_method_1_code 62 = .ok (.aload_n 0, 1) := by decide +kernel
theorem dX6_init_63 : decode prog_8_method_1_code 63 = .ok (.bipush 6, 2) := by decide +kernel
theorem dX6_init_65 : decode prog_8_method_1_code 65 = .ok (.sipush 256, 3) := by decide +kernel
theorem dX6_init_68 : decode prog_8_method_1_code 68 = .ok (.multianewarray 37 2, 4) := by decide +kernel
theorem dX6_init_72 : decode prog_8_method_1_code 72 = .ok (.putfield 39, 3) := by decide +kernel
theorem dX6_init_75 : decode prog_8_method_1_code 75 = .ok (.aload_n 0, 1) := by decide +kernel
theorem dX6_init_76 : decode prog_8_method_1_code 76 = .ok (.bipush 6, 2) := by decide +kernel
theorem dX6_init_78 : decode prog_8_method_1_code 78 = .ok (.sipush 256, 3) := by decide +kernel
theorem dX6_init_81 : decode prog_8_method_1_code 81 = .ok (.multianewarray 37 2, 4) := by decide +kernel
theorem dX6_init_85 : decode prog_8_method_1_code 85 = .ok (.putfield 42, 3) := by decide +kernel
theorem dX6_init_88 : decode prog_8_method_1_code 88 = .ok (.aload_n 0, 1) := by decide +kernel
theorem dX6_init_89 : decode prog_8_method_1_code 89 = .ok (.getfield 9, 3) := by decide +kernel
theorem dX6_init_92 : decode prog_8_method_1_code 92 = .ok (.iconst 1, 1) := by decide +kernel
theorem dX6_init_93 : decode prog_8_method_1_code 93 = .ok (.invokestatic 45, 3) := by decide +kernel
theorem dX6_init_96 : decode prog_8_method_1_code 96 = .ok (.aload_n 0, 1) := by decide +kernel
theorem dX6_init_97 : decode prog_8_method_1_code 97 = .ok (.getfield 39, 3) := by decide +kernel
theorem dX6_init_100 : decode prog_8_method_1_code 100 = .ok (.iconst 0, 1) := by decide +kernel
theorem dX6_init_101 : decode prog_8_method_1_code 101 = .ok (.aaload, 1) := by decide +kernel
theorem dX6_init_102 : decode prog_8_method_1_code 102 = .ok (.ldc 51, 2) := by decide +kernel
theorem dX6_init_104 : decode prog_8_method_1_code 104 = .ok (.invokestatic 45, 3) := by decide +kernel
theorem dX6_init_107 : decode prog_8_method_1_code 107 = .ok (.aload_n 0, 1) := by decide +kernel
theorem dX6_init_108 : decode prog_8_method_1_code 108 = .ok (.getfield 39, 3) := by decide +kernel
theorem dX6_init_111 : decode prog_8_method_1_code 111 = .ok (.iconst 0, 1) := by decide +kernel
theorem dX6_init_112 : decode prog_8_method_1_code 112 = .ok (.aaload, 1) := by decide +kernel
theorem dX6_init_113 : decode prog_8_method_1_code 113 = .ok (.iconst 0, 1) := by decide +kernel
theorem dX6_init_114 : decode prog_8_method_1_code 114 = .ok (.iconst 0, 1) := by decide +kernel
theorem dX6_init_115 : decode prog_8_method_1_code 115 = .ok (.iastore, 1) := by decide +kernel
theorem dX6_init_116 : decode prog_8_method_1_code 116 = .ok (.return_, 1) := by decide +kernel
abbrev rmX6_init : Room := { frames := 1, cells := 19, slots := 3868, locals := 23 }
def fX6_init  (t0 : Nat) (h : Hp) : Option (Unit × Hp) :=
  nm h.2.2.2.2 fun a1 =>
  nm (hp_nw h 13 8) fun g2 =>
  gk (g2.1 t0) 7 <|
  nm (hp_sr g2 t0 0 (some a1)) fun g5 =>
  nm g5.2.2.2.2 fun a6 =>
  nm (hp_nw g5 13 8) fun g7 =>
  gk (g7.1 t0) 7 <|
  nm (hp_sr g7 t0 1 (some a6)) fun g10 =>
  nm (hp_si g10 t0 2 0) fun g12 =>
  nm (hp_si g12 t0 3 0) fun g14 =>
  nm (hp_si g14 t0 4 0) fun g16 =>
  nm g16.2.2.2.2 fun a17 =>
  nm (hp_nw g16 13 256) fun g18 =>
  gk (g18.1 t0) 7 <|
  nm (hp_sr g18 t0 5 (some a17)) fun g21 =>
  nm g21.2.2.2.2 fun a22 =>
  nm (hp_nw g21 13 256) fun g23 =>
  gk (g23.1 t0) 7 <|
  nm (hp_sr g23 t0 6 (some a22)) fun g26 =>
  nm g26.2.2.2.2 fun a27 =>
  nm (hp_nw g26 13 256) fun g28 =>
  gk (g28.1 t0) 7 <|
  nm (hp_sr g28 t0 7 (some a27)) fun g31 =>
  nm g31.2.2.2.2 fun a32 =>
  nm (hp_mn g31) fun g33 =>
  gk (g33.1 t0) 7 <|
  nm (hp_sr g33 t0 8 (some a32)) fun g36 =>
  nm g36.2.2.2.2 fun a37 =>
  nm (hp_mn g36) fun g38 =>
  gk (g38.1 t0) 7 <|
  nm (hp_sr g38 t0 9 (some a37)) fun g41 =>
  bd (g41.2.2.2.1 t0 0) fun a43 =>
  b2 (fJ7_fill_53178 (some a43) 1 g41) fun _ g45 =>
  gk (g45.1 t0) 7 <|
  bd (g45.2.2.2.1 t0 8) fun a50 =>
  gk (g45.1 a50) 18 <|
  gd (ix 0 (g45.2.1 a50)) <|
  bd (g45.2.2.2.1 a50 (Int32.toNatClampNeg 0)) fun a54 =>
  b2 (fJ7_fill_53178 (some a54) 500000000 g45) fun _ g56 =>
  gk (g56.1 t0) 7 <|
  bd (g56.2.2.2.1 t0 8) fun a61 =>
  gk (g56.1 a61) 18 <|
  gd (ix 0 (g56.2.1 a61)) <|
  bd (g56.2.2.2.1 a61 (Int32.toNatClampNeg 0)) fun a65 =>
  gk (g56.1 a65) 13 <|
  gd (ix 0 (g56.2.1 a65)) <|
  nm (hp_si g56 a65 (Int32.toNatClampNeg 0) 0) fun g69 =>
  some ((), g69)
section
variable {p : Program} {l : Launch} {e : Env} {s : State} {m : MethodId} {args : Array Value} {below : List Frame} {meth : Method} {c : Code} {D : va_G} {cA : Nat → ClassId} {h0 h9 : Hp}
set_option maxHeartbeats 4000000 in
set_option maxRecDepth 100000 in
theorem tX6_init_0  (cx : CallFix p m c prog_8_method_1_code 1 s args tbG RX6) (hr : meth.sig.returnType = none) (hlk : meth.locks = false) (hnm : meth.name = "<init>")  (t0 : Nat) (h : Hp) (H : Heap) (locs : List Loc) (ls : Array Slot) (hB : hp_B D cA (hp_A h0) s h H locs) (hl : lv_has ls 1 [(0, .ref t0)]) (hf : fX6_init  t0 h = some ((), h9)) : W p l e rmX6_init s m args below meth c H locs 0 0 (MQ below (hp_Qv D cA h0 h9) args s 19 3868 (hp_A h0)) (F0 m 0 ls []) := by
  obtain ⟨hx, hb, -⟩ := id cx
  unfold fX6_init at hf
  refine lv_aload_n hx hb dX6_init_0 rfl (lv_at hl 0 rfl) ?_
  refine W.objInit hx hb cx.2.2.2.1 (cx.2.2.2.2 _ (tb_in qw_114 rfl)) (cx.2.2.2.2 _ (tb_in qw_22 rfl)) (cx.2.2.2.2 _ (tb_in qw_23 rfl)) rfl (by rw [cx.2.2.1]; exact hl.1) rfl dX6_init_1 (Nat.le_of_ble_eq_true rfl) (Nat.le_of_ble_eq_true rfl) ?_
  refine W.eq (g2 := F0 m 4 ls []) rfl ?_
  refine lv_aload_n hx hb dX6_init_4 rfl (lv_at hl 0 rfl) ?_
  refine lv_bipush (v := 8) hx hb dX6_init_5 (by decide) ?_
  obtain ⟨a1, ea1, hf⟩ := nm_ok hf
  obtain ⟨g2, eg2, hf⟩ := nm_ok hf
  refine hp_newa cx hB 13 (N' := 8) (ty := .int) rfl (by decide) rfl (fun h9 => h9) rfl qw_54 ea1 (by decide) (by decide) (by decide) (Nat.le_of_ble_eq_true rfl) (Nat.le_of_ble_eq_true rfl) dX6_init_7 (fun H hB => ?_)
  rw [← eg2] at hB
  have k3 : g2.1 a1 = 13 := by rw [eg2, ea1]; exact va_up_self _ _ _
  obtain ⟨k4, hf⟩ := gk_ok hf
  obtain ⟨g5, eg5, hf⟩ := nm_ok hf
  refine pf_X6_9 cx hB hnm k4 dX6_init_9 (fun H locs hB => ?_)
  rw [← eg5] at hB
  refine lv_aload_n hx hb dX6_init_12 rfl (lv_at hl 0 rfl) ?_
  refine lv_bipush (v := 8) hx hb dX6_init_13 (by decide) ?_
  obtain ⟨a6, ea6, hf⟩ := nm_ok hf
  obtain ⟨g7, eg7, hf⟩ := nm_ok hf
  refine hp_newa cx hB 13 (N' := 8) (ty := .int) rfl (by decide) rfl (fun h9 => h9) rfl qw_54 ea6 (by decide) (by decide) (by decide) (Nat.le_of_ble_eq_true rfl) (Nat.le_of_ble_eq_true rfl) dX6_init_15 (fun H hB => ?_)
  rw [← eg7] at hB
  have k8 : g7.1 a6 = 13 := by rw [eg7, ea6]; exact va_up_self _ _ _
  obtain ⟨k9, hf⟩ := gk_ok hf
  obtain ⟨g10, eg10, hf⟩ := nm_ok hf
  refine pf_X6_15 cx hB hnm k9 dX6_init_17 (fun H locs hB => ?_)
  rw [← eg10] at hB
  refine lv_aload_n hx hb dX6_init_20 rfl (lv_at hl 0 rfl) ?_
  refine lv_iconst (v := 0) hx hb dX6_init_21 (by decide) ?_
  have k11 : g10.1 t0 = 7 := by rw [eg10]; exact k9
  obtain ⟨g12, eg12, hf⟩ := nm_ok hf
  refine pf_X6_18 cx hB k11 dX6_init_22 (fun H locs hB => ?_)
  rw [← eg12] at hB
  refine lv_aload_n hx hb dX6_init_25 rfl (lv_at hl 0 rfl) ?_
  refine lv_iconst (v := 0) hx hb dX6_init_26 (by decide) ?_
  have k13 : g12.1 t0 = 7 := by rw [eg12]; exact k11
  obtain ⟨g14, eg14, hf⟩ := nm_ok hf
  refine pf_X6_22 cx hB k13 dX6_init_27 (fun H locs hB => ?_)
  rw [← eg14] at hB
  refine lv_aload_n hx hb dX6_init_30 rfl (lv_at hl 0 rfl) ?_
  refine lv_iconst (v := 0) hx hb dX6_init_31 (by decide) ?_
  have k15 : g14.1 t0 = 7 := by rw [eg14]; exact k13
  obtain ⟨g16, eg16, hf⟩ := nm_ok hf
  refine pf_X6_25 cx hB k15 dX6_init_32 (fun H locs hB => ?_)
  rw [← eg16] at hB
  refine lv_aload_n hx hb dX6_init_35 rfl (lv_at hl 0 rfl) ?_
  refine lv_sipush (v := 256) hx hb dX6_init_36 (by decide) ?_
  obtain ⟨a17, ea17, hf⟩ := nm_ok hf
  obtain ⟨g18, eg18, hf⟩ := nm_ok hf
  refine hp_newa cx hB 13 (N' := 256) (ty := .int) rfl (by decide) rfl (fun h9 => h9) rfl qw_54 ea17 (by decide) (by decide) (by decide) (Nat.le_of_ble_eq_true rfl) (Nat.le_of_ble_eq_true rfl) dX6_init_39 (fun H hB => ?_)
  rw [← eg18] at hB
  have k19 : g18.1 a17 = 13 := by rw [eg18, ea17]; exact va_up_self _ _ _
  obtain ⟨k20, hf⟩ := gk_ok hf
  obtain ⟨g21, eg21, hf⟩ := nm_ok hf
  refine pf_X6_28 cx hB hnm k20 dX6_init_41 (fun H locs hB => ?_)
  rw [← eg21] at hB
  refine lv_aload_n hx hb dX6_init_44 rfl (lv_at hl 0 rfl) ?_
  refine lv_sipush (v := 256) hx hb dX6_init_45 (by decide) ?_
  obtain ⟨a22, ea22, hf⟩ := nm_ok hf
  obtain ⟨g23, eg23, hf⟩ := nm_ok hf
  refine hp_newa cx hB 13 (N' := 256) (ty := .int) rfl (by decide) rfl (fun h9 => h9) rfl qw_54 ea22 (by decide) (by decide) (by decide) (Nat.le_of_ble_eq_true rfl) (Nat.le_of_ble_eq_true rfl) dX6_init_48 (fun H hB => ?_)
  rw [← eg23] at hB
  have k24 : g23.1 a22 = 13 := by rw [eg23, ea22]; exact va_up_self _ _ _
  obtain ⟨k25, hf⟩ := gk_ok hf
  obtain ⟨g26, eg26, hf⟩ := nm_ok hf
  refine pf_X6_31 cx hB hnm k25 dX6_init_50 (fun H locs hB => ?_)
  rw [← eg26] at hB
  refine lv_aload_n hx hb dX6_init_53 rfl (lv_at hl 0 rfl) ?_
  refine lv_sipush (v := 256) hx hb dX6_init_54 (by decide) ?_
  obtain ⟨a27, ea27, hf⟩ := nm_ok hf
  obtain ⟨g28, eg28, hf⟩ := nm_ok hf
  refine hp_newa cx hB 13 (N' := 256) (ty := .int) rfl (by decide) rfl (fun h9 => h9) rfl qw_54 ea27 (by decide) (by decide) (by decide) (Nat.le_of_ble_eq_true rfl) (Nat.le_of_ble_eq_true rfl) dX6_init_57 (fun H hB => ?_)
  rw [← eg28] at hB
  have k29 : g28.1 a27 = 13 := by rw [eg28, ea27]; exact va_up_self _ _ _
  obtain ⟨k30, hf⟩ := gk_ok hf
  obtain ⟨g31, eg31, hf⟩ := nm_ok hf
  refine pf_X6_34 cx hB hnm k30 dX6_init_59 (fun H locs hB => ?_)
  rw [← eg31] at hB
  refine lv_aload_n hx hb dX6_init_62 rfl (lv_at hl 0 rfl) ?_
  refine lv_bipush (v := 6) hx hb dX6_init_63 (by decide) ?_
  refine lv_sipush (v := 256) hx hb dX6_init_65 (by decide) ?_
  obtain ⟨a32, ea32, hf⟩ := nm_ok hf
  obtain ⟨g33, eg33, hf⟩ := nm_ok hf
  refine hp_mna cx hB qw_115 qw_54 ea32 (Nat.le_of_ble_eq_true rfl) (Nat.le_of_ble_eq_true rfl) dX6_init_68 (fun H hB => ?_)
  rw [← eg33] at hB
  have k34 : g33.1 a32 = 18 := by rw [eg33, ea32]; exact if_pos rfl
  obtain ⟨k35, hf⟩ := gk_ok hf
  obtain ⟨g36, eg36, hf⟩ := nm_ok hf
  refine pf_X6_39 cx hB hnm k35 dX6_init_72 (fun H locs hB => ?_)
  rw [← eg36] at hB
  refine lv_aload_n hx hb dX6_init_75 rfl (lv_at hl 0 rfl) ?_
  refine lv_bipush (v := 6) hx hb dX6_init_76 (by decide) ?_
  refine lv_sipush (v := 256) hx hb dX6_init_78 (by decide) ?_
  obtain ⟨a37, ea37, hf⟩ := nm_ok hf
  obtain ⟨g38, eg38, hf⟩ := nm_ok hf
  refine hp_mna cx hB qw_115 qw_54 ea37 (Nat.le_of_ble_eq_true rfl) (Nat.le_of_ble_eq_true rfl) dX6_init_81 (fun H hB => ?_)
  rw [← eg38] at hB
  have k39 : g38.1 a37 = 18 := by rw [eg38, ea37]; exact if_pos rfl
  obtain ⟨k40, hf⟩ := gk_ok hf
  obtain ⟨g41, eg41, hf⟩ := nm_ok hf
  refine pf_X6_42 cx hB hnm k40 dX6_init_85 (fun H locs hB => ?_)
  rw [← eg41] at hB
  refine lv_aload_n hx hb dX6_init_88 rfl (lv_at hl 0 rfl) ?_
  have k42 : g41.1 t0 = 7 := by rw [eg41]; exact k40
  obtain ⟨a43, q44, hf⟩ := bd_ok hf
  refine gf_X6_9 cx hB k42 q44 dX6_init_89 ?_
  refine lv_iconst (v := 1) hx hb dX6_init_92 (by decide) ?_
  obtain ⟨uu, g45, m46, hf⟩ := b2_ok hf
  refine hp_cV0 (cl_X6_45 cx hB (cJ7_fill_53178 l D cA (some a43) 1 g41 _ g45 m46) ⟨Nat.le_of_ble_eq_true rfl, Nat.le_of_ble_eq_true rfl⟩ rfl hl.1 rfl (Nat.le_of_ble_eq_true rfl) ⟨Nat.le_of_ble_eq_true rfl, Nat.le_of_ble_eq_true rfl⟩ dX6_init_93) rfl rfl hB (fun H locs hB => ?_)
  refine lv_aload_n hx hb dX6_init_96 rfl (lv_at hl 0 rfl) ?_
  obtain ⟨k49, hf⟩ := gk_ok hf
  obtain ⟨a50, q51, hf⟩ := bd_ok hf
  refine gf_X6_39 cx hB k49 q51 dX6_init_97 ?_
  refine lv_iconst (v := 0) hx hb dX6_init_100 (by decide) ?_
  obtain ⟨k52, hf⟩ := gk_ok hf
  obtain ⟨j53, hf⟩ := gd_ok hf
  obtain ⟨a54, q55, hf⟩ := bd_ok hf
  refine hp_aald cx hB 18 (.array .int) (by decide) rfl rfl k52 j53 (o := some a54) q55.symm dX6_init_101 ?_
  refine lv_ldc (v := 500000000) hx hb cx.2.2.2.1 (cx.2.2.2.2 _ (tb_in qw_120 rfl)) dX6_init_102 ?_
  obtain ⟨uu, g56, m57, hf⟩ := b2_ok hf
  refine hp_cV0 (cl_X6_45 cx hB (cJ7_fill_53178 l D cA (some a54) 500000000 g45 _ g56 m57) ⟨Nat.le_of_ble_eq_true rfl, Nat.le_of_ble_eq_true rfl⟩ rfl hl.1 rfl (Nat.le_of_ble_eq_true rfl) ⟨Nat.le_of_ble_eq_true rfl, Nat.le_of_ble_eq_true rfl⟩ dX6_init_104) rfl rfl hB (fun H locs hB => ?_)
  refine lv_aload_n hx hb dX6_init_107 rfl (lv_at hl 0 rfl) ?_
  obtain ⟨k60, hf⟩ := gk_ok hf
  obtain ⟨a61, q62, hf⟩ := bd_ok hf
  refine gf_X6_39 cx hB k60 q62 dX6_init_108 ?_
  refine lv_iconst (v := 0) hx hb dX6_init_111 (by decide) ?_
  obtain ⟨k63, hf⟩ := gk_ok hf
  obtain ⟨j64, hf⟩ := gd_ok hf
  obtain ⟨a65, q66, hf⟩ := bd_ok hf
  refine hp_aald cx hB 18 (.array .int) (by decide) rfl rfl k63 j64 (o := some a65) q66.symm dX6_init_112 ?_
  refine lv_iconst (v := 0) hx hb dX6_init_113 (by decide) ?_
  refine lv_iconst (v := 0) hx hb dX6_init_114 (by decide) ?_
  obtain ⟨k67, hf⟩ := gk_ok hf
  obtain ⟨j68, hf⟩ := gd_ok hf
  obtain ⟨g69, eg69, hf⟩ := nm_ok hf
  refine hp_iast cx hB k67 j68 dX6_init_115 (fun H locs hB => ?_)
  rw [← eg69] at hB
  obtain ⟨-, rfl⟩ := rt_ok hf
  exact hp_vret cx hB hr hlk (Nat.le_of_ble_eq_true rfl) (Nat.le_of_ble_eq_true rfl) dX6_init_116
end
set_option maxHeartbeats 4000000 in
set_option maxRecDepth 100000 in
theorem cX6_init (l : Launch) (D : va_G) (cA : Nat → ClassId) (t0 : Nat) (h : Hp) (_u : Unit) (h9 : Hp) (hf : fX6_init t0 h = some (_u, h9)) : hp_M l yX6_init prog_8_method_1_code 1 none rmX6_init D cA h [.ref t0] (hp_Qv D cA h h9) := by
  refine Met.ofW (cc := prog_8_method_1_code) (maxL := 1) (ret := none) (by decide) rfl ?_
  intro p e s m args below meth c s₁ B hml hv
  obtain ⟨rfl, hU⟩ := hv
  have hts := atoms_spec (ws := Cond.code yX6_init prog_8_method_1_code 1 none :: tbG) B.pre
  have hl := lv_entry ([.ref t0]) (n := 1) (Nat.le_of_ble_eq_true rfl)
  rw [lg_entry_eq]
  generalize (lg_sl ([.ref t0]) ++ List.replicate (1 - (lg_sl ([.ref t0])).length) Slot.unset).toArray = ls at hl ⊢
  exact tX6_init_0 ⟨B.exec, B.bytes, hml, findClass_of_methodNamed B.named, fun w hw => hts w (List.mem_cons_of_mem _ hw)⟩ B.returns B.notSynchronized ((name_of_methodNamed B.named B.method).1) t0 h _ _ _ (hp_B.entry hU) hl hf
section
variable {p : Program} {l : Launch} {e : Env} {R : Room} {s : State} {m : MethodId} {args : Array Value} {below : List Frame} {meth : Method} {c : Code} {H : Heap} {locs : List Loc} {cells slots : Nat} {Q : State → Prop}
variable {cc : ByteArray} {pc nL : Nat} {ls : Array Slot} {rest : List Value} {D : va_G} {cA : Nat → ClassId} {A : Nat → Prop} {a : Nat} {h : Hp}
theorem cl_X10_9 {As st0 : List Value} {b : Nat} {Qc : Array Value → State → Outcome → State → Prop} (cx : CallFix p m c cc nL s args tbG RX10) (hB : hp_B D cA A s h H locs) (hM : hp_M l yX2_init prog_4_method_1_code 1 none rmX2_init D cA h (.ref b :: As) Qc) (hR : rmX2_init.frames + 1 ≤ R.frames ∧ 8 + (1 + 11) + rmX2_init.locals ≤ R.locals) (hn : As.length = 0) (hls : ls.size = nL) (hst : st0 = As.reverse ++ .ref b :: rest) (hW : (rest.map fun v => v.category).sum ≤ 8) (hf : cells + rmX2_init.cells ≤ R.cells ∧ slots + rmX2_init.slots ≤ R.slots) (hdg : decode cc pc = .ok (.invokespecial 9, 3)) :
    va_Run p l e R s m args below meth c H locs cells slots rmX2_init.cells rmX2_init.slots (F0 m pc ls st0) rest (Qc (Value.ref b :: As).toArray) (hp_A h) :=
  hp_runIN (host := "SpokenMenus") cx hB hM qw_28 (by decide +kernel) qw_27 qw_2 rfl (by decide +kernel) hR hn hls hst hW hf hdg
theorem pf_X10_10 (cx : CallFix p m c cc nL s args tbG RX10) (hB : hp_B D cA A s h H locs) (hnm : meth.name = "<init>") (hka : h.1 a = 11) {b : Nat} (hdg : decode cc pc = .ok (.putfield 10, 3)) (kk : ∀ (H1 : Heap) (locs1 : List Loc), hp_B D cA A s (hp_sr h a 0 (some b)) H1 locs1 → W p l e R s m args below meth c H1 locs1 cells slots Q (F0 m (pc + 3) ls rest)) : W p l e R s m args below meth c H locs cells slots Q (F0 m pc ls (.ref b :: .ref a :: rest)) :=
  hp_putX cx hB (ci := 10) 0 tyX10 tyX10_ok nmX10 rfl inX10 (by decide) rfl (by decide) (Or.inr ⟨rfl, hnm, rfl⟩) qw_200 hka (v := va_rf (some b)) (hp_like_sr h a 0 (some b)) (hp_fs_sr (by decide) rfl) rfl rfl hdg kk
theorem cl_X10_18 {As st0 : List Value} {b : Nat} {Qc : Array Value → State → Outcome → State → Prop} (cx : CallFix p m c cc nL s args tbG RX10) (hB : hp_B D cA A s h H locs) (hM : hp_M l yX9_init prog_11_method_1_code 1 none rmX9_init D cA h (.ref b :: As) Qc) (hR : rmX9_init.frames + 1 ≤ R.frames ∧ 8 + (1 + 11) + rmX9_init.locals ≤ R.locals) (hn : As.length = 0) (hls : ls.size = nL) (hst : st0 = As.reverse ++ .ref b :: rest) (hW : (rest.map fun v => v.category).sum ≤ 8) (hf : cells + rmX9_init.cells ≤ R.cells ∧ slots + rmX9_init.slots ≤ R.slots) (hdg : decode cc pc = .ok (.invokespecial 18, 3)) :
    va_Run p l e R s m args below meth c H locs cells slots rmX9_init.cells rmX9_init.slots (F0 m pc ls st0) rest (Qc (Value.ref b :: As).toArray) (hp_A h) :=
  hp_runIN (host := "SpokenMenus") cx hB hM qw_48 (by decide +kernel) qw_47 qw_3 rfl (by decide +kernel) hR hn hls hst hW hf hdg
theorem pf_X10_19 (cx : CallFix p m c cc nL s args tbG RX10) (hB : hp_B D cA A s h H locs) (hnm : meth.name = "<init>") (hka : h.1 a = 11) {b : Nat} (hdg : decode cc pc = .ok (.putfield 19, 3)) (kk : ∀ (H1 : Heap) (locs1 : List Loc), hp_B D cA A s (hp_sr h a 1 (some b)) H1 locs1 → W p l e R s m args below meth c H1 locs1 cells slots Q (F0 m (pc + 3) ls rest)) : W p l e R s m args below meth c H locs cells slots Q (F0 m pc ls (.ref b :: .ref a :: rest)) :=
  hp_putX cx hB (ci := 10) 1 tyX10 tyX10_ok nmX10 rfl inX10 (by decide) rfl (by decide) (Or.inr ⟨rfl, hnm, rfl⟩) qw_201 hka (v := va_rf (some b)) (hp_like_sr h a 1 (some b)) (hp_fs_sr (by decide) rfl) rfl rfl hdg kk
theorem cl_X10_25 {As st0 : List Value} {b : Nat} {Qc : Array Value → State → Outcome → State → Prop} (cx : CallFix p m c cc nL s args tbG RX10) (hB : hp_B D cA A s h H locs) (hM : hp_M l yX7_init prog_9_method_1_code 1 none rmX7_init D cA h (.ref b :: As) Qc) (hR : rmX7_init.frames + 1 ≤ R.frames ∧ 8 + (1 + 11) + rmX7_init.locals ≤ R.locals) (hn : As.length = 0) (hls : ls.size = nL) (hst : st0 = As.reverse ++ .ref b :: rest) (hW : (rest.map fun v => v.category).sum ≤ 8) (hf : cells + rmX7_init.cells ≤ R.cells ∧ slots + rmX7_init.slots ≤ R.slots) (hdg : decode cc pc = .ok (.invokespecial 25, 3)) :
    va_Run p l e R s m args below meth c H locs cells slots rmX7_init.cells rmX7_init.slots (F0 m pc ls st0) rest (Qc (Value.ref b :: As).toArray) (hp_A h) :=
  hp_runIN (host := "SpokenMenus") cx hB hM qw_59 (by decide +kernel) qw_58 qw_4 rfl (by decide +kernel) hR hn hls hst hW hf hdg
theorem pf_X10_26 (cx : CallFix p m c cc nL s args tbG RX10) (hB : hp_B D cA A s h H locs) (hnm : meth.name = "<init>") (hka : h.1 a = 11) {b : Nat} (hdg : decode cc pc = .ok (.putfield 26, 3)) (kk : ∀ (H1 : Heap) (locs1 : List Loc), hp_B D cA A s (hp_sr h a 2 (some b)) H1 locs1 → W p l e R s m args below meth c H1 locs1 cells slots Q (F0 m (pc + 3) ls rest)) : W p l e R s m args below meth c H locs cells slots Q (F0 m pc ls (.ref b :: .ref a :: rest)) :=
  hp_putX cx hB (ci := 10) 2 tyX10 tyX10_ok nmX10 rfl inX10 (by decide) rfl (by decide) (Or.inr ⟨rfl, hnm, rfl⟩) qw_202 hka (v := va_rf (some b)) (hp_like_sr h a 2 (some b)) (hp_fs_sr (by decide) rfl) rfl rfl hdg kk
theorem cl_X10_32 {As st0 : List Value} {b : Nat} {Qc : Array Value → State → Outcome → State → Prop} (cx : CallFix p m c cc nL s args tbG RX10) (hB : hp_B D cA A s h H locs) (hM : hp_M l yX1_init prog_3_method_1_code 1 none rmX1_init D cA h (.ref b :: As) Qc) (hR : rmX1_init.frames + 1 ≤ R.frames ∧ 8 + (1 + 11) + rmX1_init.locals ≤ R.locals) (hn : As.length = 0) (hls : ls.size = nL) (hst : st0 = As.reverse ++ .ref b :: rest) (hW : (rest.map fun v => v.category).sum ≤ 8) (hf : cells + rmX1_init.cells ≤ R.cells ∧ slots + rmX1_init.slots ≤ R.slots) (hdg : decode cc pc = .ok (.invokespecial 32, 3)) :
    va_Run p l e R s m args below meth c H locs cells slots rmX1_init.cells rmX1_init.slots (F0 m pc ls st0) rest (Qc (Value.ref b :: As).toArray) (hp_A h) :=
  hp_runIN (host := "SpokenMenus") cx hB hM qw_73 (by decide +kernel) qw_72 qw_5 rfl (by decide +kernel) hR hn hls hst hW hf hdg
theorem pf_X10_33 (cx : CallFix p m c cc nL s args tbG RX10) (hB : hp_B D cA A s h H locs) (hnm : meth.name = "<init>") (hka : h.1 a = 11) {b : Nat} (hdg : decode cc pc = .ok (.putfield 33, 3)) (kk : ∀ (H1 : Heap) (locs1 : List Loc), hp_B D cA A s (hp_sr h a 3 (some b)) H1 locs1 → W p l e R s m args below meth c H1 locs1 cells slots Q (F0 m (pc + 3) ls rest)) : W p l e R s m args below meth c H locs cells slots Q (F0 m pc ls (.ref b :: .ref a :: rest)) :=
  hp_putX cx hB (ci := 10) 3 tyX10 tyX10_ok nmX10 rfl inX10 (by decide) rfl (by decide) (Or.inr ⟨rfl, hnm, rfl⟩) qw_203 hka (v := va_rf (some b)) (hp_like_sr h a 3 (some b)) (hp_fs_sr (by decide) rfl) rfl rfl hdg kk
theorem cl_X10_39 {As st0 : List Value} {b : Nat} {Qc : Array Value → State → Outcome → State → Prop} (cx : CallFix p m c cc nL s args tbG RX10) (hB : hp_B D cA A s h H locs) (hM : hp_M l yX4_init prog_6_method_1_code 1 none rmX4_init D cA h (.ref b :: As) Qc) (hR : rmX4_init.frames + 1 ≤ R.frames ∧ 8 + (1 + 11) + rmX4_init.locals ≤ R.locals) (hn : As.length = 0) (hls : ls.size = nL) (hst : st0 = As.reverse ++ .ref b :: rest) (hW : (rest.map fun v => v.category).sum ≤ 8) (hf : cells + rmX4_init.cells ≤ R.cells ∧ slots + rmX4_init.slots ≤ R.slots) (hdg : decode cc pc = .ok (.invokespecial 39, 3)) :
    va_Run p l e R s m args below meth c H locs cells slots rmX4_init.cells rmX4_init.slots (F0 m pc ls st0) rest (Qc (Value.ref b :: As).toArray) (hp_A h) :=
  hp_runIN (host := "SpokenMenus") cx hB hM qw_94 (by decide +kernel) qw_93 qw_6 rfl (by decide +kernel) hR hn hls hst hW hf hdg
theorem pf_X10_40 (cx : CallFix p m c cc nL s args tbG RX10) (hB : hp_B D cA A s h H locs) (hnm : meth.name = "<init>") (hka : h.1 a = 11) {b : Nat} (hdg : decode cc pc = .ok (.putfield 40, 3)) (kk : ∀ (H1 : Heap) (locs1 : List Loc), hp_B D cA A s (hp_sr h a 4 (some b)) H1 locs1 → W p l e R s m args below meth c H1 locs1 cells slots Q (F0 m (pc + 3) ls rest)) : W p l e R s m args below meth c H locs cells slots Q (F0 m pc ls (.ref b :: .ref a :: rest)) :=
  hp_putX cx hB (ci := 10) 4 tyX10 tyX10_ok nmX10 rfl inX10 (by decide) rfl (by decide) (Or.inr ⟨rfl, hnm, rfl⟩) qw_204 hka (v := va_rf (some b)) (hp_like_sr h a 4 (some b)) (hp_fs_sr (by decide) rfl) rfl rfl hdg kk
theorem cl_X10_46 {As st0 : List Value} {b : Nat} {Qc : Array Value → State → Outcome → State → Prop} (cx : CallFix p m c cc nL s args tbG RX10) (hB : hp_B D cA A s h H locs) (hM : hp_M l yX6_init prog_8_method_1_code 1 none rmX6_init D cA h (.ref b :: As) Qc) (hR : rmX6_init.frames + 1 ≤ R.frames ∧ 8 + (1 + 11) + rmX6_init.locals ≤ R.locals) (hn : As.length = 0) (hls : ls.size = nL) (hst : st0 = As.reverse ++ .ref b :: rest) (hW : (rest.map fun v => v.category).sum ≤ 8) (hf : cells + rmX6_init.cells ≤ R.cells ∧ slots + rmX6_init.slots ≤ R.slots) (hdg : decode cc pc = .ok (.invokespecial 46, 3)) :
    va_Run p l e R s m args below meth c H locs cells slots rmX6_init.cells rmX6_init.slots (F0 m pc ls st0) rest (Qc (Value.ref b :: As).toArray) (hp_A h) :=
  hp_runI cx hB hM qw_113 qw_111 qw_112 qw_7 rfl (by decide +kernel) hR hn hls hst hW hf hdg
theorem pf_X10_47 (cx : CallFix p m c cc nL s args tbG RX10) (hB : hp_B D cA A s h H locs) (hnm : meth.name = "<init>") (hka : h.1 a = 11) {b : Nat} (hdg : decode cc pc = .ok (.putfield 47, 3)) (kk : ∀ (H1 : Heap) (locs1 : List Loc), hp_B D cA A s (hp_sr h a 5 (some b)) H1 locs1 → W p l e R s m args below meth c H1 locs1 cells slots Q (F0 m (pc + 3) ls rest)) : W p l e R s m args below meth c H locs cells slots Q (F0 m pc ls (.ref b :: .ref a :: rest)) :=
  hp_putX cx hB (ci := 10) 5 tyX10 tyX10_ok nmX10 rfl inX10 (by decide) rfl (by decide) (Or.inr ⟨rfl, hnm, rfl⟩) qw_205 hka (v := va_rf (some b)) (hp_like_sr h a 5 (some b)) (hp_fs_sr (by decide) rfl) rfl rfl hdg kk
theorem cl_X10_53 {As st0 : List Value} {b : Nat} {Qc : Array Value → State → Outcome → State → Prop} (cx : CallFix p m c cc nL s args tbG RX10) (hB : hp_B D cA A s h H locs) (hM : hp_M l yX8_init prog_10_method_1_code 1 none rmX8_init D cA h (.ref b :: As) Qc) (hR : rmX8_init.frames + 1 ≤ R.frames ∧ 8 + (1 + 11) + rmX8_init.locals ≤ R.locals) (hn : As.length = 0) (hls : ls.size = nL) (hst : st0 = As.reverse ++ .ref b :: rest) (hW : (rest.map fun v => v.category).sum ≤ 8) (hf : cells + rmX8_init.cells ≤ R.cells ∧ slots + rmX8_init.slots ≤ R.slots) (hdg : decode cc pc = .ok (.invokespecial 53, 3)) :
    va_Run p l e R s m args below meth c H locs cells slots rmX8_init.cells rmX8_init.slots (F0 m pc ls st0) rest (Qc (Value.ref b :: As).toArray) (hp_A h) :=
  hp_runIN (host := "SpokenMenus") cx hB hM qw_159 (by decide +kernel) qw_158 qw_9 rfl (by decide +kernel) hR hn hls hst hW hf hdg
theorem pf_X10_54 (cx : CallFix p m c cc nL s args tbG RX10) (hB : hp_B D cA A s h H locs) (hnm : meth.name = "<init>") (hka : h.1 a = 11) {b : Nat} (hdg : decode cc pc = .ok (.putfield 54, 3)) (kk : ∀ (H1 : Heap) (locs1 : List Loc), hp_B D cA A s (hp_sr h a 6 (some b)) H1 locs1 → W p l e R s m args below meth c H1 locs1 cells slots Q (F0 m (pc + 3) ls rest)) : W p l e R s m args below meth c H locs cells slots Q (F0 m pc ls (.ref b :: .ref a :: rest)) :=
  hp_putX cx hB (ci := 10) 6 tyX10 tyX10_ok nmX10 rfl inX10 (by decide) rfl (by decide) (Or.inr ⟨rfl, hnm, rfl⟩) qw_206 hka (v := va_rf (some b)) (hp_like_sr h a 6 (some b)) (hp_fs_sr (by decide) rfl) rfl rfl hdg kk
theorem pf_X10_58 (cx : CallFix p m c cc nL s args tbG RX10) (hB : hp_B D cA A s h H locs) (hnm : meth.name = "<init>") (hka : h.1 a = 11) {b : Nat} (hdg : decode cc pc = .ok (.putfield 58, 3)) (kk : ∀ (H1 : Heap) (locs1 : List Loc), hp_B D cA A s (hp_sr h a 7 (some b)) H1 locs1 → W p l e R s m args below meth c H1 locs1 cells slots Q (F0 m (pc + 3) ls rest)) : W p l e R s m args below meth c H locs cells slots Q (F0 m pc ls (.ref b :: .ref a :: rest)) :=
  hp_putX cx hB (ci := 10) 7 tyX10 tyX10_ok nmX10 rfl inX10 (by decide) rfl (by decide) (Or.inr ⟨rfl, hnm, rfl⟩) qw_207 hka (v := va_rf (some b)) (hp_like_sr h a 7 (some b)) (hp_fs_sr (by decide) rfl) rfl rfl hdg kk
end
abbrev yX10_init : MethodName := ⟨"SpokenMenus", "<init>", "()V"⟩
theorem dX10_init_0 : decode prog_1_method_1_code 0 = .ok (.aload_n 0, 1) := by decide +kernel
theorem dX10_init_1 : decode prog_1_method_1_code 1 = .ok (.invokespecial 1, 3) := by decide +kernel
theorem dX10_init_4 : decode prog_1_method_1_code 4 = .ok (.aload_n 0, 1) := by decide +kernel
theorem dX10_init_5 : decode prog_1_method_1_code 5 = .ok (.new 7, 3) := by decide +kernel
theorem dX10_init_8 : decode prog_1_method_1_code 8 = .ok (.dup, 1) := by decide +kernel
theorem dX10_init_9 : decode prog_1_method_1_code 9 = .ok (.invokespecial 9, 3) := by decide +kernel
theorem dX10_init_12 : decode prog_1_method_1_code 12 = .ok (.putfield 10, 3) := by decide +kernel
theorem dX10_init_15 : decode prog_1_method_1_code 15 = .ok (.aload_n 0, 1) := by decide +kernel
theorem dX10_init_16 : decode prog_1_method_1_code 16 = .ok (.new 16, 3) := by decide +kernel
theorem dX10_init_19 : decode prog_1_method_1_code 19 = .ok (.dup, 1) := by decide +kernel
theorem dX10_init_20 : decode prog_1_method_1_code 20 = .ok (.invokespecial 18, 3) := by decide +kernel
theorem dX10_init_23 : decode prog_1_method_1_code 23 = .ok (.putfield 19, 3) := by decide +kernel
theorem dX10_init_26 : decode prog_1_method_1_code 26 = .ok (.aload_n 0, 1) := by decide +kernel
theorem dX10_init_27 : decode prog_1_method_1_code 27 = .ok (.new 23, 3) := by decide +kernel
theorem dX10_init_30 : decode prog_1_method_1_code 30 = .ok (.dup, 1) := by decide +kernel
theorem dX10_init_31 : decode prog_1_method_1_code 31 = .ok (.invokespecial 25, 3) := by decide +kernel
theorem dX10_init_34 : decode prog_1_method_1_code 34 = .ok (.putfield 26, 3) := by decide +kernel
theorem dX10_init_37 : decode prog_1_method_1_code 37 = .ok (.aload_n 0, 1) := by decide +kernel
theorem dX10_init_38 : decode prog_1_method_1_code 38 = .ok (.new 30, 3) := by decide +kernel
theorem dX10_init_41 : decode prog_1_method_1_code 41 = .ok (.dup, 1) := by decide +kernel
theorem dX10_init_42 : decode prog_1_method_1_code 42 = .ok (.invokespecial 32, 3) := by decide +kernel
theorem dX10_init_45 : decode prog_1_method_1_code 45 = .ok (.putfield 33, 3) := by decide +kernel
theorem dX10_init_48 : decode prog_1_method_1_code 48 = .ok (.aload_n 0, 1) := by decide +kernel
theorem dX10_init_49 : decode prog_1_method_1_code 49 = .ok (.new 37, 3) := by decide +kernel
theorem dX10_init_52 : decode prog_1_method_1_code 52 = .ok (.dup, 1) := by decide +kernel
theorem dX10_init_53 : decode prog_1_method_1_code 53 = .ok (.invokespecial 39, 3) := by decide +kernel
theorem dX10_init_56 : decode prog_1_method_1_code 56 = .ok (.putfield 40, 3) := by decide +kernel
theorem dX10_init_59 : decode prog_1_method_1_code 59 = .ok (.aload_n 0, 1) := by decide +kernel
theorem dX10_init_60 : decode prog_1_method_1_code 60 = .ok (.new 44, 3) := by decide +kernel
theorem dX10_init_63 : decode prog_1_method_1_code 63 = .ok (.dup, 1) := by decide +kernel
theorem dX10_init_64 : decode prog_1_method_1_code 64 = .ok (.invokespecial 46, 3) := by decide +kernel
theorem dX10_init_67 : decode prog_1_method_1_code 67 = .ok (.putfield 47, 3) := by decide +kernel
theorem dX10_init_70 : decode prog_1_method_1_code 70 = .ok (.aload_n 0, 1) := by decide +kernel
theorem dX10_init_71 : decode prog_1_method_1_code 71 = .ok (.new 51, 3) := by decide +kernel
theorem dX10_init_74 : decode prog_1_method_1_code 74 = .ok (.dup, 1) := by decide +kernel
theorem dX10_init_75 : decode prog_1_method_1_code 75 = .ok (.invokespecial 53, 3) := by decide +kernel
theorem dX10_init_78 : decode prog_1_method_1_code 78 = .ok (.putfield 54, 3) := by decide +kernel
theorem dX10_init_81 : decode prog_1_method_1_code 81 = .ok (.aload_n 0, 1) := by decide +kernel
theorem dX10_init_82 : decode prog_1_method_1_code 82 = .ok (.new 51, 3) := by decide +kernel
theorem dX10_init_85 : decode prog_1_method_1_code 85 = .ok (.dup, 1) := by decide +kernel
theorem dX10_init_86 : decode prog_1_method_1_code 86 = .ok (.invokespecial 53, 3) := by decide +kernel
theorem dX10_init_89 : decode prog_1_method_1_code 89 = .ok (.putfield 58, 3) := by decide +kernel
theorem dX10_init_92 : decode prog_1_method_1_code 92 = .ok (.return_, 1) := by decide +kernel
abbrev rmX10_init : Room := { frames := 2, cells := 42, slots := 4431, locals := 43 }
def fX10_init  (t0 : Nat) (h : Hp) : Option (Unit × Hp) :=
  nm h.2.2.2.2 fun a1 =>
  nm (hp_nw h 3 0) fun g2 =>
  b2 (fX2_init a1 g2) fun _ g4 =>
  gk (g4.1 t0) 11 <|
  nm (hp_sr g4 t0 0 (some a1)) fun g9 =>
  nm g9.2.2.2.2 fun a10 =>
  nm (hp_nw g9 10 0) fun g11 =>
  b2 (fX9_init a10 g11) fun _ g13 =>
  gk (g13.1 t0) 11 <|
  nm (hp_sr g13 t0 1 (some a10)) fun g18 =>
  nm g18.2.2.2.2 fun a19 =>
  nm (hp_nw g18 8 0) fun g20 =>
  b2 (fX7_init a19 g20) fun _ g22 =>
  gk (g22.1 t0) 11 <|
  nm (hp_sr g22 t0 2 (some a19)) fun g27 =>
  nm g27.2.2.2.2 fun a28 =>
  nm (hp_nw g27 2 0) fun g29 =>
  b2 (fX1_init a28 g29) fun _ g31 =>
  gk (g31.1 t0) 11 <|
  nm (hp_sr g31 t0 3 (some a28)) fun g36 =>
  nm g36.2.2.2.2 fun a37 =>
  nm (hp_nw g36 5 0) fun g38 =>
  b2 (fX4_init a37 g38) fun _ g40 =>
  gk (g40.1 t0) 11 <|
  nm (hp_sr g40 t0 4 (some a37)) fun g45 =>
  nm g45.2.2.2.2 fun a46 =>
  nm (hp_nw g45 7 0) fun g47 =>
  b2 (fX6_init a46 g47) fun _ g49 =>
  gk (g49.1 t0) 11 <|
  nm (hp_sr g49 t0 5 (some a46)) fun g54 =>
  nm g54.2.2.2.2 fun a55 =>
  nm (hp_nw g54 9 0) fun g56 =>
  b2 (fX8_init a55 g56) fun _ g58 =>
  gk (g58.1 t0) 11 <|
  nm (hp_sr g58 t0 6 (some a55)) fun g63 =>
  nm g63.2.2.2.2 fun a64 =>
  nm (hp_nw g63 9 0) fun g65 =>
  b2 (fX8_init a64 g65) fun _ g67 =>
  gk (g67.1 t0) 11 <|
  nm (hp_sr g67 t0 7 (some a64)) fun g72 =>
  some ((), g72)
section
variable {p : Program} {l : Launch} {e : Env} {s : State} {m : MethodId} {args : Array Value} {below : List Frame} {meth : Method} {c : Code} {D : va_G} {cA : Nat → ClassId} {h0 h9 : Hp}
set_option maxHeartbeats 4000000 in
set_option maxRecDepth 100000 in
theorem tX10_init_0  (cx : CallFix p m c prog_1_method_1_code 1 s args tbG RX10) (hr : meth.sig.returnType = none) (hlk : meth.locks = false) (hnm : meth.name = "<init>")  (t0 : Nat) (h : Hp) (H : Heap) (locs : List Loc) (ls : Array Slot) (hB : hp_B D cA (hp_A h0) s h H locs) (hl : lv_has ls 1 [(0, .ref t0)]) (hf : fX10_init  t0 h = some ((), h9)) : W p l e rmX10_init s m args below meth c H locs 0 0 (MQ below (hp_Qv D cA h0 h9) args s 42 4431 (hp_A h0)) (F0 m 0 ls []) := by
  obtain ⟨hx, hb, -⟩ := id cx
  unfold fX10_init at hf
  refine lv_aload_n hx hb dX10_init_0 rfl (lv_at hl 0 rfl) ?_
  refine W.objInit hx hb cx.2.2.2.1 (cx.2.2.2.2 _ (tb_in qw_21 rfl)) (cx.2.2.2.2 _ (tb_in qw_22 rfl)) (cx.2.2.2.2 _ (tb_in qw_23 rfl)) rfl (by rw [cx.2.2.1]; exact hl.1) rfl dX10_init_1 (Nat.le_of_ble_eq_true rfl) (Nat.le_of_ble_eq_true rfl) ?_
  refine W.eq (g2 := F0 m 4 ls []) rfl ?_
  refine lv_aload_n hx hb dX10_init_4 rfl (lv_at hl 0 rfl) ?_
  obtain ⟨a1, ea1, hf⟩ := nm_ok hf
  obtain ⟨g2, eg2, hf⟩ := nm_ok hf
  refine hp_new cx hB (ci := 2) tyX2 tyX2_ok rfl inX2 (by decide) rfl (by decide +kernel) qw_24 qw_25 qw_2 ea1 (Nat.le_of_ble_eq_true rfl) (Nat.le_of_ble_eq_true rfl) dX10_init_5 (fun H hB => ?_)
  rw [← eg2] at hB
  have k3 : g2.1 a1 = 3 := by rw [eg2, ea1]; exact va_up_self _ _ _
  refine lv_dup hx hb dX10_init_8 rfl ?_
  obtain ⟨uu, g4, m5, hf⟩ := b2_ok hf
  refine hp_cV (cl_X10_9 cx hB (cX2_init l D cA a1 g2 _ g4 m5) ⟨Nat.le_of_ble_eq_true rfl, Nat.le_of_ble_eq_true rfl⟩ rfl hl.1 rfl (Nat.le_of_ble_eq_true rfl) ⟨Nat.le_of_ble_eq_true rfl, Nat.le_of_ble_eq_true rfl⟩ dX10_init_9) hB (fun H locs hB => ?_)
  obtain ⟨k8, hf⟩ := gk_ok hf
  obtain ⟨g9, eg9, hf⟩ := nm_ok hf
  refine pf_X10_10 cx hB hnm k8 dX10_init_12 (fun H locs hB => ?_)
  rw [← eg9] at hB
  refine lv_aload_n hx hb dX10_init_15 rfl (lv_at hl 0 rfl) ?_
  obtain ⟨a10, ea10, hf⟩ := nm_ok hf
  obtain ⟨g11, eg11, hf⟩ := nm_ok hf
  refine hp_new cx hB (ci := 9) tyX9 tyX9_ok rfl inX9 (by decide) rfl (by decide +kernel) qw_44 qw_45 qw_3 ea10 (Nat.le_of_ble_eq_true rfl) (Nat.le_of_ble_eq_true rfl) dX10_init_16 (fun H hB => ?_)
  rw [← eg11] at hB
  have k12 : g11.1 a10 = 10 := by rw [eg11, ea10]; exact va_up_self _ _ _
  refine lv_dup hx hb dX10_init_19 rfl ?_
  obtain ⟨uu, g13, m14, hf⟩ := b2_ok hf
  refine hp_cV (cl_X10_18 cx hB (cX9_init l D cA a10 g11 _ g13 m14) ⟨Nat.le_of_ble_eq_true rfl, Nat.le_of_ble_eq_true rfl⟩ rfl hl.1 rfl (Nat.le_of_ble_eq_true rfl) ⟨Nat.le_of_ble_eq_true rfl, Nat.le_of_ble_eq_true rfl⟩ dX10_init_20) hB (fun H locs hB => ?_)
  obtain ⟨k17, hf⟩ := gk_ok hf
  obtain ⟨g18, eg18, hf⟩ := nm_ok hf
  refine pf_X10_19 cx hB hnm k17 dX10_init_23 (fun H locs hB => ?_)
  rw [← eg18] at hB
  refine lv_aload_n hx hb dX10_init_26 rfl (lv_at hl 0 rfl) ?_
  obtain ⟨a19, ea19, hf⟩ := nm_ok hf
  obtain ⟨g20, eg20, hf⟩ := nm_ok hf
  refine hp_new cx hB (ci := 7) tyX7 tyX7_ok rfl inX7 (by decide) rfl (by decide +kernel) qw_55 qw_56 qw_4 ea19 (Nat.le_of_ble_eq_true rfl) (Nat.le_of_ble_eq_true rfl) dX10_init_27 (fun H hB => ?_)
  rw [← eg20] at hB
  have k21 : g20.1 a19 = 8 := by rw [eg20, ea19]; exact va_up_self _ _ _
  refine lv_dup hx hb dX10_init_30 rfl ?_
  obtain ⟨uu, g22, m23, hf⟩ := b2_ok hf
  refine hp_cV (cl_X10_25 cx hB (cX7_init l D cA a19 g20 _ g22 m23) ⟨Nat.le_of_ble_eq_true rfl, Nat.le_of_ble_eq_true rfl⟩ rfl hl.1 rfl (Nat.le_of_ble_eq_true rfl) ⟨Nat.le_of_ble_eq_true rfl, Nat.le_of_ble_eq_true rfl⟩ dX10_init_31) hB (fun H locs hB => ?_)
  obtain ⟨k26, hf⟩ := gk_ok hf
  obtain ⟨g27, eg27, hf⟩ := nm_ok hf
  refine pf_X10_26 cx hB hnm k26 dX10_init_34 (fun H locs hB => ?_)
  rw [← eg27] at hB
  refine lv_aload_n hx hb dX10_init_37 rfl (lv_at hl 0 rfl) ?_
  obtain ⟨a28, ea28, hf⟩ := nm_ok hf
  obtain ⟨g29, eg29, hf⟩ := nm_ok hf
  refine hp_new cx hB (ci := 1) tyX1 tyX1_ok rfl inX1 (by decide) rfl (by decide +kernel) qw_69 qw_70 qw_5 ea28 (Nat.le_of_ble_eq_true rfl) (Nat.le_of_ble_eq_true rfl) dX10_init_38 (fun H hB => ?_)
  rw [← eg29] at hB
  have k30 : g29.1 a28 = 2 := by rw [eg29, ea28]; exact va_up_self _ _ _
  refine lv_dup hx hb dX10_init_41 rfl ?_
  obtain ⟨uu, g31, m32, hf⟩ := b2_ok hf
  refine hp_cV (cl_X10_32 cx hB (cX1_init l D cA a28 g29 _ g31 m32) ⟨Nat.le_of_ble_eq_true rfl, Nat.le_of_ble_eq_true rfl⟩ rfl hl.1 rfl (Nat.le_of_ble_eq_true rfl) ⟨Nat.le_of_ble_eq_true rfl, Nat.le_of_ble_eq_true rfl⟩ dX10_init_42) hB (fun H locs hB => ?_)
  obtain ⟨k35, hf⟩ := gk_ok hf
  obtain ⟨g36, eg36, hf⟩ := nm_ok hf
  refine pf_X10_33 cx hB hnm k35 dX10_init_45 (fun H locs hB => ?_)
  rw [← eg36] at hB
  refine lv_aload_n hx hb dX10_init_48 rfl (lv_at hl 0 rfl) ?_
  obtain ⟨a37, ea37, hf⟩ := nm_ok hf
  obtain ⟨g38, eg38, hf⟩ := nm_ok hf
  refine hp_new cx hB (ci := 4) tyX4 tyX4_ok rfl inX4 (by decide) rfl (by decide +kernel) qw_90 qw_91 qw_6 ea37 (Nat.le_of_ble_eq_true rfl) (Nat.le_of_ble_eq_true rfl) dX10_init_49 (fun H hB => ?_)
  rw [← eg38] at hB
  have k39 : g38.1 a37 = 5 := by rw [eg38, ea37]; exact va_up_self _ _ _
  refine lv_dup hx hb dX10_init_52 rfl ?_
  obtain ⟨uu, g40, m41, hf⟩ := b2_ok hf
  refine hp_cV (cl_X10_39 cx hB (cX4_init l D cA a37 g38 _ g40 m41) ⟨Nat.le_of_ble_eq_true rfl, Nat.le_of_ble_eq_true rfl⟩ rfl hl.1 rfl (Nat.le_of_ble_eq_true rfl) ⟨Nat.le_of_ble_eq_true rfl, Nat.le_of_ble_eq_true rfl⟩ dX10_init_53) hB (fun H locs hB => ?_)
  obtain ⟨k44, hf⟩ := gk_ok hf
  obtain ⟨g45, eg45, hf⟩ := nm_ok hf
  refine pf_X10_40 cx hB hnm k44 dX10_init_56 (fun H locs hB => ?_)
  rw [← eg45] at hB
  refine lv_aload_n hx hb dX10_init_59 rfl (lv_at hl 0 rfl) ?_
  obtain ⟨a46, ea46, hf⟩ := nm_ok hf
  obtain ⟨g47, eg47, hf⟩ := nm_ok hf
  refine hp_new cx hB (ci := 6) tyX6 tyX6_ok rfl inX6 (by decide) rfl (by decide +kernel) qw_109 qw_110 qw_7 ea46 (Nat.le_of_ble_eq_true rfl) (Nat.le_of_ble_eq_true rfl) dX10_init_60 (fun H hB => ?_)
  rw [← eg47] at hB
  have k48 : g47.1 a46 = 7 := by rw [eg47, ea46]; exact va_up_self _ _ _
  refine lv_dup hx hb dX10_init_63 rfl ?_
  obtain ⟨uu, g49, m50, hf⟩ := b2_ok hf
  refine hp_cV (cl_X10_46 cx hB (cX6_init l D cA a46 g47 _ g49 m50) ⟨Nat.le_of_ble_eq_true rfl, Nat.le_of_ble_eq_true rfl⟩ rfl hl.1 rfl (Nat.le_of_ble_eq_true rfl) ⟨Nat.le_of_ble_eq_true rfl, Nat.le_of_ble_eq_true rfl⟩ dX10_init_64) hB (fun H locs hB => ?_)
  obtain ⟨k53, hf⟩ := gk_ok hf
  obtain ⟨g54, eg54, hf⟩ := nm_ok hf
  refine pf_X10_47 cx hB hnm k53 dX10_init_67 (fun H locs hB => ?_)
  rw [← eg54] at hB
  refine lv_aload_n hx hb dX10_init_70 rfl (lv_at hl 0 rfl) ?_
  obtain ⟨a55, ea55, hf⟩ := nm_ok hf
  obtain ⟨g56, eg56, hf⟩ := nm_ok hf
  refine hp_new cx hB (ci := 8) tyX8 tyX8_ok rfl inX8 (by decide) rfl (by decide +kernel) qw_155 qw_156 qw_9 ea55 (Nat.le_of_ble_eq_true rfl) (Nat.le_of_ble_eq_true rfl) dX10_init_71 (fun H hB => ?_)
  rw [← eg56] at hB
  have k57 : g56.1 a55 = 9 := by rw [eg56, ea55]; exact va_up_self _ _ _
  refine lv_dup hx hb dX10_init_74 rfl ?_
  obtain ⟨uu, g58, m59, hf⟩ := b2_ok hf
  refine hp_cV (cl_X10_53 cx hB (cX8_init l D cA a55 g56 _ g58 m59) ⟨Nat.le_of_ble_eq_true rfl, Nat.le_of_ble_eq_true rfl⟩ rfl hl.1 rfl (Nat.le_of_ble_eq_true rfl) ⟨Nat.le_of_ble_eq_true rfl, Nat.le_of_ble_eq_true rfl⟩ dX10_init_75) hB (fun H locs hB => ?_)
  obtain ⟨k62, hf⟩ := gk_ok hf
  obtain ⟨g63, eg63, hf⟩ := nm_ok hf
  refine pf_X10_54 cx hB hnm k62 dX10_init_78 (fun H locs hB => ?_)
  rw [← eg63] at hB
  refine lv_aload_n hx hb dX10_init_81 rfl (lv_at hl 0 rfl) ?_
  obtain ⟨a64, ea64, hf⟩ := nm_ok hf
  obtain ⟨g65, eg65, hf⟩ := nm_ok hf
  refine hp_new cx hB (ci := 8) tyX8 tyX8_ok rfl inX8 (by decide) rfl (by decide +kernel) qw_155 qw_156 qw_9 ea64 (Nat.le_of_ble_eq_true rfl) (Nat.le_of_ble_eq_true rfl) dX10_init_82 (fun H hB => ?_)
  rw [← eg65] at hB
  have k66 : g65.1 a64 = 9 := by rw [eg65, ea64]; exact va_up_self _ _ _
  refine lv_dup hx hb dX10_init_85 rfl ?_
  obtain ⟨uu, g67, m68, hf⟩ := b2_ok hf
  refine hp_cV (cl_X10_53 cx hB (cX8_init l D cA a64 g65 _ g67 m68) ⟨Nat.le_of_ble_eq_true rfl, Nat.le_of_ble_eq_true rfl⟩ rfl hl.1 rfl (Nat.le_of_ble_eq_true rfl) ⟨Nat.le_of_ble_eq_true rfl, Nat.le_of_ble_eq_true rfl⟩ dX10_init_86) hB (fun H locs hB => ?_)
  obtain ⟨k71, hf⟩ := gk_ok hf
  obtain ⟨g72, eg72, hf⟩ := nm_ok hf
  refine pf_X10_58 cx hB hnm k71 dX10_init_89 (fun H locs hB => ?_)
  rw [← eg72] at hB
  obtain ⟨-, rfl⟩ := rt_ok hf
  exact hp_vret cx hB hr hlk (Nat.le_of_ble_eq_true rfl) (Nat.le_of_ble_eq_true rfl) dX10_init_92
end
set_option maxHeartbeats 4000000 in
set_option maxRecDepth 100000 in
theorem cX10_init (l : Launch) (D : va_G) (cA : Nat → ClassId) (t0 : Nat) (h : Hp) (_u : Unit) (h9 : Hp) (hf : fX10_init t0 h = some (_u, h9)) : hp_M l yX10_init prog_1_method_1_code 1 none rmX10_init D cA h [.ref t0] (hp_Qv D cA h h9) := by
  refine Met.ofW (cc := prog_1_method_1_code) (maxL := 1) (ret := none) (by decide) rfl ?_
  intro p e s m args below meth c s₁ B hml hv
  obtain ⟨rfl, hU⟩ := hv
  have hts := atoms_spec (ws := Cond.code yX10_init prog_1_method_1_code 1 none :: tbG) B.pre
  have hl := lv_entry ([.ref t0]) (n := 1) (Nat.le_of_ble_eq_true rfl)
  rw [lg_entry_eq]
  generalize (lg_sl ([.ref t0]) ++ List.replicate (1 - (lg_sl ([.ref t0])).length) Slot.unset).toArray = ls at hl ⊢
  exact tX10_init_0 ⟨B.exec, B.bytes, hml, findClass_of_methodNamed B.named, fun w hw => hts w (List.mem_cons_of_mem _ hw)⟩ B.returns B.notSynchronized ((name_of_methodNamed B.named B.method).1) t0 h _ _ _ (hp_B.entry hU) hl hf
