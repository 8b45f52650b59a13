/-! rows of the heap that write, make, call and return -/
def hp_Qi (D : va_G) (cA : Nat → ClassId) (h h' : Hp) (r : Int32) : Array Value → State → Outcome → State → Prop := va_Qi (fun (r' : Int32) (_ : Unit) => r' = r ∧ ∀ a, h'.1 a ≠ 0 → hp_A h a) (fun _ t => hp_U D cA h' t) (hp_A h)
def hp_Qv (D : va_G) (cA : Nat → ClassId) (h h' : Hp) : Array Value → State → Outcome → State → Prop := va_Qv (fun (_ : Unit) => ∀ a, h'.1 a ≠ 0 → hp_A h a) (fun _ t => hp_U D cA h' t) (hp_A h)
def hp_Qr (D : va_G) (cA : Nat → ClassId) (h h' : Hp) (r : Option Nat) : Array Value → State → Outcome → State → Prop := va_Qq (fun (r' : Option Nat) (_ : Unit) => r' = r ∧ ∀ a, h'.1 a ≠ 0 → hp_A h a) (fun _ t => hp_U D cA h' t) (hp_A h)
section HPS
variable {p : Program} {l : Launch} {e : Env} {R : Room} {s : State} {m : MethodId} {args : Array Value} {below : List Frame} {meth : Method} {c : Code} {H : Heap} {locs : List Loc} {cells slots : Nat} {Q : State → Prop}
variable {cc : ByteArray} {pc nL : Nat} {ls : Array Slot} {rest : List Value} {D : va_G} {cA : Nat → ClassId} {A : Nat → Prop} {a : Nat} {h : Hp} {own : String}
theorem hp_iast (cx : CallFix p m c cc nL s args tbG own) (hB : hp_B D cA A s h H locs) (hka : h.1 a = 13) {i x : Int32} (hi : ix i (h.2.1 a) = true) (hdg : decode cc pc = .ok (.iastore, 1))
    (kk : ∀ (H1 : Heap) (locs1 : List Loc), hp_B D cA A s (hp_si h a i.toNatClampNeg x) H1 locs1 → W p l e R s m args below meth c H1 locs1 cells slots Q (F0 m (pc + 1) ls rest)) : W p l e R s m args below meth c H locs cells slots Q (F0 m pc ls (.int x :: .int i :: .ref a :: rest)) := by
  have hin := ix_in hi
  have hP := hp_one hB (by omega) (hp_c_int hka)
  refine W.iast cx.1 cx.2.1 (hP 0 _ rfl) ((hB.2.1.2 0 _ rfl).1 (h.2.1 a) (fun j => .int (h.2.2.1 a j))) (fun q => by cases q) (by show ¬ (i < 0 ∨ (arrV _ _ _).slots.size ≤ _); rw [arrV_size]; exact hin) rfl rfl hdg fun H1 e z oq => ?_
  refine kk H1 _ (hB.set (a := a) (by omega) (hp_like_si h a i.toNatClampNeg x) ?_ z oq)
  rw [hp_c_int (by exact hka)]
  show H1[a]? = some (vp_cell _ _)
  rw [e, vp_cell_i, vp_cell_i, arrV_store]
  congr 2
  funext q
  by_cases hq : q = i.toNatClampNeg
  · subst hq
    simp [updV, hp_si, u2_row, va_up]
  · simp [updV, hp_si, u2_row, va_up, hq]
theorem hp_zast (cx : CallFix p m c cc nL s args tbG own) (hB : hp_B D cA A s h H locs) (hka : h.1 a = 14) {i x : Int32} (hi : ix i (h.2.1 a) = true) (hx : zb x = true) (hdg : decode cc pc = .ok (.bastore, 1))
    (kk : ∀ (H1 : Heap) (locs1 : List Loc), hp_B D cA A s (hp_si h a i.toNatClampNeg x) H1 locs1 → W p l e R s m args below meth c H1 locs1 cells slots Q (F0 m (pc + 1) ls rest)) : W p l e R s m args below meth c H locs cells slots Q (F0 m pc ls (.int x :: .int i :: .ref a :: rest)) := by
  have hin := ix_in hi
  have hP := hp_one hB (by omega) (hp_c_bool hka)
  refine W.zast cx.1 cx.2.1 (hP 0 _ rfl) ((hB.2.1.2 1 _ rfl).1 (h.2.1 a) (fun j => .int (h.2.2.1 a j))) (fun q => by cases q) (by show ¬ (i < 0 ∨ (arrV _ _ _).slots.size ≤ _); rw [arrV_size]; exact hin) rfl rfl hdg fun H1 e z oq => ?_
  refine kk H1 _ (hB.set (a := a) (by omega) (hp_like_si h a i.toNatClampNeg x) ?_ z oq)
  rw [hp_c_bool (by exact hka)]
  show H1[a]? = some (vp_cell _ _)
  rw [e, vp_cell_i, vp_cell_i, arrV_store]
  congr 2
  funext q
  by_cases hq : q = i.toNatClampNeg
  · subst hq
    have hz := zb_nar hx
    simp [updV, hp_si, u2_row, va_up, hz]
  · simp [updV, hp_si, u2_row, va_up, hq]
theorem hp_aast (cx : CallFix p m c cc nL s args tbG own) (hB : hp_B D cA A s h H locs) (kd ci : Nat) {r : vw_C} (hkd : 15 ≤ kd) (ht : (hp_ty cA)[kd - 13]? = some (cA kd, .object r.1)) (hc : vwCl[ci]? = some r) (hci : ci < 12) (hka : h.1 a = kd) {v : Nat} (hkv : h.1 v = ci + 1) {i : Int32} (hi : ix i (h.2.1 a) = true) (hdg : decode cc pc = .ok (.aastore, 1))
    (kk : ∀ (H1 : Heap) (locs1 : List Loc), hp_B D cA A s (hp_sr h a i.toNatClampNeg (some v)) H1 locs1 → W p l e R s m args below meth c H1 locs1 cells slots Q (F0 m (pc + 1) ls rest)) : W p l e R s m args below meth c H locs cells slots Q (F0 m pc ls (.ref v :: .int i :: .ref a :: rest)) := by
  have hin := ix_in hi
  have hlt : i.toNatClampNeg < h.2.1 a := Nat.not_le.mp fun q => hin (Or.inr q)
  have h0 : ¬ i < 0 := fun q => hin (Or.inl q)
  have hK := hB.2.1
  have hPv := hp_one hB (by omega) (hp_c_obj hkv hci)
  subst hka
  have hP := hp_one hB (by omega) (hp_c_ref hkd)
  obtain ⟨r', hr', cellV, g1, g2, g3, -⟩ := hPv 0 _ rfl
  have hcls := (hK.1 ci r hc).2
  obtain ⟨kA, comp, k1, k2, k3, -⟩ := (hK.2 _ _ ht).2
  have hcomp : comp = D.1 ci := Option.some.inj (k3.symm.trans hcls.1)
  subst hcomp
  obtain ⟨kC, hkC, -⟩ := hcls.2
  refine W.aast cx.1 cx.2.1 (hP 0 _ rfl) (fun q h => by cases h) (fun h => by cases h) k1 k2 rfl hkC ⟨h0, by show _ < (arrV _ _ _).slots.size; rw [arrV_size]; exact hlt⟩ g1 (fun q h => by rw [g3] at h; cases h) (by rw [g2]; exact hkC) (by rw [g2]; exact va_assign hcls) rfl rfl hdg fun H1 e z oq => ?_
  refine kk H1 _ (hB.set (a := a) (by omega) (hp_like_sr h a i.toNatClampNeg (some v)) ?_ z oq)
  rw [hp_c_ref (show 15 ≤ (hp_sr h a i.toNatClampNeg (some v)).1 a from hkd)]
  show H1[a]? = some (vp_cell _ _)
  rw [e, vp_cell_q, vp_cell_q, arrV_store]
  congr 2
  funext q
  by_cases hq : q = i.toNatClampNeg
  · subst hq
    simp [updV, hp_sr, u2_row, va_up, va_rf]
  · simp [updV, hp_sr, u2_row, va_up, hq]
theorem hp_new (cx : CallFix p m c cc nL s args tbG own) (hB : hp_B D cA A s h H locs) {C : String} {T : u_T} {N ci index : Nat} (ty : Nat → FieldType) (hty : ∀ k, k < N → parseFieldDescriptor (T k).2.2.1 = some (ty k)) (hc : vwCl[ci]? = some (C, T, N)) (hin : ∀ w ∈ u_ws C T N, w ∈ lw_tbl) (hci : ci < 12) (hN : hp_nf.getD ci 0 = N) (hdv : ∀ k, k < N → defaultValue (ty k) = if hp_isr ci k = true then .null else .int 0) (hcl : Cond.classLink own index C ∈ lw_tbl) (hinst : Cond.instantiable C N ∈ lw_tbl) (hini : Cond.initialized C ∈ lw_tbl) {q : Nat} (hq : q = h.2.2.2.2) (hcells : cells + 1 ≤ R.cells) (hslots : slots + N ≤ R.slots) (hdg : decode cc pc = .ok (.new index, 3))
    (kk : ∀ (H1 : Heap), hp_B D cA A s (hp_nw h (ci + 1) 0) H1 locs → W p l e R s m args below meth c H1 locs (cells + 1) (slots + N) Q (F0 m (pc + 3) ls (.ref q :: rest))) : W p l e R s m args below meth c H locs cells slots Q (F0 m pc ls rest) := by
  obtain ⟨hx, hb, hml, hown, hts⟩ := cx
  subst hq
  have hKn := hB.2.1.1 ci _ hc
  refine W.newcK hx hb hown (hts _ (tb_in hcl rfl)) (hts _ (tb_in hinst rfl)) (hts _ (tb_in hini rfl)) rfl hdg hcells hslots hKn.2.1 hB.1.1 fun H1 kC hkC e1 z1 o1 => ?_
  refine kk H1 (hp_new_B hB ?_ (by rw [z1, hB.1.1]) (by rw [hB.1.1]; exact o1))
  rw [hp_c_obj (by exact va_up_self _ _ _) hci]
  refine ⟨_, hc, (u_born ty hts (u_inG hin) hKn hkC e1 hty).to (fun k hk => ?_)⟩
  simp only [vp_V, List.getD, hp_fs_get (show k < hp_nf.getD ci 0 by omega), Option.getD_some, hp_new_fv]
  exact hdv k hk
theorem hp_newa (cx : CallFix p m c cc nL s args tbG own) (hB : hp_B D cA A s h H locs) (kd : Nat) {atype : ArrayType} {ty : FieldType} (hty : newarray.typeOf atype = ty) (hkd : kd = 13 ∨ kd = 14) (ht : (hp_ty cA)[kd - 13]? = some (cA kd, ty)) (hra : va_RA s (cA kd) ty → s.vm.findClass ("[" ++ ty.toString) = some (cA kd)) (hdv : defaultValue ty = .int 0) (harr : Cond.arrayClass ty ∈ lw_tbl) {n : Int32} {N' : Nat} {q : Nat} (hq : q = h.2.2.2.2) (hn : ¬ n < 0) (hN : n.toNatClampNeg = N') (hbytes : N' * componentBytes ty ≤ 536870912) (hcells : cells + 1 ≤ R.cells) (hslots : slots + N' ≤ R.slots) (hdg : decode cc pc = .ok (.newarray atype, 2))
    (kk : ∀ (H1 : Heap), hp_B D cA A s (hp_nw h kd N') H1 locs → W p l e R s m args below meth c H1 locs (cells + 1) (slots + N') Q (F0 m (pc + 2) ls (.ref q :: rest))) : W p l e R s m args below meth c H locs cells slots Q (F0 m pc ls (.int n :: rest)) := by
  obtain ⟨hx, hb, hml, hown, hts⟩ := cx
  subst hq
  subst hty
  refine va_newaK hx hb (hts _ (tb_in harr rfl)) rfl hdg rfl hn hN hbytes hcells hslots hB.1.1 fun H1 cA' e1 z1 o1 hAr hNm => ?_
  have he : cA' = cA kd := Option.some.inj (hNm.symm.trans (hra (hB.2.1.2 _ _ ht).2))
  subst he
  refine kk H1 (hp_new_B hB ?_ (by rw [z1, hB.1.1]) (by rw [hB.1.1]; exact o1))
  have hk : (hp_nw h kd N').1 h.2.2.2.2 = kd := va_up_self _ _ _
  have hv : (hp_nw h kd N').2.2.1 h.2.2.2.2 = fun _ => 0 := va_up_self _ _ _
  have hl : (hp_nw h kd N').2.1 h.2.2.2.2 = N' := va_up_self _ _ _
  have hcc : hp_c cA (hp_nw h kd N') h.2.2.2.2 = .inl (cA kd, N', .inl (fun _ => 0)) := by
    rcases hkd with rfl | rfl
    · rw [hp_c_int hk, hl, hv]
    · rw [hp_c_bool hk, hl, hv]
  rw [hcc]
  show H1[h.2.2.2.2]? = some (vp_cell _ _)
  rw [e1, vp_cell_i, hdv]
theorem hp_newq (cx : CallFix p m c cc nL s args tbG own) (hB : hp_B D cA A s h H locs) (kd : Nat) {C : String} {index : Nat} (hkd : 15 ≤ kd) (ht : (hp_ty cA)[kd - 13]? = some (cA kd, .object C)) (hclink : Cond.classLink own index C ∈ lw_tbl) (hover : hp_N cA s → va_AO C s) {n : Int32} {N' : Nat} {q : Nat} (hq : q = h.2.2.2.2) (hn : ¬ n < 0) (hN : n.toNatClampNeg = N') (hbytes : N' * 4 ≤ 536870912) (hcells : cells + 1 ≤ R.cells) (hslots : slots + N' ≤ R.slots) (hdg : decode cc pc = .ok (.anewarray index, 3))
    (kk : ∀ (H1 : Heap), hp_B D cA A s (hp_nw h kd N') H1 locs → W p l e R s m args below meth c H1 locs (cells + 1) (slots + N') Q (F0 m (pc + 3) ls (.ref q :: rest))) : W p l e R s m args below meth c H locs cells slots Q (F0 m pc ls (.int n :: rest)) := by
  obtain ⟨hx, hb, hml, hown, hts⟩ := cx
  subst hq
  subst hN
  refine W.anew hx hb hown (hts _ (tb_in hclink rfl)) (va_AO.use (hover hB.2.2.1)) rfl hdg rfl hn hbytes hcells hslots fun cA' kA comp f1 f2 f3 f4 => ?_
  rw [hB.1.1]
  have hz0 := hB.1.1
  obtain ⟨kA', comp', g1, g2, g3, g4⟩ := (hB.2.1.2 _ _ ht).2
  have he : cA' = cA kd := Option.some.inj (f1.symm.trans g4)
  subst he
  refine kk _ (hp_new_B hB ?_ (by rw [Array.size_push]) (fun q hq => by rw [Array.getElem?_push, if_neg (Nat.ne_of_lt hq)]))
  have hk : (hp_nw h kd n.toNatClampNeg).1 h.2.2.2.2 = kd := va_up_self _ _ _
  have hv : (hp_nw h kd n.toNatClampNeg).2.2.2.1 h.2.2.2.2 = fun _ => none := va_up_self _ _ _
  have hl : (hp_nw h kd n.toNatClampNeg).2.1 h.2.2.2.2 = n.toNatClampNeg := va_up_self _ _ _
  rw [hp_c_ref (by rw [hk]; exact hkd), hk, hl, hv]
  show (H.push _)[h.2.2.2.2]? = some (vp_cell _ _)
  rw [← hz0, Array.getElem?_push_size, vp_cell_q, ← arrV_new]
  rfl
theorem hp_iret {h0 : Hp} {mc ms : Nat} {r : Int32} (cx : CallFix p m c cc nL s args tbG own) (hB : hp_B D cA (hp_A h0) s h H locs) (hr : meth.sig.returnType = some .int) (hlk : meth.locks = false) (hm : cells ≤ mc) (hs : slots ≤ ms) (hdg : decode cc pc = .ok (.ireturn, 1)) : W p l e R s m args below meth c H locs cells slots (MQ below (hp_Qi D cA h0 h r) args s mc ms (hp_A h0)) (F0 m pc ls [.int r]) :=
  W.widen hm hs (W.iret cx.1 cx.2.1 hr (fun t ht hW => ⟨⟨r, (), rfl, ⟨rfl, hB.2.2.2.1⟩, hB.U ht hW⟩, hB.2.2.2.2.2.F ht⟩) hB.2.2.2.2.2.2.2 hdg hlk)
theorem hp_zret {h0 : Hp} {mc ms : Nat} {r : Int32} (cx : CallFix p m c cc nL s args tbG own) (hB : hp_B D cA (hp_A h0) s h H locs) (hr : meth.sig.returnType = some .boolean) (hlk : meth.locks = false) (hm : cells ≤ mc) (hs : slots ≤ ms) (hz : zb r = true) (hdg : decode cc pc = .ok (.ireturn, 1)) : W p l e R s m args below meth c H locs cells slots (MQ below (hp_Qi D cA h0 h r) args s mc ms (hp_A h0)) (F0 m pc ls [.int r]) :=
  W.widen hm hs (W.zret cx.1 cx.2.1 hr (zb_nar hz) (fun t ht hW => ⟨⟨r, (), rfl, ⟨rfl, hB.2.2.2.1⟩, hB.U ht hW⟩, hB.2.2.2.2.2.F ht⟩) hB.2.2.2.2.2.2.2 hdg hlk)
theorem hp_vret {h0 : Hp} {mc ms : Nat} (cx : CallFix p m c cc nL s args tbG own) (hB : hp_B D cA (hp_A h0) s h H locs) (hr : meth.sig.returnType = none) (hlk : meth.locks = false) (hm : cells ≤ mc) (hs : slots ≤ ms) (hdg : decode cc pc = .ok (.return_, 1)) : W p l e R s m args below meth c H locs cells slots (MQ below (hp_Qv D cA h0 h) args s mc ms (hp_A h0)) (F0 m pc ls []) :=
  W.widen hm hs (W.vret cx.1 cx.2.1 hr (fun t ht hW => ⟨⟨(), rfl, hB.2.2.2.1, hB.U ht hW⟩, hB.2.2.2.2.2.F ht⟩) hB.2.2.2.2.2.2.2 hdg hlk)
theorem hp_aret {h0 : Hp} {mc ms : Nat} {r : Option Nat} {rt : FieldType} (cx : CallFix p m c cc nL s args tbG own) (hB : hp_B D cA (hp_A h0) s h H locs) (hr : meth.sig.returnType = some rt) (hrt : (∃ n, rt = .object n) ∨ ∃ t, rt = .array t) (hlk : meth.locks = false) (hm : cells ≤ mc) (hs : slots ≤ ms) (hdg : decode cc pc = .ok (.areturn, 1)) : W p l e R s m args below meth c H locs cells slots (MQ below (hp_Qr D cA h0 h r) args s mc ms (hp_A h0)) (F0 m pc ls [va_rf r]) :=
  W.widen hm hs (W.aret cx.1 cx.2.1 hr hrt (va_rf_or r) (fun t ht hW => ⟨⟨r, (), rfl, ⟨rfl, hB.2.2.2.1⟩, hB.U ht hW⟩, hB.2.2.2.2.2.F ht⟩) hB.2.2.2.2.2.2.2 hdg hlk)
theorem hp_call_A {q : Nat} (hB : hp_B D cA A s h H locs) (hq : hp_A h q) : A q := by
  rcases hq with h1 | h1
  · exact hB.2.2.2.1 q h1
  · exact hB.2.2.2.2.1 q (Nat.le_trans hB.2.2.2.2.2.1 (by rw [hB.1.1]; exact h1))
theorem hp_back {h' : Hp} {t : State} {H1 : Heap} {locs1 : List Loc} (hB : hp_B D cA A s h H locs) (ht : t.heap = H1) (hd : ∀ a, h'.1 a ≠ 0 → hp_A h a) (hU : hp_U D cA h' t) (hS : va_S A s.heap H1 locs1) : hp_B D cA A s h' H1 locs1 :=
  ⟨by rw [← ht]; exact hU.1, hB.2.1, hB.2.2.1, fun b hb => hp_call_A hB (hd b hb), hB.2.2.2.2.1, hS⟩
variable {st0 : List Value} {av : Array Value} {mc ms : Nat} {h' : Hp}
theorem hp_cI {r : Int32} (hr : va_Run p l e R s m args below meth c H locs cells slots mc ms (F0 m pc ls st0) rest (hp_Qi D cA h h' r av) (hp_A h)) (hB : hp_B D cA A s h H locs)
    (kk : ∀ (H1 : Heap) (locs1 : List Loc), hp_B D cA A s h' H1 locs1 → W p l e R s m args below meth c H1 locs1 (cells + mc) (slots + ms) Q (F0 m (pc + 3) ls (.int r :: rest))) : W p l e R s m args below meth c H locs cells slots Q (F0 m pc ls st0) :=
  va_calli hr hB.2.2.2.2.2 (fun _ _ hq => hp_call_A hB hq) (fun _ hq => hp_call_A hB hq) (fun r' _ t H1 locs1 ht _ hw hU _ _ hS => by
    obtain ⟨rfl, hd⟩ := hw
    exact kk H1 locs1 (hp_back hB ht hd hU hS))
theorem hp_cV (hr : va_Run p l e R s m args below meth c H locs cells slots mc ms (F0 m pc ls st0) rest (hp_Qv D cA h h' av) (hp_A h)) (hB : hp_B D cA A s h H locs)
    (kk : ∀ (H1 : Heap) (locs1 : List Loc), hp_B D cA A s h' H1 locs1 → W p l e R s m args below meth c H1 locs1 (cells + mc) (slots + ms) Q (F0 m (pc + 3) ls rest)) : W p l e R s m args below meth c H locs cells slots Q (F0 m pc ls st0) :=
  va_callv hr hB.2.2.2.2.2 (fun _ _ hq => hp_call_A hB hq) (fun _ hq => hp_call_A hB hq) (fun _ t H1 locs1 ht _ hd hU _ _ hS => kk H1 locs1 (hp_back hB ht hd hU hS))
theorem hp_cR {r : Option Nat} (hr : va_Run p l e R s m args below meth c H locs cells slots mc ms (F0 m pc ls st0) rest (hp_Qr D cA h h' r av) (hp_A h)) (hB : hp_B D cA A s h H locs)
    (kk : ∀ (H1 : Heap) (locs1 : List Loc), hp_B D cA A s h' H1 locs1 → W p l e R s m args below meth c H1 locs1 (cells + mc) (slots + ms) Q (F0 m (pc + 3) ls (va_rf r :: rest))) : W p l e R s m args below meth c H locs cells slots Q (F0 m pc ls st0) :=
  va_callq hr hB.2.2.2.2.2 (fun _ _ hq => hp_call_A hB hq) (fun _ hq => hp_call_A hB hq) (fun r' _ t H1 locs1 ht _ hw hU _ _ hS => by
    obtain ⟨rfl, hd⟩ := hw
    exact kk H1 locs1 (hp_back hB ht hd hU hS))
variable {y : MethodName} {bytes : ByteArray} {maxL n index ci : Nat} {ret : Option FieldType} {rm : Room} {Qc : Array Value → State → Outcome → State → Prop} {b : Nat} {As : List Value}
theorem tb_GI {y : MethodName} {bytes : ByteArray} {maxL : Nat} {ret : Option FieldType} (hcd : Cond.code y bytes maxL ret ∈ lw_tbl) : GoodIn tbG (Cond.code y bytes maxL ret :: tbG) := fun w hw => by
  rcases List.mem_cons.mp hw with rfl | hw
  · exact ⟨tb_in hcd rfl, good_of_word rfl⟩
  · exact ⟨hw, good_of_word (tb_good hw)⟩
abbrev hp_M (l : Launch) (y : MethodName) (bytes : ByteArray) (maxL : Nat) (ret : Option FieldType) (rm : Room) (D : va_G) (cA : Nat → ClassId) (h : Hp) (av : List Value) (Qc : Array Value → State → Outcome → State → Prop) : Prop :=
  Met l y (Cond.code y bytes maxL ret :: tbG) rm (va_Pc av (hp_U D cA h)) Qc rm.cells rm.slots (hp_A h)
theorem hp_runV (cx : CallFix p m c cc nL s args tbG own) (hB : hp_B D cA A s h H locs) (hM : hp_M l y bytes maxL ret rm D cA h (.ref b :: As) Qc) {r : vw_C} (hc : vwCl[ci]? = some r) (hci : ci < 12) (hkb : h.1 b = ci + 1) (hcd : Cond.code y bytes maxL ret ∈ lw_tbl) (hl : Cond.methodLink own index y ∈ lw_tbl) (hi : Cond.instanceMethod y ∈ lw_tbl) (hse : Cond.selects r.1 y y ∈ lw_tbl) (hini : Cond.initialized r.1 ∈ lw_tbl)
    (hd : y.cls = r.1 ∧ y.cls ≠ "java/lang/invoke/MethodHandle" ∧ y.cls ≠ "java/lang/invoke/VarHandle" ∧ (parseMethodDescriptor y.desc).map (fun d => d.parameters.length) = some n) (hR : rm.frames + 1 ≤ R.frames ∧ 8 + (maxL + 11) + rm.locals ≤ R.locals) (hn : As.length = n) (hls : ls.size = nL) (hst : st0 = As.reverse ++ .ref b :: rest) (hW : (rest.map fun v => v.category).sum ≤ 8) (hf : cells + rm.cells ≤ R.cells ∧ slots + rm.slots ≤ R.slots) (hdg : decode cc pc = .ok (.invokevirtual index, 3)) :
    va_Run p l e R s m args below meth c H locs cells slots rm.cells rm.slots (F0 m pc ls st0) rest (Qc (Value.ref b :: As).toArray) (hp_A h) := by
  have hG : GoodIn tbG (wsV own index r.1 y (Cond.code y bytes maxL ret :: tbG)) := fun w hw => by
    unfold wsV at hw
    rcases List.mem_append.mp hw with hw | hw
    · simp only [List.mem_cons, List.not_mem_nil, or_false] at hw
      rcases hw with rfl | rfl | rfl | rfl
      · exact ⟨tb_in hl rfl, good_of_word rfl⟩
      · exact ⟨tb_in hi rfl, good_of_word rfl⟩
      · exact ⟨tb_in hse rfl, good_of_word rfl⟩
      · exact ⟨tb_in hini rfl, good_of_word rfl⟩
    · exact tb_GI hcd w hw
  exact va_runV (As := As) (rest := rest) cx hM (cwV n cx.2.2.2.2 hG rfl rfl rfl hd hR) ⟨hp_blind, va_recv hB.2.1 (hp_one hB (by omega) (hp_c_obj hkb hci)) hc (q0 := 0) rfl, fun U hU hW => ⟨rfl, hB.U hU hW⟩⟩ rfl hn hls hst (lv_room hW) hdg hf
theorem hp_runS (cx : CallFix p m c cc nL s args tbG own) (hB : hp_B D cA A s h H locs) (hM : hp_M l y bytes maxL ret rm D cA h As Qc) (hcd : Cond.code y bytes maxL ret ∈ lw_tbl) (hl : Cond.methodLink own index y ∈ lw_tbl) (hi : Cond.static y ∈ lw_tbl) (hini : Cond.initialized y.cls ∈ lw_tbl)
    (hd : y.cls ≠ "java/lang/invoke/MethodHandle" ∧ y.cls ≠ "java/lang/invoke/VarHandle" ∧ (parseMethodDescriptor y.desc).map (fun d => d.parameters.length) = some n) (hR : rm.frames + 1 ≤ R.frames ∧ 8 + (maxL + 11) + rm.locals ≤ R.locals) (hn : As.length = n) (hls : ls.size = nL) (hst : st0 = As.reverse ++ rest) (hW : (rest.map fun v => v.category).sum ≤ 8) (hf : cells + rm.cells ≤ R.cells ∧ slots + rm.slots ≤ R.slots) (hdg : decode cc pc = .ok (.invokestatic index, 3)) :
    va_Run p l e R s m args below meth c H locs cells slots rm.cells rm.slots (F0 m pc ls st0) rest (Qc As.toArray) (hp_A h) :=
  va_runS (As := As) (rest := rest) cx hM ⟨callB_of n cx.2.2.2.2 (tb_GI hcd) rfl rfl rfl (cx.2.2.2.2 _ (tb_in hini rfl)) (cx.2.2.2.2 _ (tb_in hl rfl)) hd hR, cx.2.2.2.2 _ (tb_in hi rfl)⟩ ⟨hp_blind, fun U hU hW => ⟨rfl, hB.U hU hW⟩⟩ rfl hn hls hst (lv_room hW) hdg hf
theorem hp_runSN {host : String} (cx : CallFix p m c cc nL s args tbG own) (hB : hp_B D cA A s h H locs) (hM : hp_M l y bytes maxL ret rm D cA h As Qc) (hcd : Cond.code y bytes maxL ret ∈ lw_tbl) (hl : Cond.methodLinkNest own index y host ∈ hp_NW) (hi : Cond.static y ∈ lw_tbl) (hini : Cond.initialized y.cls ∈ lw_tbl)
    (hd : y.cls ≠ "java/lang/invoke/MethodHandle" ∧ y.cls ≠ "java/lang/invoke/VarHandle" ∧ (parseMethodDescriptor y.desc).map (fun d => d.parameters.length) = some n) (hR : rm.frames + 1 ≤ R.frames ∧ 8 + (maxL + 11) + rm.locals ≤ R.locals) (hn : As.length = n) (hls : ls.size = nL) (hst : st0 = As.reverse ++ rest) (hW : (rest.map fun v => v.category).sum ≤ 8) (hf : cells + rm.cells ≤ R.cells ∧ slots + rm.slots ≤ R.slots) (hdg : decode cc pc = .ok (.invokestatic index, 3)) :
    va_Run p l e R s m args below meth c H locs cells slots rm.cells rm.slots (F0 m pc ls st0) rest (Qc As.toArray) (hp_A h) :=
  va_runSN (As := As) (rest := rest) cx hM ⟨va_cnB n cx.2.2.2.2 (tb_GI hcd) rfl rfl rfl (hB.2.2.1.1 _ hl) (cx.2.2.2.2 _ (tb_in hini rfl)) hd hR, cx.2.2.2.2 _ (tb_in hi rfl), trivial⟩ ⟨hp_blind, fun U hU hW => ⟨rfl, hB.U hU hW⟩⟩ rfl hn hls hst (lv_room hW) hdg hf
theorem hp_runI (cx : CallFix p m c cc nL s args tbG own) (hB : hp_B D cA A s h H locs) (hM : hp_M l y bytes maxL none rm D cA h (.ref b :: As) Qc) (hcd : Cond.code y bytes maxL none ∈ lw_tbl) (hl : Cond.methodLink own index y ∈ lw_tbl) (hi : Cond.instanceMethod y ∈ lw_tbl) (hini : Cond.initialized y.cls ∈ lw_tbl) (hy1 : y.name = "<init>")
    (hd : y.cls ≠ "java/lang/invoke/MethodHandle" ∧ y.cls ≠ "java/lang/invoke/VarHandle" ∧ (parseMethodDescriptor y.desc).map (fun d => d.parameters.length) = some n) (hR : rm.frames + 1 ≤ R.frames ∧ 8 + (maxL + 11) + rm.locals ≤ R.locals) (hn : As.length = n) (hls : ls.size = nL) (hst : st0 = As.reverse ++ .ref b :: rest) (hW : (rest.map fun v => v.category).sum ≤ 8) (hf : cells + rm.cells ≤ R.cells ∧ slots + rm.slots ≤ R.slots) (hdg : decode cc pc = .ok (.invokespecial index, 3)) :
    va_Run p l e R s m args below meth c H locs cells slots rm.cells rm.slots (F0 m pc ls st0) rest (Qc (Value.ref b :: As).toArray) (hp_A h) :=
  va_runI (As := As) (rest := rest) cx hM (cwI n cx.2.2.2.2 (tb_GI hcd) rfl rfl rfl (cx.2.2.2.2 _ (tb_in hini rfl)) (cx.2.2.2.2 _ (tb_in hl rfl)) (cx.2.2.2.2 _ (tb_in hi rfl)) hy1 hd hR) ⟨hp_blind, fun U hU hW => ⟨rfl, hB.U hU hW⟩⟩ rfl hn hls hst (lv_room hW) hdg hf
theorem hp_runIN {host : String} (cx : CallFix p m c cc nL s args tbG own) (hB : hp_B D cA A s h H locs) (hM : hp_M l y bytes maxL none rm D cA h (.ref b :: As) Qc) (hcd : Cond.code y bytes maxL none ∈ lw_tbl) (hl : Cond.methodLinkNest own index y host ∈ hp_NW) (hi : Cond.instanceMethod y ∈ lw_tbl) (hini : Cond.initialized y.cls ∈ lw_tbl) (hy1 : y.name = "<init>")
    (hd : y.cls ≠ "java/lang/invoke/MethodHandle" ∧ y.cls ≠ "java/lang/invoke/VarHandle" ∧ (parseMethodDescriptor y.desc).map (fun d => d.parameters.length) = some n) (hR : rm.frames + 1 ≤ R.frames ∧ 8 + (maxL + 11) + rm.locals ≤ R.locals) (hn : As.length = n) (hls : ls.size = nL) (hst : st0 = As.reverse ++ .ref b :: rest) (hW : (rest.map fun v => v.category).sum ≤ 8) (hf : cells + rm.cells ≤ R.cells ∧ slots + rm.slots ≤ R.slots) (hdg : decode cc pc = .ok (.invokespecial index, 3)) :
    va_Run p l e R s m args below meth c H locs cells slots rm.cells rm.slots (F0 m pc ls st0) rest (Qc (Value.ref b :: As).toArray) (hp_A h) :=
  va_runIN (As := As) (rest := rest) cx hM ⟨va_cnB n cx.2.2.2.2 (tb_GI hcd) rfl rfl rfl (hB.2.2.1.1 _ hl) (cx.2.2.2.2 _ (tb_in hini rfl)) hd hR, hy1, cx.2.2.2.2 _ (tb_in hi rfl)⟩ ⟨hp_blind, fun U hU hW => ⟨rfl, hB.U hU hW⟩⟩ rfl hn hls hst (lv_room hW) hdg hf
theorem lv_ren {x y : Int32} (hxy : y = x) (kk : W p l e R s m args below meth c H locs cells slots Q (F0 m pc ls (.int y :: rest))) : W p l e R s m args below meth c H locs cells slots Q (F0 m pc ls (.int x :: rest)) := by
  rw [← hxy]
  exact kk
theorem hp_cI0 {r : Int32} (hr : va_Run p l e R s m args below meth c H locs cells slots mc ms (F0 m pc ls st0) rest (hp_Qi D cA h h' r av) (hp_A h)) (hmc : mc = 0) (hms : ms = 0) (hB : hp_B D cA A s h H locs)
    (kk : ∀ (H1 : Heap) (locs1 : List Loc), hp_B D cA A s h' H1 locs1 → W p l e R s m args below meth c H1 locs1 cells slots Q (F0 m (pc + 3) ls (.int r :: rest))) : W p l e R s m args below meth c H locs cells slots Q (F0 m pc ls st0) := by
  subst hmc; subst hms
  exact hp_cI hr hB kk
theorem hp_cV0 (hr : va_Run p l e R s m args below meth c H locs cells slots mc ms (F0 m pc ls st0) rest (hp_Qv D cA h h' av) (hp_A h)) (hmc : mc = 0) (hms : ms = 0) (hB : hp_B D cA A s h H locs)
    (kk : ∀ (H1 : Heap) (locs1 : List Loc), hp_B D cA A s h' H1 locs1 → W p l e R s m args below meth c H1 locs1 cells slots Q (F0 m (pc + 3) ls rest)) : W p l e R s m args below meth c H locs cells slots Q (F0 m pc ls st0) := by
  subst hmc; subst hms
  exact hp_cV hr hB kk
theorem hp_cR0 {r : Option Nat} (hr : va_Run p l e R s m args below meth c H locs cells slots mc ms (F0 m pc ls st0) rest (hp_Qr D cA h h' r av) (hp_A h)) (hmc : mc = 0) (hms : ms = 0) (hB : hp_B D cA A s h H locs)
    (kk : ∀ (H1 : Heap) (locs1 : List Loc), hp_B D cA A s h' H1 locs1 → W p l e R s m args below meth c H1 locs1 cells slots Q (F0 m (pc + 3) ls (va_rf r :: rest))) : W p l e R s m args below meth c H locs cells slots Q (F0 m pc ls st0) := by
  subst hmc; subst hms
  exact hp_cR hr hB kk
theorem lq_astore_n (hexec : p.tables.exec = Jvm.exec) (hb : c.code = cc) {k : Fin 4} {i nL : Nat} {o : Option Nat} {lv lv' : List (Nat × Value)} (hdg : decode cc pc = .ok (.astore_n k, 1)) (hi : (k : Nat) = i) (hh : lv_has ls nL lv) (hn : i < nL) (hl : (i, va_rf o) :: lv.filter (fun q => !(q.1 == i) && !(q.1 + 1 == i && q.2.category == 2)) = lv')
    (kk : ∀ ls' : Array Slot, lv_has ls' nL lv' → W p l e R s m args below meth c H locs cells slots Q (F0 m (pc + 1) ls' rest)) : W p l e R s m args below meth c H locs cells slots Q (F0 m pc ls (va_rf o :: rest)) := by
  cases o with
  | none => exact lv_astore_nN hexec hb hdg hi hh hn hl kk
  | some a => exact lv_astore_n hexec hb hdg hi hh hn hl kk
theorem lq_astore (hexec : p.tables.exec = Jvm.exec) (hb : c.code = cc) {i nL : Nat} {o : Option Nat} {lv lv' : List (Nat × Value)} (hdg : decode cc pc = .ok (.astore i, 2)) (hh : lv_has ls nL lv) (hn : i < nL) (hl : (i, va_rf o) :: lv.filter (fun q => !(q.1 == i) && !(q.1 + 1 == i && q.2.category == 2)) = lv')
    (kk : ∀ ls' : Array Slot, lv_has ls' nL lv' → W p l e R s m args below meth c H locs cells slots Q (F0 m (pc + 2) ls' rest)) : W p l e R s m args below meth c H locs cells slots Q (F0 m pc ls (va_rf o :: rest)) := by
  cases o with
  | none => exact lv_astoreN hexec hb hdg hh hn hl kk
  | some a => exact lv_astore hexec hb hdg hh hn hl kk
/-- null and references by one name -/
theorem lq_aload_n (hexec : p.tables.exec = Jvm.exec) (hb : c.code = cc) {k : Fin 4} {i : Nat} {o : Option Nat} (hdg : decode cc pc = .ok (.aload_n k, 1)) (hi : (k : Nat) = i) (hl : ls[i]? = some (.val (va_rf o))) (kk : W p l e R s m args below meth c H locs cells slots Q (F0 m (pc + 1) ls (va_rf o :: rest))) : W p l e R s m args below meth c H locs cells slots Q (F0 m pc ls rest) := by
  cases o with
  | none => exact lv_aload_nN hexec hb hdg hi hl kk
  | some a => exact lv_aload_n hexec hb hdg hi hl kk
theorem lq_aload (hexec : p.tables.exec = Jvm.exec) (hb : c.code = cc) {i : Nat} {o : Option Nat} (hdg : decode cc pc = .ok (.aload i, 2)) (hl : ls[i]? = some (.val (va_rf o))) (kk : W p l e R s m args below meth c H locs cells slots Q (F0 m (pc + 2) ls (va_rf o :: rest))) : W p l e R s m args below meth c H locs cells slots Q (F0 m pc ls rest) := by
  cases o with
  | none => exact lv_aloadN hexec hb hdg hl kk
  | some a => exact lv_aload hexec hb hdg hl kk
theorem lq_ifnull (hexec : p.tables.exec = Jvm.exec) (hb : c.code = cc) {o : Option Nat} {off : Int} {tgt : Nat} (hdg : decode cc pc = .ok (.ifnull off, 3)) (ht : (pc : Int) + off = (tgt : Int)) (k1 : o = none → W p l e R s m args below meth c H locs cells slots Q (F0 m tgt ls rest)) (k2 : ∀ a, o = some a → W p l e R s m args below meth c H locs cells slots Q (F0 m (pc + 3) ls rest)) : W p l e R s m args below meth c H locs cells slots Q (F0 m pc ls (va_rf o :: rest)) := by
  cases o with
  | none => exact lv_ifnullN hexec hb hdg ht (k1 rfl)
  | some a => exact lv_ifnull hexec hb hdg (k2 a rfl)
theorem lq_ifnonnull (hexec : p.tables.exec = Jvm.exec) (hb : c.code = cc) {o : Option Nat} {off : Int} {tgt : Nat} (hdg : decode cc pc = .ok (.ifnonnull off, 3)) (ht : (pc : Int) + off = (tgt : Int)) (k1 : o = none → W p l e R s m args below meth c H locs cells slots Q (F0 m (pc + 3) ls rest)) (k2 : ∀ a, o = some a → W p l e R s m args below meth c H locs cells slots Q (F0 m tgt ls rest)) : W p l e R s m args below meth c H locs cells slots Q (F0 m pc ls (va_rf o :: rest)) := by
  cases o with
  | none => exact lv_ifnonnullN hexec hb hdg (k1 rfl)
  | some a => exact lv_ifnonnull hexec hb hdg ht (k2 a rfl)
end HPS
