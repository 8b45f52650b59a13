/-! THE HEAP AS PURE FUNCTIONS: the kind of each address (0: no cell; 1 + ci: an object of class ci; 13 int[], 14 boolean[], 15 Caller[], 16 Line[], 17 Place[], 18 int[][]), lengths, ints, references, the size -/
abbrev Hp : Type := (Nat → Nat) × (Nat → Nat) × (Nat → Nat → Int32) × (Nat → Nat → Option Nat) × Nat
def u2 {α : Type} (f : Nat → Nat → α) (a k : Nat) (v : α) : Nat → Nat → α := va_up f a (va_up (f a) k v)
def hp_si (h : Hp) (a k : Nat) (v : Int32) : Hp := (h.1, h.2.1, u2 h.2.2.1 a k v, h.2.2.2.1, h.2.2.2.2)
def hp_sr (h : Hp) (a k : Nat) (v : Option Nat) : Hp := (h.1, h.2.1, h.2.2.1, u2 h.2.2.2.1 a k v, h.2.2.2.2)
def hp_nw (h : Hp) (kd n : Nat) : Hp := (va_up h.1 h.2.2.2.2 kd, va_up h.2.1 h.2.2.2.2 n, va_up h.2.2.1 h.2.2.2.2 (fun _ => 0), va_up h.2.2.2.1 h.2.2.2.2 (fun _ => none), h.2.2.2.2 + 1)
/-- which fields of a class are references -/
def hp_rs : List (List Nat) := [[], [0, 1], [0], [], [0, 1, 2], [5], [0, 1, 5, 6, 7, 8, 9], [0, 1], [6, 7, 8], [0], [0, 1, 2, 3, 4, 5, 6, 7], [1, 2, 3, 4, 5, 6, 7, 8, 9, 10, 11, 12, 13, 14, 16, 17, 18, 19, 20, 21, 27, 28, 29, 30, 36, 42, 43, 44, 45, 46, 47, 48, 49, 50, 51, 52, 55, 56]]
def hp_nf : List Nat := [5, 3, 2, 4, 3, 11, 10, 2, 10, 1, 8, 57]
def hp_isr (ci k : Nat) : Bool := (hp_rs.getD ci []).contains k
def hp_fv (h : Hp) (ci a k : Nat) : Value := if hp_isr ci k = true then va_rf (h.2.2.2.1 a k) else .int (h.2.2.1 a k)
def hp_fs (h : Hp) (ci a : Nat) : List Value := (List.range (hp_nf.getD ci 0)).map (hp_fv h ci a)
def hp_c (cA : Nat → ClassId) (h : Hp) (a : Nat) : va_E :=
  if h.1 a < 13 then .inr (h.1 a - 1, hp_fs h (h.1 a - 1) a)
  else if h.1 a < 15 then .inl (cA (h.1 a), h.2.1 a, .inl (h.2.2.1 a))
  else .inl (cA (h.1 a), h.2.1 a, .inr (.inr (.inr (.inr (h.2.2.2.1 a)))))
abbrev hp_ty (cA : Nat → ClassId) : List (ClassId × FieldType) := [(cA 13, .int), (cA 14, .boolean), (cA 15, .object RX0), (cA 16, .object RX3), (cA 17, .object RX5), (cA 18, .array .int)]
def hp_NW : List Cond := [Cond.methodLinkNest "SpokenMenus" 9 ({ cls := "SpokenMenus$House", name := "<init>", desc := "()V" } : MethodName) "SpokenMenus", Cond.methodLinkNest "SpokenMenus" 18 ({ cls := "SpokenMenus$Ways", name := "<init>", desc := "()V" } : MethodName) "SpokenMenus", Cond.methodLinkNest "SpokenMenus" 25 ({ cls := "SpokenMenus$Traps", name := "<init>", desc := "()V" } : MethodName) "SpokenMenus", Cond.methodLinkNest "SpokenMenus" 32 ({ cls := "SpokenMenus$Groups", name := "<init>", desc := "()V" } : MethodName) "SpokenMenus", Cond.methodLinkNest "SpokenMenus" 39 ({ cls := "SpokenMenus$Ordering", name := "<init>", desc := "()V" } : MethodName) "SpokenMenus", Cond.methodLinkNest "SpokenMenus" 53 ({ cls := "SpokenMenus$Walk", name := "<init>", desc := "()V" } : MethodName) "SpokenMenus", Cond.methodLinkNest "SpokenMenus$Walk" 87 ({ cls := "SpokenMenus", name := "clear", desc := "([Z)V" } : MethodName) "SpokenMenus", Cond.methodLinkNest "SpokenMenus$Traps" 18 ({ cls := "SpokenMenus", name := "clear", desc := "([Z)V" } : MethodName) "SpokenMenus"]
def hp_N (cA : Nat → ClassId) (U : State) : Prop := (∀ w ∈ hp_NW, va_Nw w U) ∧ va_AO RX0 U ∧ va_AO RX3 U ∧ va_AO RX5 U ∧ ∃ kA : Class, U.vm.classes[cA 18]? = some kA ∧ kA.kind = .array (cA 13) (.array .int)
def hp_w (D : va_G) (cA : Nat → ClassId) (h : Hp) (H : Heap) : Prop := H.size = h.2.2.2.2 ∧ ∀ a, h.1 a ≠ 0 → va_at D vwCl (a, hp_c cA h a) H
def hp_U (D : va_G) (cA : Nat → ClassId) (h : Hp) (U : State) : Prop := hp_w D cA h U.heap ∧ va_K D vwCl (hp_ty cA) U ∧ hp_N cA U
def hp_A (h : Hp) : Nat → Prop := fun q => h.1 q ≠ 0 ∨ h.2.2.2.2 ≤ q
def hp_B (D : va_G) (cA : Nat → ClassId) (A : Nat → Prop) (s : State) (h : Hp) (H : Heap) (locs : List Loc) : Prop :=
  hp_w D cA h H ∧ va_K D vwCl (hp_ty cA) s ∧ hp_N cA s ∧ (∀ a, h.1 a ≠ 0 → A a) ∧ (∀ q, s.heap.size ≤ q → A q) ∧ va_S A s.heap H locs
theorem hp_N.moved5 {cA : Nat → ClassId} {s U : State} (hvm : s.vm.Alike U.vm) (h : ∃ kA : Class, s.vm.classes[cA 18]? = some kA ∧ kA.kind = .array (cA 13) (.array .int)) : ∃ kA : Class, U.vm.classes[cA 18]? = some kA ∧ kA.kind = .array (cA 13) (.array .int) := by
  obtain ⟨kA, h1, h2⟩ := h
  obtain ⟨k', hk', he⟩ := hvm.2.2 _ _ h1
  exact ⟨k', hk', by rw [he]; exact h2⟩
theorem hp_N.warm {cA : Nat → ClassId} {s U : State} (hW : s.WarmedH U.vm) (h : hp_N cA s) : hp_N cA U := by
  obtain ⟨h1, h2, h3, h4, h5⟩ := h
  refine ⟨fun w hw => ?_, va_AO.moved hW.alike h2, va_AO.moved hW.alike h3, va_AO.moved hW.alike h4, hp_N.moved5 hW.alike h5⟩
  have h0 := h1 w hw
  simp only [hp_NW, List.mem_cons, List.not_mem_nil, or_false] at hw
  rcases hw with rfl | rfl | rfl | rfl | rfl | rfl | rfl | rfl <;> exact va_Nw.warmM hW h0
theorem hp_N.same {cA : Nat → ClassId} {s U : State} (hv : s.vm = U.vm) (h : hp_N cA s) : hp_N cA U := by
  obtain ⟨h1, h2, h3, h4, h5⟩ := h
  have ha : s.vm.Alike U.vm := by rw [hv]; exact Vm.Alike.refl _
  refine ⟨fun w hw => ?_, va_AO.moved ha h2, va_AO.moved ha h3, va_AO.moved ha h4, hp_N.moved5 ha h5⟩
  have h0 := h1 w hw
  refine va_Nw.same ?_ hv h0
  simp only [hp_NW, List.mem_cons, List.not_mem_nil, or_false] at hw
  rcases hw with rfl | rfl | rfl | rfl | rfl | rfl | rfl | rfl <;> rfl
theorem hp_blind {D : va_G} {cA : Nat → ClassId} {h : Hp} {av : List Value} : FrameBlind (va_Pc av (hp_U D cA h)) := fun a U g mk q => by
  obtain ⟨q0, q1, q2, q3⟩ := q
  exact ⟨q0, q1, va_K.moved (u := U) (U := U.calling g mk a) (Vm.Alike.refl U.vm) q2, hp_N.same (s := U) (U := U.calling g mk a) rfl q3⟩
theorem hp_B.U {D : va_G} {cA : Nat → ClassId} {A : Nat → Prop} {s U : State} {h : Hp} {H : Heap} {locs : List Loc} (hB : hp_B D cA A s h H locs) (hU : U.heap = H) (hW : s.WarmedH U.vm) : hp_U D cA h U :=
  ⟨by rw [hU]; exact hB.1, va_K.moved hW.alike hB.2.1, hp_N.warm hW hB.2.2.1⟩
theorem hp_B.entry {D : va_G} {cA : Nat → ClassId} {s : State} {h : Hp} (hU : hp_U D cA h s) : hp_B D cA (hp_A h) s h s.heap [] :=
  ⟨hU.1, hU.2.1, hU.2.2, fun _ h1 => Or.inl h1, fun q hq => Or.inr (by rw [← hU.1.1]; exact hq), va_S.rf⟩
theorem u2_ne {α : Type} {f : Nat → Nat → α} {a k b : Nat} {v : α} (hb : b ≠ a) : u2 f a k v b = f b := va_up_ne _ _ hb
theorem u2_row {α : Type} {f : Nat → Nat → α} {a k : Nat} {v : α} : u2 f a k v a = va_up (f a) k v := va_up_self _ _ _
/-- two heaps that differ at one address in what the cells hold -/
def hp_like (h h' : Hp) (a : Nat) : Prop := h'.1 = h.1 ∧ h'.2.1 = h.2.1 ∧ h'.2.2.2.2 = h.2.2.2.2 ∧ ∀ b, b ≠ a → h'.2.2.1 b = h.2.2.1 b ∧ h'.2.2.2.1 b = h.2.2.2.1 b
theorem hp_like_si (h : Hp) (a k : Nat) (v : Int32) : hp_like h (hp_si h a k v) a := ⟨rfl, rfl, rfl, fun b hb => ⟨u2_ne hb, rfl⟩⟩
theorem hp_like_sr (h : Hp) (a k : Nat) (v : Option Nat) : hp_like h (hp_sr h a k v) a := ⟨rfl, rfl, rfl, fun b hb => ⟨rfl, u2_ne hb⟩⟩
theorem hp_c_ne {cA : Nat → ClassId} {h h' : Hp} {a b : Nat} (hl : hp_like h h' a) (hb : b ≠ a) : hp_c cA h' b = hp_c cA h b := by
  obtain ⟨e1, e2, e3, e4⟩ := hl
  obtain ⟨e5, e6⟩ := e4 b hb
  have e7 : ∀ ci, hp_fv h' ci b = hp_fv h ci b := fun ci => funext fun j => by simp only [hp_fv, e5, e6]
  simp only [hp_c, hp_fs, e1, e2, e5, e6, e7]
theorem hp_fs_len {h : Hp} {ci a : Nat} : (hp_fs h ci a).length = hp_nf.getD ci 0 := by simp [hp_fs]
theorem hp_fs_get {h : Hp} {ci a k : Nat} (hk : k < hp_nf.getD ci 0) : (hp_fs h ci a)[k]? = some (hp_fv h ci a k) := by
  unfold hp_fs
  rw [List.getElem?_map, List.getElem?_range hk]
  rfl
theorem hp_fs_set {h h' : Hp} {ci a k : Nat} {v : Value} (hk : k < hp_nf.getD ci 0) (h1 : hp_fv h' ci a k = v) (h2 : ∀ j, j ≠ k → hp_fv h' ci a j = hp_fv h ci a j) : (hp_fs h ci a).set k v = hp_fs h' ci a := by
  apply List.ext_getElem?
  intro j
  by_cases hj : j = k
  · subst hj
    rw [List.getElem?_set_self (by rw [hp_fs_len]; exact hk), hp_fs_get hk, h1]
  · rw [List.getElem?_set_ne (Ne.symm hj)]
    by_cases hn : j < hp_nf.getD ci 0
    · rw [hp_fs_get hn, hp_fs_get hn, h2 j hj]
    · rw [List.getElem?_eq_none (by rw [hp_fs_len]; omega), List.getElem?_eq_none (by rw [hp_fs_len]; omega)]
theorem hp_fs_si {h : Hp} {ci a k : Nat} {v : Int32} (hk : k < hp_nf.getD ci 0) (hr : hp_isr ci k = false) : (hp_fs h ci a).set k (.int v) = hp_fs (hp_si h a k v) ci a :=
  hp_fs_set hk (by simp [hp_fv, hr, hp_si, u2, va_up]) (fun j hj => by simp [hp_fv, hp_si, u2, va_up, hj])
theorem hp_fs_sr {h : Hp} {ci a k : Nat} {v : Option Nat} (hk : k < hp_nf.getD ci 0) (hr : hp_isr ci k = true) : (hp_fs h ci a).set k (va_rf v) = hp_fs (hp_sr h a k v) ci a :=
  hp_fs_set hk (by simp [hp_fv, hr, hp_sr, u2, va_up]) (fun j hj => by simp [hp_fv, hp_sr, u2, va_up, hj])
theorem hp_c_obj {cA : Nat → ClassId} {h : Hp} {a ci : Nat} (hk : h.1 a = ci + 1) (hci : ci < 12) : hp_c cA h a = .inr (ci, hp_fs h ci a) := by
  unfold hp_c
  rw [hk, if_pos (by omega)]
  rfl
theorem hp_c_int {cA : Nat → ClassId} {h : Hp} {a : Nat} (hk : h.1 a = 13) : hp_c cA h a = .inl (cA 13, h.2.1 a, .inl (h.2.2.1 a)) := by
  unfold hp_c
  rw [hk]
  rfl
theorem hp_c_bool {cA : Nat → ClassId} {h : Hp} {a : Nat} (hk : h.1 a = 14) : hp_c cA h a = .inl (cA 14, h.2.1 a, .inl (h.2.2.1 a)) := by
  unfold hp_c
  rw [hk]
  rfl
theorem hp_c_ref {cA : Nat → ClassId} {h : Hp} {a : Nat} (hk : 15 ≤ h.1 a) : hp_c cA h a = .inl (cA (h.1 a), h.2.1 a, .inr (.inr (.inr (.inr (h.2.2.2.1 a))))) := by
  unfold hp_c
  rw [if_neg (by omega), if_neg (by omega)]
theorem hp_w.set {D : va_G} {cA : Nat → ClassId} {h h' : Hp} {H H1 : Heap} {a : Nat} (hw : hp_w D cA h H) (hl : hp_like h h' a) (he : va_at D vwCl (a, hp_c cA h' a) H1) (hz : H1.size = H.size) (oq : ∀ q : Nat, q ≠ a → H1[q]? = H[q]?) : hp_w D cA h' H1 := by
  refine ⟨by rw [hz, hw.1, hl.2.2.1], fun b hb => ?_⟩
  by_cases e : b = a
  · subst e; exact he
  · rw [hp_c_ne hl e]
    exact (hw.2 b (by rw [← hl.1]; exact hb)).kept (oq b e)
theorem hp_B.set {D : va_G} {cA : Nat → ClassId} {A : Nat → Prop} {s : State} {h h' : Hp} {H H1 : Heap} {locs : List Loc} {a k : Nat} (hB : hp_B D cA A s h H locs) (ha : h.1 a ≠ 0) (hl : hp_like h h' a) (he : va_at D vwCl (a, hp_c cA h' a) H1) (hz : H1.size = H.size) (oq : ∀ q : Nat, q ≠ a → H1[q]? = H[q]?) : hp_B D cA A s h' H1 (locs ++ [⟨a, k⟩]) :=
  ⟨hB.1.set hl he hz oq, hB.2.1, hB.2.2.1, fun b hb => hB.2.2.2.1 b (by rw [← hl.1]; exact hb), hB.2.2.2.2.1, hB.2.2.2.2.2.put hz oq (hB.2.2.2.1 a ha)⟩
theorem hp_one {D : va_G} {cA : Nat → ClassId} {A : Nat → Prop} {s : State} {h : Hp} {H : Heap} {locs : List Loc} {a : Nat} {x : va_E} (hB : hp_B D cA A s h H locs) (ha : h.1 a ≠ 0) (hx : hp_c cA h a = x) : va_P D vwCl [(a, x)] H := by
  intro k q hk
  have h0 : k < 1 := (List.getElem?_eq_some_iff.mp hk).1
  rw [show k = 0 by omega] at hk
  cases hk
  rw [← hx]
  exact hB.1.2 a ha
theorem hp_new_w {D : va_G} {cA : Nat → ClassId} {h : Hp} {H H1 : Heap} {kd n : Nat} (hw : hp_w D cA h H) (he : va_at D vwCl (h.2.2.2.2, hp_c cA (hp_nw h kd n) h.2.2.2.2) H1) (hz : H1.size = H.size + 1) (oq : ∀ q : Nat, q < H.size → H1[q]? = H[q]?) : hp_w D cA (hp_nw h kd n) H1 := by
  refine ⟨by rw [hz, hw.1]; rfl, fun b hb => ?_⟩
  by_cases e : b = h.2.2.2.2
  · subst e; exact he
  · have e1 : (hp_nw h kd n).1 b = h.1 b := va_up_ne _ _ e
    have e2 : (hp_nw h kd n).2.1 b = h.2.1 b := va_up_ne _ _ e
    have e3 : (hp_nw h kd n).2.2.1 b = h.2.2.1 b := va_up_ne _ _ e
    have e4 : (hp_nw h kd n).2.2.2.1 b = h.2.2.2.1 b := va_up_ne _ _ e
    have e7 : ∀ ci, hp_fv (hp_nw h kd n) ci b = hp_fv h ci b := fun ci => funext fun j => by simp only [hp_fv, e3, e4]
    have e5 : hp_c cA (hp_nw h kd n) b = hp_c cA h b := by simp only [hp_c, hp_fs, e1, e2, e3, e4, e7]
    rw [e5]
    have hb' : h.1 b ≠ 0 := by rw [← e1]; exact hb
    exact (hw.2 b hb').kept (oq b (hw.2 b hb').lt)
theorem hp_new_B {D : va_G} {cA : Nat → ClassId} {A : Nat → Prop} {s : State} {h : Hp} {H H1 : Heap} {locs : List Loc} {kd n : Nat} (hB : hp_B D cA A s h H locs) (he : va_at D vwCl (h.2.2.2.2, hp_c cA (hp_nw h kd n) h.2.2.2.2) H1) (hz : H1.size = H.size + 1) (oq : ∀ q : Nat, q < H.size → H1[q]? = H[q]?) : hp_B D cA A s (hp_nw h kd n) H1 locs := by
  obtain ⟨hw, hK, hN, hA, hF, hS⟩ := hB
  refine ⟨hp_new_w hw he hz oq, hK, hN, fun b hb => ?_, hF, ⟨Nat.le_trans hS.1 (by omega), fun x h1 h2 => (oq x (Nat.lt_of_lt_of_le h1 hS.1)).trans (hS.2.1 x h1 h2), hS.2.2⟩⟩
  by_cases e : b = h.2.2.2.2
  · subst e; exact hF _ (by rw [← hw.1]; exact hS.1)
  · exact hA b (by rw [← show (hp_nw h kd n).1 b = h.1 b from va_up_ne _ _ e]; exact hb)
theorem hp_new_fv {h : Hp} {kd n ci k : Nat} : hp_fv (hp_nw h kd n) ci h.2.2.2.2 k = if hp_isr ci k = true then .null else .int 0 := by
  simp only [hp_fv, hp_nw, va_up_self]
  rfl
theorem u_good {C : String} {T : u_T} {N : Nat} {w : Cond} (h : w ∈ u_ws C T N) : goodWord w = true := by
  obtain ⟨k, -, rfl⟩ := List.mem_map.mp h
  unfold u_lay
  split <;> rfl
theorem u_inG {C : String} {T : u_T} {N : Nat} (h : ∀ w ∈ u_ws C T N, w ∈ lw_tbl) : ∀ w ∈ u_ws C T N, w ∈ tbG := fun w hw => tb_in (h w hw) (u_good hw)
/-! what the pure functions are made of, and how a walk takes them apart -/
def gd {α : Type} (b : Bool) (x : Option α) : Option α := if b = true then x else none
theorem gd_ok {α : Type} {b : Bool} {x : Option α} {r : α} (h : gd b x = some r) : b = true ∧ x = some r := by
  unfold gd at h
  split at h
  · exact ⟨by assumption, h⟩
  · cases h
def nm {α β : Type} (v : α) (k : α → β) : β := k v
theorem nm_ok {α β : Type} {v : α} {k : α → Option β} {r : β} (h : nm v k = some r) : ∃ x, x = v ∧ k x = some r := ⟨v, rfl, h⟩
def bd {α β : Type} (o : Option α) (k : α → Option β) : Option β := match o with
  | none => none
  | some a => k a
theorem bd_ok {α β : Type} {o : Option α} {k : α → Option β} {r : β} (h : bd o k = some r) : ∃ a, o = some a ∧ k a = some r := by
  cases o with
  | none => cases h
  | some a => exact ⟨a, rfl, h⟩
def rn {β : Type} (o : Option Nat) (x : β) (k : Nat → β) : β := match o with
  | none => x
  | some a => k a
def fx {F : Type} (b : F → F) (z : F) : Nat → F
  | 0 => z
  | n + 1 => b (fx b z n)
def gk {α : Type} (n k : Nat) (x : Option α) : Option α := if n = k then x else none
theorem gk_ok {α : Type} {n k : Nat} {x : Option α} {r : α} (h : gk n k x = some r) : n = k ∧ x = some r := by
  unfold gk at h
  split at h
  · exact ⟨by assumption, h⟩
  · cases h
def b2 {α β : Type} (o : Option (α × Hp)) (k : α → Hp → Option β) : Option β := match o with
  | none => none
  | some q => k q.1 q.2
theorem b2_ok {α β : Type} {o : Option (α × Hp)} {k : α → Hp → Option β} {r : β} (h : b2 o k = some r) : ∃ a g, o = some (a, g) ∧ k a g = some r := by
  cases o with
  | none => cases h
  | some q => exact ⟨q.1, q.2, rfl, h⟩
theorem rt_ok {α β : Type} {a c : α} {b d : β} (h : some (a, b) = some (c, d)) : c = a ∧ d = b := by
  cases h
  exact ⟨rfl, rfl⟩
theorem it_t {α : Type} {c : Prop} [Decidable c] {x y r : α} (h : c) (hf : (if c then x else y) = r) : x = r := by
  rw [if_pos h] at hf
  exact hf
theorem it_f {α : Type} {c : Prop} [Decidable c] {x y r : α} (h : ¬ c) (hf : (if c then x else y) = r) : y = r := by
  rw [if_neg h] at hf
  exact hf
theorem rn_n {β : Type} {x r : β} {k : Nat → β} (hf : rn none x k = r) : x = r := hf
theorem rn_s {β : Type} {x r : β} {k : Nat → β} {a : Nat} (hf : rn (some a) x k = r) : k a = r := hf
theorem cat_i (x : Int32) : (Value.int x).category = 1 := rfl
theorem cat_r (x : Nat) : (Value.ref x).category = 1 := rfl
theorem cat_n : (Value.null).category = 1 := rfl
theorem va_rf_cat (o : Option Nat) : (va_rf o).category = 1 := by cases o <;> rfl
def ix (i : Int32) (n : Nat) : Bool := decide (¬ (i < 0 ∨ n ≤ i.toNatClampNeg))
theorem ix_in {i : Int32} {n : Nat} (h : ix i n = true) : vp_in i n := by
  unfold vp_in
  exact of_decide_eq_true h
def zb (x : Int32) : Bool := decide (x = 0) || decide (x = 1)
theorem zb_nar {x : Int32} (h : zb x = true) : narrow .boolean (.int x) = .int x := by
  unfold zb at h
  rcases (by simpa using h : x = 0 ∨ x = 1) with rfl | rfl <;> rfl
theorem zb_vp {x : Int32} (h : zb x = true) : vp_nar .boolean x = x := by
  unfold zb at h
  rcases (by simpa using h : x = 0 ∨ x = 1) with rfl | rfl <;> rfl
theorem zb_fit {x : Int32} (h : zb x = true) : fits .boolean (.int x) = true := by
  unfold zb at h
  rcases (by simpa using h : x = 0 ∨ x = 1) with rfl | rfl <;> rfl
def NF : Nat := 4000000
section HPR
variable {p : Program} {l : Launch} {e : Env} {R : Room} {s : State} {m : MethodId} {args : Array Value} {below : List Frame} {meth : Method} {c : Code} {H : Heap} {locs : List Loc} {cells slots : Nat} {Q : State → Prop}
variable {cc : ByteArray} {pc nL : Nat} {ls : Array Slot} {rest : List Value} {D : va_G} {cA : Nat → ClassId} {A : Nat → Prop} {a : Nat} {h : Hp} {own : String}
theorem hp_getI (cx : CallFix p m c cc nL s args tbG own) (hB : hp_B D cA A s h H locs) {C : String} {T : u_T} {N ci index : Nat} (k : Nat) (hc : vwCl[ci]? = some (C, T, N)) (hin : ∀ w ∈ u_ws C T N, w ∈ lw_tbl) (hci : ci < 12) (hN : hp_nf.getD ci 0 = N) (hk : k < N) (hr : hp_isr ci k = false) (hl : Cond.fieldLink own index (T k).1 (T k).2.1 (T k).2.2.1 ∈ lw_tbl) (hka : h.1 a = ci + 1) (hdg : decode cc pc = .ok (.getfield index, 3))
    (kk : W p l e R s m args below meth c H locs cells slots Q (F0 m (pc + 3) ls (.int (h.2.2.1 a k) :: rest))) : W p l e R s m args below meth c H locs cells slots Q (F0 m pc ls (.ref a :: rest)) := by
  obtain ⟨hx, hb, hml, hown, hts⟩ := cx
  refine va_get (D := D) (ci := ci) (v := .int (h.2.2.1 a k)) hx hb hts (u_inG hin) hown hB.2.1 (hp_one hB (by omega) (hp_c_obj hka hci)) 0 rfl hc k hk (hts _ (tb_in hl rfl)) (fun _ h9 => h9) ?_ hdg kk
  rw [hp_fs_get (by omega)]
  simp [hp_fv, hr]
theorem hp_getR (cx : CallFix p m c cc nL s args tbG own) (hB : hp_B D cA A s h H locs) {C : String} {T : u_T} {N ci index : Nat} (k : Nat) (hc : vwCl[ci]? = some (C, T, N)) (hin : ∀ w ∈ u_ws C T N, w ∈ lw_tbl) (hci : ci < 12) (hN : hp_nf.getD ci 0 = N) (hk : k < N) (hr : hp_isr ci k = true) (hl : Cond.fieldLink own index (T k).1 (T k).2.1 (T k).2.2.1 ∈ lw_tbl) (hka : h.1 a = ci + 1) {o : Option Nat} (ho : o = h.2.2.2.1 a k) (hdg : decode cc pc = .ok (.getfield index, 3))
    (kk : W p l e R s m args below meth c H locs cells slots Q (F0 m (pc + 3) ls (va_rf o :: rest))) : W p l e R s m args below meth c H locs cells slots Q (F0 m pc ls (.ref a :: rest)) := by
  obtain ⟨hx, hb, hml, hown, hts⟩ := cx
  refine va_get (D := D) (ci := ci) (v := va_rf o) hx hb hts (u_inG hin) hown hB.2.1 (hp_one hB (by omega) (hp_c_obj hka hci)) 0 rfl hc k hk (hts _ (tb_in hl rfl)) (fun _ h9 => h9) ?_ hdg kk
  rw [hp_fs_get (by omega), ho]
  simp [hp_fv, hr]
theorem hp_putX (cx : CallFix p m c cc nL s args tbG own) (hB : hp_B D cA A s h H locs) {C : String} {T : u_T} {N ci index : Nat} (k : Nat) (ty0 : Nat → FieldType) (hty : ∀ k, k < N → parseFieldDescriptor (T k).2.2.1 = some (ty0 k)) (hnm : ∀ a, a < N → ∀ b, b < N → a ≠ b → (T a).2.1 ≠ (T b).2.1) (hc : vwCl[ci]? = some (C, T, N)) (hin : ∀ w ∈ u_ws C T N, w ∈ lw_tbl) (hci : ci < 12) (hN : hp_nf.getD ci 0 = N) (hk : k < N) (hfin : (T k).2.2.2 = false ∨ ((T k).2.2.2 = true ∧ meth.name = "<init>" ∧ (T k).1 = own)) (hl : Cond.fieldLink own index (T k).1 (T k).2.1 (T k).2.2.1 ∈ lw_tbl) (hka : h.1 a = ci + 1) {v : Value} {h' : Hp} (hlk : hp_like h h' a) (hfs : (hp_fs h ci a).set k v = hp_fs h' ci a) (hn : narrow (ty0 k) v = v) (hfit : fits (ty0 k) v = true) (hdg : decode cc pc = .ok (.putfield index, 3))
    (kk : ∀ (H1 : Heap) (locs1 : List Loc), hp_B D cA A s h' H1 locs1 → W p l e R s m args below meth c H1 locs1 cells slots Q (F0 m (pc + 3) ls rest)) : W p l e R s m args below meth c H locs cells slots Q (F0 m pc ls (v :: .ref a :: rest)) := by
  obtain ⟨hx, hb, hml, hown, hts⟩ := cx
  have hin' := u_inG hin
  have hK := hB.2.1
  have hap := va_apart (own := own) hts hin' ty0 hty hnm hK hc
  have hP := hp_one hB (by omega) (hp_c_obj hka hci)
  obtain ⟨r, h1, cell, q1, q2, q3, q4⟩ := hP 0 _ rfl
  have hr : r = (C, T, N) := Option.some.inj (h1.symm.trans hc)
  subst hr
  obtain ⟨hS, hfc, kC, hkC, hkind⟩ := hK.1 ci _ hc
  obtain ⟨cf, kf, fi, f, hi, hsl⟩ := hS k hk
  have hlay := hts _ (hin' _ (u_in_lay hk))
  unfold u_lay at hlay
  have hst := (u_facts hfc hkC (u_lays hts hin' hk) hi).1
  have hd := hty k hk
  have hl' := hts _ (tb_in hl rfl)
  have fin : ∀ H' : Heap, H'[a]? = some (cell.setSlot (D.2 ci k) v) → H'.size = H.size → (∀ q, q ≠ a → H'[q]? = H[q]?) → hp_B D cA A s h' H' (locs ++ [⟨a, D.2 ci k⟩]) := fun H' e1 e2 e3 => by
    refine hB.set (by omega) hlk ?_ e2 e3
    rw [hp_c_obj (by rw [hlk.1]; exact hka) hci, ← hfs]
    exact ⟨_, hc, t_OB.to (V := updV (vp_V (hp_fs h ci a)) k v) ⟨_, e1, q2, q3, t_set q4 hap hk v⟩ (fun j _ => vp_updV_set (by rw [hp_fs_len]; omega) v j)⟩
  rcases hfin with hfin | ⟨hfin, hin2, hdecl⟩
  · rw [if_neg (by rw [hfin]; decide)] at hlay
    have h6 := u_store hfc hkC hkind hlay hi hd hn hfit
    refine W.putK hx hb (f := f) ⟨hown, hl', ⟨_, _, _, hi⟩, hst⟩ (by rw [q2]; exact h6) q1 q3 (by rw [hsl]; exact k2_hasslot (q4 k hk)) rfl rfl hdg fun H' e1 e2 e3 => ?_
    rw [hsl] at e1 ⊢
    exact kk H' _ (fin H' e1 e2 e3)
  · rw [if_pos hfin] at hlay
    have hcf : m.cls = cf := by
      obtain ⟨_, _, c', _, _, _, -, -, hf', -, -, -, hown2, -⟩ := Cond.laysFinal_spec hlay
      have e1 : c' = cf := by have := hi.symm.trans hf'; simp at this; exact this.1.symm
      rw [hdecl] at hown2
      rw [← e1]; exact Option.some.inj (hown.symm.trans hown2)
    have h6 := u_fits hfc hkC hkind (Or.inr hlay) hi hd hn hfit
    refine W.putFinK hx hb hown hl' hi hst hcf hin2 (by rw [q2]; exact h6) q1 q3 (by rw [hsl]; exact k2_hasslot (q4 k hk)) rfl rfl hdg fun H' e1 e2 e3 => ?_
    rw [hsl] at e1 ⊢
    exact kk H' _ (fin H' e1 e2 e3)
theorem hp_fitR {ty : FieldType} (hty : (∃ n, ty = .object n) ∨ ∃ t, ty = .array t) (v : Option Nat) : narrow ty (va_rf v) = va_rf v ∧ fits ty (va_rf v) = true := by
  rcases hty with ⟨n, rfl⟩ | ⟨t, rfl⟩ <;> cases v <;> exact ⟨rfl, rfl⟩
theorem hp_iald (cx : CallFix p m c cc nL s args tbG own) (hB : hp_B D cA A s h H locs) (hka : h.1 a = 13) {i : Int32} (hi : ix i (h.2.1 a) = true) (hdg : decode cc pc = .ok (.iaload, 1))
    (kk : W p l e R s m args below meth c H locs cells slots Q (F0 m (pc + 1) ls (.int (h.2.2.1 a i.toNatClampNeg) :: rest))) : W p l e R s m args below meth c H locs cells slots Q (F0 m pc ls (.int i :: .ref a :: rest)) :=
  va_iald cx.1 cx.2.1 hB.2.1 (hp_one hB (by omega) (hp_c_int hka)) 0 0 rfl rfl (ix_in hi) hdg kk
theorem hp_zald (cx : CallFix p m c cc nL s args tbG own) (hB : hp_B D cA A s h H locs) (hka : h.1 a = 14) {i : Int32} (hi : ix i (h.2.1 a) = true) (hdg : decode cc pc = .ok (.baload, 1))
    (kk : W p l e R s m args below meth c H locs cells slots Q (F0 m (pc + 1) ls (.int (h.2.2.1 a i.toNatClampNeg) :: rest))) : W p l e R s m args below meth c H locs cells slots Q (F0 m pc ls (.int i :: .ref a :: rest)) :=
  va_zald cx.1 cx.2.1 hB.2.1 (hp_one hB (by omega) (hp_c_bool hka)) 0 1 rfl rfl (ix_in hi) hdg kk
theorem hp_aald (cx : CallFix p m c cc nL s args tbG own) (hB : hp_B D cA A s h H locs) (kd : Nat) (ty : FieldType) (hkd : 15 ≤ kd) (ht : (hp_ty cA)[kd - 13]? = some (cA kd, ty)) (hty : ty.isReference = true) (hka : h.1 a = kd) {i : Int32} (hi : ix i (h.2.1 a) = true) {o : Option Nat} (ho : o = h.2.2.2.1 a i.toNatClampNeg) (hdg : decode cc pc = .ok (.aaload, 1))
    (kk : W p l e R s m args below meth c H locs cells slots Q (F0 m (pc + 1) ls (va_rf o :: rest))) : W p l e R s m args below meth c H locs cells slots Q (F0 m pc ls (.int i :: .ref a :: rest)) := by
  have hin := ix_in hi
  have hlt : i.toNatClampNeg < h.2.1 a := Nat.not_le.mp fun q => hin (Or.inr q)
  subst hka
  have hP := hp_one hB (by omega) (hp_c_ref hkd)
  subst ho
  exact W.aald (v := va_rf (h.2.2.2.1 a i.toNatClampNeg)) (ty := ty) cx.1 cx.2.1 (hP 0 _ rfl) ((hB.2.1.2 _ _ ht).1 (h.2.1 a) (fun j => va_rf (h.2.2.2.1 a j))) hty (fun q => by cases q) (by show ¬ (i < 0 ∨ (arrV _ _ _).slots.size ≤ _); rw [arrV_size]; exact hin) (by show (arrV _ _ _).slots[_]? = _; rw [arrV_read _ _ hlt]) rfl rfl hdg kk
theorem hp_alen (cx : CallFix p m c cc nL s args tbG own) (hB : hp_B D cA A s h H locs) (kd : Nat) (ty : FieldType) (hkd : 13 ≤ kd) (ht : (hp_ty cA)[kd - 13]? = some (cA kd, ty)) (hka : h.1 a = kd) (hdg : decode cc pc = .ok (.arraylength, 1))
    (kk : W p l e R s m args below meth c H locs cells slots Q (F0 m (pc + 1) ls (.int (Int32.ofNat (h.2.1 a)) :: rest))) : W p l e R s m args below meth c H locs cells slots Q (F0 m pc ls (.ref a :: rest)) := by
  subst hka
  have hx : ∃ x : vp_A, x.1 = h.2.1 a ∧ hp_c cA h a = .inl (cA (h.1 a), x) := by
    unfold hp_c
    rw [if_neg (by omega)]
    split
    · exact ⟨_, rfl, rfl⟩
    · exact ⟨_, rfl, rfl⟩
  obtain ⟨x, hx1, hx2⟩ := hx
  exact va_alen cx.1 cx.2.1 hB.2.1 (hp_one hB (by omega) hx2) 0 (h.1 a - 13) rfl ht (by rw [hx1]) hdg kk
end HPR
