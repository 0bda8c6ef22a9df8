
/-! ===== the constructors: a world that grows ===== -/
def cI0 (x j : Nat) : Int32 := if (KD x).1 = 9 ∧ j = 7 then -1 else if (KD x).1 = 3 ∧ j = 9 then 5 else if (KD x).1 = 3 ∧ j = 13 then 1 else if (KD x).1 = 6 ∧ j = 0 then 10 else 0
def mI0 (r j : Nat) : Int32 := if r = 0 ∧ j = 10 then -1 else if r = 1 ∧ j = 10 then 10 else if r = 1 ∧ j = 5 then 5 else if r = 1 ∧ j = 8 then 1 else 0
/-- what the cells hold at the constructors' end -/
def kI0 : Ka := ((cI0, fun _ _ => 0, fun _ _ => 0), mI0, fun _ => 0)
def CE (G : Gd) (ρ : Nat → Nat) (x : Nat) : va_E := cellE G ρ RF kI0 x
/-- a region's cells: the first of them by L, what follows is ready -/
def EL (G : Gd) (ρ : Nat → Nat) (a : Nat) (L : List va_E) (x : Nat) : va_E := (L[x - a]?).getD (CE G ρ x)
def GW (G : Gd) (ρ : Nat → Nat) (B a n : Nat) (L : List va_E) (H : Heap) : Prop := H.size = B + n + 1 ∧ ∀ x, a ≤ x → x ≤ n → va_at G.1 vwCl (ρ x, EL G ρ a L x) H
def nestC : List (String × Nat × MethodName × String) := [(RX12, 9, yX9_init, RX12), (RX12, 18, yX10_init, RX12), (RX12, 32, yX8_init, RX12), (RX3, 21, yX5_init, RX12), (RX4, 35, yX6_init, RX12), (RX4, 47, yX1_init, RX12), (RX4, 48, yX7_init, RX12), (RX4, 49, yX2_init, RX12)]
/-- the tables' words of this part that are no good words -/
def AOk (U : State) : Prop := va_AO RX1 U ∧ va_AO RX7 U ∧ va_AO RX2 U ∧ va_AO RX11 U ∧ va_AO RX5 U ∧ va_AOA .int U ∧ ∀ q ∈ nestC, va_Nw (.methodLinkNest q.1 q.2.1 q.2.2.1 q.2.2.2) U
theorem va_AOA.moved {ty : FieldType} {u U : State} (hvm : u.vm.Alike U.vm) (h : va_AOA ty u) : va_AOA ty U := by
  obtain ⟨comp, c, k, h1, h2, h3, h4, h5⟩ := arrayOverA_spec h
  obtain ⟨k', hk', he⟩ := hvm.2.2 _ _ h3
  have hi : (U.vm.classes.findIdx? fun (x : Class) => match x.kind with | .array component _ => component == comp | _ => false) = some c := by
    rw [hvm.findIdx?_eq _ (fun _ => rfl)]
    exact h2
  have hkind : k'.kind = .array comp (.array ty) := by rw [he]; exact h4
  have f1 : U.vm.findClass (FieldType.array ty).toString = some comp := by rw [hvm.findClass]; exact h1
  have f2 : U.vm.findClass ("[" ++ (FieldType.array ty).toString) = some c := by rw [hvm.findClass]; exact h5
  unfold va_AOA Cond.before Cond.holds
  simp only [Cond.value]
  rw [f1, Option.bind_some]
  refine (congrArg (fun o : Option Nat => (o.bind (fun c => (U.vm.classes[c]?).map fun (k : Class) => match k.kind with | .array _ t => decide (t = FieldType.array ty) && decide (U.vm.findClass ("[" ++ (FieldType.array ty).toString) = some c) | _ => false) == some true)) hi).trans ?_
  simp [hk', hkind, f2]
theorem AOk.warm {u U : State} (hW : u.WarmedH U.vm) (h : AOk u) : AOk U := by
  obtain ⟨h1, h2, h3, h4, h5, h6, h7⟩ := h
  have hv := hW.alike
  exact ⟨h1.moved hv, h2.moved hv, h3.moved hv, h4.moved hv, h5.moved hv, h6.moved hv, fun q hq => (h7 q hq).warmM hW⟩
theorem AOk.same {u U : State} (hv : U.vm = u.vm) (ha : u.vm.Alike U.vm) (h : AOk u) : AOk U := by
  obtain ⟨h1, h2, h3, h4, h5, h6, h7⟩ := h
  exact ⟨h1.moved ha, h2.moved ha, h3.moved ha, h4.moved ha, h5.moved ha, h6.moved ha, fun q hq => va_Nw.same rfl hv.symm (h7 q hq)⟩
/-- what a constructor's body rests on -/
def MG (p : Program) (s : State) (m : MethodId) (args : Array Value) (meth : Method) (c : Code) (cc : ByteArray) (nL : Nat) (own : String) (G : Gd) (ρ : Nat → Nat) (B a : Nat) : Prop :=
  p.tables.exec = Jvm.exec ∧ c.code = cc ∧ c.maxLocals = nL ∧ s.vm.findClass own = some m.cls ∧ (∀ w ∈ TW, w.before args s = true) ∧ va_K G.1 vwCl (tysG G) s ∧ meth.locks = false ∧ (∀ x, 1 ≤ x → x ≤ 715 → ρ x = B + x) ∧ AOk s ∧ 1 ≤ a ∧ B + a ≤ s.heap.size
/-- from this point of a constructor, with this world, it comes to Q -/
def LG (p : Program) (l : Launch) (e : Env) (R : Room) (s : State) (m : MethodId) (args : Array Value) (below : List Frame) (meth : Method) (c : Code) (Q : State → Prop) (G : Gd) (ρ : Nat → Nat) (B a : Nat) (nL cells slots pc : Nat) (lv : List (Nat × Value)) (st : List Value) (n : Nat) (L : List va_E) : Prop :=
  ∀ (H : Heap) (locs : List Loc) (ls : Array Slot), GW G ρ B a n L H → va_S (fun q => B + a ≤ q) s.heap H locs → lv_has ls nL (lv.map (fun q => (q.1, cv ρ q.2))) → W p l e R s m args below meth c H locs cells slots Q (F0 m pc ls (st.map (cv ρ)))
theorem EL_at {G : Gd} {ρ : Nat → Nat} {a j : Nat} {L : List va_E} {e : va_E} (h : L[j]? = some e) : EL G ρ a L (a + j) = e := by
  unfold EL
  rw [Nat.add_sub_cancel_left, h]
  rfl
theorem EL_ge {G : Gd} {ρ : Nat → Nat} {a x : Nat} {L : List va_E} (h : a + L.length ≤ x) : EL G ρ a L x = CE G ρ x := by
  unfold EL
  rw [List.getElem?_eq_none (by omega)]
  rfl
theorem EL_set {G : Gd} {ρ : Nat → Nat} {a j x : Nat} {L : List va_E} {e : va_E} (ha : a ≤ x) (h : x ≠ a + j) : EL G ρ a (L.set j e) x = EL G ρ a L x := by
  unfold EL
  rw [List.getElem?_set_ne (by omega)]
theorem EL_app {G : Gd} {ρ : Nat → Nat} {a n x : Nat} {L : List va_E} {e : va_E} (ha : a ≤ x) (h : x ≤ n) (hl : a + L.length = n + 1) : EL G ρ a (L ++ [e]) x = EL G ρ a L x := by
  unfold EL
  rw [List.getElem?_append_left (by omega)]
theorem EL_end {G : Gd} {ρ : Nat → Nat} {a n : Nat} {L : List va_E} {e : va_E} (hl : a + L.length = n + 1) : EL G ρ a (L ++ [e]) (n + 1) = e := by
  unfold EL
  rw [List.getElem?_append_right (by omega), show n + 1 - a - L.length = 0 by omega]
  rfl
/-- a cell more -/
theorem GW.new {G : Gd} {ρ : Nat → Nat} {B a n : Nat} {L L' : List va_E} {H H1 : Heap} (h : GW G ρ B a n L H) (hρ : ∀ x, a ≤ x → x ≤ n → ρ x = B + x) (z : H1.size = B + n + 1 + 1) (o : ∀ q, q < B + n + 1 → H1[q]? = H[q]?) (hL : ∀ x, a ≤ x → x ≤ n → EL G ρ a L' x = EL G ρ a L x) (he : va_at G.1 vwCl (ρ (n + 1), EL G ρ a L' (n + 1)) H1) : GW G ρ B a (n + 1) L' H1 := by
  refine ⟨by omega, fun x h1 h2 => ?_⟩
  by_cases q : x = n + 1
  · rw [q]
    exact he
  · rw [hL x h1 (by omega)]
    refine (h.2 x h1 (by omega)).kept (o _ ?_)
    show ρ x < _
    rw [hρ x h1 (by omega)]
    omega
/-- a cell is written -/
theorem GW.set {G : Gd} {ρ : Nat → Nat} {B a n j : Nat} {L : List va_E} {e : va_E} {H H1 : Heap} (h : GW G ρ B a n L H) (hρ : ∀ x, a ≤ x → x ≤ n → ρ x = B + x) (hj : a + j ≤ n) (hjl : j < L.length) (z : H1.size = H.size) (o : ∀ q, q ≠ ρ (a + j) → H1[q]? = H[q]?) (he : va_at G.1 vwCl (ρ (a + j), e) H1) : GW G ρ B a n (L.set j e) H1 := by
  refine ⟨z.trans h.1, fun x h1 h2 => ?_⟩
  by_cases q : x = a + j
  · rw [q, EL_at (by rw [List.getElem?_set, if_pos rfl, if_pos hjl])]
    exact he
  · rw [EL_set h1 q]
    refine (h.2 x h1 h2).kept (o _ ?_)
    show ρ x ≠ _
    rw [hρ x h1 h2, hρ (a + j) (by omega) hj]
    omega
/-- a constructor's contract: its object is the newest cell; at its end all of its region is ready -/
def CTI (l : Launch) (y : MethodName) (hd : Cond) (rm : Room) (mc ms : Nat) (G : Gd) (ρ : Nat → Nat) (B a : Nat) (e0 : va_E) (len : Nat) : Prop :=
  Met l y (hd :: TW) rm (fun v U => v = #[.ref (ρ a)] ∧ va_K G.1 vwCl (tysG G) U ∧ AOk U ∧ GW G ρ B a a [e0] U.heap) (fun _ st o t => o = .returned none ∧ GW G ρ B a (a + len - 1) [] t.heap ∧ va_F (fun q => B + a ≤ q) st t) mc ms (fun q => B + a ≤ q)
theorem arrV_ext {c : ClassId} {N : Nat} {f g : Nat → Value} (h : ∀ i, i < N → f i = g i) : arrV c N f = arrV c N g := by
  unfold arrV
  refine congrArg (fun z => ({ cls := c, slots := z, vm := .none } : Cell)) (congrArg Array.ofFn (funext fun j => h j.val j.isLt))
theorem cI0_z {x j : Nat} (h9 : (KD x).1 ≠ 9) (h3 : (KD x).1 ≠ 3) (h6 : (KD x).1 ≠ 6) : cI0 x j = 0 := by
  unfold cI0
  rw [if_neg (fun q => h9 q.1), if_neg (fun q => h3 q.1), if_neg (fun q => h3 q.1), if_neg (fun q => h6 q.1)]
theorem ce_i {G : Gd} {ρ : Nat → Nat} {x n : Nat} (h : KD x = (20, n)) : CE G ρ x = .inl (G.2 0, n, .inl (fun _ => 0)) := by
  unfold CE
  rw [cell_int h]
  refine congrArg (fun f => (Sum.inl (G.2 0, n, .inl f) : va_E)) (funext fun j => ?_)
  rw [iA_c (KD_i h)]
  exact cI0_z (by rw [h]; show (20 : Nat) ≠ 9; decide) (by rw [h]; show (20 : Nat) ≠ 3; decide) (by rw [h]; show (20 : Nat) ≠ 6; decide)
theorem ce_w {G : Gd} {ρ : Nat → Nat} {x n : Nat} (h : KD x = (26, n)) : CE G ρ x = .inl (G.2 6, n, .inr (.inr (.inr (.inr (fun _ => none))))) := by
  unfold CE
  rw [cell_word h]
  rfl
theorem ce_m {G : Gd} {ρ : Nat → Nat} {r n : Nat} (h : KD (703 + r) = (28, n)) (h0 : r ≠ 0) (h1 : r ≠ 1) : CE G ρ (703 + r) = .inl (G.2 0, n, .inl (fun _ => 0)) := by
  unfold CE
  rw [cell_intM h]
  refine congrArg (fun f => (Sum.inl (G.2 0, n, .inl f) : va_E)) (funext fun j => ?_)
  rw [iA_m]
  show mI0 r j = 0
  unfold mI0
  rw [if_neg (fun q => h0 q.1), if_neg (fun q => h1 q.1), if_neg (fun q => h1 q.1), if_neg (fun q => h1 q.1)]
theorem ce_l {G : Gd} {ρ : Nat → Nat} {x n : Nat} (h : KD x = (21, n)) : CE G ρ x = .inl (G.2 1, n, .inr (.inl (fun _ => 0))) := by
  unfold CE
  rw [cell_out h]
  rfl
theorem at_refs {D : va_G} {cl : List vw_C} {q : Nat} {cA : ClassId} {N : Nat} {f g : Nat → Option Nat} (h : ∀ i, i < N → f i = g i) (H : Heap) (ha : va_at D cl (q, .inl (cA, N, .inr (.inr (.inr (.inr f))))) H) : va_at D cl (q, .inl (cA, N, .inr (.inr (.inr (.inr g))))) H := by
  show H[q]? = some (vp_cell _ _)
  have h1 : H[q]? = some (vp_cell _ _) := ha
  rw [h1, vp_cell_q, vp_cell_q]
  exact congrArg some (arrV_ext (fun i hi => by rw [h i hi]))
section GROW
variable {p : Program} {l : Launch} {e : Env} {R : Room} {s : State} {m : MethodId} {args : Array Value} {below : List Frame} {meth : Method} {c : Code} {Q : State → Prop} {G : Gd} {ρ : Nat → Nat} {B a n : Nat} {nL cells slots pc : Nat} {lv : List (Nat × Value)} {rest : List Value} {cc : ByteArray} {own : String} {L : List va_E}
theorem MG.hx (X : MG p s m args meth c cc nL own G ρ B a) : p.tables.exec = Jvm.exec := X.1
theorem MG.hb (X : MG p s m args meth c cc nL own G ρ B a) : c.code = cc := X.2.1
theorem MG.hml (X : MG p s m args meth c cc nL own G ρ B a) : c.maxLocals = nL := X.2.2.1
theorem MG.ho (X : MG p s m args meth c cc nL own G ρ B a) : s.vm.findClass own = some m.cls := X.2.2.2.1
theorem MG.hT (X : MG p s m args meth c cc nL own G ρ B a) : ∀ w ∈ TW, w.before args s = true := X.2.2.2.2.1
theorem MG.hK (X : MG p s m args meth c cc nL own G ρ B a) : va_K G.1 vwCl (tysG G) s := X.2.2.2.2.2.1
theorem MG.hlk (X : MG p s m args meth c cc nL own G ρ B a) : meth.locks = false := X.2.2.2.2.2.2.1
theorem MG.hρ (X : MG p s m args meth c cc nL own G ρ B a) : ∀ x, 1 ≤ x → x ≤ 715 → ρ x = B + x := X.2.2.2.2.2.2.2.1
theorem MG.hAO (X : MG p s m args meth c cc nL own G ρ B a) : AOk s := X.2.2.2.2.2.2.2.2.1
theorem MG.ha (X : MG p s m args meth c cc nL own G ρ B a) : 1 ≤ a := X.2.2.2.2.2.2.2.2.2.1
theorem MG.hs (X : MG p s m args meth c cc nL own G ρ B a) : B + a ≤ s.heap.size := X.2.2.2.2.2.2.2.2.2.2
theorem MG.hr (X : MG p s m args meth c cc nL own G ρ B a) (hn : n ≤ 715) : ∀ x, a ≤ x → x ≤ n → ρ x = B + x := fun x h1 h2 => X.hρ x (Nat.le_trans X.ha h1) (Nat.le_trans h2 hn)
theorem LG.widen {c2 s2 : Nat} (h1 : cells ≤ c2) (h2 : slots ≤ s2) (k : LG p l e R s m args below meth c Q G ρ B a nL c2 s2 pc lv rest n L) : LG p l e R s m args below meth c Q G ρ B a nL cells slots pc lv rest n L :=
  fun H locs ls hP hS hl => W.widen h1 h2 (k H locs ls hP hS hl)
theorem LG.to {n' : Nat} {L' : List va_E} (hn : n = n') (hL : L = L') (k : LG p l e R s m args below meth c Q G ρ B a nL cells slots pc lv rest n' L') : LG p l e R s m args below meth c Q G ρ B a nL cells slots pc lv rest n L := by
  subst hn
  subst hL
  exact k
theorem G_iconst (X : MG p s m args meth c cc nL own G ρ B a) {v : Int} {x : Int32} (d : decode cc pc = .ok (.iconst v, 1)) (hv : Int32.ofInt v = x) (k : LG p l e R s m args below meth c Q G ρ B a nL cells slots (pc + 1) lv (.int x :: rest) n L) : LG p l e R s m args below meth c Q G ρ B a nL cells slots pc lv rest n L := by
  intro H locs ls hP hS hl
  exact lv_iconst X.hx X.hb d hv (k H locs ls hP hS hl)
theorem G_bipush (X : MG p s m args meth c cc nL own G ρ B a) {v : Int} {x : Int32} (d : decode cc pc = .ok (.bipush v, 2)) (hv : (Int8.ofInt v).toInt32 = x) (k : LG p l e R s m args below meth c Q G ρ B a nL cells slots (pc + 2) lv (.int x :: rest) n L) : LG p l e R s m args below meth c Q G ρ B a nL cells slots pc lv rest n L := by
  intro H locs ls hP hS hl
  exact lv_bipush X.hx X.hb d hv (k H locs ls hP hS hl)
theorem G_sipush (X : MG p s m args meth c cc nL own G ρ B a) {v : Int} {x : Int32} (d : decode cc pc = .ok (.sipush v, 3)) (hv : (Int16.ofInt v).toInt32 = x) (k : LG p l e R s m args below meth c Q G ρ B a nL cells slots (pc + 3) lv (.int x :: rest) n L) : LG p l e R s m args below meth c Q G ρ B a nL cells slots pc lv rest n L := by
  intro H locs ls hP hS hl
  exact lv_sipush X.hx X.hb d hv (k H locs ls hP hS hl)
theorem G_aload_n (X : MG p s m args meth c cc nL own G ρ B a) {v : Fin 4} {i : Nat} {x : Nat} (d : decode cc pc = .ok (.aload_n v, 1)) (hi : (v : Nat) = i) (j : Nat) (h : lv[j]? = some (i, .ref x)) (k : LG p l e R s m args below meth c Q G ρ B a nL cells slots (pc + 1) lv (.ref x :: rest) n L) : LG p l e R s m args below meth c Q G ρ B a nL cells slots pc lv rest n L := by
  intro H locs ls hP hS hl
  exact lv_aload_n X.hx X.hb d hi (lvm_at hl j h) (k H locs ls hP hS hl)
theorem G_iload_n (X : MG p s m args meth c cc nL own G ρ B a) {v : Fin 4} {i : Nat} {x : Int32} (d : decode cc pc = .ok (.iload_n v, 1)) (hi : (v : Nat) = i) (j : Nat) (h : lv[j]? = some (i, .int x)) (k : LG p l e R s m args below meth c Q G ρ B a nL cells slots (pc + 1) lv (.int x :: rest) n L) : LG p l e R s m args below meth c Q G ρ B a nL cells slots pc lv rest n L := by
  intro H locs ls hP hS hl
  exact lv_iload_n X.hx X.hb d hi (lvm_at hl j h) (k H locs ls hP hS hl)
theorem G_istore_n (X : MG p s m args meth c cc nL own G ρ B a) {v : Fin 4} {i : Nat} {x : Int32} {lv2 : List (Nat × Value)} (d : decode cc pc = .ok (.istore_n v, 1)) (hi : (v : Nat) = i) (hn : i < nL) (h : (i, Value.int x) :: lv.filter (fun q => !(q.1 == i) && !(q.1 + 1 == i && q.2.category == 2)) = lv2) (k : LG p l e R s m args below meth c Q G ρ B a nL cells slots (pc + 1) lv2 rest n L) : LG p l e R s m args below meth c Q G ρ B a nL cells slots pc lv (.int x :: rest) n L := by
  intro H locs ls hP hS hl
  exact lv_istore_n X.hx X.hb d hi hl hn (lvm_st (ρ := ρ) h) (fun ls2 hl2 => k H locs ls2 hP hS hl2)
theorem G_istore (X : MG p s m args meth c cc nL own G ρ B a) {i : Nat} {x : Int32} {lv2 : List (Nat × Value)} (d : decode cc pc = .ok (.istore i, 2)) (hn : i < nL) (h : (i, Value.int x) :: lv.filter (fun q => !(q.1 == i) && !(q.1 + 1 == i && q.2.category == 2)) = lv2) (k : LG p l e R s m args below meth c Q G ρ B a nL cells slots (pc + 2) lv2 rest n L) : LG p l e R s m args below meth c Q G ρ B a nL cells slots pc lv (.int x :: rest) n L := by
  intro H locs ls hP hS hl
  exact lv_istore X.hx X.hb d hl hn (lvm_st (ρ := ρ) h) (fun ls2 hl2 => k H locs ls2 hP hS hl2)
theorem G_astore_n (X : MG p s m args meth c cc nL own G ρ B a) {v : Fin 4} {i : Nat} {x : Nat} {lv2 : List (Nat × Value)} (d : decode cc pc = .ok (.astore_n v, 1)) (hi : (v : Nat) = i) (hn : i < nL) (h : (i, Value.ref x) :: lv.filter (fun q => !(q.1 == i) && !(q.1 + 1 == i && q.2.category == 2)) = lv2) (k : LG p l e R s m args below meth c Q G ρ B a nL cells slots (pc + 1) lv2 rest n L) : LG p l e R s m args below meth c Q G ρ B a nL cells slots pc lv (.ref x :: rest) n L := by
  intro H locs ls hP hS hl
  exact lv_astore_n X.hx X.hb d hi hl hn (lvm_st (ρ := ρ) h) (fun ls2 hl2 => k H locs ls2 hP hS hl2)
theorem G_iinc (X : MG p s m args meth c cc nL own G ρ B a) {i : Nat} {v : Int} {x y : Int32} {lv2 : List (Nat × Value)} (d : decode cc pc = .ok (.iinc i v, 3)) (j : Nat) (hj : lv[j]? = some (i, .int x)) (hv : x + Int32.ofInt v = y) (hn : i < nL) (h : (i, Value.int y) :: lv.filter (fun q => !(q.1 == i) && !(q.1 + 1 == i && q.2.category == 2)) = lv2) (k : LG p l e R s m args below meth c Q G ρ B a nL cells slots (pc + 3) lv2 rest n L) : LG p l e R s m args below meth c Q G ρ B a nL cells slots pc lv rest n L := by
  intro H locs ls hP hS hl
  exact lv_iinc X.hx X.hb d hl (k := j) (by rw [List.getElem?_map, hj]; rfl) hv hn (lvm_st (ρ := ρ) h) (fun ls2 hl2 => k H locs ls2 hP hS hl2)
theorem G_goto (X : MG p s m args meth c cc nL own G ρ B a) {off : Int} {tgt : Nat} (d : decode cc pc = .ok (.goto off, 3)) (ht : (pc : Int) + off = (tgt : Int)) (k : LG p l e R s m args below meth c Q G ρ B a nL cells slots tgt lv rest n L) : LG p l e R s m args below meth c Q G ρ B a nL cells slots pc lv rest n L := by
  intro H locs ls hP hS hl
  exact lv_goto X.hx X.hb d ht (k H locs ls hP hS hl)
theorem G_icmp_ge (X : MG p s m args meth c cc nL own G ρ B a) {x y : Int32} {off : Int} {tgt : Nat} (d : decode cc pc = .ok (.if_icmp .ge off, 3)) (ht : (pc : Int) + off = (tgt : Int)) (kt : y ≤ x → LG p l e R s m args below meth c Q G ρ B a nL cells slots tgt lv rest n L) (kf : ¬ y ≤ x → LG p l e R s m args below meth c Q G ρ B a nL cells slots (pc + 3) lv rest n L) : LG p l e R s m args below meth c Q G ρ B a nL cells slots pc lv (.int y :: .int x :: rest) n L := by
  intro H locs ls hP hS hl
  exact lv_icmp_ge X.hx X.hb d ht (fun q => kt q H locs ls hP hS hl) (fun q => kf q H locs ls hP hS hl)
theorem G_objI (X : MG p s m args meth c cc nL own G ρ B a) {ic x : Nat} (d : decode cc pc = .ok (.invokespecial ic, 3)) (h1 : Cond.methodLink own ic Lib.objectInit ∈ TW) (hfr : 1 ≤ R.frames) (hlo : (rest.map fun v => v.category).sum + 12 ≤ R.locals) (k : LG p l e R s m args below meth c Q G ρ B a nL cells slots (pc + 3) lv rest n L) : LG p l e R s m args below meth c Q G ρ B a nL cells slots pc lv (.ref x :: rest) n L := by
  intro H locs ls hP hS hl
  refine W.objInit X.hx X.hb X.ho (X.hT _ h1) (X.hT _ oiI) (X.hT _ oiC) rfl (hl.1.trans X.hml.symm) rfl d hfr ?_ (k H locs ls hP hS hl)
  have e0 : (F0 m pc ls (List.map (cv ρ) (.ref x :: rest))).monitorRoom = 0 := rfl
  rw [e0, cv_sum]
  omega
/-- new, dup, the constructor -/
theorem G_newC (X : MG p s m args meth c cc nL own G ρ B a) {ci ik ic N len mc1 ms1 maxL : Nat} {C : String} {T : u_T} {ty : Nat → FieldType} {fs : List Value} {y : MethodName} {bytes : ByteArray} {rm : Room} (hin : ∀ w ∈ u_ws C T N, w ∈ TW) (hty : ∀ k, k < N → parseFieldDescriptor (T k).2.2.1 = some (ty k)) (hc : vwCl[ci]? = some (C, T, N)) (hfs : ∀ j, j < N → defaultValue (ty j) = vp_V fs j)
    (hcl : Cond.classLink own ik C ∈ TW) (hinst : Cond.instantiable C N ∈ TW) (hini : Cond.initialized C ∈ TW) (hyC : y.cls = C) (hyn : y.name = "<init>") (hlk : Cond.methodLink own ic y ∈ TW ∨ (own, ic, y, RX12) ∈ nestC) (him : Cond.instanceMethod y ∈ TW) (hcd : Cond.code y bytes maxL none ∈ TW)
    (hyd : y.cls ≠ "java/lang/invoke/MethodHandle" ∧ y.cls ≠ "java/lang/invoke/VarHandle" ∧ (parseMethodDescriptor y.desc).map (fun d => d.parameters.length) = some 0)
    (hM : CTI l y (.code y bytes maxL none) rm mc1 ms1 G ρ B (n + 1) (.inr (ci, fs)) len) (hrc : rm.cells = mc1) (hrs : rm.slots = ms1) (hR : rm.frames + 1 ≤ R.frames ∧ 8 + (maxL + 11) + rm.locals ≤ R.locals)
    (d0 : decode cc pc = .ok (.new ik, 3)) (d3 : decode cc (pc + 3) = .ok (.dup, 1)) (d4 : decode cc (pc + 4) = .ok (.invokespecial ic, 3)) (hlen : 1 ≤ len) (hn : n + len ≤ 715) (han : a + L.length ≤ n + 1) (hcs : cells + 1 + mc1 ≤ R.cells ∧ slots + N + ms1 ≤ R.slots) (hst : (rest.map fun v => v.category).sum ≤ 7)
    (k : LG p l e R s m args below meth c Q G ρ B a nL (cells + 1 + mc1) (slots + N + ms1) (pc + 7) lv (.ref (n + 1) :: rest) (n + len) L) : LG p l e R s m args below meth c Q G ρ B a nL cells slots pc lv rest n L := by
  intro H locs ls hP hS hl
  have ha1 := X.ha
  have hr1 : ρ (n + 1) = B + (n + 1) := X.hρ _ (by omega) (by omega)
  have hKn := X.hK.1 ci _ hc
  refine W.newcK X.hx X.hb X.ho (X.hT _ hcl) (X.hT _ hinst) (X.hT _ hini) rfl d0 (by omega) (by omega) hKn.2.1 hP.1 fun H1 kC hkC e1 z1 o1 => ?_
  refine lv_dup (va := .ref (B + n + 1)) X.hx X.hb d3 rfl ?_
  have hre : B + n + 1 = ρ (n + 1) := by omega
  rw [hre] at e1 ⊢
  have hP1 : GW G ρ B (n + 1) (n + 1) [.inr (ci, fs)] H1 := by
    refine ⟨by omega, fun x h1 h2 => ?_⟩
    have hx : x = n + 1 + 0 := by omega
    rw [hx, EL_at (e := .inr (ci, fs)) rfl]
    exact ⟨_, hc, (u_born ty X.hT hin hKn hkC e1 hty).to hfs⟩
  have hlo : 2 * (F0 m (pc + 3 + 1) ls (.ref (ρ (n + 1)) :: .ref (ρ (n + 1)) :: rest.map (cv ρ))).monitorRoom + ((Value.ref (ρ (n + 1)) :: rest.map (cv ρ)).map fun v => v.category).sum ≤ 8 := by
    refine lv_room ?_
    rw [List.map_cons, List.sum_cons, cv_sum]
    show 1 + _ ≤ 8
    omega
  have hbl : FrameBlind (fun (v : Array Value) (U : State) => v = #[.ref (ρ (n + 1))] ∧ va_K G.1 vwCl (tysG G) U ∧ AOk U ∧ GW G ρ B (n + 1) (n + 1) [.inr (ci, fs)] U.heap) := by
    intro v U g mk ⟨q1, q2, q3, q4⟩
    exact ⟨q1, va_K.moved (u := U) (U := U.calling g mk v) (Vm.Alike.refl U.vm) q2, AOk.same (u := U) (U := U.calling g mk v) rfl (Vm.Alike.refl U.vm) q3, q4⟩
  have hpre : ∀ U : State, U.heap = H1 → s.WarmedH U.vm → (([Value.ref (ρ (n + 1))] : List Value).toArray = #[.ref (ρ (n + 1))] ∧ va_K G.1 vwCl (tysG G) U ∧ AOk U ∧ GW G ρ B (n + 1) (n + 1) [.inr (ci, fs)] U.heap) := fun U hU hW => ⟨rfl, va_K.moved hW.alike X.hK, X.hAO.warm hW, by rw [hU]; exact hP1⟩
  have hG : GoodIn TW (Cond.code y bytes maxL none :: TW) := GoodIn_TW (fun w hw => by
    rcases List.mem_cons.mp hw with q | q
    · rw [q]; exact hcd
    · exact q)
  have hini2 : (Cond.initialized y.cls).before args s = true := by rw [hyC]; exact X.hT _ hini
  have run : va_Run p l e R s m args below meth c H1 locs (cells + 1) (slots + N) mc1 ms1 (F0 m (pc + 3 + 1) ls (.ref (ρ (n + 1)) :: .ref (ρ (n + 1)) :: rest.map (cv ρ))) (.ref (ρ (n + 1)) :: rest.map (cv ρ)) (fun st o t => o = .returned none ∧ GW G ρ B (n + 1) (n + 1 + len - 1) [] t.heap ∧ va_F (fun q => B + (n + 1) ≤ q) st t) (fun q => B + (n + 1) ≤ q) := by
    rcases hlk with hlk | hlk
    · exact va_runI (As := []) (b := ρ (n + 1)) (nL := nL) ⟨X.hx, X.hb, X.hml, X.ho, X.hT⟩ hM (cwI 0 X.hT hG rfl hrc hrs hini2 (X.hT _ hlk) (X.hT _ him) hyn hyd hR) ⟨hbl, hpre⟩ rfl rfl hl.1 rfl hlo d4 hcs
    · exact va_runIN (As := []) (b := ρ (n + 1)) (nL := nL) ⟨X.hx, X.hb, X.hml, X.ho, X.hT⟩ hM ⟨va_cnB 0 X.hT hG rfl hrc hrs (X.hAO.2.2.2.2.2.2 _ hlk) hini2 hyd hR, hyn, X.hT _ him⟩ ⟨hbl, hpre⟩ rfl rfl hl.1 rfl hlo d4 hcs
  intro U hU XU
  obtain ⟨v, st₀, t, T', L2, h0, X', hL2, q1, q2, ⟨hv, hPt, hF⟩, go⟩ := run U hU XU
  have hv2 : v = none := by injection hv
  subst hv2
  rw [va_F, h0] at hF
  have hnl : n + 1 + len - 1 = n + len := by omega
  rw [hnl] at hPt
  have hz2 : t.heap.size = B + (n + len) + 1 := hPt.1
  have hold : ∀ q : Nat, q < B + n + 1 → t.heap[q]? = H[q]? := fun q hq => by
    rw [hF.2 q (by omega) (by omega)]
    exact o1 q hq
  have hP2 : GW G ρ B a (n + len) L T'.heap := by
    rw [q1]
    refine ⟨hz2, fun x h1 h2 => ?_⟩
    by_cases hx : x ≤ n
    · refine (hP.2 x h1 hx).kept (hold _ ?_)
      show ρ x < _
      rw [X.hρ x (by omega) (by omega)]
      omega
    · rw [EL_ge (by omega)]
      have h3 := hPt.2 x (by omega) h2
      rw [EL_ge (by show n + 1 + 0 ≤ x; omega)] at h3
      exact h3
  have hS2 : va_S (fun q => B + a ≤ q) s.heap T'.heap (locs ++ L2) := by
    have hs1 := hS.1
    have hp1 := hP.1
    refine ⟨by rw [q1, hz2]; omega, fun q h1 h2 => ?_, fun q hq => ?_⟩
    · rw [q1, hold q (by omega)]
      exact hS.2.1 q h1 h2
    · rcases List.mem_append.mp hq with h | h
      · exact hS.2.2 q h
      · have := hL2 q h
        show B + a ≤ q.base
        have h9 : B + (n + 1) ≤ q.base := this
        omega
  obtain ⟨t2, a1, b1⟩ := k T'.heap (locs ++ L2) ls hP2 hS2 hl T' rfl X'
  exact ⟨t2, go t2 a1, b1⟩
/-- an array of ints, of longs -/
theorem G_newaI (X : MG p s m args meth c cc nL own G ρ B a) {v : Int32} {N : Nat} {L' : List va_E} (harr : Cond.arrayClass .int ∈ TW) (hv : ¬ v < 0) (hN : v.toNatClampNeg = N) (hb : N * 4 ≤ 536870912) (hcs : cells + 1 ≤ R.cells ∧ slots + N ≤ R.slots) (hn : n + 1 ≤ 715) (han : a ≤ n + 1) (hL : ∀ x, a ≤ x → x ≤ n → EL G ρ a L' x = EL G ρ a L x) (he : EL G ρ a L' (n + 1) = .inl (G.2 0, N, .inl (fun _ => 0))) (d : decode cc pc = .ok (.newarray .int, 2))
    (k : LG p l e R s m args below meth c Q G ρ B a nL (cells + 1) (slots + N) (pc + 2) lv (.ref (n + 1) :: rest) (n + 1) L') : LG p l e R s m args below meth c Q G ρ B a nL cells slots pc lv (.int v :: rest) n L := by
  intro H locs ls hP hS hl
  have hr1 : ρ (n + 1) = B + (n + 1) := X.hρ _ (by omega) (by omega)
  refine va_newaK X.hx X.hb (atype := .int) (X.hT _ harr) rfl d rfl hv hN hb hcs.1 hcs.2 hP.1 fun H1 cA e1 z1 o1 hAr hNm => ?_
  have hcA : cA = G.2 0 := Option.some.inj (hNm.symm.trans (X.hK.2 0 _ rfl).2)
  have hre : B + n + 1 = ρ (n + 1) := by omega
  have h2 := k H1 locs ls (hP.new (X.hr (by omega)) z1 o1 hL (by
    rw [he]
    show H1[ρ (n + 1)]? = _
    rw [← hre, e1, hcA]
    rfl)) ⟨by have := hS.1; have := hP.1; omega, fun q h1 h2 => (o1 q (by have := hS.1; have := hP.1; omega)).trans (hS.2.1 q h1 h2), hS.2.2⟩ hl
  rw [List.map_cons] at h2
  have e3 : cv ρ (.ref (n + 1)) = .ref (B + n + 1) := by rw [hre]; rfl
  rw [e3] at h2
  exact h2
theorem G_newaL (X : MG p s m args meth c cc nL own G ρ B a) {v : Int32} {N : Nat} {L' : List va_E} (harr : Cond.arrayClass .long ∈ TW) (hv : ¬ v < 0) (hN : v.toNatClampNeg = N) (hb : N * 8 ≤ 536870912) (hcs : cells + 1 ≤ R.cells ∧ slots + N ≤ R.slots) (hn : n + 1 ≤ 715) (han : a ≤ n + 1) (hL : ∀ x, a ≤ x → x ≤ n → EL G ρ a L' x = EL G ρ a L x) (he : EL G ρ a L' (n + 1) = .inl (G.2 1, N, .inr (.inl (fun _ => 0)))) (d : decode cc pc = .ok (.newarray .long, 2))
    (k : LG p l e R s m args below meth c Q G ρ B a nL (cells + 1) (slots + N) (pc + 2) lv (.ref (n + 1) :: rest) (n + 1) L') : LG p l e R s m args below meth c Q G ρ B a nL cells slots pc lv (.int v :: rest) n L := by
  intro H locs ls hP hS hl
  have hr1 : ρ (n + 1) = B + (n + 1) := X.hρ _ (by omega) (by omega)
  refine va_newaK X.hx X.hb (atype := .long) (X.hT _ harr) rfl d rfl hv hN hb hcs.1 hcs.2 hP.1 fun H1 cA e1 z1 o1 hAr hNm => ?_
  have hcA : cA = G.2 1 := Option.some.inj (hNm.symm.trans (X.hK.2 1 _ rfl).2)
  have hre : B + n + 1 = ρ (n + 1) := by omega
  have h2 := k H1 locs ls (hP.new (X.hr (by omega)) z1 o1 hL (by
    rw [he]
    show H1[ρ (n + 1)]? = _
    rw [← hre, e1, hcA]
    rfl)) ⟨by have := hS.1; have := hP.1; omega, fun q h1 h2 => (o1 q (by have := hS.1; have := hP.1; omega)).trans (hS.2.1 q h1 h2), hS.2.2⟩ hl
  rw [List.map_cons] at h2
  have e3 : cv ρ (.ref (n + 1)) = .ref (B + n + 1) := by rw [hre]; rfl
  rw [e3] at h2
  exact h2
/-- an array of references -/
theorem G_anew (X : MG p s m args meth c cc nL own G ρ B a) {C : String} {t0 ix : Nat} {cA : ClassId} {v : Int32} {N : Nat} {L' : List va_E} (hcl : Cond.classLink own ix C ∈ TW) (hAO : va_AO C s) (ht : (tysG G)[t0]? = some (cA, .object C)) (hv : ¬ v < 0) (hN : v.toNatClampNeg = N) (hb : N * 4 ≤ 536870912) (hcs : cells + 1 ≤ R.cells ∧ slots + N ≤ R.slots) (hn : n + 1 ≤ 715) (han : a ≤ n + 1) (hL : ∀ x, a ≤ x → x ≤ n → EL G ρ a L' x = EL G ρ a L x) (he : EL G ρ a L' (n + 1) = .inl (cA, N, .inr (.inr (.inr (.inr (fun _ => none)))))) (d : decode cc pc = .ok (.anewarray ix, 3))
    (k : LG p l e R s m args below meth c Q G ρ B a nL (cells + 1) (slots + N) (pc + 3) lv (.ref (n + 1) :: rest) (n + 1) L') : LG p l e R s m args below meth c Q G ρ B a nL cells slots pc lv (.int v :: rest) n L := by
  subst hN
  intro H locs ls hP hS hl
  have hp1 := hP.1
  have hr1 : ρ (n + 1) = B + (n + 1) := X.hρ _ (by omega) (by omega)
  refine W.anew X.hx X.hb X.ho (X.hT _ hcl) hAO.use rfl d rfl hv hb hcs.1 hcs.2 fun cA2 kA comp f1 f2 f3 f4 => ?_
  obtain ⟨k9, c9, g1, g2, g3, g4⟩ : va_RA s cA (.object C) := (X.hK.2 t0 _ ht).2
  have hcA : cA2 = cA := Option.some.inj (f1.symm.trans g4)
  have hre : H.size = ρ (n + 1) := by omega
  have o1 : ∀ q, q < B + n + 1 → (H.push { cls := cA2, slots := Array.replicate v.toNatClampNeg .null, vm := .none })[q]? = H[q]? := fun q hq => by
    rw [Array.getElem?_push, if_neg (by omega)]
  have z1 : (H.push ({ cls := cA2, slots := Array.replicate v.toNatClampNeg .null, vm := .none } : Cell)).size = B + n + 1 + 1 := by rw [Array.size_push]; omega
  have h2 := k _ locs ls (hP.new (X.hr (by omega)) z1 o1 hL (by
    rw [he]
    show (H.push _)[ρ (n + 1)]? = _
    rw [← hre, Array.getElem?_push, if_pos rfl, arrV_new, hcA, vp_cell_q]
    rfl)) ⟨by have := hS.1; omega, fun q h1 h2 => (o1 q (by have := hS.1; omega)).trans (hS.2.1 q h1 h2), hS.2.2⟩ hl
  rw [List.map_cons] at h2
  have e3 : cv ρ (.ref (n + 1)) = .ref H.size := by rw [hre]; rfl
  rw [e3] at h2
  exact h2

/-- a field of the object is written: a final one, one that isn't -/
theorem G_putF (X : MG p s m args meth c cc nL own G ρ B a) {C : String} {T : u_T} {N ci index : Nat} {ty0 : Nat → FieldType} {ty : FieldType} {fs fs' : List Value} {v : Value} (hin : ∀ w ∈ u_ws C T N, w ∈ TW) (hty : ∀ k, k < N → parseFieldDescriptor (T k).2.2.1 = some (ty0 k)) (hnm : ∀ a, a < N → ∀ b, b < N → a ≠ b → (T a).2.1 ≠ (T b).2.1) (hc : vwCl[ci]? = some (C, T, N)) (k : Nat) (hk : k < N) (hw : Cond.fieldLink own index C (T k).2.1 (T k).2.2.1 ∈ TW) (hsm : (T k).1 = C) (hfin : (T k).2.2.2 = true) (hini : meth.name = "<init>") (hdecl : C = own) (hd : parseFieldDescriptor (T k).2.2.1 = some ty) (hnr : narrow ty (cv ρ v) = cv ρ v) (hfit : fits ty (cv ρ v) = true) (hfl : k < fs.length) (hfs : fs.set k (cv ρ v) = fs') (han : a ≤ n) (hn : n ≤ 715)
    (d : decode cc pc = .ok (.putfield index, 3)) (kk : LG p l e R s m args below meth c Q G ρ B a nL cells slots (pc + 3) lv rest n (.inr (ci, fs') :: L)) : LG p l e R s m args below meth c Q G ρ B a nL cells slots pc lv (v :: .ref a :: rest) n (.inr (ci, fs) :: L) := by
  subst hfs
  intro H locs ls hP hS hl
  have hPa := hP.2 (a + 0) (by omega) (by omega)
  rw [EL_at (e := .inr (ci, fs)) rfl] at hPa
  obtain ⟨r, h1, cell, q1, q2, q3, q4⟩ := hPa
  have hr : r = (C, T, N) := Option.some.inj (h1.symm.trans hc)
  subst hr
  have hap := va_apart (own := own) X.hT hin ty0 hty hnm X.hK hc
  obtain ⟨hSl, hfc, kC, hkC, hkind⟩ := X.hK.1 ci _ hc
  obtain ⟨cf, kf, fi, f, hi, hsl⟩ := hSl k hk
  have hlay := X.hT _ (hin _ (u_in_lay hk))
  unfold u_lay at hlay
  rw [if_pos hfin] at hlay
  have hst := (u_facts hfc hkC (u_lays X.hT hin hk) hi).1
  have hcf : m.cls = cf := by
    obtain ⟨_, _, c', _, _, _, -, -, hf', -, -, -, hown2, -⟩ := Cond.laysFinal_spec hlay
    have e1 : c' = cf := by have := hi.symm.trans hf'; simp at this; exact this.1.symm
    rw [hsm, hdecl] at hown2
    rw [← e1]
    exact Option.some.inj (X.ho.symm.trans hown2)
  have h6 := u_fits hfc hkC hkind (Or.inr hlay) hi hd hnr hfit
  refine W.putFinK X.hx X.hb X.ho (X.hT _ hw) (by rw [hsm] at hi; exact hi) hst hcf hini (by rw [q2]; exact h6) q1 q3 (by rw [hsl]; exact k2_hasslot (q4 k hk)) rfl rfl d fun H' e1 e2 e3 => ?_
  rw [hsl] at e1 ⊢
  refine kk H' _ ls ?_ (hS.put e2 e3 (by show B + a ≤ ρ a; rw [X.hρ a X.ha (by omega)]; omega)) hl
  have h9 := hP.set (j := 0) (e := .inr (ci, fs.set k (cv ρ v))) (X.hr hn) (by omega) (by show 0 < L.length + 1; omega) e2 e3 ⟨_, hc, t_OB.to (V := updV (vp_V fs) k (cv ρ v)) ⟨_, e1, q2, q3, t_set q4 hap hk (cv ρ v)⟩ (fun j _ => vp_updV_set hfl (cv ρ v) j)⟩
  exact h9
theorem G_putN (X : MG p s m args meth c cc nL own G ρ B a) {C : String} {T : u_T} {N ci index : Nat} {ty0 : Nat → FieldType} {ty : FieldType} {fs fs' : List Value} {v : Value} (hin : ∀ w ∈ u_ws C T N, w ∈ TW) (hty : ∀ k, k < N → parseFieldDescriptor (T k).2.2.1 = some (ty0 k)) (hnm : ∀ a, a < N → ∀ b, b < N → a ≠ b → (T a).2.1 ≠ (T b).2.1) (hc : vwCl[ci]? = some (C, T, N)) (k : Nat) (hk : k < N) (hw : Cond.fieldLink own index C (T k).2.1 (T k).2.2.1 ∈ TW) (hsm : (T k).1 = C) (hfin : (T k).2.2.2 = false) (hd : parseFieldDescriptor (T k).2.2.1 = some ty) (hnr : narrow ty (cv ρ v) = cv ρ v) (hfit : fits ty (cv ρ v) = true) (hfl : k < fs.length) (hfs : fs.set k (cv ρ v) = fs') (han : a ≤ n) (hn : n ≤ 715)
    (d : decode cc pc = .ok (.putfield index, 3)) (kk : LG p l e R s m args below meth c Q G ρ B a nL cells slots (pc + 3) lv rest n (.inr (ci, fs') :: L)) : LG p l e R s m args below meth c Q G ρ B a nL cells slots pc lv (v :: .ref a :: rest) n (.inr (ci, fs) :: L) := by
  subst hfs
  intro H locs ls hP hS hl
  have hPa := hP.2 (a + 0) (by omega) (by omega)
  rw [EL_at (e := .inr (ci, fs)) rfl] at hPa
  obtain ⟨r, h1, cell, q1, q2, q3, q4⟩ := hPa
  have hr : r = (C, T, N) := Option.some.inj (h1.symm.trans hc)
  subst hr
  have hap := va_apart (own := own) X.hT hin ty0 hty hnm X.hK hc
  obtain ⟨hSl, hfc, kC, hkC, hkind⟩ := X.hK.1 ci _ hc
  obtain ⟨cf, kf, fi, f, hi, hsl⟩ := hSl k hk
  have hlay := X.hT _ (hin _ (u_in_lay hk))
  unfold u_lay at hlay
  rw [if_neg (by rw [hfin]; decide)] at hlay
  have hst := (u_facts hfc hkC (u_lays X.hT hin hk) hi).1
  have h6 := u_store hfc hkC hkind hlay hi hd hnr hfit
  refine W.putK X.hx X.hb (f := f) ⟨X.ho, X.hT _ hw, ⟨_, _, _, by rw [hsm] at hi; exact hi⟩, hst⟩ (by rw [q2]; exact h6) q1 q3 (by rw [hsl]; exact k2_hasslot (q4 k hk)) rfl rfl d fun H' e1 e2 e3 => ?_
  rw [hsl] at e1 ⊢
  refine kk H' _ ls ?_ (hS.put e2 e3 (by show B + a ≤ ρ a; rw [X.hρ a X.ha (by omega)]; omega)) hl
  have h9 := hP.set (j := 0) (e := .inr (ci, fs.set k (cv ρ v))) (X.hr hn) (by omega) (by show 0 < L.length + 1; omega) e2 e3 ⟨_, hc, t_OB.to (V := updV (vp_V fs) k (cv ρ v)) ⟨_, e1, q2, q3, t_set q4 hap hk (cv ρ v)⟩ (fun j _ => vp_updV_set hfl (cv ρ v) j)⟩
  exact h9
/-- a reference is read off the object -/
theorem G_getR (X : MG p s m args meth c cc nL own G ρ B a) {C : String} {T : u_T} {N ci index b : Nat} {fs : List Value} (hin : ∀ w ∈ u_ws C T N, w ∈ TW) (hc : vwCl[ci]? = some (C, T, N)) (k : Nat) (hk : k < N) (hw : Cond.fieldLink own index C (T k).2.1 (T k).2.2.1 ∈ TW) (hsm : (T k).1 = C) (hv : fs[k]? = some (.ref (ρ b))) (han : a ≤ n)
    (d : decode cc pc = .ok (.getfield index, 3)) (kk : LG p l e R s m args below meth c Q G ρ B a nL cells slots (pc + 3) lv (.ref b :: rest) n (.inr (ci, fs) :: L)) : LG p l e R s m args below meth c Q G ρ B a nL cells slots pc lv (.ref a :: rest) n (.inr (ci, fs) :: L) := by
  intro H locs ls hP hS hl
  have hPa := hP.2 (a + 0) (by omega) (by omega)
  rw [EL_at (e := .inr (ci, fs)) rfl] at hPa
  obtain ⟨r, h1, cell, q1, q2, q3, q4⟩ := hPa
  have hr : r = (C, T, N) := Option.some.inj (h1.symm.trans hc)
  subst hr
  obtain ⟨hSl, hfc, kC, hkC, hkind⟩ := X.hK.1 ci _ hc
  obtain ⟨cf, kf, fi, f, hi, hsl⟩ := hSl k hk
  refine W.getf X.hx X.hb X.ho (X.hT _ hw) (by rw [hsm] at hi; exact hi) (u_facts hfc hkC (u_lays X.hT hin hk) hi).1 q1 (by rw [q3]; exact fun h => by cases h) (v := .ref (ρ b)) ?_ rfl rfl d (kk H locs ls hP hS hl)
  rw [hsl, q4 k hk]
  simp [vp_V, hv]
/-- a row's length; a row of ints is written; a row of references is written -/
theorem G_alenR (X : MG p s m args meth c cc nL own G ρ B a) {cA : ClassId} {t0 : Nat} {ty : FieldType} {N : Nat} {f : Nat → Option Nat} {v : Int32} (ht : (tysG G)[t0]? = some (cA, ty)) (j : Nat) (hj : L[j]? = some (.inl (cA, N, .inr (.inr (.inr (.inr f)))))) (hjn : a + j ≤ n) (hv : Int32.ofNat N = v) (d : decode cc pc = .ok (.arraylength, 1)) (k : LG p l e R s m args below meth c Q G ρ B a nL cells slots (pc + 1) lv (.int v :: rest) n L) : LG p l e R s m args below meth c Q G ρ B a nL cells slots pc lv (.ref (a + j) :: rest) n L := by
  subst hv
  intro H locs ls hP hS hl
  have hPa := hP.2 (a + j) (by omega) hjn
  rw [EL_at hj] at hPa
  exact W.alen (n := Int32.ofNat N) X.hx X.hb hPa ((X.hK.2 t0 _ ht).1 N (fun j => va_rf (f j))) (by rw [vp_cell_q, arrV_size] <;> rfl) rfl rfl d (k H locs ls hP hS hl)
theorem G_iast (X : MG p s m args meth c cc nL own G ρ B a) {N : Nat} {f f' : Nat → Int32} {i v : Int32} (j : Nat) (hj : L[j]? = some (.inl (G.2 0, N, .inl f))) (hjn : a + j ≤ n) (hn : n ≤ 715) (hin : vp_in i N) (hf : upd f i.toNatClampNeg v = f') (d : decode cc pc = .ok (.iastore, 1)) (k : LG p l e R s m args below meth c Q G ρ B a nL cells slots (pc + 1) lv rest n (L.set j (.inl (G.2 0, N, .inl f')))) : LG p l e R s m args below meth c Q G ρ B a nL cells slots pc lv (.int v :: .int i :: .ref (a + j) :: rest) n L := by
  subst hf
  intro H locs ls hP hS hl
  have hPa := hP.2 (a + j) (by omega) hjn
  rw [EL_at hj] at hPa
  refine W.iast X.hx X.hb hPa ((X.hK.2 0 _ rfl).1 N (fun j => .int (f j))) (fun q => by cases q) (by show ¬ (i < 0 ∨ (arrV _ _ _).slots.size ≤ _); rw [arrV_size]; exact hin) rfl rfl d fun H1 e z oq => ?_
  refine k H1 _ ls (hP.set (X.hr hn) hjn (List.getElem?_eq_some_iff.mp hj).1 z oq ?_) (hS.put z oq (by show B + a ≤ ρ (a + j); rw [X.hρ (a + j) (by have := X.ha; omega) (by omega)]; omega)) hl
  show H1[ρ (a + j)]? = some (vp_cell _ _)
  rw [e, vp_cell_i, vp_cell_i, arrV_store]
  refine congrArg (fun g => some (arrV (G.2 0) N g)) (funext fun q => ?_)
  unfold updV upd
  by_cases hq : q = i.toNatClampNeg
  · rw [if_pos hq, if_pos hq]
  · rw [if_neg hq, if_neg hq]
theorem G_aast (X : MG p s m args meth c cc nL own G ρ B a) {cA : ClassId} {t0 : Nat} {C : String} {T : u_T} {N M ci x : Nat} {fs : List Value} {f f' : Nat → Option Nat} {i : Int32} (ht : (tysG G)[t0]? = some (cA, .object C)) (hc : vwCl[ci]? = some (C, T, M)) (j : Nat) (hj : L[j]? = some (.inl (cA, N, .inr (.inr (.inr (.inr f)))))) (hjn : a + j ≤ n) (hn : n ≤ 715) (hx1 : a + L.length ≤ x) (hx2 : x ≤ n) (hxe : CE G ρ x = .inr (ci, fs)) (hin : vp_in i N) (hf : va_up f i.toNatClampNeg (some (ρ x)) = f') (d : decode cc pc = .ok (.aastore, 1))
    (k : LG p l e R s m args below meth c Q G ρ B a nL cells slots (pc + 1) lv rest n (L.set j (.inl (cA, N, .inr (.inr (.inr (.inr f'))))))) : LG p l e R s m args below meth c Q G ρ B a nL cells slots pc lv (.ref x :: .int i :: .ref (a + j) :: rest) n L := by
  subst hf
  intro H locs ls hP hS hl
  have hPa := hP.2 (a + j) (by omega) hjn
  rw [EL_at hj] at hPa
  have hPx := hP.2 x (by omega) hx2
  rw [EL_ge hx1, hxe] at hPx
  obtain ⟨r, h1, cell, q1, q2, q3, q4⟩ := hPx
  have hr : r = (C, T, M) := Option.some.inj (h1.symm.trans hc)
  subst hr
  obtain ⟨-, hfc, kC, hkC, -⟩ := X.hK.1 ci _ hc
  obtain ⟨kA, comp, k1, k2, k3, -⟩ : va_RA s cA (.object C) := (X.hK.2 t0 _ ht).2
  obtain ⟨kE, hkE, -⟩ := Vm.findClass_spec k3
  have hcomp : comp = G.1.1 ci := Option.some.inj (k3.symm.trans hfc)
  refine W.aast X.hx X.hb hPa (fun q h => by cases h) (fun h => by cases h) k1 k2 rfl hkE ⟨fun q => hin (Or.inl q), by show _ < (arrV _ _ _).slots.size; rw [arrV_size]; exact vin_lt hin⟩ q1 (fun q h => by rw [q3] at h; cases h) (by rw [q2]; exact hkC) (by rw [q2, hcomp]; exact va_asg _ _) rfl rfl d fun H1 e z oq => ?_
  refine k H1 _ ls (hP.set (X.hr hn) hjn (List.getElem?_eq_some_iff.mp hj).1 z oq ?_) (hS.put z oq (by show B + a ≤ ρ (a + j); rw [X.hρ (a + j) (by have := X.ha; omega) (by omega)]; omega)) hl
  show H1[ρ (a + j)]? = some (vp_cell _ _)
  rw [e, vp_cell_q, vp_cell_q, arrV_store]
  refine congrArg (fun g => some (arrV cA N g)) (funext fun q => ?_)
  unfold updV va_up
  by_cases hq : q = i.toNatClampNeg
  · rw [if_pos hq, if_pos hq]
    rfl
  · rw [if_neg hq, if_neg hq]
/-- the end of a constructor -/
theorem G_ret (X : MG p s m args meth c cc nL own G ρ B a) {len : Nat} (hr : meth.sig.returnType = none) (d : decode cc pc = .ok (.return_, 1)) (hn : n = a + len - 1) (hend : ∀ (j : Nat) (e : va_E), L[j]? = some e → ∀ H : Heap, va_at G.1 vwCl (ρ (a + j), e) H → va_at G.1 vwCl (ρ (a + j), CE G ρ (a + j)) H) : LG p l e R s m args below meth c (MQ below (fun _ st o t => o = .returned none ∧ GW G ρ B a (a + len - 1) [] t.heap ∧ va_F (fun q => B + a ≤ q) st t) args s cells slots (fun q => B + a ≤ q)) G ρ B a nL cells slots pc lv [] n L := by
  subst hn
  intro H locs ls hP hS hl
  refine W.vret X.hx X.hb hr (fun t ht _ => ⟨rfl, ?_, hS.F ht⟩) hS.2.2 d X.hlk
  rw [ht]
  refine ⟨hP.1, fun x h1 h2 => ?_⟩
  rw [EL_ge (by show a + 0 ≤ x; omega)]
  have h3 := hP.2 x h1 h2
  by_cases q : x - a < L.length
  · obtain ⟨e, he⟩ : ∃ e, L[x - a]? = some e := ⟨_, List.getElem?_eq_getElem q⟩
    have hx : x = a + (x - a) := by omega
    rw [hx, EL_at he] at h3
    rw [hx]
    exact hend _ e he H h3
  · rw [EL_ge (by omega)] at h3
    exact h3
theorem CTI_of {y : MethodName} {bytes : ByteArray} {maxL : Nat} {rm : Room} {mc ms len : Nat} {e0 : va_E} (hy : plainName y.cls = true) (hown : y.cls = own) (hρ : ∀ x, 1 ≤ x → x ≤ 715 → ρ x = B + x) (ha : 1 ≤ a) (hmax : 1 ≤ maxL)
    (h : ∀ (p : Program) (e : Env) (s : State) (m : MethodId) (args : Array Value) (below : List Frame) (meth : Method) (c : Code), MG p s m args meth c bytes maxL own G ρ B a → meth.sig.returnType = none → meth.name = y.name →
      LG p l e rm s m args below meth c (MQ below (fun _ st o t => o = .returned none ∧ GW G ρ B a (a + len - 1) [] t.heap ∧ va_F (fun q => B + a ≤ q) st t) args s mc ms (fun q => B + a ≤ q)) G ρ B a maxL 0 0 0 [(0, .ref a)] [] a [e0]) : CTI l y (.code y bytes maxL none) rm mc ms G ρ B a e0 len := by
  refine Met.ofW (cc := bytes) (maxL := maxL) (ret := none) hy rfl ?_
  intro p e s m args below meth c s₁ BB hml hv
  obtain ⟨rfl, hK, hAO, hG⟩ := hv
  have hts := atoms_spec (ws := .code y bytes maxL none :: TW) BB.pre
  have hown2 : s.vm.findClass own = some m.cls := by rw [← hown]; exact findClass_of_methodNamed BB.named
  have X : MG p s m #[.ref (ρ a)] meth c bytes maxL own G ρ B a := ⟨BB.exec, BB.bytes, hml, hown2, fun w hw => hts w (List.mem_cons_of_mem _ hw), hK, BB.notSynchronized, hρ, hAO, ha, by have := hG.1; omega⟩
  have hl2 := lv_entry [Value.ref (ρ a)] (n := maxL) (by show 1 ≤ maxL; exact hmax)
  have e9 := lg_entry_eq m [Value.ref (ρ a)] maxL
  have h2 := h p e s m #[.ref (ρ a)] below meth c X BB.returns (name_of_methodNamed BB.named BB.method).1 s.heap [] _ hG va_S.rf hl2
  rw [show entryFrame m #[Value.ref (ρ a)] maxL = _ from e9]
  exact h2

/-- twelve rows of twelve ints, and the row of them -/
theorem G_mna (X : MG p s m args meth c cc nL own G ρ B a) {ix : Nat} (hcl : Cond.classLink own ix "[[I" ∈ TW) (harr : Cond.arrayClass .int ∈ TW) (hk0 : KD (n + 1) = (25, 12)) (hk1 : ∀ i, i < 12 → KD (n + 2 + i) = (20, 12)) (han : a + L.length ≤ n + 1) (hn : n + 13 ≤ 715) (hcs : cells + (1 + 12) ≤ R.cells ∧ slots + (12 + 12 * 12) ≤ R.slots) (d : decode cc pc = .ok (.multianewarray ix 2, 4))
    (k : LG p l e R s m args below meth c Q G ρ B a nL (cells + 13) (slots + 156) (pc + 4) lv (.ref (n + 1) :: rest) (n + 13) L) : LG p l e R s m args below meth c Q G ρ B a nL cells slots pc lv (.int 12 :: .int 12 :: rest) n L := by
  intro H locs ls hP hS hl T hT Xs
  have hp1 := hP.1
  have hs1 := hS.1
  have hN : (12 : Int32).toNatClampNeg = 12 := by decide +kernel
  have hn0 : ¬ (12 : Int32) < 0 := by decide +kernel
  obtain ⟨vm₁, cA, comp, -, fA, fC, hO, -, X', step⟩ := Xs.multianewarray2F X.hx X.ho (X.hT _ hcl) (va_AOA.use X.hAO.2.2.2.2.2.1) (X.hT _ harr) (g := F0 m pc ls ((Value.int 12 :: .int 12 :: rest).map (cv ρ))) rfl (by rw [X.hb]; exact d) rfl hn0 hn0 (by rw [hN]; decide) (by rw [hN]; decide) (by rw [hN]; decide) rfl rfl (by rw [hN]; exact hcs.1) (by rw [hN]; exact hcs.2)
  have ec : G.2 0 = comp := Option.some.inj (((X.hK.2 0 _ rfl).2 : s.vm.findClass ("[" ++ (FieldType.int).toString) = some (G.2 0)).symm.trans fC)
  have eA : G.2 5 = cA := Option.some.inj (((X.hK.2 5 _ rfl).2 : s.vm.findClass ("[" ++ (FieldType.array .int).toString) = some (G.2 5)).symm.trans fA)
  subst ec
  subst eA
  rw [hN] at X' step
  generalize hF : Jvm.Free.Multi.fill (T.setVm vm₁) (G.2 5) (G.2 0) 12 12 (defaultValue .int) 12 = F at X' step
  have hTh : (T.setVm vm₁).heap = H := hT
  obtain ⟨f1, f2, -, -⟩ := Jvm.Free.Multi.fill_facts (T.setVm vm₁) (G.2 5) (G.2 0) 12 12 (defaultValue .int) 12
  rw [hF, hTh] at f1 f2
  have hold : ∀ x : Nat, x < H.size → F.heap[x]? = H[x]? := fun x hx => by
    have := Jvm.Free.Multi.fill_old (T.setVm vm₁) (G.2 5) (G.2 0) 12 12 (defaultValue .int) (a := x) (by rw [hTh]; exact hx) 12
    rw [hF, hTh] at this
    exact this
  have hrow : ∀ j : Nat, j < 12 → F.heap[H.size + 1 + j]? = some (arrV (G.2 0) 12 (fun _ => .int 0)) := fun j hj => by
    have := Jvm.Free.Multi.fill_inner (T.setVm vm₁) (G.2 5) (G.2 0) 12 12 (defaultValue .int) 12 j hj
    rw [hF, hTh] at this
    rw [this, ← arrV_new]
    rfl
  rw [vr_outer (G.2 5) 12 H.size 12] at f2
  have hP2 : GW G ρ B a (n + 13) L F.heap := by
    refine ⟨by omega, fun x h1 h2 => ?_⟩
    have ha1 := X.ha
    by_cases hx : x ≤ n
    · refine (hP.2 x h1 hx).kept (hold _ ?_)
      show ρ x < _
      rw [X.hρ x (by omega) (by omega)]
      omega
    · rw [EL_ge (by omega)]
      have hx9 : ρ x = B + x := X.hρ x (by omega) (by omega)
      by_cases hy : x = n + 1
      · subst hy
        rw [CE, cell_refs hk0 (by decide) (by decide) (by decide)]
        show F.heap[ρ (n + 1)]? = some (vp_cell _ _)
        rw [hx9, show B + (n + 1) = H.size by omega, f2, vp_cell_q]
        refine congrArg some (arrV_ext (fun i hi => ?_))
        rw [if_pos hi]
        have e5 : rO ρ (RF (n + 1) i) = some (ρ (n + 1 + 1 + i)) := by
          have e4 : RF (n + 1) i = n + 1 + 1 + i := by
            unfold RF
            rw [hk0]
            rfl
          rw [e4]
          exact if_neg (by omega)
        rw [e5, X.hρ (n + 1 + 1 + i) (by omega) (by omega)]
        exact congrArg (fun z => va_rf (some z)) (by omega)
      · have hz : x = n + 2 + (x - (n + 2)) := by omega
        have hk9 := hk1 (x - (n + 2)) (by omega)
        rw [← hz] at hk9
        rw [ce_i hk9]
        show F.heap[ρ x]? = some (vp_cell _ _)
        rw [hx9, show B + x = H.size + 1 + (x - (n + 2)) by omega, hrow _ (by omega)]
        rfl
  obtain ⟨t, a1, b1⟩ := k F.heap locs ls hP2 ⟨by omega, fun x h1 h2 => (hold x (Nat.lt_of_lt_of_le h1 hS.1)).trans (hS.2.1 x h1 h2), hS.2.2⟩ hl F rfl X'
  refine ⟨t, step t ?_, b1⟩
  have e : T.heap.size = ρ (n + 1) := by rw [hT, X.hρ (n + 1) (by omega) (by omega)]; omega
  rw [e]
  exact a1
end GROW
