/-! ===== rows: an instruction each, over the fixed world ===== -/
/-- what a method's body rests on -/
def MC (p : Program) (l : Launch) (s : State) (m : MethodId) (args : Array Value) (meth : Method) (c : Code) (cc : ByteArray) (nL : Nat) (own : String) (G : Gd) (ρ : Nat → Nat) (A : Nat → Prop) : Prop :=
  p.tables.exec = Jvm.exec ∧ c.code = cc ∧ c.maxLocals = nL ∧ s.vm.findClass own = some m.cls ∧ (∀ w ∈ TW, w.before args s = true) ∧ va_K G.1 vwCl (tysG G) s ∧ meth.locks = false ∧ l.stackTraces = false ∧ (∀ a, 1 ≤ a → a ≤ 715 → A (ρ a)) ∧ (∀ q, s.heap.size ≤ q → A q) ∧ InjR ρ ∧ Stat ρ A s s.heap
/-- from this point of the body, with this world, it comes to Q -/
def LW (p : Program) (l : Launch) (e : Env) (R : Room) (s : State) (m : MethodId) (args : Array Value) (below : List Frame) (meth : Method) (c : Code) (Q : State → Prop) (G : Gd) (ρ : Nat → Nat) (A : Nat → Prop) (nL cells slots pc : Nat) (lv : List (Nat × Value)) (st : List Value) (κ : Ka) : Prop :=
  ∀ (H : Heap) (locs : List Loc) (ls : Array Slot), va_P G.1 vwCl (wsK G ρ κ) H → va_S A s.heap H locs → lv_has ls nL (lv.map (fun q => (q.1, cv ρ q.2))) → W p l e R s m args below meth c H locs cells slots Q (F0 m pc ls (st.map (cv ρ)))
section ROWS
variable {p : Program} {l : Launch} {e : Env} {R : Room} {s : State} {m : MethodId} {args : Array Value} {below : List Frame} {meth : Method} {c : Code} {Q : State → Prop} {G : Gd} {ρ : Nat → Nat} {A : Nat → Prop} {nL cells slots pc : Nat} {lv : List (Nat × Value)} {rest : List Value} {κ : Ka} {cc : ByteArray} {own : String}
theorem MC.hx (X : MC p l s m args meth c cc nL own G ρ A) : p.tables.exec = Jvm.exec := X.1
theorem MC.hb (X : MC p l s m args meth c cc nL own G ρ A) : c.code = cc := X.2.1
theorem MC.hml (X : MC p l s m args meth c cc nL own G ρ A) : c.maxLocals = nL := X.2.2.1
theorem MC.ho (X : MC p l s m args meth c cc nL own G ρ A) : s.vm.findClass own = some m.cls := X.2.2.2.1
theorem MC.hT (X : MC p l s m args meth c cc nL own G ρ A) : ∀ w ∈ TW, w.before args s = true := X.2.2.2.2.1
theorem MC.hK (X : MC p l s m args meth c cc nL own G ρ A) : va_K G.1 vwCl (tysG G) s := X.2.2.2.2.2.1
theorem MC.hlk (X : MC p l s m args meth c cc nL own G ρ A) : meth.locks = false := X.2.2.2.2.2.2.1
theorem MC.hst (X : MC p l s m args meth c cc nL own G ρ A) : l.stackTraces = false := X.2.2.2.2.2.2.2.1
theorem MC.hA1 (X : MC p l s m args meth c cc nL own G ρ A) : ∀ a, 1 ≤ a → a ≤ 715 → A (ρ a) := X.2.2.2.2.2.2.2.2.1
theorem MC.hA2 (X : MC p l s m args meth c cc nL own G ρ A) : ∀ q, s.heap.size ≤ q → A q := X.2.2.2.2.2.2.2.2.2.1
theorem MC.hi (X : MC p l s m args meth c cc nL own G ρ A) : InjR ρ := X.2.2.2.2.2.2.2.2.2.2.1
theorem MC.hS (X : MC p l s m args meth c cc nL own G ρ A) : Stat ρ A s s.heap := X.2.2.2.2.2.2.2.2.2.2.2
theorem MC.hD (X : MC p l s m args meth c cc nL own G ρ A) (κ : Ka) : va_D A (wsK G ρ κ) := wsK_D X.hi X.hA1
theorem cv_cat (ρ : Nat → Nat) (v : Value) : (cv ρ v).category = v.category := by cases v <;> rfl
theorem cv_sum (ρ : Nat → Nat) (st : List Value) : ((st.map (cv ρ)).map fun v => v.category).sum = (st.map fun v => v.category).sum := by
  rw [List.map_map]
  exact congrArg List.sum (List.map_congr_left (fun v _ => cv_cat ρ v))
theorem wv_cat (w : Fin 32) : (wv w).category = 1 := by
  unfold wv
  split <;> rfl
theorem lvm_at {ρ : Nat → Nat} {lv : List (Nat × Value)} {ls : Array Slot} {nL : Nat} (hl : lv_has ls nL (lv.map (fun q => (q.1, cv ρ q.2)))) (j : Nat) {i : Nat} {v : Value} (h : lv[j]? = some (i, v)) : ls[i]? = some (.val (cv ρ v)) :=
  lv_at hl j (by rw [List.getElem?_map, h]; rfl)
theorem lvm_st {ρ : Nat → Nat} {lv lv' : List (Nat × Value)} {i : Nat} {v : Value} (h : (i, v) :: lv.filter (fun q => !(q.1 == i) && !(q.1 + 1 == i && q.2.category == 2)) = lv') :
    (i, cv ρ v) :: (lv.map (fun q => (q.1, cv ρ q.2))).filter (fun q => !(q.1 == i) && !(q.1 + 1 == i && q.2.category == 2)) = lv'.map (fun q => (q.1, cv ρ q.2)) := by
  rw [← h, List.map_cons, List.filter_map]
  congr 3
  funext q
  simp [cv_cat]
theorem lvm_stL {ρ : Nat → Nat} {lv lv' : List (Nat × Value)} {i : Nat} {v : Value} (h : (i, v) :: lv.filter (fun q => !(q.1 == i) && (!(q.1 == i + 1) && !(q.1 + 1 == i && q.2.category == 2))) = lv') :
    (i, cv ρ v) :: (lv.map (fun q => (q.1, cv ρ q.2))).filter (fun q => !(q.1 == i) && (!(q.1 == i + 1) && !(q.1 + 1 == i && q.2.category == 2))) = lv'.map (fun q => (q.1, cv ρ q.2)) := by
  rw [← h, List.map_cons, List.filter_map]
  congr 3
  funext q
  simp [cv_cat]
/-- fewer locals, in another order -/
theorem LW.sub {lv' : List (Nat × Value)} (ks : List Nat) (h : lv_pick lv ks = lv') (k : LW p l e R s m args below meth c Q G ρ A nL cells slots pc lv' rest κ) : LW p l e R s m args below meth c Q G ρ A nL cells slots pc lv rest κ := by
  intro H locs ls hP hS hl
  refine k H locs ls hP hS (lv_sub hl ks ?_)
  subst h
  unfold lv_pick
  rw [List.map_filterMap]
  congr 1
  funext k
  rw [List.getElem?_map]
theorem LW.widen {c2 s2 : Nat} (h1 : cells ≤ c2) (h2 : slots ≤ s2) (k : LW p l e R s m args below meth c Q G ρ A nL c2 s2 pc lv rest κ) : LW p l e R s m args below meth c Q G ρ A nL cells slots pc lv rest κ :=
  fun H locs ls hP hS hl => W.widen h1 h2 (k H locs ls hP hS hl)
theorem L_iconst (X : MC p l s m args meth c cc nL own G ρ A) {n : Int} {v : Int32} (d : decode cc pc = .ok (.iconst n, 1)) (hv : Int32.ofInt n = v) (k : LW p l e R s m args below meth c Q G ρ A nL cells slots (pc + 1) lv (.int v :: rest) κ) : LW p l e R s m args below meth c Q G ρ A nL cells slots pc lv rest κ := by
  intro H locs ls hP hS hl
  exact lv_iconst X.hx X.hb d hv (k H locs ls hP hS hl)
theorem L_bipush (X : MC p l s m args meth c cc nL own G ρ A) {n : Int} {v : Int32} (d : decode cc pc = .ok (.bipush n, 2)) (hv : (Int8.ofInt n).toInt32 = v) (k : LW p l e R s m args below meth c Q G ρ A nL cells slots (pc + 2) lv (.int v :: rest) κ) : LW p l e R s m args below meth c Q G ρ A nL cells slots pc lv rest κ := by
  intro H locs ls hP hS hl
  exact lv_bipush X.hx X.hb d hv (k H locs ls hP hS hl)
theorem L_sipush (X : MC p l s m args meth c cc nL own G ρ A) {n : Int} {v : Int32} (d : decode cc pc = .ok (.sipush n, 3)) (hv : (Int16.ofInt n).toInt32 = v) (k : LW p l e R s m args below meth c Q G ρ A nL cells slots (pc + 3) lv (.int v :: rest) κ) : LW p l e R s m args below meth c Q G ρ A nL cells slots pc lv rest κ := by
  intro H locs ls hP hS hl
  exact lv_sipush X.hx X.hb d hv (k H locs ls hP hS hl)
theorem L_lconst (X : MC p l s m args meth c cc nL own G ρ A) {n : Fin 2} {v : Int64} (d : decode cc pc = .ok (.lconst n, 1)) (hv : Int64.ofNat (n : Nat) = v) (k : LW p l e R s m args below meth c Q G ρ A nL cells slots (pc + 1) lv (.long v :: rest) κ) : LW p l e R s m args below meth c Q G ρ A nL cells slots pc lv rest κ := by
  intro H locs ls hP hS hl
  exact lv_lconst X.hx X.hb d hv (k H locs ls hP hS hl)
theorem L_ldc (X : MC p l s m args meth c cc nL own G ρ A) {index : Nat} {v : Int32} (d : decode cc pc = .ok (.ldc index, 2)) (hw : Cond.constant own index v ∈ TW) (k : LW p l e R s m args below meth c Q G ρ A nL cells slots (pc + 2) lv (.int v :: rest) κ) : LW p l e R s m args below meth c Q G ρ A nL cells slots pc lv rest κ := by
  intro H locs ls hP hS hl
  exact lv_ldc X.hx X.hb X.ho (X.hT _ hw) d (k H locs ls hP hS hl)
theorem L_ldcw (X : MC p l s m args meth c cc nL own G ρ A) {index : Nat} {v : Int32} (d : decode cc pc = .ok (.ldc_w index, 3)) (hw : Cond.constant own index v ∈ TW) (k : LW p l e R s m args below meth c Q G ρ A nL cells slots (pc + 3) lv (.int v :: rest) κ) : LW p l e R s m args below meth c Q G ρ A nL cells slots pc lv rest κ := by
  intro H locs ls hP hS hl
  exact lv_ldcw X.hx X.hb X.ho (X.hT _ hw) d (k H locs ls hP hS hl)
theorem L_ldc2 (X : MC p l s m args meth c cc nL own G ρ A) {index : Nat} {v : Int64} (d : decode cc pc = .ok (.ldc2_w index, 3)) (hw : Cond.constantLong own index v ∈ TW) (k : LW p l e R s m args below meth c Q G ρ A nL cells slots (pc + 3) lv (.long v :: rest) κ) : LW p l e R s m args below meth c Q G ρ A nL cells slots pc lv rest κ := by
  intro H locs ls hP hS hl
  exact lv_ldc2 X.hx X.hb X.ho (X.hT _ hw) d (k H locs ls hP hS hl)
theorem L_iload_n (X : MC p l s m args meth c cc nL own G ρ A) {n : Fin 4} {i : Nat} {x : Int32} (d : decode cc pc = .ok (.iload_n n, 1)) (hi : (n : Nat) = i) (j : Nat) (h : lv[j]? = some (i, .int x)) (k : LW p l e R s m args below meth c Q G ρ A nL cells slots (pc + 1) lv (.int x :: rest) κ) : LW p l e R s m args below meth c Q G ρ A nL cells slots pc lv rest κ := by
  intro H locs ls hP hS hl
  exact lv_iload_n X.hx X.hb d hi (lvm_at hl j h) (k H locs ls hP hS hl)
theorem L_iload (X : MC p l s m args meth c cc nL own G ρ A) {i : Nat} {x : Int32} (d : decode cc pc = .ok (.iload i, 2)) (j : Nat) (h : lv[j]? = some (i, .int x)) (k : LW p l e R s m args below meth c Q G ρ A nL cells slots (pc + 2) lv (.int x :: rest) κ) : LW p l e R s m args below meth c Q G ρ A nL cells slots pc lv rest κ := by
  intro H locs ls hP hS hl
  exact lv_iload X.hx X.hb d (lvm_at hl j h) (k H locs ls hP hS hl)
theorem L_lload_n (X : MC p l s m args meth c cc nL own G ρ A) {n : Fin 4} {i : Nat} {x : Int64} (d : decode cc pc = .ok (.lload_n n, 1)) (hi : (n : Nat) = i) (j : Nat) (h : lv[j]? = some (i, .long x)) (k : LW p l e R s m args below meth c Q G ρ A nL cells slots (pc + 1) lv (.long x :: rest) κ) : LW p l e R s m args below meth c Q G ρ A nL cells slots pc lv rest κ := by
  intro H locs ls hP hS hl
  exact lv_lload_n X.hx X.hb d hi (lvm_at hl j h) (k H locs ls hP hS hl)
theorem L_lload (X : MC p l s m args meth c cc nL own G ρ A) {i : Nat} {x : Int64} (d : decode cc pc = .ok (.lload i, 2)) (j : Nat) (h : lv[j]? = some (i, .long x)) (k : LW p l e R s m args below meth c Q G ρ A nL cells slots (pc + 2) lv (.long x :: rest) κ) : LW p l e R s m args below meth c Q G ρ A nL cells slots pc lv rest κ := by
  intro H locs ls hP hS hl
  exact lv_lload X.hx X.hb d (lvm_at hl j h) (k H locs ls hP hS hl)
theorem L_aload_n (X : MC p l s m args meth c cc nL own G ρ A) {n : Fin 4} {i : Nat} {x : Nat} (d : decode cc pc = .ok (.aload_n n, 1)) (hi : (n : Nat) = i) (j : Nat) (h : lv[j]? = some (i, .ref x)) (k : LW p l e R s m args below meth c Q G ρ A nL cells slots (pc + 1) lv (.ref x :: rest) κ) : LW p l e R s m args below meth c Q G ρ A nL cells slots pc lv rest κ := by
  intro H locs ls hP hS hl
  exact lv_aload_n X.hx X.hb d hi (lvm_at hl j h) (k H locs ls hP hS hl)
theorem L_aload (X : MC p l s m args meth c cc nL own G ρ A) {i : Nat} {x : Nat} (d : decode cc pc = .ok (.aload i, 2)) (j : Nat) (h : lv[j]? = some (i, .ref x)) (k : LW p l e R s m args below meth c Q G ρ A nL cells slots (pc + 2) lv (.ref x :: rest) κ) : LW p l e R s m args below meth c Q G ρ A nL cells slots pc lv rest κ := by
  intro H locs ls hP hS hl
  exact lv_aload X.hx X.hb d (lvm_at hl j h) (k H locs ls hP hS hl)
theorem wv_or (w : Fin 32) : wv w = .null ∨ ∃ a, wv w = .ref a := by
  unfold wv
  split
  · exact Or.inl rfl
  · exact Or.inr ⟨_, rfl⟩
theorem L_aloadW_n (X : MC p l s m args meth c cc nL own G ρ A) {n : Fin 4} {i : Nat} {w : Fin 32} (d : decode cc pc = .ok (.aload_n n, 1)) (hi : (n : Nat) = i) (j : Nat) (h : lv[j]? = some (i, wv w)) (k : LW p l e R s m args below meth c Q G ρ A nL cells slots (pc + 1) lv (wv w :: rest) κ) : LW p l e R s m args below meth c Q G ρ A nL cells slots pc lv rest κ := by
  intro H locs ls hP hS hl
  have h2 := lvm_at hl j h
  have h3 := k H locs ls hP hS hl
  rw [List.map_cons] at h3
  rcases wv_or w with q | ⟨a, q⟩
  · rw [q] at h2 h3
    exact lv_aload_nN X.hx X.hb d hi h2 h3
  · rw [q] at h2 h3
    exact lv_aload_n X.hx X.hb d hi h2 h3
theorem L_aloadW (X : MC p l s m args meth c cc nL own G ρ A) {i : Nat} {w : Fin 32} (d : decode cc pc = .ok (.aload i, 2)) (j : Nat) (h : lv[j]? = some (i, wv w)) (k : LW p l e R s m args below meth c Q G ρ A nL cells slots (pc + 2) lv (wv w :: rest) κ) : LW p l e R s m args below meth c Q G ρ A nL cells slots pc lv rest κ := by
  intro H locs ls hP hS hl
  have h2 := lvm_at hl j h
  have h3 := k H locs ls hP hS hl
  rw [List.map_cons] at h3
  rcases wv_or w with q | ⟨a, q⟩
  · rw [q] at h2 h3
    exact lv_aloadN X.hx X.hb d h2 h3
  · rw [q] at h2 h3
    exact lv_aload X.hx X.hb d h2 h3
theorem L_istore_n (X : MC p l s m args meth c cc nL own G ρ A) {n : Fin 4} {i : Nat} {x : Int32} {lv2 : List (Nat × Value)} (d : decode cc pc = .ok (.istore_n n, 1)) (hi : (n : Nat) = i) (hn : i < nL) (h : (i, Value.int x) :: lv.filter (fun q => !(q.1 == i) && !(q.1 + 1 == i && q.2.category == 2)) = lv2) (k : LW p l e R s m args below meth c Q G ρ A nL cells slots (pc + 1) lv2 rest κ) : LW p l e R s m args below meth c Q G ρ A nL cells slots pc lv (.int x :: rest) κ := by
  intro H locs ls hP hS hl
  exact lv_istore_n X.hx X.hb d hi hl hn (lvm_st (ρ := ρ) h) (fun ls2 hl2 => k H locs ls2 hP hS hl2)
theorem L_istore (X : MC p l s m args meth c cc nL own G ρ A) {i : Nat} {x : Int32} {lv2 : List (Nat × Value)} (d : decode cc pc = .ok (.istore i, 2)) (hn : i < nL) (h : (i, Value.int x) :: lv.filter (fun q => !(q.1 == i) && !(q.1 + 1 == i && q.2.category == 2)) = lv2) (k : LW p l e R s m args below meth c Q G ρ A nL cells slots (pc + 2) lv2 rest κ) : LW p l e R s m args below meth c Q G ρ A nL cells slots pc lv (.int x :: rest) κ := by
  intro H locs ls hP hS hl
  exact lv_istore X.hx X.hb d hl hn (lvm_st (ρ := ρ) h) (fun ls2 hl2 => k H locs ls2 hP hS hl2)
theorem L_astore_n (X : MC p l s m args meth c cc nL own G ρ A) {n : Fin 4} {i : Nat} {x : Nat} {lv2 : List (Nat × Value)} (d : decode cc pc = .ok (.astore_n n, 1)) (hi : (n : Nat) = i) (hn : i < nL) (h : (i, Value.ref x) :: lv.filter (fun q => !(q.1 == i) && !(q.1 + 1 == i && q.2.category == 2)) = lv2) (k : LW p l e R s m args below meth c Q G ρ A nL cells slots (pc + 1) lv2 rest κ) : LW p l e R s m args below meth c Q G ρ A nL cells slots pc lv (.ref x :: rest) κ := by
  intro H locs ls hP hS hl
  exact lv_astore_n X.hx X.hb d hi hl hn (lvm_st (ρ := ρ) h) (fun ls2 hl2 => k H locs ls2 hP hS hl2)
theorem L_astore (X : MC p l s m args meth c cc nL own G ρ A) {i : Nat} {x : Nat} {lv2 : List (Nat × Value)} (d : decode cc pc = .ok (.astore i, 2)) (hn : i < nL) (h : (i, Value.ref x) :: lv.filter (fun q => !(q.1 == i) && !(q.1 + 1 == i && q.2.category == 2)) = lv2) (k : LW p l e R s m args below meth c Q G ρ A nL cells slots (pc + 2) lv2 rest κ) : LW p l e R s m args below meth c Q G ρ A nL cells slots pc lv (.ref x :: rest) κ := by
  intro H locs ls hP hS hl
  exact lv_astore X.hx X.hb d hl hn (lvm_st (ρ := ρ) h) (fun ls2 hl2 => k H locs ls2 hP hS hl2)
theorem L_lstore_n (X : MC p l s m args meth c cc nL own G ρ A) {n : Fin 4} {i : Nat} {x : Int64} {lv2 : List (Nat × Value)} (d : decode cc pc = .ok (.lstore_n n, 1)) (hi : (n : Nat) = i) (hn : i + 1 < nL) (h : (i, Value.long x) :: lv.filter (fun q => !(q.1 == i) && (!(q.1 == i + 1) && !(q.1 + 1 == i && q.2.category == 2))) = lv2) (k : LW p l e R s m args below meth c Q G ρ A nL cells slots (pc + 1) lv2 rest κ) : LW p l e R s m args below meth c Q G ρ A nL cells slots pc lv (.long x :: rest) κ := by
  intro H locs ls hP hS hl
  exact lv_lstore_n X.hx X.hb d hi hl hn (lvm_stL (ρ := ρ) h) (fun ls2 hl2 => k H locs ls2 hP hS hl2)
theorem L_lstore (X : MC p l s m args meth c cc nL own G ρ A) {i : Nat} {x : Int64} {lv2 : List (Nat × Value)} (d : decode cc pc = .ok (.lstore i, 2)) (hn : i + 1 < nL) (h : (i, Value.long x) :: lv.filter (fun q => !(q.1 == i) && (!(q.1 == i + 1) && !(q.1 + 1 == i && q.2.category == 2))) = lv2) (k : LW p l e R s m args below meth c Q G ρ A nL cells slots (pc + 2) lv2 rest κ) : LW p l e R s m args below meth c Q G ρ A nL cells slots pc lv (.long x :: rest) κ := by
  intro H locs ls hP hS hl
  exact lv_lstore X.hx X.hb d hl hn (lvm_stL (ρ := ρ) h) (fun ls2 hl2 => k H locs ls2 hP hS hl2)
theorem L_astoreW_n (X : MC p l s m args meth c cc nL own G ρ A) {n : Fin 4} {i : Nat} {w : Fin 32} {lv2 : List (Nat × Value)} (d : decode cc pc = .ok (.astore_n n, 1)) (hi : (n : Nat) = i) (hn : i < nL) (h : (i, wv w) :: lv.filter (fun q => !(q.1 == i) && !(q.1 + 1 == i && q.2.category == 2)) = lv2) (k : LW p l e R s m args below meth c Q G ρ A nL cells slots (pc + 1) lv2 rest κ) : LW p l e R s m args below meth c Q G ρ A nL cells slots pc lv (wv w :: rest) κ := by
  intro H locs ls hP hS hl
  rw [List.map_cons]
  have h2 := lvm_st (ρ := ρ) h
  rcases wv_or w with q | ⟨a, q⟩
  · rw [q] at h2 ⊢
    exact lv_astore_nN X.hx X.hb d hi hl hn h2 (fun ls2 hl2 => k H locs ls2 hP hS hl2)
  · rw [q] at h2 ⊢
    exact lv_astore_n X.hx X.hb d hi hl hn h2 (fun ls2 hl2 => k H locs ls2 hP hS hl2)
theorem L_astoreW (X : MC p l s m args meth c cc nL own G ρ A) {i : Nat} {w : Fin 32} {lv2 : List (Nat × Value)} (d : decode cc pc = .ok (.astore i, 2)) (hn : i < nL) (h : (i, wv w) :: lv.filter (fun q => !(q.1 == i) && !(q.1 + 1 == i && q.2.category == 2)) = lv2) (k : LW p l e R s m args below meth c Q G ρ A nL cells slots (pc + 2) lv2 rest κ) : LW p l e R s m args below meth c Q G ρ A nL cells slots pc lv (wv w :: rest) κ := by
  intro H locs ls hP hS hl
  rw [List.map_cons]
  have h2 := lvm_st (ρ := ρ) h
  rcases wv_or w with q | ⟨a, q⟩
  · rw [q] at h2 ⊢
    exact lv_astoreN X.hx X.hb d hl hn h2 (fun ls2 hl2 => k H locs ls2 hP hS hl2)
  · rw [q] at h2 ⊢
    exact lv_astore X.hx X.hb d hl hn h2 (fun ls2 hl2 => k H locs ls2 hP hS hl2)
theorem L_iinc (X : MC p l s m args meth c cc nL own G ρ A) {i : Nat} {n : Int} {x v : Int32} {lv2 : List (Nat × Value)} (d : decode cc pc = .ok (.iinc i n, 3)) (j : Nat) (hj : lv[j]? = some (i, .int x)) (hv : x + Int32.ofInt n = v) (hn : i < nL) (h : (i, Value.int v) :: lv.filter (fun q => !(q.1 == i) && !(q.1 + 1 == i && q.2.category == 2)) = lv2) (k : LW p l e R s m args below meth c Q G ρ A nL cells slots (pc + 3) lv2 rest κ) : LW p l e R s m args below meth c Q G ρ A nL cells slots pc lv rest κ := by
  intro H locs ls hP hS hl
  exact lv_iinc X.hx X.hb d hl (k := j) (by rw [List.getElem?_map, hj]; rfl) hv hn (lvm_st (ρ := ρ) h) (fun ls2 hl2 => k H locs ls2 hP hS hl2)
theorem L_iadd (X : MC p l s m args meth c cc nL own G ρ A) {x y : Int32} (d : decode cc pc = .ok (.iadd, 1))  (k : LW p l e R s m args below meth c Q G ρ A nL cells slots (pc + 1) lv (.int (x + y) :: rest) κ) : LW p l e R s m args below meth c Q G ρ A nL cells slots pc lv (.int y :: .int x :: rest) κ := by
  intro H locs ls hP hS hl
  exact lv_iadd X.hx X.hb d (k H locs ls hP hS hl)
theorem L_isub (X : MC p l s m args meth c cc nL own G ρ A) {x y : Int32} (d : decode cc pc = .ok (.isub, 1))  (k : LW p l e R s m args below meth c Q G ρ A nL cells slots (pc + 1) lv (.int (x - y) :: rest) κ) : LW p l e R s m args below meth c Q G ρ A nL cells slots pc lv (.int y :: .int x :: rest) κ := by
  intro H locs ls hP hS hl
  exact lv_isub X.hx X.hb d (k H locs ls hP hS hl)
theorem L_imul (X : MC p l s m args meth c cc nL own G ρ A) {x y : Int32} (d : decode cc pc = .ok (.imul, 1))  (k : LW p l e R s m args below meth c Q G ρ A nL cells slots (pc + 1) lv (.int (x * y) :: rest) κ) : LW p l e R s m args below meth c Q G ρ A nL cells slots pc lv (.int y :: .int x :: rest) κ := by
  intro H locs ls hP hS hl
  exact lv_imul X.hx X.hb d (k H locs ls hP hS hl)
theorem L_iand (X : MC p l s m args meth c cc nL own G ρ A) {x y : Int32} (d : decode cc pc = .ok (.iand, 1))  (k : LW p l e R s m args below meth c Q G ρ A nL cells slots (pc + 1) lv (.int (x &&& y) :: rest) κ) : LW p l e R s m args below meth c Q G ρ A nL cells slots pc lv (.int y :: .int x :: rest) κ := by
  intro H locs ls hP hS hl
  exact lv_iand X.hx X.hb d (k H locs ls hP hS hl)
theorem L_ior (X : MC p l s m args meth c cc nL own G ρ A) {x y : Int32} (d : decode cc pc = .ok (.ior, 1))  (k : LW p l e R s m args below meth c Q G ρ A nL cells slots (pc + 1) lv (.int (x ||| y) :: rest) κ) : LW p l e R s m args below meth c Q G ρ A nL cells slots pc lv (.int y :: .int x :: rest) κ := by
  intro H locs ls hP hS hl
  exact lv_ior X.hx X.hb d (k H locs ls hP hS hl)
theorem L_ishl (X : MC p l s m args meth c cc nL own G ρ A) {x y : Int32} (d : decode cc pc = .ok (.ishl, 1))  (k : LW p l e R s m args below meth c Q G ρ A nL cells slots (pc + 1) lv (.int (x <<< (y &&& 31)) :: rest) κ) : LW p l e R s m args below meth c Q G ρ A nL cells slots pc lv (.int y :: .int x :: rest) κ := by
  intro H locs ls hP hS hl
  exact lv_ishl X.hx X.hb d (k H locs ls hP hS hl)
theorem L_ishr (X : MC p l s m args meth c cc nL own G ρ A) {x y : Int32} (d : decode cc pc = .ok (.ishr, 1))  (k : LW p l e R s m args below meth c Q G ρ A nL cells slots (pc + 1) lv (.int (x >>> (y &&& 31)) :: rest) κ) : LW p l e R s m args below meth c Q G ρ A nL cells slots pc lv (.int y :: .int x :: rest) κ := by
  intro H locs ls hP hS hl
  exact lv_ishr X.hx X.hb d (k H locs ls hP hS hl)
theorem L_iushr (X : MC p l s m args meth c cc nL own G ρ A) {x y : Int32} (d : decode cc pc = .ok (.iushr, 1))  (k : LW p l e R s m args below meth c Q G ρ A nL cells slots (pc + 1) lv (.int ((x.toUInt32 >>> (y.toUInt32 &&& Int32.toUInt32 31)).toInt32) :: rest) κ) : LW p l e R s m args below meth c Q G ρ A nL cells slots pc lv (.int y :: .int x :: rest) κ := by
  intro H locs ls hP hS hl
  exact lv_iushr X.hx X.hb d rfl (k H locs ls hP hS hl)
theorem L_idiv (X : MC p l s m args meth c cc nL own G ρ A) {x y : Int32} (d : decode cc pc = .ok (.idiv, 1)) (hne : ¬ y = 0) (k : LW p l e R s m args below meth c Q G ρ A nL cells slots (pc + 1) lv (.int (x / y) :: rest) κ) : LW p l e R s m args below meth c Q G ρ A nL cells slots pc lv (.int y :: .int x :: rest) κ := by
  intro H locs ls hP hS hl
  exact lv_idiv X.hx X.hb d hne (k H locs ls hP hS hl)
theorem L_irem (X : MC p l s m args meth c cc nL own G ρ A) {x y : Int32} (d : decode cc pc = .ok (.irem, 1)) (hne : ¬ y = 0) (k : LW p l e R s m args below meth c Q G ρ A nL cells slots (pc + 1) lv (.int (x - x / y * y) :: rest) κ) : LW p l e R s m args below meth c Q G ρ A nL cells slots pc lv (.int y :: .int x :: rest) κ := by
  intro H locs ls hP hS hl
  exact lv_irem X.hx X.hb d hne (k H locs ls hP hS hl)
theorem L_ladd (X : MC p l s m args meth c cc nL own G ρ A) {x y : Int64} (d : decode cc pc = .ok (.ladd, 1))  (k : LW p l e R s m args below meth c Q G ρ A nL cells slots (pc + 1) lv (.long (x + y) :: rest) κ) : LW p l e R s m args below meth c Q G ρ A nL cells slots pc lv (.long y :: .long x :: rest) κ := by
  intro H locs ls hP hS hl
  exact lv_ladd X.hx X.hb d (k H locs ls hP hS hl)
theorem L_lsub (X : MC p l s m args meth c cc nL own G ρ A) {x y : Int64} (d : decode cc pc = .ok (.lsub, 1))  (k : LW p l e R s m args below meth c Q G ρ A nL cells slots (pc + 1) lv (.long (x - y) :: rest) κ) : LW p l e R s m args below meth c Q G ρ A nL cells slots pc lv (.long y :: .long x :: rest) κ := by
  intro H locs ls hP hS hl
  exact lv_lsub X.hx X.hb d (k H locs ls hP hS hl)
theorem L_lmul (X : MC p l s m args meth c cc nL own G ρ A) {x y : Int64} (d : decode cc pc = .ok (.lmul, 1))  (k : LW p l e R s m args below meth c Q G ρ A nL cells slots (pc + 1) lv (.long (x * y) :: rest) κ) : LW p l e R s m args below meth c Q G ρ A nL cells slots pc lv (.long y :: .long x :: rest) κ := by
  intro H locs ls hP hS hl
  exact lv_lmul X.hx X.hb d (k H locs ls hP hS hl)
theorem L_land (X : MC p l s m args meth c cc nL own G ρ A) {x y : Int64} (d : decode cc pc = .ok (.land, 1))  (k : LW p l e R s m args below meth c Q G ρ A nL cells slots (pc + 1) lv (.long (x &&& y) :: rest) κ) : LW p l e R s m args below meth c Q G ρ A nL cells slots pc lv (.long y :: .long x :: rest) κ := by
  intro H locs ls hP hS hl
  exact lv_land X.hx X.hb d (k H locs ls hP hS hl)
theorem L_lor (X : MC p l s m args meth c cc nL own G ρ A) {x y : Int64} (d : decode cc pc = .ok (.lor, 1))  (k : LW p l e R s m args below meth c Q G ρ A nL cells slots (pc + 1) lv (.long (x ||| y) :: rest) κ) : LW p l e R s m args below meth c Q G ρ A nL cells slots pc lv (.long y :: .long x :: rest) κ := by
  intro H locs ls hP hS hl
  exact lv_lor X.hx X.hb d (k H locs ls hP hS hl)
theorem L_ldiv (X : MC p l s m args meth c cc nL own G ρ A) {x y : Int64} (d : decode cc pc = .ok (.ldiv, 1)) (hne : ¬ y = 0) (k : LW p l e R s m args below meth c Q G ρ A nL cells slots (pc + 1) lv (.long (x / y) :: rest) κ) : LW p l e R s m args below meth c Q G ρ A nL cells slots pc lv (.long y :: .long x :: rest) κ := by
  intro H locs ls hP hS hl
  exact lv_ldiv X.hx X.hb d hne (k H locs ls hP hS hl)
theorem L_lshl (X : MC p l s m args meth c cc nL own G ρ A) {x : Int64} {y : Int32} (d : decode cc pc = .ok (.lshl, 1))  (k : LW p l e R s m args below meth c Q G ρ A nL cells slots (pc + 1) lv (.long (x <<< (y.toInt64 &&& 63)) :: rest) κ) : LW p l e R s m args below meth c Q G ρ A nL cells slots pc lv (.int y :: .long x :: rest) κ := by
  intro H locs ls hP hS hl
  exact lv_lshl X.hx X.hb d rfl (k H locs ls hP hS hl)
theorem L_i2l (X : MC p l s m args meth c cc nL own G ρ A) {x : Int32} (d : decode cc pc = .ok (.i2l, 1))  (k : LW p l e R s m args below meth c Q G ρ A nL cells slots (pc + 1) lv (.long x.toInt64 :: rest) κ) : LW p l e R s m args below meth c Q G ρ A nL cells slots pc lv (.int x :: rest) κ := by
  intro H locs ls hP hS hl
  exact lv_i2l X.hx X.hb d rfl (k H locs ls hP hS hl)
theorem L_l2i (X : MC p l s m args meth c cc nL own G ρ A) {x : Int64} (d : decode cc pc = .ok (.l2i, 1))  (k : LW p l e R s m args below meth c Q G ρ A nL cells slots (pc + 1) lv (.int x.toInt32 :: rest) κ) : LW p l e R s m args below meth c Q G ρ A nL cells slots pc lv (.long x :: rest) κ := by
  intro H locs ls hP hS hl
  exact lv_l2i X.hx X.hb d rfl (k H locs ls hP hS hl)
theorem L_lcmp (X : MC p l s m args meth c cc nL own G ρ A) {x y : Int64} (d : decode cc pc = .ok (.lcmp, 1))  (k : LW p l e R s m args below meth c Q G ρ A nL cells slots (pc + 1) lv (.int (lg_cmp x y) :: rest) κ) : LW p l e R s m args below meth c Q G ρ A nL cells slots pc lv (.long y :: .long x :: rest) κ := by
  intro H locs ls hP hS hl
  exact W.lcmp X.hx X.hb d (k H locs ls hP hS hl)
theorem L_dup (X : MC p l s m args meth c cc nL own G ρ A) {v : Value} (d : decode cc pc = .ok (.dup, 1)) (h1 : v.category = 1) (k : LW p l e R s m args below meth c Q G ρ A nL cells slots (pc + 1) lv (v :: v :: rest) κ) : LW p l e R s m args below meth c Q G ρ A nL cells slots pc lv (v :: rest) κ := by
  intro H locs ls hP hS hl
  exact lv_dup X.hx X.hb d ((cv_cat ρ v).trans h1) (k H locs ls hP hS hl)
theorem L_pop (X : MC p l s m args meth c cc nL own G ρ A) {v : Value} (d : decode cc pc = .ok (.pop, 1)) (h1 : v.category = 1) (k : LW p l e R s m args below meth c Q G ρ A nL cells slots (pc + 1) lv rest κ) : LW p l e R s m args below meth c Q G ρ A nL cells slots pc lv (v :: rest) κ := by
  intro H locs ls hP hS hl
  exact lv_pop X.hx X.hb d ((cv_cat ρ v).trans h1) (k H locs ls hP hS hl)
theorem L_dup2 (X : MC p l s m args meth c cc nL own G ρ A) {v w : Value} (d : decode cc pc = .ok (.dup2, 1)) (h1 : v.category = 1) (h2 : w.category = 1) (k : LW p l e R s m args below meth c Q G ρ A nL cells slots (pc + 1) lv (v :: w :: v :: w :: rest) κ) : LW p l e R s m args below meth c Q G ρ A nL cells slots pc lv (v :: w :: rest) κ := by
  intro H locs ls hP hS hl
  exact lv_dup2_11 X.hx X.hb d ((cv_cat ρ v).trans h1) ((cv_cat ρ w).trans h2) (k H locs ls hP hS hl)
theorem L_if_eq (X : MC p l s m args meth c cc nL own G ρ A) {x : Int32} {off : Int} {tgt : Nat} (d : decode cc pc = .ok (.ifCond .eq off, 3)) (ht : (pc : Int) + off = (tgt : Int)) (kt : x = 0 → LW p l e R s m args below meth c Q G ρ A nL cells slots tgt lv rest κ) (kf : ¬ x = 0 → LW p l e R s m args below meth c Q G ρ A nL cells slots (pc + 3) lv rest κ) : LW p l e R s m args below meth c Q G ρ A nL cells slots pc lv (.int x :: rest) κ := by
  intro H locs ls hP hS hl
  exact lv_if_eq X.hx X.hb d ht (fun q => kt q H locs ls hP hS hl) (fun q => kf q H locs ls hP hS hl)
theorem L_if_ne (X : MC p l s m args meth c cc nL own G ρ A) {x : Int32} {off : Int} {tgt : Nat} (d : decode cc pc = .ok (.ifCond .ne off, 3)) (ht : (pc : Int) + off = (tgt : Int)) (kt : ¬ x = 0 → LW p l e R s m args below meth c Q G ρ A nL cells slots tgt lv rest κ) (kf : x = 0 → LW p l e R s m args below meth c Q G ρ A nL cells slots (pc + 3) lv rest κ) : LW p l e R s m args below meth c Q G ρ A nL cells slots pc lv (.int x :: rest) κ := by
  intro H locs ls hP hS hl
  exact lv_if_ne X.hx X.hb d ht (fun q => kt q H locs ls hP hS hl) (fun q => kf q H locs ls hP hS hl)
theorem L_if_lt (X : MC p l s m args meth c cc nL own G ρ A) {x : Int32} {off : Int} {tgt : Nat} (d : decode cc pc = .ok (.ifCond .lt off, 3)) (ht : (pc : Int) + off = (tgt : Int)) (kt : x < 0 → LW p l e R s m args below meth c Q G ρ A nL cells slots tgt lv rest κ) (kf : ¬ x < 0 → LW p l e R s m args below meth c Q G ρ A nL cells slots (pc + 3) lv rest κ) : LW p l e R s m args below meth c Q G ρ A nL cells slots pc lv (.int x :: rest) κ := by
  intro H locs ls hP hS hl
  exact lv_if_lt X.hx X.hb d ht (fun q => kt q H locs ls hP hS hl) (fun q => kf q H locs ls hP hS hl)
theorem L_if_ge (X : MC p l s m args meth c cc nL own G ρ A) {x : Int32} {off : Int} {tgt : Nat} (d : decode cc pc = .ok (.ifCond .ge off, 3)) (ht : (pc : Int) + off = (tgt : Int)) (kt : 0 ≤ x → LW p l e R s m args below meth c Q G ρ A nL cells slots tgt lv rest κ) (kf : ¬ 0 ≤ x → LW p l e R s m args below meth c Q G ρ A nL cells slots (pc + 3) lv rest κ) : LW p l e R s m args below meth c Q G ρ A nL cells slots pc lv (.int x :: rest) κ := by
  intro H locs ls hP hS hl
  exact lv_if_ge X.hx X.hb d ht (fun q => kt q H locs ls hP hS hl) (fun q => kf q H locs ls hP hS hl)
theorem L_if_gt (X : MC p l s m args meth c cc nL own G ρ A) {x : Int32} {off : Int} {tgt : Nat} (d : decode cc pc = .ok (.ifCond .gt off, 3)) (ht : (pc : Int) + off = (tgt : Int)) (kt : 0 < x → LW p l e R s m args below meth c Q G ρ A nL cells slots tgt lv rest κ) (kf : ¬ 0 < x → LW p l e R s m args below meth c Q G ρ A nL cells slots (pc + 3) lv rest κ) : LW p l e R s m args below meth c Q G ρ A nL cells slots pc lv (.int x :: rest) κ := by
  intro H locs ls hP hS hl
  exact lv_if_gt X.hx X.hb d ht (fun q => kt q H locs ls hP hS hl) (fun q => kf q H locs ls hP hS hl)
theorem L_if_le (X : MC p l s m args meth c cc nL own G ρ A) {x : Int32} {off : Int} {tgt : Nat} (d : decode cc pc = .ok (.ifCond .le off, 3)) (ht : (pc : Int) + off = (tgt : Int)) (kt : x ≤ 0 → LW p l e R s m args below meth c Q G ρ A nL cells slots tgt lv rest κ) (kf : ¬ x ≤ 0 → LW p l e R s m args below meth c Q G ρ A nL cells slots (pc + 3) lv rest κ) : LW p l e R s m args below meth c Q G ρ A nL cells slots pc lv (.int x :: rest) κ := by
  intro H locs ls hP hS hl
  exact lv_if_le X.hx X.hb d ht (fun q => kt q H locs ls hP hS hl) (fun q => kf q H locs ls hP hS hl)
theorem L_icmp_eq (X : MC p l s m args meth c cc nL own G ρ A) {x y : Int32} {off : Int} {tgt : Nat} (d : decode cc pc = .ok (.if_icmp .eq off, 3)) (ht : (pc : Int) + off = (tgt : Int)) (kt : x = y → LW p l e R s m args below meth c Q G ρ A nL cells slots tgt lv rest κ) (kf : ¬ x = y → LW p l e R s m args below meth c Q G ρ A nL cells slots (pc + 3) lv rest κ) : LW p l e R s m args below meth c Q G ρ A nL cells slots pc lv (.int y :: .int x :: rest) κ := by
  intro H locs ls hP hS hl
  exact lv_icmp_eq X.hx X.hb d ht (fun q => kt q H locs ls hP hS hl) (fun q => kf q H locs ls hP hS hl)
theorem L_icmp_ne (X : MC p l s m args meth c cc nL own G ρ A) {x y : Int32} {off : Int} {tgt : Nat} (d : decode cc pc = .ok (.if_icmp .ne off, 3)) (ht : (pc : Int) + off = (tgt : Int)) (kt : ¬ x = y → LW p l e R s m args below meth c Q G ρ A nL cells slots tgt lv rest κ) (kf : x = y → LW p l e R s m args below meth c Q G ρ A nL cells slots (pc + 3) lv rest κ) : LW p l e R s m args below meth c Q G ρ A nL cells slots pc lv (.int y :: .int x :: rest) κ := by
  intro H locs ls hP hS hl
  exact lv_icmp_ne X.hx X.hb d ht (fun q => kt q H locs ls hP hS hl) (fun q => kf q H locs ls hP hS hl)
theorem L_icmp_lt (X : MC p l s m args meth c cc nL own G ρ A) {x y : Int32} {off : Int} {tgt : Nat} (d : decode cc pc = .ok (.if_icmp .lt off, 3)) (ht : (pc : Int) + off = (tgt : Int)) (kt : x < y → LW p l e R s m args below meth c Q G ρ A nL cells slots tgt lv rest κ) (kf : ¬ x < y → LW p l e R s m args below meth c Q G ρ A nL cells slots (pc + 3) lv rest κ) : LW p l e R s m args below meth c Q G ρ A nL cells slots pc lv (.int y :: .int x :: rest) κ := by
  intro H locs ls hP hS hl
  exact lv_icmp_lt X.hx X.hb d ht (fun q => kt q H locs ls hP hS hl) (fun q => kf q H locs ls hP hS hl)
theorem L_icmp_ge (X : MC p l s m args meth c cc nL own G ρ A) {x y : Int32} {off : Int} {tgt : Nat} (d : decode cc pc = .ok (.if_icmp .ge off, 3)) (ht : (pc : Int) + off = (tgt : Int)) (kt : y ≤ x → LW p l e R s m args below meth c Q G ρ A nL cells slots tgt lv rest κ) (kf : ¬ y ≤ x → LW p l e R s m args below meth c Q G ρ A nL cells slots (pc + 3) lv rest κ) : LW p l e R s m args below meth c Q G ρ A nL cells slots pc lv (.int y :: .int x :: rest) κ := by
  intro H locs ls hP hS hl
  exact lv_icmp_ge X.hx X.hb d ht (fun q => kt q H locs ls hP hS hl) (fun q => kf q H locs ls hP hS hl)
theorem L_icmp_gt (X : MC p l s m args meth c cc nL own G ρ A) {x y : Int32} {off : Int} {tgt : Nat} (d : decode cc pc = .ok (.if_icmp .gt off, 3)) (ht : (pc : Int) + off = (tgt : Int)) (kt : y < x → LW p l e R s m args below meth c Q G ρ A nL cells slots tgt lv rest κ) (kf : ¬ y < x → LW p l e R s m args below meth c Q G ρ A nL cells slots (pc + 3) lv rest κ) : LW p l e R s m args below meth c Q G ρ A nL cells slots pc lv (.int y :: .int x :: rest) κ := by
  intro H locs ls hP hS hl
  exact lv_icmp_gt X.hx X.hb d ht (fun q => kt q H locs ls hP hS hl) (fun q => kf q H locs ls hP hS hl)
theorem L_icmp_le (X : MC p l s m args meth c cc nL own G ρ A) {x y : Int32} {off : Int} {tgt : Nat} (d : decode cc pc = .ok (.if_icmp .le off, 3)) (ht : (pc : Int) + off = (tgt : Int)) (kt : x ≤ y → LW p l e R s m args below meth c Q G ρ A nL cells slots tgt lv rest κ) (kf : ¬ x ≤ y → LW p l e R s m args below meth c Q G ρ A nL cells slots (pc + 3) lv rest κ) : LW p l e R s m args below meth c Q G ρ A nL cells slots pc lv (.int y :: .int x :: rest) κ := by
  intro H locs ls hP hS hl
  exact lv_icmp_le X.hx X.hb d ht (fun q => kt q H locs ls hP hS hl) (fun q => kf q H locs ls hP hS hl)
theorem L_goto (X : MC p l s m args meth c cc nL own G ρ A) {off : Int} {tgt : Nat} (d : decode cc pc = .ok (.goto off, 3)) (ht : (pc : Int) + off = (tgt : Int)) (k : LW p l e R s m args below meth c Q G ρ A nL cells slots tgt lv rest κ) : LW p l e R s m args below meth c Q G ρ A nL cells slots pc lv rest κ := by
  intro H locs ls hP hS hl
  exact lv_goto X.hx X.hb d ht (k H locs ls hP hS hl)
theorem L_tableOut (X : MC p l s m args meth c cc nL own G ρ A) {dflt lo hi : Int} {offs : Array Int} {len : Nat} {x : Int32} {tgt : Nat} (d : decode cc pc = .ok (.tableswitch dflt lo hi offs, len)) (h : x.toInt < lo ∨ hi < x.toInt) (ht : (pc : Int) + dflt = (tgt : Int)) (k : LW p l e R s m args below meth c Q G ρ A nL cells slots tgt lv rest κ) : LW p l e R s m args below meth c Q G ρ A nL cells slots pc lv (.int x :: rest) κ := by
  intro H locs ls hP hS hl
  exact lv_tableOut X.hx X.hb d h ht (k H locs ls hP hS hl)
theorem L_tableIn (X : MC p l s m args meth c cc nL own G ρ A) {dflt lo hi : Int} {offs : Array Int} {len : Nat} {x : Int32} {off : Int} {tgt : Nat} (d : decode cc pc = .ok (.tableswitch dflt lo hi offs, len)) (h1 : ¬ x.toInt < lo) (h2 : ¬ hi < x.toInt) (h3 : offs[(x.toInt - lo).toNat]? = some off) (ht : (pc : Int) + off = (tgt : Int)) (k : LW p l e R s m args below meth c Q G ρ A nL cells slots tgt lv rest κ) : LW p l e R s m args below meth c Q G ρ A nL cells slots pc lv (.int x :: rest) κ := by
  intro H locs ls hP hS hl
  exact lv_tableIn X.hx X.hb d h1 h2 h3 ht (k H locs ls hP hS hl)
theorem wO_inj (X : MC p l s m args meth c cc nL own G ρ A) {v w : Fin 32} : wO ρ v = wO ρ w ↔ v = w := by
  refine ⟨fun h => ?_, fun h => by rw [h]⟩
  unfold wO at h
  have key := X.hS.1.2
  have hv := v.isLt
  have hw := w.isLt
  by_cases q1 : v = 0 <;> by_cases q2 : w = 0
  · rw [q1, q2]
  · rw [if_pos q1, if_neg q2] at h
    cases h
  · rw [if_neg q1, if_pos q2] at h
    cases h
  · rw [if_neg q1, if_neg q2] at h
    have n1 : v.val ≠ 0 := fun z => q1 (Fin.ext z)
    have n2 : w.val ≠ 0 := fun z => q2 (Fin.ext z)
    have h2 := key (v.val - 1) (w.val - 1) (by show v.val - 1 < 31; omega) (by show w.val - 1 < 31; omega) (by
      show ρ (1001 + (v.val - 1)) = ρ (1001 + (w.val - 1))
      rw [show 1001 + (v.val - 1) = 1000 + v.val by omega, show 1001 + (w.val - 1) = 1000 + w.val by omega]
      exact Option.some.inj h)
    exact Fin.ext (by omega)
theorem L_acmp_ne (X : MC p l s m args meth c cc nL own G ρ A) {v w : Fin 32} {off : Int} {tgt : Nat} (d : decode cc pc = .ok (.if_acmp .ne off, 3)) (ht : (pc : Int) + off = (tgt : Int)) (kt : ¬ v = w → LW p l e R s m args below meth c Q G ρ A nL cells slots tgt lv rest κ) (kf : v = w → LW p l e R s m args below meth c Q G ρ A nL cells slots (pc + 3) lv rest κ) : LW p l e R s m args below meth c Q G ρ A nL cells slots pc lv (wv w :: wv v :: rest) κ := by
  intro H locs ls hP hS hl
  rw [List.map_cons, List.map_cons, cv_wv, cv_wv]
  exact lv_acmp_ne X.hx X.hb d ht (fun q => kt (fun z => q ((wO_inj X).mpr z)) H locs ls hP hS hl) (fun q => kf ((wO_inj X).mp q) H locs ls hP hS hl)
theorem L_acmp_eq (X : MC p l s m args meth c cc nL own G ρ A) {v w : Fin 32} {off : Int} {tgt : Nat} (d : decode cc pc = .ok (.if_acmp .eq off, 3)) (ht : (pc : Int) + off = (tgt : Int)) (kt : v = w → LW p l e R s m args below meth c Q G ρ A nL cells slots tgt lv rest κ) (kf : ¬ v = w → LW p l e R s m args below meth c Q G ρ A nL cells slots (pc + 3) lv rest κ) : LW p l e R s m args below meth c Q G ρ A nL cells slots pc lv (wv w :: wv v :: rest) κ := by
  intro H locs ls hP hS hl
  rw [List.map_cons, List.map_cons, cv_wv, cv_wv]
  exact lv_acmp_eq X.hx X.hb d ht (fun q => kt ((wO_inj X).mp q) H locs ls hP hS hl) (fun q => kf (fun z => q ((wO_inj X).mpr z)) H locs ls hP hS hl)
theorem he_obj {a ci : Nat} (h : (KD a).1 = ci) (hc : ci < 20) : (wsK G ρ κ)[a - 1]? = some (ρ a, .inr (ci, (List.range (FT ci).length).map (fun j => fvl ρ RF κ a j ((FT ci).getD j 0)))) := by
  obtain ⟨h1, h2⟩ := KD_in (a := a) (by omega)
  rw [wsK_get G ρ κ h1 h2, cell_obj h hc]
theorem fld_at {a ci j : Nat} (hj : j < (FT ci).length) : ((List.range (FT ci).length).map (fun j => fvl ρ RF κ a j ((FT ci).getD j 0)))[j]? = some (fvl ρ RF κ a j ((FT ci).getD j 0)) := by
  rw [List.getElem?_map, List.getElem?_range hj]
  rfl
theorem L_getI {cm : CMu} {mm : Nat → Nat → Int32} {oo : Nat → Int64} (X : MC p l s m args meth c cc nL own G ρ A) {C : String} {T : u_T} {N ci index a : Nat} (hin : ∀ w ∈ u_ws C T N, w ∈ TW) (hc : vwCl[ci]? = some (C, T, N)) (j : Nat) (hj : j < N) (hw : Cond.fieldLink own index C (T j).2.1 (T j).2.2.1 ∈ TW) (hsm : (T j).1 = C) (hft : (FT ci).length = N) (d : decode cc pc = .ok (.getfield index, 3)) (ht : (FT ci).getD j 0 = 0) (hci : ci < 12) (ha : (KD a).1 = ci) (k : LW p l e R s m args below meth c Q G ρ A nL cells slots (pc + 3) lv (.int (gI cm a j) :: rest) (cm, mm, oo)) : LW p l e R s m args below meth c Q G ρ A nL cells slots pc lv (.ref a :: rest) (cm, mm, oo) := by
  intro H locs ls hP hS hl
  have hci20 : ci < 20 := by omega
  exact va_get X.hx X.hb X.hT hin X.ho X.hK hP (a - 1) (he_obj ha hci20) hc j hj (X.hT _ hw) (fun x q => by rw [hsm] at q; exact q) (v := .int (gI cm a j)) (by rw [fld_at (by omega), ht]; show some (fvl ρ RF (cm, mm, oo) a j 0) = _; unfold fvl; rw [if_pos rfl, iA_c (KD_c ha hci)]; rfl) d (k H locs ls hP hS hl)
theorem L_getL {cm : CMu} {mm : Nat → Nat → Int32} {oo : Nat → Int64} (X : MC p l s m args meth c cc nL own G ρ A) {C : String} {T : u_T} {N ci index a : Nat} (hin : ∀ w ∈ u_ws C T N, w ∈ TW) (hc : vwCl[ci]? = some (C, T, N)) (j : Nat) (hj : j < N) (hw : Cond.fieldLink own index C (T j).2.1 (T j).2.2.1 ∈ TW) (hsm : (T j).1 = C) (hft : (FT ci).length = N) (d : decode cc pc = .ok (.getfield index, 3)) (ht : (FT ci).getD j 0 = 1) (hci : ci < 12) (ha : (KD a).1 = ci) (k : LW p l e R s m args below meth c Q G ρ A nL cells slots (pc + 3) lv (.long (gL cm a j) :: rest) (cm, mm, oo)) : LW p l e R s m args below meth c Q G ρ A nL cells slots pc lv (.ref a :: rest) (cm, mm, oo) := by
  intro H locs ls hP hS hl
  have hci20 : ci < 20 := by omega
  exact va_get X.hx X.hb X.hT hin X.ho X.hK hP (a - 1) (he_obj ha hci20) hc j hj (X.hT _ hw) (fun x q => by rw [hsm] at q; exact q) (v := .long (gL cm a j)) (by rw [fld_at (by omega), ht]; rfl) d (k H locs ls hP hS hl)
theorem L_getR (X : MC p l s m args meth c cc nL own G ρ A) {C : String} {T : u_T} {N ci index a : Nat} (hin : ∀ w ∈ u_ws C T N, w ∈ TW) (hc : vwCl[ci]? = some (C, T, N)) (j : Nat) (hj : j < N) (hw : Cond.fieldLink own index C (T j).2.1 (T j).2.2.1 ∈ TW) (hsm : (T j).1 = C) (hft : (FT ci).length = N) (d : decode cc pc = .ok (.getfield index, 3)) (ht : (FT ci).getD j 0 = 2) (hci : ci < 20) (ha : (KD a).1 = ci) {b : Nat} (hof : a + (OF ci).getD j 0 = b) (k : LW p l e R s m args below meth c Q G ρ A nL cells slots (pc + 3) lv (.ref b :: rest) κ) : LW p l e R s m args below meth c Q G ρ A nL cells slots pc lv (.ref a :: rest) κ := by
  intro H locs ls hP hS hl
  have hpos := (KD_in (a := a) (by omega)).1
  exact va_get X.hx X.hb X.hT hin X.ho X.hK hP (a - 1) (he_obj ha hci) hc j hj (X.hT _ hw) (fun x q => by rw [hsm] at q; exact q) (v := .ref (ρ b)) (by rw [fld_at (by omega), ht]; show some (va_rf (rO ρ (RF a j))) = _; unfold RF rO; rw [ha, if_pos hci, hof, if_neg (by omega)]; rfl) d (k H locs ls hP hS hl)
theorem L_getM {cm : CMu} {mm : Nat → Nat → Int32} {oo : Nat → Int64} (X : MC p l s m args meth c cc nL own G ρ A) {C : String} {T : u_T} {N ci index a : Nat} (hin : ∀ w ∈ u_ws C T N, w ∈ TW) (hc : vwCl[ci]? = some (C, T, N)) (j : Nat) (hj : j < N) (hw : Cond.fieldLink own index C (T j).2.1 (T j).2.2.1 ∈ TW) (hsm : (T j).1 = C) (hft : (FT ci).length = N) (d : decode cc pc = .ok (.getfield index, 3)) (ht : (FT ci).getD j 0 = 0) (hci : ci = 12) (ha : (KD a).1 = ci) (h703 : a = 703) (k : LW p l e R s m args below meth c Q G ρ A nL cells slots (pc + 3) lv (.int (mm 0 j) :: rest) (cm, mm, oo)) : LW p l e R s m args below meth c Q G ρ A nL cells slots pc lv (.ref a :: rest) (cm, mm, oo) := by
  intro H locs ls hP hS hl
  have hci20 : ci < 20 := by omega
  exact va_get X.hx X.hb X.hT hin X.ho X.hK hP (a - 1) (he_obj ha hci20) hc j hj (X.hT _ hw) (fun x q => by rw [hsm] at q; exact q) (v := .int (mm 0 j)) (by rw [fld_at (by omega), ht]; show some (fvl ρ RF (cm, mm, oo) a j 0) = _; unfold fvl; rw [if_pos rfl, h703, iA_m (cm, mm, oo) 0]) d (k H locs ls hP hS hl)
theorem fld_set {α : Type} (f g : Nat → α) (n j : Nat) (v : α) (hj : j < n) (h1 : g j = v) (h2 : ∀ i, i ≠ j → g i = f i) : ((List.range n).map f).set j v = (List.range n).map g := by
  apply List.ext_getElem?
  intro i
  rw [List.getElem?_set]
  by_cases q : j = i
  · subst q
    rw [if_pos rfl, if_pos (by rw [List.length_map, List.length_range]; exact hj), List.getElem?_map, List.getElem?_range hj]
    exact congrArg some h1.symm
  · rw [if_neg q, List.getElem?_map, List.getElem?_map]
    by_cases hi : i < n
    · rw [List.getElem?_range hi]
      exact congrArg some (h2 i (fun z => q z.symm)).symm
    · rw [List.getElem?_eq_none (by rw [List.length_range]; omega)]
      rfl
theorem set_uI {cm : CMu} {mm : Nat → Nat → Int32} {oo : Nat → Int64} {a ci j : Nat} {v : Int32} (ha : (KD a).1 = ci) (hci : ci < 12) (hj : j < (FT ci).length) (ht : (FT ci).getD j 0 = 0) : (wsK G ρ (cm, mm, oo)).set (a - 1) (ρ a, .inr (ci, ((List.range (FT ci).length).map (fun j => fvl ρ RF (cm, mm, oo) a j ((FT ci).getD j 0))).set j (.int v))) = wsK G ρ (uI cm a j v, mm, oo) := by
  obtain ⟨h1, h2⟩ := KD_in (a := a) (by omega)
  refine wsK_set G ρ _ _ h1 h2 ?_ (fun b hb => cell_uI hb)
  rw [cell_obj ha (by omega)]
  congr 2
  refine (fld_set _ _ _ j _ hj ?_ (fun i hi => ?_)).symm
  · rw [ht]
    show fvl ρ RF (uI cm a j v, mm, oo) a j 0 = _
    unfold fvl
    rw [if_pos rfl, iA_c (KD_c ha hci)]
    show Value.int (up2 cm.1 a j v a j) = _
    unfold up2
    rw [if_pos ⟨rfl, rfl⟩]
  · unfold fvl
    rw [iA_c (KD_c ha hci), iA_c (KD_c ha hci)]
    show (if _ then Value.int (up2 cm.1 a j v a i) else _) = _
    rw [show up2 cm.1 a j v a i = cm.1 a i from if_neg (fun z => hi z.2)]
    rfl
theorem set_uL {cm : CMu} {mm : Nat → Nat → Int32} {oo : Nat → Int64} {a ci j : Nat} {v : Int64} (ha : (KD a).1 = ci) (hci : ci < 12) (hj : j < (FT ci).length) (ht : (FT ci).getD j 0 = 1) : (wsK G ρ (cm, mm, oo)).set (a - 1) (ρ a, .inr (ci, ((List.range (FT ci).length).map (fun j => fvl ρ RF (cm, mm, oo) a j ((FT ci).getD j 0))).set j (.long v))) = wsK G ρ (uL cm a j v, mm, oo) := by
  obtain ⟨h1, h2⟩ := KD_in (a := a) (by omega)
  refine wsK_set G ρ _ _ h1 h2 ?_ (fun b hb => cell_uL hb)
  rw [cell_obj ha (by omega)]
  congr 2
  refine (fld_set _ _ _ j _ hj ?_ (fun i hi => ?_)).symm
  · rw [ht]
    show Value.long (up2 cm.2.1 a j v a j) = _
    unfold up2
    rw [if_pos ⟨rfl, rfl⟩]
  · unfold fvl
    show (if _ then _ else if _ then Value.long (up2 cm.2.1 a j v a i) else _) = _
    rw [show up2 cm.2.1 a j v a i = cm.2.1 a i from if_neg (fun z => hi z.2)]
    rfl
theorem set_uM {cm : CMu} {mm : Nat → Nat → Int32} {oo : Nat → Int64} {ci j : Nat} {v : Int32} (ha : (KD 703).1 = ci) (hci : ci < 20) (hj : j < (FT ci).length) (ht : (FT ci).getD j 0 = 0) : (wsK G ρ (cm, mm, oo)).set (703 - 1) (ρ 703, .inr (ci, ((List.range (FT ci).length).map (fun j => fvl ρ RF (cm, mm, oo) 703 j ((FT ci).getD j 0))).set j (.int v))) = wsK G ρ (cm, up2 mm 0 j v, oo) := by
  refine wsK_set G ρ _ _ (by omega) (by omega) ?_ (fun b hb => cell_uM (a := 0) hb)
  rw [cell_obj ha hci]
  congr 2
  refine (fld_set _ _ _ j _ hj ?_ (fun i hi => ?_)).symm
  · rw [ht]
    show fvl ρ RF (cm, up2 mm 0 j v, oo) 703 j 0 = _
    unfold fvl
    rw [if_pos rfl, iA_m (cm, up2 mm 0 j v, oo) 0]
    show Value.int (up2 mm 0 j v 0 j) = _
    unfold up2
    rw [if_pos ⟨rfl, rfl⟩]
  · unfold fvl
    rw [iA_m (cm, up2 mm 0 j v, oo) 0, iA_m (cm, mm, oo) 0]
    show (if _ then Value.int (up2 mm 0 j v 0 i) else _) = _
    rw [show up2 mm 0 j v 0 i = mm 0 i from if_neg (fun z => hi z.2)]
theorem L_putI {cm : CMu} {mm : Nat → Nat → Int32} {oo : Nat → Int64} (X : MC p l s m args meth c cc nL own G ρ A) {C : String} {T : u_T} {N ci index a : Nat} (hin : ∀ w ∈ u_ws C T N, w ∈ TW) (hc : vwCl[ci]? = some (C, T, N)) (j : Nat) (hj : j < N) (hw : Cond.fieldLink own index C (T j).2.1 (T j).2.2.1 ∈ TW) (hsm : (T j).1 = C) (hft : (FT ci).length = N) (ty0 : Nat → FieldType) (hty : ∀ k, k < N → parseFieldDescriptor (T k).2.2.1 = some (ty0 k)) (hnm : ∀ a, a < N → ∀ b, b < N → a ≠ b → (T a).2.1 ≠ (T b).2.1) (hfin : (T j).2.2.2 = false) {ty : FieldType} {v : Int32} (d : decode cc pc = .ok (.putfield index, 3)) (ht : (FT ci).getD j 0 = 0) (hci : ci < 12) (hd : parseFieldDescriptor (T j).2.2.1 = some ty) (hnar : narrow ty (.int v) = .int v) (hfit : fits ty (.int v) = true) (ha : (KD a).1 = ci) (k : LW p l e R s m args below meth c Q G ρ A nL cells slots (pc + 3) lv rest (uI cm a j v, mm, oo)) : LW p l e R s m args below meth c Q G ρ A nL cells slots pc lv (.int v :: .ref a :: rest) (cm, mm, oo) := by
  intro H locs ls hP hS hl
  have hci20 : ci < 20 := by omega
  obtain ⟨hp1, hp2⟩ := KD_in (a := a) (by omega)
  refine va_put X.hx X.hb X.hT hin ty0 hty hnm X.ho X.hK hP (X.hD _) hS (a - 1) (he_obj ha hci20) hc j hj (X.hT _ hw) (fun x q => by rw [hsm] at q; exact q) hfin (v := .int v) hd hnar hfit (by rw [List.length_map, List.length_range]; omega) d (fun H1 locs1 hP1 _ hS1 => ?_)
  rw [set_uI ha hci (by omega) ht] at hP1
  exact k H1 locs1 ls hP1 hS1 hl
theorem L_putL {cm : CMu} {mm : Nat → Nat → Int32} {oo : Nat → Int64} (X : MC p l s m args meth c cc nL own G ρ A) {C : String} {T : u_T} {N ci index a : Nat} (hin : ∀ w ∈ u_ws C T N, w ∈ TW) (hc : vwCl[ci]? = some (C, T, N)) (j : Nat) (hj : j < N) (hw : Cond.fieldLink own index C (T j).2.1 (T j).2.2.1 ∈ TW) (hsm : (T j).1 = C) (hft : (FT ci).length = N) (ty0 : Nat → FieldType) (hty : ∀ k, k < N → parseFieldDescriptor (T k).2.2.1 = some (ty0 k)) (hnm : ∀ a, a < N → ∀ b, b < N → a ≠ b → (T a).2.1 ≠ (T b).2.1) (hfin : (T j).2.2.2 = false) {ty : FieldType} {v : Int64} (d : decode cc pc = .ok (.putfield index, 3)) (ht : (FT ci).getD j 0 = 1) (hci : ci < 12) (hd : parseFieldDescriptor (T j).2.2.1 = some ty) (hnar : narrow ty (.long v) = .long v) (hfit : fits ty (.long v) = true) (ha : (KD a).1 = ci) (k : LW p l e R s m args below meth c Q G ρ A nL cells slots (pc + 3) lv rest (uL cm a j v, mm, oo)) : LW p l e R s m args below meth c Q G ρ A nL cells slots pc lv (.long v :: .ref a :: rest) (cm, mm, oo) := by
  intro H locs ls hP hS hl
  have hci20 : ci < 20 := by omega
  obtain ⟨hp1, hp2⟩ := KD_in (a := a) (by omega)
  refine va_put X.hx X.hb X.hT hin ty0 hty hnm X.ho X.hK hP (X.hD _) hS (a - 1) (he_obj ha hci20) hc j hj (X.hT _ hw) (fun x q => by rw [hsm] at q; exact q) hfin (v := .long v) hd hnar hfit (by rw [List.length_map, List.length_range]; omega) d (fun H1 locs1 hP1 _ hS1 => ?_)
  rw [set_uL ha hci (by omega) ht] at hP1
  exact k H1 locs1 ls hP1 hS1 hl
theorem L_putM {cm : CMu} {mm : Nat → Nat → Int32} {oo : Nat → Int64} (X : MC p l s m args meth c cc nL own G ρ A) {C : String} {T : u_T} {N ci index a : Nat} (hin : ∀ w ∈ u_ws C T N, w ∈ TW) (hc : vwCl[ci]? = some (C, T, N)) (j : Nat) (hj : j < N) (hw : Cond.fieldLink own index C (T j).2.1 (T j).2.2.1 ∈ TW) (hsm : (T j).1 = C) (hft : (FT ci).length = N) (ty0 : Nat → FieldType) (hty : ∀ k, k < N → parseFieldDescriptor (T k).2.2.1 = some (ty0 k)) (hnm : ∀ a, a < N → ∀ b, b < N → a ≠ b → (T a).2.1 ≠ (T b).2.1) (hfin : (T j).2.2.2 = false) {ty : FieldType} {v : Int32} (d : decode cc pc = .ok (.putfield index, 3)) (ht : (FT ci).getD j 0 = 0) (hci : ci = 12) (hd : parseFieldDescriptor (T j).2.2.1 = some ty) (hnar : narrow ty (.int v) = .int v) (hfit : fits ty (.int v) = true) (ha : (KD a).1 = ci) (h703 : a = 703) (k : LW p l e R s m args below meth c Q G ρ A nL cells slots (pc + 3) lv rest (cm, up2 mm 0 j v, oo)) : LW p l e R s m args below meth c Q G ρ A nL cells slots pc lv (.int v :: .ref a :: rest) (cm, mm, oo) := by
  intro H locs ls hP hS hl
  subst h703
  have hci20 : ci < 20 := by omega
  obtain ⟨hp1, hp2⟩ := KD_in (a := 703) (by omega)
  refine va_put X.hx X.hb X.hT hin ty0 hty hnm X.ho X.hK hP (X.hD _) hS (703 - 1) (he_obj ha hci20) hc j hj (X.hT _ hw) (fun x q => by rw [hsm] at q; exact q) hfin (v := .int v) hd hnar hfit (by rw [List.length_map, List.length_range]; omega) d (fun H1 locs1 hP1 _ hS1 => ?_)
  rw [set_uM ha hci20 (by omega) ht] at hP1
  exact k H1 locs1 ls hP1 hS1 hl
theorem he_int {a n : Nat} (h : KD a = (20, n)) : (wsK G ρ κ)[a - 1]? = some (ρ a, .inl (G.2 0, n, .inl (iA κ a))) := by
  obtain ⟨h1, h2⟩ := KD_in (a := a) (by rw [h]; show (20 : Nat) ≠ 99; omega)
  rw [wsK_get G ρ κ h1 h2, cell_int h]
theorem he_intM {a n : Nat} (h : KD a = (28, n)) : (wsK G ρ κ)[a - 1]? = some (ρ a, .inl (G.2 0, n, .inl (iA κ a))) := by
  obtain ⟨h1, h2⟩ := KD_in (a := a) (by rw [h]; show (28 : Nat) ≠ 99; omega)
  rw [wsK_get G ρ κ h1 h2, cell_intM h]
theorem he_word {a n : Nat} (h : KD a = (26, n)) : (wsK G ρ κ)[a - 1]? = some (ρ a, .inl (G.2 6, n, .inr (.inr (.inr (.inr (fun i => wO ρ (κ.1.2.2 a i))))))) := by
  obtain ⟨h1, h2⟩ := KD_in (a := a) (by rw [h]; show (26 : Nat) ≠ 99; omega)
  rw [wsK_get G ρ κ h1 h2, cell_word h]
theorem he_out {a n : Nat} (h : KD a = (21, n)) : (wsK G ρ κ)[a - 1]? = some (ρ a, .inl (G.2 1, n, .inr (.inl κ.2.2))) := by
  obtain ⟨h1, h2⟩ := KD_in (a := a) (by rw [h]; show (21 : Nat) ≠ 99; omega)
  rw [wsK_get G ρ κ h1 h2, cell_out h]
theorem he_refs {a n t : Nat} (h : KD a = (t, n)) (hk : 22 ≤ t) (hk6 : t ≠ 26) (hk8 : t < 28) : (wsK G ρ κ)[a - 1]? = some (ρ a, .inl (G.2 (t - 20), n, .inr (.inr (.inr (.inr (fun i => rO ρ (RF a i))))))) := by
  obtain ⟨h1, h2⟩ := KD_in (a := a) (by rw [h]; show t ≠ 99; omega)
  rw [wsK_get G ρ κ h1 h2, cell_refs h hk hk6 (by omega)]
theorem L_iald (X : MC p l s m args meth c cc nL own G ρ A) {a n : Nat} {i : Int32} {cm : CMu} {mm : Nat → Nat → Int32} {oo : Nat → Int64} (d : decode cc pc = .ok (.iaload, 1)) (h : KD a = (20, n)) (hin : vp_in i n) (k : LW p l e R s m args below meth c Q G ρ A nL cells slots (pc + 1) lv (.int (gI cm a i.toNatClampNeg) :: rest) (cm, mm, oo)) : LW p l e R s m args below meth c Q G ρ A nL cells slots pc lv (.int i :: .ref a :: rest) (cm, mm, oo) := by
  intro H locs ls hP hS hl
  exact va_iald X.hx X.hb X.hK hP (a - 1) 0 (he_int h) rfl hin d (by rw [iA_c (KD_i h)]; exact k H locs ls hP hS hl)
theorem L_ialdM (X : MC p l s m args meth c cc nL own G ρ A) {a n : Nat} {i : Int32} {cm : CMu} {mm : Nat → Nat → Int32} {oo : Nat → Int64} (d : decode cc pc = .ok (.iaload, 1)) (h : KD (703 + a) = (28, n)) (hin : vp_in i n) (k : LW p l e R s m args below meth c Q G ρ A nL cells slots (pc + 1) lv (.int (mm a i.toNatClampNeg) :: rest) (cm, mm, oo)) : LW p l e R s m args below meth c Q G ρ A nL cells slots pc lv (.int i :: .ref (703 + a) :: rest) (cm, mm, oo) := by
  intro H locs ls hP hS hl
  exact va_iald X.hx X.hb X.hK hP (703 + a - 1) 0 (he_intM h) rfl hin d (by rw [iA_m]; exact k H locs ls hP hS hl)
theorem L_iast (X : MC p l s m args meth c cc nL own G ρ A) {a n : Nat} {i v : Int32} {cm : CMu} {mm : Nat → Nat → Int32} {oo : Nat → Int64} (d : decode cc pc = .ok (.iastore, 1)) (h : KD a = (20, n)) (hin : vp_in i n) (k : LW p l e R s m args below meth c Q G ρ A nL cells slots (pc + 1) lv rest (uI cm a i.toNatClampNeg v, mm, oo)) : LW p l e R s m args below meth c Q G ρ A nL cells slots pc lv (.int v :: .int i :: .ref a :: rest) (cm, mm, oo) := by
  intro H locs ls hP hS hl
  refine va_iast X.hx X.hb X.hK hP (X.hD _) hS (a - 1) 0 (he_int h) rfl hin d (fun H1 locs1 hP1 _ hS1 => ?_)
  obtain ⟨h1, h2⟩ := KD_in (a := a) (by rw [h]; show (20 : Nat) ≠ 99; omega)
  rw [wsK_set G ρ (cm, mm, oo) (uI cm a i.toNatClampNeg v, mm, oo) h1 h2 (by rw [cell_int h, iA_c (KD_i h), iA_c (KD_i h)]; exact congrArg (fun f => (Sum.inl (G.2 0, n, Sum.inl f) : va_E)) up2_row) (fun b hb => cell_uI hb)] at hP1
  exact k H1 locs1 ls hP1 hS1 hl
theorem L_iastM (X : MC p l s m args meth c cc nL own G ρ A) {a n : Nat} {i v : Int32} {cm : CMu} {mm : Nat → Nat → Int32} {oo : Nat → Int64} (d : decode cc pc = .ok (.iastore, 1)) (h : KD (703 + a) = (28, n)) (hin : vp_in i n) (k : LW p l e R s m args below meth c Q G ρ A nL cells slots (pc + 1) lv rest (cm, up2 mm a i.toNatClampNeg v, oo)) : LW p l e R s m args below meth c Q G ρ A nL cells slots pc lv (.int v :: .int i :: .ref (703 + a) :: rest) (cm, mm, oo) := by
  intro H locs ls hP hS hl
  refine va_iast X.hx X.hb X.hK hP (X.hD _) hS (703 + a - 1) 0 (he_intM h) rfl hin d (fun H1 locs1 hP1 _ hS1 => ?_)
  obtain ⟨h1, h2⟩ := KD_in (a := 703 + a) (by rw [h]; show (28 : Nat) ≠ 99; omega)
  rw [wsK_set G ρ (cm, mm, oo) (cm, up2 mm a i.toNatClampNeg v, oo) h1 h2 (by rw [cell_intM h, iA_m, iA_m]; exact congrArg (fun f => (Sum.inl (G.2 0, n, Sum.inl f) : va_E)) up2_row) (fun b hb => cell_uM hb)] at hP1
  exact k H1 locs1 ls hP1 hS1 hl
theorem L_aald (X : MC p l s m args meth c cc nL own G ρ A) {a n t : Nat} {i : Int32} (d : decode cc pc = .ok (.aaload, 1)) (h : KD a = (t, n)) (h22 : 22 ≤ t) (h26 : t ≠ 26) (h28 : t < 28) (hd : ∃ C, (tysG G)[t - 20]? = some (G.2 (t - 20), .object C)) {b : Nat} (hb9 : RF a i.toNatClampNeg = b) (hb0 : b ≠ 0) (hin : vp_in i n) (k : LW p l e R s m args below meth c Q G ρ A nL cells slots (pc + 1) lv (.ref b :: rest) κ) : LW p l e R s m args below meth c Q G ρ A nL cells slots pc lv (.int i :: .ref a :: rest) κ := by
  intro H locs ls hP hS hl
  obtain ⟨C, hC⟩ := hd
  refine va_aldq X.hx X.hb X.hK hP (a - 1) (t - 20) (he_refs h h22 h26 h28) hC hin d ?_
  have e9 : va_rf (rO ρ (RF a i.toNatClampNeg)) = .ref (ρ b) := by
    rw [hb9]
    unfold rO
    rw [if_neg hb0]
    rfl
  rw [e9]
  exact k H locs ls hP hS hl
theorem L_aaldW (X : MC p l s m args meth c cc nL own G ρ A) {a n : Nat} {i : Int32} {cm : CMu} {mm : Nat → Nat → Int32} {oo : Nat → Int64} (d : decode cc pc = .ok (.aaload, 1)) (h : KD a = (26, n)) (hin : vp_in i n) (k : LW p l e R s m args below meth c Q G ρ A nL cells slots (pc + 1) lv (wv (gW cm a i.toNatClampNeg) :: rest) (cm, mm, oo)) : LW p l e R s m args below meth c Q G ρ A nL cells slots pc lv (.int i :: .ref a :: rest) (cm, mm, oo) := by
  intro H locs ls hP hS hl
  refine va_aldq X.hx X.hb X.hK hP (a - 1) 6 (he_word h) rfl hin d ?_
  have h2 := k H locs ls hP hS hl
  rw [List.map_cons, cv_wv] at h2
  exact h2
theorem L_alen (X : MC p l s m args meth c cc nL own G ρ A) {a n : Nat} (d : decode cc pc = .ok (.arraylength, 1)) (h : KD a = (20, n)) {v : Int32} (hv : Int32.ofNat n = v) (k : LW p l e R s m args below meth c Q G ρ A nL cells slots (pc + 1) lv (.int v :: rest) κ) : LW p l e R s m args below meth c Q G ρ A nL cells slots pc lv (.ref a :: rest) κ := by
  intro H locs ls hP hS hl
  exact va_alen X.hx X.hb X.hK hP (a - 1) 0 (he_int h) rfl hv d (k H locs ls hP hS hl)
theorem L_alenR (X : MC p l s m args meth c cc nL own G ρ A) {a n t : Nat} (d : decode cc pc = .ok (.arraylength, 1)) (h : KD a = (t, n)) (h22 : 22 ≤ t) (h26 : t ≠ 26) (h28 : t < 28) (hd : ∃ C, (tysG G)[t - 20]? = some (G.2 (t - 20), C)) {v : Int32} (hv : Int32.ofNat n = v) (k : LW p l e R s m args below meth c Q G ρ A nL cells slots (pc + 1) lv (.int v :: rest) κ) : LW p l e R s m args below meth c Q G ρ A nL cells slots pc lv (.ref a :: rest) κ := by
  intro H locs ls hP hS hl
  obtain ⟨C, hC⟩ := hd
  exact va_alen X.hx X.hb X.hK hP (a - 1) (t - 20) (he_refs h h22 h26 h28) hC hv d (k H locs ls hP hS hl)
end ROWS
