/-! ===== rows: the texts' bytes; a callee that throws nothing as the kit's Met; nest mates; ordinal ===== -/
theorem wsp_lt (n : Nat) : wsp n < 30 := by
  unfold wsp
  split <;> omega
theorem Met_of_CT {l : Launch} {y : MethodName} {hd : Cond} {rm : Room} {mc ms : Nat} {G : Gd} {ρ : Nat → Nat} {As : List Value} {κ : Ka} {P : Option Value → Ka → Prop} (h : CT l y hd rm mc ms G ρ As κ P noX) (sz : Nat) : Met l y (hd :: TW) rm (fun v U => v = (As.map (cv ρ)).toArray ∧ U.heap.size = sz ∧ WA G ρ sz κ U) (LQ G ρ (AW ρ sz) P) mc ms (AW ρ sz) := by
  refine MetFree.mono (h sz) (fun _ _ h => h) (fun _ _ _ _ _ h => h) (fun a s o t _ hq => ?_)
  rcases hq with hq | ⟨q, -, E, ce, L, ⟨x, κ9, -, hp, -⟩, -⟩
  · exact hq
  · exact hp.elim
section JDK
variable {p : Program} {l : Launch} {e : Env} {R : Room} {s : State} {m : MethodId} {args : Array Value} {below : List Frame} {meth : Method} {c : Code} {Q : State → Prop} {G : Gd} {ρ : Nat → Nat} {A : Nat → Prop} {nL cells slots pc : Nat} {lv : List (Nat × Value)} {rest : List Value} {κ : Ka} {cc : ByteArray} {own : String} {P : Option Value → Ka → Prop} {PX : Nat → Ka → Prop} {mc ms : Nat}
theorem L_strV (X : MC p l s m args meth c cc nL own G ρ A) {index k : Nat} (hk9 : k < 30) (d : decode cc pc = .ok (.getfield index, 3)) (hw : Cond.fieldLink own index "java/lang/String" "value" "[B" ∈ TW) (kk : LW p l e R s m args below meth c Q G ρ A nL cells slots (pc + 3) lv (.ref (3001 + k) :: rest) κ) : LW p l e R s m args below meth c Q G ρ A nL cells slots pc lv (.ref (2001 + k) :: rest) κ := by
  intro H locs ls hP hS hl
  exact vk_getf X.hx X.hb (X.hS.2.2.1.1 _ hk9).2.2.1 hS X.ho (X.hT _ hw) (fun _ h => h) d (kk H locs ls hP hS hl)
theorem L_strC (X : MC p l s m args meth c cc nL own G ρ A) {index k : Nat} (hk9 : k < 30) (d : decode cc pc = .ok (.getfield index, 3)) (hw : Cond.fieldLink own index "java/lang/String" "coder" "B" ∈ TW) (kk : LW p l e R s m args below meth c Q G ρ A nL cells slots (pc + 3) lv (.int 0 :: rest) κ) : LW p l e R s m args below meth c Q G ρ A nL cells slots pc lv (.ref (2001 + k) :: rest) κ := by
  intro H locs ls hP hS hl
  exact vk_getf X.hx X.hb (X.hS.2.2.1.1 _ hk9).2.1 hS X.ho (X.hT _ hw) (fun _ h => h) d (kk H locs ls hP hS hl)
theorem L_bytN (X : MC p l s m args meth c cc nL own G ρ A) {k : Nat} (hk9 : k < 30) (d : decode cc pc = .ok (.arraylength, 1)) (kk : LW p l e R s m args below meth c Q G ρ A nL cells slots (pc + 1) lv (.int (Int32.ofNat (slen.getD k 0)) :: rest) κ) : LW p l e R s m args below meth c Q G ρ A nL cells slots pc lv (.ref (3001 + k) :: rest) κ := by
  intro H locs ls hP hS hl
  exact va_tlen X.hx X.hb (X.hS.2.2.1.1 _ hk9).2.2.2 hS rfl d (kk H locs ls hP hS hl)
theorem L_bytL (X : MC p l s m args meth c cc nL own G ρ A) {k : Nat} (hk9 : k < 30) {i : Int32} (hin : vp_in i (slen.getD k 0)) (d : decode cc pc = .ok (.baload, 1)) (kk : LW p l e R s m args below meth c Q G ρ A nL cells slots (pc + 1) lv (.int ((sbyt.getD k []).getD (Int32.toNatClampNeg i) 0) :: rest) κ) : LW p l e R s m args below meth c Q G ρ A nL cells slots pc lv (.int i :: .ref (3001 + k) :: rest) κ := by
  intro H locs ls hP hS hl
  exact va_tb X.hx X.hb (X.hS.2.2.1.1 _ hk9).2.2.2 hS hin rfl d (kk H locs ls hP hS hl)
theorem L_getsCS (X : MC p l s m args meth c cc nL own G ρ A) {index : Nat} (d : decode cc pc = .ok (.getstatic index, 3)) (hw : Cond.fieldLink own index "java/lang/String" "COMPACT_STRINGS" "Z" ∈ TW) (k : LW p l e R s m args below meth c Q G ρ A nL cells slots (pc + 3) lv (.int 1 :: rest) κ) : LW p l e R s m args below meth c Q G ρ A nL cells slots pc lv rest κ := by
  intro H locs ls hP hS hl
  exact va_gets X.hx X.hb X.hS.2.2.2.2.2.1 hS X.ho (X.hT _ hw) (fun _ h => h) d (k H locs ls hP hS hl)
theorem L_getsSI (X : MC p l s m args meth c cc nL own G ρ A) {index : Nat} (d : decode cc pc = .ok (.getstatic index, 3)) (hw : Cond.fieldLink own index "jdk/internal/util/Preconditions" "SIOOBE_FORMATTER" "Ljava/util/function/BiFunction;" ∈ TW) (k : ∀ v : Value, v.category = 1 → LW p l e R s m args below meth c Q G ρ A nL cells slots (pc + 3) lv (v :: rest) κ) : LW p l e R s m args below meth c Q G ρ A nL cells slots pc lv rest κ := by
  intro H locs ls hP hS hl
  rcases X.hS.2.2.2.2.2.2.1 with hZ | hZ
  · exact va_gets X.hx X.hb hZ hS X.ho (X.hT _ hw) (fun _ h => h) d (k .null rfl H locs ls hP hS hl)
  · exact va_gets X.hx X.hb hZ hS X.ho (X.hT _ hw) (fun _ h => h) d (k (.ref 4000) rfl H locs ls hP hS hl)
theorem L_i2c (X : MC p l s m args meth c cc nL own G ρ A) {x : Int32} (d : decode cc pc = .ok (.i2c, 1)) (k : LW p l e R s m args below meth c Q G ρ A nL cells slots (pc + 1) lv (.int (UInt32.toInt32 (Int32.toUInt32 x % 65536)) :: rest) κ) : LW p l e R s m args below meth c Q G ρ A nL cells slots pc lv (.int x :: rest) κ := by
  intro H locs ls hP hS hl
  exact lv_i2c X.hx X.hb d rfl (k H locs ls hP hS hl)
theorem L_nret (X : MC p l s m args meth c cc nL own G ρ A) {ty : FieldType} (hr : meth.sig.returnType = some ty) (d : decode cc pc = .ok (.ireturn, 1)) {v : Int32} (hn : narrow ty (.int v) = .int v) (hc : cells ≤ mc) (hs : slots ≤ ms) (h : P (some (.int v)) κ) : LW p l e R s m args below meth c (Qm below G ρ A P PX args s mc ms) G ρ A nL cells slots pc lv [.int v] κ := by
  intro H locs ls hP hS hl
  exact vx_ret (W.widen hc hs (W.zret X.hx X.hb hr hn (fun t ht _ => ⟨some (.int v), κ, rfl, h, by rw [ht]; exact hP, hS.F ht⟩) hS.2.2 d X.hlk))
/-- behind a call of the kit's Met -/
theorem L_backM (X : MC p l s m args meth c cc nL own G ρ A) {P1 : Option Value → Ka → Prop} {mc1 ms1 : Nat} {a : Array Value} {H : Heap} {locs : List Loc} {ls : Array Slot} {st0 : List Value} (hS : va_S A s.heap H locs) (hl : lv_has ls nL (lv.map (fun q => (q.1, cv ρ q.2))))
    (hr : va_Run p l e R s m args below meth c H locs cells slots mc1 ms1 (F0 m pc ls st0) (rest.map (cv ρ)) (LQ G ρ (AW ρ H.size) P1 a) (AW ρ H.size))
    (kk : ∀ (v : Option Value) (κ1 : Ka), P1 v κ1 → LW p l e R s m args below meth c Q G ρ A nL (cells + mc1) (slots + ms1) (pc + 3) lv (v.toList ++ rest) κ1) :
    W p l e R s m args below meth c H locs cells slots Q (F0 m pc ls st0) := by
  refine L_back (PX1 := noX) X hS hl (fun T hT Xs => Or.inl (hr T hT Xs)) kk (fun x κ1 h => L_nox h)
theorem L_callSNI (X : MC p l s m args meth c cc nL own G ρ A) {idx} {y : MethodName} {host : String} {bytes : ByteArray} {maxL : Nat} {ret : Option FieldType} {n mc1 ms1 : Nat} {rm : Room} {As : List Value} {S : Type} {mk : S → Ka} {post : Int32 → S → Prop} (hnw : (own, idx, y, host) ∈ nestL)
    (k2 : Cond.static y ∈ TW) (k3 : Cond.initialized y.cls ∈ TW) (k4 : Cond.code y bytes maxL ret ∈ TW) (k6 : y.cls ≠ "java/lang/invoke/MethodHandle" ∧ y.cls ≠ "java/lang/invoke/VarHandle" ∧ (parseMethodDescriptor y.desc).map (fun d => d.parameters.length) = some n)
    (hM : CT l y (.code y bytes maxL ret) rm mc1 ms1 G ρ As κ (PI mk post) noX) (hn : As.length = n)
    (hrc : rm.cells = mc1) (hrs : rm.slots = ms1) (hR : rm.frames + 1 ≤ R.frames ∧ 8 + (maxL + 11) + rm.locals ≤ R.locals) (hf : cells + mc1 ≤ R.cells ∧ slots + ms1 ≤ R.slots) (hst : (rest.map fun v => v.category).sum ≤ 8) (d : decode cc pc = .ok (.invokestatic idx, 3)) {st : List Value} (hs : As.reverse ++ rest = st)
    (kk : ∀ r u, post r u → LW p l e R s m args below meth c Q G ρ A nL (cells + mc1) (slots + ms1) (pc + 3) lv (.int r :: rest) (mk u)) :
    LW p l e R s m args below meth c Q G ρ A nL cells slots pc lv st κ := by
  intro H locs ls hP hS hl
  have hG : GoodIn TW (.code y bytes maxL ret :: TW) := GoodIn_TW (fun w hw => (List.mem_cons.mp hw).elim (fun q => by rw [q]; exact k4) id)
  refine L_backM X hS hl (mc1 := mc1) (ms1 := ms1) (a := (As.map (cv ρ)).toArray) (P1 := PI mk post) ?_ (fun v κ1 hq => by obtain ⟨r, u, rfl, rfl, h⟩ := hq; exact kk r u h)
  refine va_runSN (As := As.map (cv ρ)) (nL := nL) (own := own) ⟨X.hx, X.hb, X.hml, X.ho, X.hT⟩ (Met_of_CT hM H.size) ⟨va_cnB n X.hT hG rfl hrc hrs (X.hS.2.2.2.2.2.2.2.2.2.2.1 _ hnw) (X.hT _ k3) k6 hR, X.hT _ k2, trivial⟩ ⟨WA.blind, fun U hU hW => ⟨rfl, by rw [hU], X.wa hP hS hU hW⟩⟩ rfl (by rw [List.length_map]; exact hn) hl.1 ?_ (lv_room (by rw [cv_sum]; exact hst)) d hf
  rw [← hs, List.map_append, List.map_reverse]
end JDK
