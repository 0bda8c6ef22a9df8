/-! ===== calls, ends, entries ===== -/
def b2 (b : Bool) : Int32 := if b then 1 else 0
theorem b2_nar (b : Bool) : narrow .boolean (.int (b2 b)) = .int (b2 b) := by cases b <;> rfl
theorem b2_fit (b : Bool) : fits .boolean (.int (b2 b)) = true := by cases b <;> rfl
theorem b2_0 (b : Bool) : b2 b = 0 ↔ b = false := by cases b <;> decide
/-- the end of a method that returns as P tells or throws as PX tells -/
def Qm (below : List Frame) (G : Gd) (ρ : Nat → Nat) (A : Nat → Prop) (P : Option Value → Ka → Prop) (PX : Nat → Ka → Prop) (args : Array Value) (s : State) (mc ms : Nat) : State → Prop := vx_MQ below (LQ G ρ A P) (LX G ρ A PX) args s mc ms A
def nmsX : List String := ["java/lang/RuntimeException", "java/lang/Exception"]
/-- from a thrown exception x at this point -/
def LWX (p : Program) (l : Launch) (e : Env) (R : Room) (s : State) (m : MethodId) (args : Array Value) (below : List Frame) (meth : Method) (c : Code) (Q : State → Prop) (G : Gd) (ρ : Nat → Nat) (A : Nat → Prop) (nL cells slots pc : Nat) (lv : List (Nat × Value)) (st : List Value) (x : Nat) (κ : Ka) : Prop :=
  ∀ (H : Heap) (locs : List Loc) (ls : Array Slot) (q9 : Addr) (ce : Cell), va_P G.1 vwCl (wsK G ρ κ) H → va_S A s.heap H locs → lv_has ls nL (lv.map (fun q => (q.1, cv ρ q.2))) → H[q9]? = some ce → ce.vm = .none → s.vm.findClass (xN x) = some ce.cls → vx_W p l e R s m args below meth c H locs cells slots Q (F0 m pc ls (st.map (cv ρ))) q9
def LinkV (own : String) (idx : Nat) (C : String) (y : MethodName) (hd : Cond) (n : Nat) : Prop :=
  Cond.methodLink own idx y ∈ TW ∧ Cond.instanceMethod y ∈ TW ∧ Cond.selects C y y ∈ TW ∧ Cond.initialized C ∈ TW ∧ hd ∈ TW ∧ (y.cls = C ∧ y.cls ≠ "java/lang/invoke/MethodHandle" ∧ y.cls ≠ "java/lang/invoke/VarHandle" ∧ (parseMethodDescriptor y.desc).map (fun d => d.parameters.length) = some n)
def LinkS (own : String) (idx : Nat) (y : MethodName) (hd : Cond) (n : Nat) : Prop :=
  Cond.methodLink own idx y ∈ TW ∧ Cond.static y ∈ TW ∧ Cond.initialized y.cls ∈ TW ∧ hd ∈ TW ∧ (y.cls ≠ "java/lang/invoke/MethodHandle" ∧ y.cls ≠ "java/lang/invoke/VarHandle" ∧ (parseMethodDescriptor y.desc).map (fun d => d.parameters.length) = some n)
theorem GoodIn_TW {L : List Cond} (h : ∀ w ∈ L, w ∈ TW) : GoodIn TW L := fun w hw => ⟨h w hw, good_of_word (TW_good w (h w hw))⟩
section CALLS
variable {p : Program} {l : Launch} {e : Env} {R : Room} {s : State} {m : MethodId} {args : Array Value} {below : List Frame} {meth : Method} {c : Code} {Q : State → Prop} {G : Gd} {ρ : Nat → Nat} {A : Nat → Prop} {nL cells slots pc : Nat} {lv : List (Nat × Value)} {rest : List Value} {κ : Ka} {cc : ByteArray} {own : String} {P : Option Value → Ka → Prop} {PX : Nat → Ka → Prop} {mc ms : Nat}
theorem WA.blind {G : Gd} {ρ : Nat → Nat} {sz : Nat} {κ : Ka} {As : List Value} : FrameBlind (fun v U => v = (As.map (cv ρ)).toArray ∧ U.heap.size = sz ∧ WA G ρ sz κ U) := by
  intro a U g mk h
  obtain ⟨h1, h2, h3, h4, h5, h6⟩ := h
  exact ⟨h1, h2, h3, va_K.moved (u := U) (U := U.calling g mk a) (Vm.Alike.refl U.vm) h4, h5, Stat.same (u := U) (U := U.calling g mk a) rfl (Vm.Alike.refl U.vm) h6⟩
theorem MC.wa (X : MC p l s m args meth c cc nL own G ρ A) {H : Heap} {locs : List Loc} (hP : va_P G.1 vwCl (wsK G ρ κ) H) (hS : va_S A s.heap H locs) {U : State} (hU : U.heap = H) (hW : s.WarmedH U.vm) : WA G ρ H.size κ U := by
  refine ⟨by rw [hU]; exact hP, va_K.moved hW.alike X.hK, X.hi, ?_⟩
  rw [hU]
  refine (Stat.narrow (X.hS.kept hS.2.1) (fun q hq => ?_)).warm hW
  rcases hq with ⟨a, h1, h2, rfl⟩ | hq
  · exact X.hA1 a h1 h2
  · exact X.hA2 q (Nat.le_trans hS.1 hq)
theorem MC.aw (X : MC p l s m args meth c cc nL own G ρ A) {H : Heap} {locs : List Loc} (hS : va_S A s.heap H locs) {q : Nat} (hq : AW ρ H.size q) : A q := by
  rcases hq with ⟨a, h1, h2, rfl⟩ | hq
  · exact X.hA1 a h1 h2
  · exact X.hA2 q (Nat.le_trans hS.1 hq)
/-- behind a call -/
theorem L_back (X : MC p l s m args meth c cc nL own G ρ A) {P1 : Option Value → Ka → Prop} {PX1 : Nat → Ka → Prop} {mc1 ms1 : Nat} {a : Array Value} {H : Heap} {locs : List Loc} {ls : Array Slot} {st0 : List Value} (hS : va_S A s.heap H locs) (hl : lv_has ls nL (lv.map (fun q => (q.1, cv ρ q.2))))
    (hr : vx_Run p l e R s m args below meth c H locs cells slots mc1 ms1 (F0 m pc ls st0) (rest.map (cv ρ)) (LQ G ρ (AW ρ H.size) P1 a) (LX G ρ (AW ρ H.size) PX1) (AW ρ H.size))
    (kk : ∀ (v : Option Value) (κ1 : Ka), P1 v κ1 → LW p l e R s m args below meth c Q G ρ A nL (cells + mc1) (slots + ms1) (pc + 3) lv (v.toList ++ rest) κ1)
    (kx : ∀ (x : Nat) (κ1 : Ka), PX1 x κ1 → LWX p l e R s m args below meth c Q G ρ A nL (cells + mc1) (slots + ms1) pc lv rest x κ1) :
    W p l e R s m args below meth c H locs cells slots Q (F0 m pc ls st0) := by
  intro T hT Xs
  have keep : ∀ {st₀ t T' : State} {L : List Loc}, st₀.heap = H → T'.heap = t.heap → (∀ q ∈ L, AW ρ H.size q.base) → va_F (AW ρ H.size) st₀ t → va_S A s.heap T'.heap (locs ++ L) := by
    intro st₀ t T' L h0 e1 hL hF
    rw [va_F, h0] at hF
    refine ⟨Nat.le_trans hS.1 (by rw [e1]; exact hF.1), fun q h1 h2 => ?_, fun q hq => ?_⟩
    · rw [e1, hF.2 q (Nat.lt_of_lt_of_le h1 hS.1) (fun z => h2 (X.aw hS z))]
      exact hS.2.1 q h1 h2
    · rcases List.mem_append.mp hq with h | h
      · exact hS.2.2 q h
      · exact X.aw hS (hL q h)
  rcases hr T hT Xs with ⟨v, st₀, t, T', L, h0, X', hL, e1, -, ⟨v1, κ1, hv, hp, hP1, hF⟩, go⟩ | ⟨q, st₀, t, T', L, E, ce, h0, X', hL, e1, -, ⟨x, κ1, rfl, hp, hP1, hF⟩, hce, hcv, hcl, go⟩
  · have hv2 : v = v1.map (cv ρ) := by cases hv; rfl
    obtain ⟨t2, a1, b1⟩ := kk v1 κ1 hp T'.heap (locs ++ L) ls (by rw [e1]; exact hP1) (keep h0 e1 hL hF) hl T' rfl X'
    refine ⟨t2, go t2 ?_, b1⟩
    have e9 : v.toList ++ rest.map (cv ρ) = (v1.toList ++ rest).map (cv ρ) := by
      rw [hv2]
      cases v1 <;> rfl
    show Steps p.tables e below (T'.setTop { method := m, pc := pc + 3, locals := ls, stack := v.toList ++ rest.map (cv ρ), locked := none }) t2
    rw [e9]
    exact a1
  · obtain ⟨t2, a1, b1⟩ := kx x κ1 hp T'.heap (locs ++ L) ls q ce (by rw [e1]; exact hP1) (keep h0 e1 hL hF) hl (by rw [e1]; exact hce) hcv hcl T' rfl X'
    exact ⟨t2, go.trans a1, b1⟩
theorem L_callV (X : MC p l s m args meth c cc nL own G ρ A) {idx C} {y : MethodName} {bytes : ByteArray} {maxL : Nat} {ret : Option FieldType} {n mc1 ms1 a : Nat} {rm : Room} {As : List Value} {P1 : Option Value → Ka → Prop} {PX1 : Nat → Ka → Prop}
    (lk : LinkV own idx C y (.code y bytes maxL ret) n) (hM : CT l y (.code y bytes maxL ret) rm mc1 ms1 G ρ (.ref a :: As) κ P1 PX1) (hn : As.length = n) {ci : Nat} {T : u_T} {N : Nat} (hcl : vwCl[ci]? = some (C, T, N)) (ha : (KD a).1 = ci) (hci : ci < 20)
    (hrc : rm.cells = mc1) (hrs : rm.slots = ms1) (hR : rm.frames + 1 ≤ R.frames ∧ 8 + (maxL + 11) + rm.locals ≤ R.locals) (hf : cells + mc1 ≤ R.cells ∧ slots + ms1 ≤ R.slots) (hst : (rest.map fun v => v.category).sum ≤ 8) (d : decode cc pc = .ok (.invokevirtual idx, 3)) {st : List Value} (hs : As.reverse ++ .ref a :: rest = st)
    (kk : ∀ (v : Option Value) (κ1 : Ka), P1 v κ1 → LW p l e R s m args below meth c Q G ρ A nL (cells + mc1) (slots + ms1) (pc + 3) lv (v.toList ++ rest) κ1)
    (kx : ∀ (x : Nat) (κ1 : Ka), PX1 x κ1 → LWX p l e R s m args below meth c Q G ρ A nL (cells + mc1) (slots + ms1) pc lv rest x κ1) :
    LW p l e R s m args below meth c Q G ρ A nL cells slots pc lv st κ := by
  intro H locs ls hP hS hl
  obtain ⟨k1, k2, k3, k4, k5, k6⟩ := lk
  have hT : GoodIn TW (wsV own idx C y (.code y bytes maxL ret :: TW)) := GoodIn_TW (fun w hw => by
    simp only [wsV, List.mem_append, List.mem_cons, List.not_mem_nil, or_false] at hw
    rcases hw with (rfl | rfl | rfl | rfl) | (rfl | hw) <;> assumption)
  refine L_back X hS hl (mc1 := mc1) (ms1 := ms1) (a := ((Value.ref a :: As).map (cv ρ)).toArray) (P1 := P1) (PX1 := PX1) ?_ kk kx
  refine vx_runV (As := As.map (cv ρ)) (b := ρ a) (C := C) (nL := nL) (own := own) ⟨X.hx, X.hb, X.hml, X.ho, X.hT⟩ (hM H.size) (cwV n X.hT hT rfl hrc hrs k6 hR) ⟨WA.blind, va_recv X.hK hP hcl (he_obj ha hci), fun U hU hW => ⟨rfl, by rw [hU], X.wa hP hS hU hW⟩⟩ rfl (by rw [List.length_map]; exact hn) hl.1 ?_ (lv_room (by rw [cv_sum]; exact hst)) d hf
  rw [← hs, List.map_append, List.map_reverse]
  rfl
theorem L_callS (X : MC p l s m args meth c cc nL own G ρ A) {idx} {y : MethodName} {bytes : ByteArray} {maxL : Nat} {ret : Option FieldType} {n mc1 ms1 : Nat} {rm : Room} {As : List Value} {P1 : Option Value → Ka → Prop} {PX1 : Nat → Ka → Prop}
    (lk : LinkS own idx y (.code y bytes maxL ret) n) (hM : CT l y (.code y bytes maxL ret) rm mc1 ms1 G ρ As κ P1 PX1) (hn : As.length = n)
    (hrc : rm.cells = mc1) (hrs : rm.slots = ms1) (hR : rm.frames + 1 ≤ R.frames ∧ 8 + (maxL + 11) + rm.locals ≤ R.locals) (hf : cells + mc1 ≤ R.cells ∧ slots + ms1 ≤ R.slots) (hst : (rest.map fun v => v.category).sum ≤ 8) (d : decode cc pc = .ok (.invokestatic idx, 3)) {st : List Value} (hs : As.reverse ++ rest = st)
    (kk : ∀ (v : Option Value) (κ1 : Ka), P1 v κ1 → LW p l e R s m args below meth c Q G ρ A nL (cells + mc1) (slots + ms1) (pc + 3) lv (v.toList ++ rest) κ1)
    (kx : ∀ (x : Nat) (κ1 : Ka), PX1 x κ1 → LWX p l e R s m args below meth c Q G ρ A nL (cells + mc1) (slots + ms1) pc lv rest x κ1) :
    LW p l e R s m args below meth c Q G ρ A nL cells slots pc lv st κ := by
  intro H locs ls hP hS hl
  obtain ⟨k1, k2, k3, k4, k6⟩ := lk
  have hT : GoodIn TW (va_wsS own idx y (.code y bytes maxL ret :: TW)) := GoodIn_TW (fun w hw => by
    simp only [va_wsS, List.mem_append, List.mem_cons, List.not_mem_nil, or_false] at hw
    rcases hw with (rfl | rfl | rfl) | (rfl | hw) <;> assumption)
  refine L_back X hS hl (mc1 := mc1) (ms1 := ms1) (a := (As.map (cv ρ)).toArray) (P1 := P1) (PX1 := PX1) ?_ kk kx
  refine vx_runS (As := As.map (cv ρ)) (nL := nL) (own := own) ⟨X.hx, X.hb, X.hml, X.ho, X.hT⟩ (hM H.size) (va_cwS n X.hT hT rfl hrc hrs k6 hR) ⟨WA.blind, fun U hU hW => ⟨rfl, by rw [hU], X.wa hP hS hU hW⟩⟩ rfl (by rw [List.length_map]; exact hn) hl.1 ?_ (lv_room (by rw [cv_sum]; exact hst)) d hf
  rw [← hs, List.map_append, List.map_reverse]
/-- nothing is thrown -/
theorem L_nox {x : Nat} {κ1 : Ka} (h : noX x κ1) : LWX p l e R s m args below meth c Q G ρ A nL cells slots pc lv rest x κ1 := h.elim
/-- an exception leaves the method -/
theorem L_pass (X : MC p l s m args meth c cc nL own G ρ A) (hex : ∀ z ∈ c.exceptionTable.toList, False) {x : Nat} {κ1 : Ka} (h : PX x κ1) (hc : cells ≤ mc) (hs : slots ≤ ms) : LWX p l e R s m args below meth c (Qm below G ρ A P PX args s mc ms) G ρ A nL cells slots pc lv rest x κ1 := by
  intro H locs ls q9 ce hP hS hl hce hcv hcl
  exact vx_out (fun z hz => (hex z hz).elim) X.hlk hce hcv hcl (fun t ht _ => ⟨x, κ1, rfl, h, by rw [ht]; exact hP, hS.F ht⟩) hS.2.2 hc hs
theorem L_throw (X : MC p l s m args meth c cc nL own G ρ A) (hex : ∀ z ∈ c.exceptionTable.toList, False) (x : Nat) {ik ic : Nat} (hk : Cond.classLink own ik (xN x) ∈ TW) (hi : Cond.initialized (xN x) ∈ TW)
    (h1 : ∀ w ∈ (vx_at0 own ic (xN x) nmsX).filter goodWord, w ∈ TW) (h2 : ∀ w ∈ (vx_at0 own ic (xN x) nmsX).filter (fun w => !goodWord w), w ∈ Cond.castable (xN x) (xN x) :: decL.map Cond.declares) (hx4 : xN x ∈ castL) (hg : ∀ w ∈ Cond.classLink own ik (xN x) :: Cond.initialized (xN x) :: vx_at0 own ic (xN x) nmsX, vx_ot w = true) (hft : Bundle.fit (xN x) = true)
    (d0 : decode cc pc = .ok (.new ik, 3)) (d3 : decode cc (pc + 3) = .ok (.dup, 1)) (d4 : decode cc (pc + 4) = .ok (.invokespecial ic, 3)) (d7 : decode cc (pc + 7) = .ok (.athrow, 1))
    (hRf : 5 < R.frames) (hRl : (rest.map fun v => v.category).sum + 81 ≤ R.locals) (hRc : cells + 1 ≤ R.cells) (hRs : slots + 6 ≤ R.slots) (hc : cells + 1 ≤ mc) (hs : slots + 6 ≤ ms) (h : PX x κ) :
    LW p l e R s m args below meth c (Qm below G ρ A P PX args s mc ms) G ρ A nL cells slots pc lv rest κ := by
  intro H locs ls hP hS hl
  have hT := X.hS
  obtain ⟨-, -, -, -, -, -, -, hU, hN, -, -, hcs, hds, -⟩ := hT
  refine vx_throw0 (names := nmsX) X.hx X.hb X.hst X.ho hft (by decide +kernel) (X.hT _ hk) (X.hT _ hi) (vx_hat (fun w hw => X.hT _ (h1 w hw)) h2 (vx_c (va_Nw.use rfl (hcs _ hx4)) (fun w hw => by
    obtain ⟨q, hq, rfl⟩ := List.mem_map.mp hw
    exact va_Nw.use rfl (hds q hq)))) hg hU hN hS (hl.1.trans X.hml.symm) d0 d3 d4 d7 (fun z hz => (hex z hz).elim) hRf (by rw [cv_sum]; exact hRl) hRc hRs X.hlk ?_ hS.2.2 hc hs
  intro t ha hsz hq
  refine ⟨x, κ, rfl, h, hP.kept (fun k q hk => hq _ (hP k q hk).lt), Nat.le_trans hS.1 hsz, fun q h3 h4 => ?_⟩
  rw [hq q (Nat.lt_of_lt_of_le h3 hS.1)]
  exact hS.2.1 q h3 h4
theorem L_iret (X : MC p l s m args meth c cc nL own G ρ A) (hr : meth.sig.returnType = some .int) (d : decode cc pc = .ok (.ireturn, 1)) {v : Int32} (hc : cells ≤ mc) (hs : slots ≤ ms) (h : P (some (.int v)) κ) : LW p l e R s m args below meth c (Qm below G ρ A P PX args s mc ms) G ρ A nL cells slots pc lv [.int v] κ := by
  intro H locs ls hP hS hl
  exact vx_ret (W.widen hc hs (W.iret X.hx X.hb hr (fun t ht _ => ⟨some (.int v), κ, rfl, h, by rw [ht]; exact hP, hS.F ht⟩) hS.2.2 d X.hlk))
theorem L_zret (X : MC p l s m args meth c cc nL own G ρ A) (hr : meth.sig.returnType = some .boolean) (d : decode cc pc = .ok (.ireturn, 1)) {v : Int32} (hn : narrow .boolean (.int v) = .int v) (hc : cells ≤ mc) (hs : slots ≤ ms) (h : P (some (.int v)) κ) : LW p l e R s m args below meth c (Qm below G ρ A P PX args s mc ms) G ρ A nL cells slots pc lv [.int v] κ := by
  intro H locs ls hP hS hl
  exact vx_ret (W.widen hc hs (W.zret X.hx X.hb hr hn (fun t ht _ => ⟨some (.int v), κ, rfl, h, by rw [ht]; exact hP, hS.F ht⟩) hS.2.2 d X.hlk))
theorem L_vret (X : MC p l s m args meth c cc nL own G ρ A) (hr : meth.sig.returnType = none) (d : decode cc pc = .ok (.return_, 1)) (hc : cells ≤ mc) (hs : slots ≤ ms) (h : P none κ) : LW p l e R s m args below meth c (Qm below G ρ A P PX args s mc ms) G ρ A nL cells slots pc lv [] κ := by
  intro H locs ls hP hS hl
  exact vx_ret (W.widen hc hs (W.vret X.hx X.hb hr (fun t ht _ => ⟨none, κ, rfl, h, by rw [ht]; exact hP, hS.F ht⟩) hS.2.2 d X.hlk))
theorem L_aretW (X : MC p l s m args meth c cc nL own G ρ A) {C : String} (hr : meth.sig.returnType = some (.object C)) (d : decode cc pc = .ok (.areturn, 1)) {w : Fin 32} (hc : cells ≤ mc) (hs : slots ≤ ms) (h : P (some (wv w)) κ) : LW p l e R s m args below meth c (Qm below G ρ A P PX args s mc ms) G ρ A nL cells slots pc lv [wv w] κ := by
  intro H locs ls hP hS hl
  refine vx_ret (W.widen hc hs (W.aret X.hx X.hb hr (Or.inl ⟨C, rfl⟩) ?_ (fun t ht _ => ⟨some (wv w), κ, rfl, h, by rw [ht]; exact hP, hS.F ht⟩) hS.2.2 d X.hlk))
  rw [cv_wv]
  unfold wO va_rf
  split
  · exact Or.inl rfl
  · exact Or.inr ⟨_, rfl⟩
theorem lg_sl_len (vs : List Value) : (lg_sl vs).length = (vs.map fun v => v.category).sum := by
  induction vs with
  | nil => rfl
  | cons v t ih =>
    unfold lg_sl at ih ⊢
    rw [List.flatMap_cons, List.length_append, ih, List.map_cons, List.sum_cons]
    congr 1
    rcases lv_cat v with q | q
    · rw [if_neg (by omega), q]
      rfl
    · rw [if_pos q, q]
      rfl
theorem lv_args_map (ρ : Nat → Nat) (vs : List Value) : ∀ i, lv_args i (vs.map (cv ρ)) = (lv_args i vs).map (fun q => (q.1, cv ρ q.2)) := by
  induction vs with
  | nil => intro i; rfl
  | cons v t ih =>
    intro i
    show (i, cv ρ v) :: lv_args (if (cv ρ v).category = 2 then i + 2 else i + 1) (t.map (cv ρ)) = (i, cv ρ v) :: (lv_args (if v.category = 2 then i + 2 else i + 1) t).map _
    rw [cv_cat, ih]
/-- a method's contract out of the walk of its body -/
theorem CT_of {y : MethodName} {maxL : Nat} {ret : Option FieldType} {rm : Room} {As : List Value} {lv0 : List (Nat × Value)} (hl : l.stackTraces = false) (hy : plainName y.cls = true) (hown : y.cls = own) (hsz : (As.map fun v => v.category).sum ≤ maxL) (hlv : lv_args 0 As = lv0)
    (h : ∀ (p : Program) (e : Env) (s : State) (m : MethodId) (args : Array Value) (below : List Frame) (meth : Method) (c : Code) (A : Nat → Prop), MC p l s m args meth c cc maxL own G ρ A → meth.sig.returnType = ret → (∀ z ∈ c.exceptionTable.toList, False) → (meth.name = y.name) →
      LW p l e rm s m args below meth c (Qm below G ρ A P PX args s mc ms) G ρ A maxL 0 0 0 lv0 [] κ) : CT l y (.code y cc maxL ret) rm mc ms G ρ As κ P PX := by
  intro sz
  refine vx_ofW (cc := cc) (maxL := maxL) (ret := ret) hy rfl ?_
  intro p e s m args below meth c s₁ B hml hex hv
  obtain ⟨rfl, hsize, hP, hK, hi, hSt⟩ := hv
  subst hsize
  have hts := atoms_spec (ws := .code y cc maxL ret :: TW) B.pre
  have hown2 : s.vm.findClass own = some m.cls := by rw [← hown]; exact findClass_of_methodNamed B.named
  have X : MC p l s m (As.map (cv ρ)).toArray meth c cc maxL own G ρ (AW ρ s.heap.size) := ⟨B.exec, B.bytes, hml, hown2, fun w hw => hts w (List.mem_cons_of_mem _ hw), hK, B.notSynchronized, hl, fun a h1 h2 => Or.inl ⟨a, h1, h2, rfl⟩, fun q hq => Or.inr hq, hi, hSt⟩
  have hl2 := lv_entry (As.map (cv ρ)) (n := maxL) (by rw [lg_sl_len, cv_sum]; exact hsz)
  rw [lv_args_map, hlv] at hl2
  rw [lg_entry_eq]
  exact h p e s m _ below meth c _ X B.returns hex (name_of_methodNamed B.named B.method).1 s.heap [] _ hP va_S.rf hl2
end CALLS
