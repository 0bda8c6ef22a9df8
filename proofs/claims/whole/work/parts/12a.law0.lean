/-! ===== the law: handlers, the out row, the script ===== -/
section LAW0
variable {p : Program} {l : Launch} {e : Env} {R : Room} {s : State} {m : MethodId} {args : Array Value} {below : List Frame} {meth : Method} {c : Code} {Q : State → Prop} {G : Gd} {ρ : Nat → Nat} {A : Nat → Prop} {nL cells slots pc : Nat} {lv : List (Nat × Value)} {rest : List Value} {κ : Ka} {cc : ByteArray} {own : String} {P : Option Value → Ka → Prop} {PX : Nat → Ka → Prop} {mc ms : Nat}
theorem CT_ofH {y : MethodName} {maxL : Nat} {ret : Option FieldType} {hh : List (Nat × Nat × Nat × Nat)} {rm : Room} {As : List Value} {lv0 : List (Nat × Value)} (hl : l.stackTraces = false) (hy : plainName y.cls = true) (hown : y.cls = own) (hsz : (As.map fun v => v.category).sum ≤ maxL) (hlv : lv_args 0 As = lv0)
    (h : ∀ (p : Program) (e : Env) (s : State) (m : MethodId) (args : Array Value) (below : List Frame) (meth : Method) (c : Code) (A : Nat → Prop), MC p l s m args meth c cc maxL own G ρ A → meth.sig.returnType = ret → c.exceptionTable.toList = tableOf hh →
      LW p l e rm s m args below meth c (Qm below G ρ A P PX args s mc ms) G ρ A maxL 0 0 0 lv0 [] κ) : CT l y (.codeWith y cc maxL ret hh) rm mc ms G ρ As κ P PX := by
  intro sz
  refine vx_ofWH (cc := cc) (maxL := maxL) (ret := ret) (hh := hh) hy rfl ?_
  intro p e s m args below meth c s₁ B hml hv
  obtain ⟨rfl, hsize, hP, hK, hi, hSt⟩ := hv
  subst hsize
  have hts := atoms_spec (ws := .codeWith y cc maxL ret hh :: TW) B.pre
  have hown2 : s.vm.findClass own = some m.cls := by rw [← hown]; exact findClass_of_methodNamed B.named
  have X : MC p l s m (As.map (cv ρ)).toArray meth c cc maxL own G ρ (AW ρ s.heap.size) := ⟨B.exec, B.bytes, hml, hown2, fun w hw => hts w (List.mem_cons_of_mem _ hw), hK, B.notSynchronized, hl, fun a h1 h2 => Or.inl ⟨a, h1, h2, rfl⟩, fun q hq => Or.inr hq, hi, hSt⟩
  have hl2 := lv_entry (As.map (cv ρ)) (n := maxL) (by rw [lg_sl_len, cv_sum]; exact hsz)
  rw [lv_args_map, hlv] at hl2
  rw [lg_entry_eq]
  exact h p e s m _ below meth c _ X B.returns (vx_table (x := y) B (hts _ List.mem_cons_self)) s.heap [] _ hP va_S.rf hl2
theorem L_handle (X : MC p l s m args meth c cc nL own G ρ A) (hr : meth.sig.returnType = some .int) (pre suf : List (Nat × Nat × Nat × Nat)) (q : Nat × Nat × Nat × Nat) (ht : c.exceptionTable.toList = tableOf (pre ++ q :: suf)) {x : Nat}
    (hpass : ∀ z ∈ pre, z.2.2.2 ≠ 0 ∧ ∃ nm : String, Cond.classLink own z.2.2.2 nm ∈ TW ∧ (xN x, nm) ∈ ncL) (hcov : covers ⟨q.1, q.2.1, q.2.2.1, q.2.2.2⟩ pc = true) (h0 : q.2.2.2 ≠ 0) (hlink : Cond.classLink own q.2.2.2 (xN x) ∈ TW) (hx4 : xN x ∈ castL) {pc2 : Nat}
    (hst : ∀ (H : Heap) (locs : List Loc) (ls : Array Slot) (a : Nat), lv_has ls nL (lv.map (fun q => (q.1, cv ρ q.2))) → (∀ ls2 : Array Slot, ls2.size = nL → W p l e R s m args below meth c H locs cells slots (Qm below G ρ A P PX args s mc ms) (F0 m pc2 ls2 [])) → W p l e R s m args below meth c H locs cells slots (Qm below G ρ A P PX args s mc ms) (F0 m q.2.2.1 ls [.ref a]))
    {n : Int} {v : Int32} (d2 : decode cc pc2 = .ok (.iconst n, 1)) (hv : Int32.ofInt n = v) (d3 : decode cc (pc2 + 1) = .ok (.ireturn, 1)) (hc : cells ≤ mc) (hs : slots ≤ ms) (h : P (some (.int v)) κ) :
    LWX p l e R s m args below meth c (Qm below G ρ A P PX args s mc ms) G ρ A nL cells slots pc lv rest x κ := by
  intro H locs ls q9 ce hP hS hl hce hcv hcl
  have hcs := X.hS.2.2.2.2.2.2.2.2.2.2.2.1
  have hnc := X.hS.2.2.2.2.2.2.2.2.2.2.2.2.2
  refine vx_catch (name := xN x) X.ho (tableOf pre) ⟨q.1, q.2.1, q.2.2.1, q.2.2.2⟩ (tableOf suf) (by rw [ht]; unfold tableOf; rw [List.map_append, List.map_cons]) (fun z hz => ?_) hcov h0 (X.hT _ hlink) (va_Nw.use rfl (hcs _ hx4)) hce hcv hcl ?_
  · obtain ⟨y, hy, rfl⟩ := List.mem_map.mp hz
    obtain ⟨g1, nm, g2, g3⟩ := hpass y hy
    exact Or.inr ⟨g1, nm, X.hT _ g2, hnc _ g3⟩
  · refine hst H locs ls q9 hl (fun ls2 _ => ?_)
    refine lv_iconst X.hx X.hb d2 hv ?_
    exact vx_ret (W.widen hc hs (W.iret X.hx X.hb hr (fun t ht _ => ⟨some (.int v), κ, rfl, h, by rw [ht]; exact hP, hS.F ht⟩) hS.2.2 d3 X.hlk))
theorem st_n (X : MC p l s m args meth c cc nL own G ρ A) {k : Fin 4} {i pc1 : Nat} (d1 : decode cc pc1 = .ok (.astore_n k, 1)) (hi : (k : Nat) = i) (hn : i < nL) (H : Heap) (locs : List Loc) (ls : Array Slot) (a : Nat) (hl : lv_has ls nL (lv.map (fun q => (q.1, cv ρ q.2)))) (kk : ∀ ls2 : Array Slot, ls2.size = nL → W p l e R s m args below meth c H locs cells slots Q (F0 m (pc1 + 1) ls2 [])) : W p l e R s m args below meth c H locs cells slots Q (F0 m pc1 ls [.ref a]) :=
  lv_astore_n X.hx X.hb d1 hi hl hn rfl (fun ls2 hl2 => kk ls2 hl2.1)
theorem st_w (X : MC p l s m args meth c cc nL own G ρ A) {i pc1 : Nat} (d1 : decode cc pc1 = .ok (.astore i, 2)) (hn : i < nL) (H : Heap) (locs : List Loc) (ls : Array Slot) (a : Nat) (hl : lv_has ls nL (lv.map (fun q => (q.1, cv ρ q.2)))) (kk : ∀ ls2 : Array Slot, ls2.size = nL → W p l e R s m args below meth c H locs cells slots Q (F0 m (pc1 + 2) ls2 [])) : W p l e R s m args below meth c H locs cells slots Q (F0 m pc1 ls [.ref a]) :=
  lv_astore X.hx X.hb d1 hl hn rfl (fun ls2 hl2 => kk ls2 hl2.1)
theorem L_lastO (X : MC p l s m args meth c cc nL own G ρ A) {i : Int32} {v : Int64} {cm : CMu} {mm : Nat → Nat → Int32} {oo : Nat → Int64} (hin : vp_in i 1) (d : decode cc pc = .ok (.lastore, 1)) (k : LW p l e R s m args below meth c Q G ρ A nL cells slots (pc + 1) lv rest (cm, mm, vp_updL oo i.toNatClampNeg v)) : LW p l e R s m args below meth c Q G ρ A nL cells slots pc lv (.long v :: .int i :: .ref 715 :: rest) (cm, mm, oo) := by
  intro H locs ls hP hS hl
  refine va_last X.hx X.hb X.hK hP (X.hD _) hS (715 - 1) 1 (he_out kd_715) rfl hin d (fun H1 locs1 hP1 _ hS1 => ?_)
  rw [wsK_set G ρ (cm, mm, oo) (cm, mm, vp_updL oo i.toNatClampNeg v) (by omega) (by omega) (by rw [cell_out kd_715]) (fun b hb => cell_uO hb)] at hP1
  exact k H1 locs1 ls hP1 hS1 hl
theorem L_laldO (X : MC p l s m args meth c cc nL own G ρ A) {i : Int32} {cm : CMu} {mm : Nat → Nat → Int32} {oo : Nat → Int64} (hin : vp_in i 1) (d : decode cc pc = .ok (.laload, 1)) (k : LW p l e R s m args below meth c Q G ρ A nL cells slots (pc + 1) lv (.long (oo (Int32.toNatClampNeg i)) :: rest) (cm, mm, oo)) : LW p l e R s m args below meth c Q G ρ A nL cells slots pc lv (.int i :: .ref 715 :: rest) (cm, mm, oo) := by
  intro H locs ls hP hS hl
  exact va_lald X.hx X.hb X.hK hP (715 - 1) 1 (he_out kd_715) rfl hin d (k H locs ls hP hS hl)
def LinkH (own : String) (idx : Nat) (y : MethodName) (hd : Cond) (n : Nat) : Prop := LinkS own idx y hd n
theorem L_callSH (X : MC p l s m args meth c cc nL own G ρ A) {idx} {y : MethodName} {bytes : ByteArray} {maxL : Nat} {ret : Option FieldType} {hh : List (Nat × Nat × Nat × Nat)} {n mc1 ms1 : Nat} {rm : Room} {As : List Value} {S : Type} {mk : S → Ka} {post : Int32 → S → Prop}
    (lk : LinkS own idx y (.codeWith y bytes maxL ret hh) n) (hM : CT l y (.codeWith y bytes maxL ret hh) rm mc1 ms1 G ρ As κ (PI mk post) noX) (hn : As.length = n)
    (hrc : rm.cells = mc1) (hrs : rm.slots = ms1) (hR : rm.frames + 1 ≤ R.frames ∧ 8 + (maxL + 11) + rm.locals ≤ R.locals) (hf : cells + mc1 ≤ R.cells ∧ slots + ms1 ≤ R.slots) (hst : (rest.map fun v => v.category).sum ≤ 8) (d : decode cc pc = .ok (.invokestatic idx, 3)) {st : List Value} (hs : As.reverse ++ rest = st)
    (kk : ∀ r u, post r u → LW p l e R s m args below meth c Q G ρ A nL (cells + mc1) (slots + ms1) (pc + 3) lv (.int r :: rest) (mk u)) :
    LW p l e R s m args below meth c Q G ρ A nL cells slots pc lv st κ := by
  intro H locs ls hP hS hl
  obtain ⟨k1, k2, k3, k4, k6⟩ := lk
  have hT : GoodIn TW (va_wsS own idx y (.codeWith y bytes maxL ret hh :: TW)) := GoodIn_TW (fun w hw => by
    simp only [va_wsS, List.mem_append, List.mem_cons, List.not_mem_nil, or_false] at hw
    rcases hw with (rfl | rfl | rfl) | (rfl | hw) <;> assumption)
  refine L_back (PX1 := noX) X hS hl (mc1 := mc1) (ms1 := ms1) (a := (As.map (cv ρ)).toArray) (P1 := PI mk post) ?_ (fun v κ1 hq => by obtain ⟨r, u, rfl, rfl, h⟩ := hq; exact kk r u h) (fun x κ1 h => L_nox h)
  refine vx_runSX (As := As.map (cv ρ)) (nL := nL) (own := own) ⟨X.hx, X.hb, X.hml, X.ho, X.hT⟩ (hM H.size) (vx_cwSW n X.hT hT rfl hrc hrs k6 hR) ⟨WA.blind, fun U hU hW => ⟨rfl, by rw [hU], X.wa hP hS hU hW⟩⟩ rfl (by rw [List.length_map]; exact hn) hl.1 ?_ (lv_room (by rw [cv_sum]; exact hst)) d hf
  rw [← hs, List.map_append, List.map_reverse]
/-- the script stands at the number 5000 -/
theorem L_sld (X : MC p l s m args meth c cc nL own G ρ A) {L : Nat} {xs : Nat → Int32} (hX : va_X (ρ 5000) L xs s s.heap) (hb : ρ 5000 < s.heap.size) (hbA : ¬ A (ρ 5000)) {i : Int32} (hin : vp_in i L) (d : decode cc pc = .ok (.iaload, 1)) (k : LW p l e R s m args below meth c Q G ρ A nL cells slots (pc + 1) lv (.int (xs (Int32.toNatClampNeg i)) :: rest) κ) : LW p l e R s m args below meth c Q G ρ A nL cells slots pc lv (.int i :: .ref 5000 :: rest) κ := by
  intro H locs ls hP hS hl
  exact va_sld X.hx X.hb hX hb hbA hS hin d (k H locs ls hP hS hl)
theorem L_slen (X : MC p l s m args meth c cc nL own G ρ A) {L : Nat} {xs : Nat → Int32} (hX : va_X (ρ 5000) L xs s s.heap) (hb : ρ 5000 < s.heap.size) (hbA : ¬ A (ρ 5000)) (d : decode cc pc = .ok (.arraylength, 1)) (k : LW p l e R s m args below meth c Q G ρ A nL cells slots (pc + 1) lv (.int (nI L) :: rest) κ) : LW p l e R s m args below meth c Q G ρ A nL cells slots pc lv (.ref 5000 :: rest) κ := by
  intro H locs ls hP hS hl
  exact va_slen X.hx X.hb hX hb hbA hS d (k H locs ls hP hS hl)
end LAW0
