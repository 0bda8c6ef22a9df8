/-! ===== ordinal of a word; System.arraycopy of int rows ===== -/
theorem d_ord_0 : decode cJx29ce0_ordinal_8abf5 0 = .ok (.aload_n 0, 1) := by decide +kernel
theorem d_ord_1 : decode cJx29ce0_ordinal_8abf5 1 = .ok (.getfield 7, 3) := by decide +kernel
theorem d_ord_4 : decode cJx29ce0_ordinal_8abf5 4 = .ok (.ireturn, 1) := by decide +kernel
abbrev rm_ord : Room := { frames := 0, cells := 0, slots := 0, locals := 0 }
def wOrd (w : Fin 32) : Int32 := Int32.ofNat (w.val - 1)
theorem word_at9 {w : Fin 32} (i : Nat) (h : w.val = i + 1) : word.getD i 0 = wOrd w := by
  have hi : i < 31 := by have := w.isLt; omega
  have e : w.val - 1 = i := by omega
  unfold wOrd
  rw [e]
  exact (by decide +kernel : ∀ i, i < 31 → word.getD i 0 = Int32.ofNat i) i hi
theorem c_ord {l : Launch} {G : Gd} {ρ : Nat → Nat} (hl : l.stackTraces = false) {w : Fin 32} (hn : ¬ w = 0) {κ : Ka} : CT l yJx29ce0_ordinal_8abf5 (.code yJx29ce0_ordinal_8abf5 cJx29ce0_ordinal_8abf5 1 (some .int)) rm_ord 0 0 G ρ [wv w] κ (fun v κ' => v = some (.int (wOrd w)) ∧ κ' = κ) noX := by
  refine CT_of hl (by decide +kernel) rfl (by simp [wv_cat]) (lv0 := [(0, wv w)]) rfl (fun p e s m args below meth c A X hr hex hnm => ?_)
  refine L_aloadW_n (pc := 0) X d_ord_0 rfl 0 rfl ?_
  refine L_getWi (pc := 1) X hn ("java/lang/Enum", "ordinal", "I", word) (by decide) (v := wOrd w) (fun i hi => word_at9 i hi) d_ord_1 tw_1630 ?_
  exact L_iret (pc := 4) X hr d_ord_4 (by decide) (by decide) ⟨rfl, rfl⟩
section ORD
variable {p : Program} {l : Launch} {e : Env} {R : Room} {s : State} {m : MethodId} {args : Array Value} {below : List Frame} {meth : Method} {c : Code} {Q : State → Prop} {G : Gd} {ρ : Nat → Nat} {A : Nat → Prop} {nL cells slots pc : Nat} {lv : List (Nat × Value)} {rest : List Value} {κ : Ka} {cc : ByteArray} {own : String}
theorem L_ord (X : MC p l s m args meth c cc nL own G ρ A) {idx : Nat} {w : Fin 32} (hn : ¬ w = 0) (hw : Cond.methodLink own idx ⟨RX11, "ordinal", "()I"⟩ ∈ TW) (hR : 1 ≤ R.frames ∧ 20 ≤ R.locals) (hf : cells ≤ R.cells ∧ slots ≤ R.slots) (hst : (rest.map fun v => v.category).sum ≤ 8) (d : decode cc pc = .ok (.invokevirtual idx, 3))
    (k : LW p l e R s m args below meth c Q G ρ A nL cells slots (pc + 3) lv (.int (wOrd w) :: rest) κ) : LW p l e R s m args below meth c Q G ρ A nL cells slots pc lv (wv w :: rest) κ := by
  intro H locs ls hP hS hl
  obtain ⟨i, hi, e1, e2⟩ := wv_at hn
  have hT : GoodIn TW (va_wsU own idx RX11 "java/lang/Enum" ⟨RX11, "ordinal", "()I"⟩ yJx29ce0_ordinal_8abf5 (.code yJx29ce0_ordinal_8abf5 cJx29ce0_ordinal_8abf5 1 (some .int) :: TW)) := GoodIn_TW (fun w hw9 => by
    simp only [va_wsU, List.mem_append, List.mem_cons, List.not_mem_nil, or_false] at hw9
    rcases hw9 with (rfl | rfl | rfl | rfl | rfl) | (rfl | hw9)
    · exact hw
    · exact tw_972
    · exact tw_974
    · exact tw_975
    · exact tw_85
    · exact tw_976
    · exact hw9)
  refine L_backM X hS hl (mc1 := 0) (ms1 := 0) (a := (([wv w] : List Value).map (cv ρ)).toArray) (P1 := fun v κ' => v = some (.int (wOrd w)) ∧ κ' = κ) (rest := rest) ?_ (fun v κ1 hq => by obtain ⟨h1, h2⟩ := hq; rw [h1, h2]; exact k)
  have hM := Met_of_CT (c_ord (G := G) (ρ := ρ) X.hst hn (κ := κ)) H.size
  have e3 : (([wv w] : List Value).map (cv ρ)) = [.ref (ρ (1001 + i))] := by rw [e2]; rfl
  rw [e3] at hM ⊢
  refine va_runU (As := []) (b := ρ (1001 + i)) (C := RX11) (nL := nL) (own := own) (x := ⟨RX11, "ordinal", "()I"⟩) (owner := "java/lang/Enum") ⟨X.hx, X.hb, X.hml, X.ho, X.hT⟩ hM (va_cwU 0 X.hT hT rfl rfl rfl rfl (by decide +kernel) ⟨hR.1, hR.2⟩) ⟨?_, va_recvE X.hS.1 (i := i) hi hS, fun U hU hW => ⟨rfl, by rw [hU], X.wa hP hS hU hW⟩⟩ rfl rfl hl.1 (by rw [List.map_cons, e2]; rfl) (lv_room (by rw [cv_sum]; exact hst)) d hf
  have hb := WA.blind (G := G) (ρ := ρ) (sz := H.size) (κ := κ) (As := [.ref (1001 + i)])
  exact hb
theorem L_copy (X : MC p l s m args meth c cc nL own G ρ A) {idx a b na nb : Nat} {sp dp n : Int32} {cm : CMu} {mm : Nat → Nat → Int32} {oo : Nat → Int64} (ha : KD a = (20, na)) (hb : KD b = (20, nb)) (hsp : ¬ sp < 0) (hdp : ¬ dp < 0) (hn : ¬ n < 0) (h4 : sp.toNatClampNeg + n.toNatClampNeg ≤ na) (h5 : dp.toNatClampNeg + n.toNatClampNeg ≤ nb)
    (hw : Cond.methodLink own idx arraycopyName ∈ TW) (hnat : Cond.native arraycopyName ∈ TW) (hstt : Cond.static arraycopyName ∈ TW) (hini : Cond.initialized "java/lang/System" ∈ TW) (hR : 1 ≤ R.frames ∧ (rest.map fun v => v.category).sum + (nativeFrameWords "java/lang/System" "arraycopy" 5 + 11) ≤ R.locals) (d : decode cc pc = .ok (.invokestatic idx, 3))
    (k : LW p l e R s m args below meth c Q G ρ A nL cells slots (pc + 3) lv rest (cpI cm b a sp.toNatClampNeg dp.toNatClampNeg n.toNatClampNeg, mm, oo)) : LW p l e R s m args below meth c Q G ρ A nL cells slots pc lv (.int n :: .int dp :: .ref b :: .int sp :: .ref a :: rest) (cm, mm, oo) := by
  intro H locs ls hP hS hl
  refine va_copyi X.hx X.hb (X.hml.trans hl.1.symm) X.ho (X.hT _ hw) (X.hT _ hnat) (X.hT _ hstt) (X.hT _ hini) X.hK hP (X.hD _) hS (a - 1) (b - 1) 0 0 (he_int ha) (he_int hb) rfl rfl rfl hsp hdp hn h4 h5 (fun i _ => rfl) hR.1 (by rw [cv_sum]; exact hR.2) d (fun H1 locs1 hP1 _ hS1 => ?_)
  obtain ⟨h1, h2⟩ := KD_in (a := b) (by rw [hb]; show (20 : Nat) ≠ 99; omega)
  rw [wsK_set G ρ (cm, mm, oo) (cpI cm b a sp.toNatClampNeg dp.toNatClampNeg n.toNatClampNeg, mm, oo) h1 h2 ?_ (fun q hq => ?_)] at hP1
  · exact k H1 locs1 ls hP1 hS1 hl
  · rw [cell_int hb, iA_c (KD_i hb), iA_c (KD_i hb), iA_c (KD_i ha)]
    refine congrArg (fun f => (Sum.inl (G.2 0, nb, Sum.inl f) : va_E)) (funext fun i => ?_)
    exact if_pos rfl
  · refine cellE_congr ?_ rfl rfl (Or.inl rfl)
    unfold iA
    split
    · exact funext fun i => if_neg hq
    · rfl
theorem wv_b (ρ : Nat → Nat) {w : Fin 32} (h : ¬ w = 0) : cv ρ (wv w) = .ref (ρ (1000 + w.val)) := by
  unfold wv
  rw [if_neg h]
  rfl
theorem MC.rvW (X : MC p l s m args meth c cc nL own G ρ A) {w : Fin 32} (h : ¬ w = 0) (H : Heap) (locs : List Loc) (hS : va_S A s.heap H locs) : ∃ cell : Cell, H[ρ (1000 + w.val)]? = some cell ∧ cell.vm.isStatics = false ∧ s.vm.findClass RX11 = some cell.cls := by
  obtain ⟨i, hi, e1, e2⟩ := wv_at h
  have e3 : 1000 + w.val = 1001 + i := by omega
  rw [e3]
  exact va_recvE X.hS.1 (i := i) hi hS
theorem MC.rvS (X : MC p l s m args meth c cc nL own G ρ A) {k : Nat} (h : k < 30) (H : Heap) (locs : List Loc) (hS : va_S A s.heap H locs) : ∃ cell : Cell, H[ρ (2001 + k)]? = some cell ∧ cell.vm.isStatics = false ∧ s.vm.findClass RJ0 = some cell.cls := vk_recv (adK := fun i => ρ (2001 + i)) (i := k) X.hS.2.2.1 h hS
theorem L_callVR (X : MC p l s m args meth c cc nL own G ρ A) {idx C} {y : MethodName} {bytes : ByteArray} {maxL : Nat} {ret : Option FieldType} {n mc1 ms1 : Nat} {rm : Room} {As : List Value} {P1 : Option Value → Ka → Prop} {rv : Value} {b : Nat}
    (hb : cv ρ rv = .ref b) (hrv : ∀ (H : Heap) (locs : List Loc), va_S A s.heap H locs → ∃ cell : Cell, H[b]? = some cell ∧ cell.vm.isStatics = false ∧ s.vm.findClass C = some cell.cls)
    (lk : LinkV own idx C y (.code y bytes maxL ret) n) (hM : CT l y (.code y bytes maxL ret) rm mc1 ms1 G ρ (rv :: As) κ P1 noX) (hn : As.length = n)
    (hrc : rm.cells = mc1) (hrs : rm.slots = ms1) (hR : rm.frames + 1 ≤ R.frames ∧ 8 + (maxL + 11) + rm.locals ≤ R.locals) (hf : cells + mc1 ≤ R.cells ∧ slots + ms1 ≤ R.slots) (hst : (rest.map fun v => v.category).sum ≤ 8) (d : decode cc pc = .ok (.invokevirtual idx, 3)) {st : List Value} (hs : As.reverse ++ rv :: rest = st)
    (kk : ∀ (v : Option Value) (κ1 : Ka), P1 v κ1 → LW p l e R s m args below meth c Q G ρ A nL (cells + mc1) (slots + ms1) (pc + 3) lv (v.toList ++ rest) κ1) :
    LW p l e R s m args below meth c Q G ρ A nL cells slots pc lv st κ := by
  intro H locs ls hP hS hl
  obtain ⟨k1, k2, k3, k4, k5, k6⟩ := lk
  have hT : GoodIn TW (wsV own idx C y (.code y bytes maxL ret :: TW)) := GoodIn_TW (fun w hw => by
    simp only [wsV, List.mem_append, List.mem_cons, List.not_mem_nil, or_false] at hw
    rcases hw with (rfl | rfl | rfl | rfl) | (rfl | hw) <;> assumption)
  refine L_back (PX1 := noX) X hS hl (mc1 := mc1) (ms1 := ms1) (a := ((rv :: As).map (cv ρ)).toArray) (P1 := P1) ?_ kk (fun x κ1 h => L_nox h)
  have hM2 := hM H.size
  rw [List.map_cons, hb] at hM2 ⊢
  refine vx_runV (As := As.map (cv ρ)) (b := b) (C := C) (nL := nL) (own := own) ⟨X.hx, X.hb, X.hml, X.ho, X.hT⟩ hM2 (cwV n X.hT hT rfl hrc hrs k6 hR) ⟨?_, hrv H locs hS, fun U hU hW => ⟨rfl, by rw [hU], X.wa hP hS hU hW⟩⟩ rfl (by rw [List.length_map]; exact hn) hl.1 ?_ (lv_room (by rw [cv_sum]; exact hst)) d hf
  · have hb2 := WA.blind (G := G) (ρ := ρ) (sz := H.size) (κ := κ) (As := rv :: As)
    rw [List.map_cons, hb] at hb2
    exact hb2
  · rw [← hs, List.map_append, List.map_reverse, List.map_cons, hb]
theorem L_callVRI (X : MC p l s m args meth c cc nL own G ρ A) {idx C} {y : MethodName} {bytes : ByteArray} {maxL : Nat} {ret : Option FieldType} {n mc1 ms1 : Nat} {rm : Room} {As : List Value} {S : Type} {mk : S → Ka} {post : Int32 → S → Prop} {rv : Value} {b : Nat}
    (hb : cv ρ rv = .ref b) (hrv : ∀ (H : Heap) (locs : List Loc), va_S A s.heap H locs → ∃ cell : Cell, H[b]? = some cell ∧ cell.vm.isStatics = false ∧ s.vm.findClass C = some cell.cls)
    (lk : LinkV own idx C y (.code y bytes maxL ret) n) (hM : CT l y (.code y bytes maxL ret) rm mc1 ms1 G ρ (rv :: As) κ (PI mk post) noX) (hn : As.length = n)
    (hrc : rm.cells = mc1) (hrs : rm.slots = ms1) (hR : rm.frames + 1 ≤ R.frames ∧ 8 + (maxL + 11) + rm.locals ≤ R.locals) (hf : cells + mc1 ≤ R.cells ∧ slots + ms1 ≤ R.slots) (hst : (rest.map fun v => v.category).sum ≤ 8) (d : decode cc pc = .ok (.invokevirtual idx, 3)) {st : List Value} (hs : As.reverse ++ rv :: rest = st)
    (kk : ∀ r u, post r u → LW p l e R s m args below meth c Q G ρ A nL (cells + mc1) (slots + ms1) (pc + 3) lv (.int r :: rest) (mk u)) :
    LW p l e R s m args below meth c Q G ρ A nL cells slots pc lv st κ :=
  L_callVR X hb hrv lk hM hn hrc hrs hR hf hst d hs (fun v κ1 hq => by obtain ⟨r, u, rfl, rfl, h⟩ := hq; exact kk r u h)
theorem L_callVRZ (X : MC p l s m args meth c cc nL own G ρ A) {idx C} {y : MethodName} {bytes : ByteArray} {maxL : Nat} {ret : Option FieldType} {n mc1 ms1 : Nat} {rm : Room} {As : List Value} {S : Type} {mk : S → Ka} {post : Bool → S → Prop} {rv : Value} {b : Nat}
    (hb : cv ρ rv = .ref b) (hrv : ∀ (H : Heap) (locs : List Loc), va_S A s.heap H locs → ∃ cell : Cell, H[b]? = some cell ∧ cell.vm.isStatics = false ∧ s.vm.findClass C = some cell.cls)
    (lk : LinkV own idx C y (.code y bytes maxL ret) n) (hM : CT l y (.code y bytes maxL ret) rm mc1 ms1 G ρ (rv :: As) κ (PZ mk post) noX) (hn : As.length = n)
    (hrc : rm.cells = mc1) (hrs : rm.slots = ms1) (hR : rm.frames + 1 ≤ R.frames ∧ 8 + (maxL + 11) + rm.locals ≤ R.locals) (hf : cells + mc1 ≤ R.cells ∧ slots + ms1 ≤ R.slots) (hst : (rest.map fun v => v.category).sum ≤ 8) (d : decode cc pc = .ok (.invokevirtual idx, 3)) {st : List Value} (hs : As.reverse ++ rv :: rest = st)
    (kk : ∀ r u, post r u → LW p l e R s m args below meth c Q G ρ A nL (cells + mc1) (slots + ms1) (pc + 3) lv (.int (b2 r) :: rest) (mk u)) :
    LW p l e R s m args below meth c Q G ρ A nL cells slots pc lv st κ :=
  L_callVR X hb hrv lk hM hn hrc hrs hR hf hst d hs (fun v κ1 hq => by obtain ⟨r, u, rfl, rfl, h⟩ := hq; exact kk r u h)
end ORD
