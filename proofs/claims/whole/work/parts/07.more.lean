/-! ===== rows: Math, the words, copying ===== -/
def jmin (x y : Int32) : Int32 := if y < x then y else x
def jmax (x y : Int32) : Int32 := if x < y then y else x
/-- whether a word is a part of a sum; whether it joins -/
def wP (w : Fin 32) : Bool := decide (wpt.getD (w.val - 1) 0 = 1)
def wJ (w : Fin 32) : Bool := decide (wjn.getD (w.val - 1) 0 = 1)
/-- the word at place i of the list -/
def wAt (i : Nat) : Fin 32 := Fin.ofNat 32 (i + 1)
def cpI (c : CMu) (b a sp dp n : Nat) : CMu := (fun x i => if x = b then va_cpy (c.1 a) (c.1 b) sp dp n i else c.1 x i, c.2)
section MORE
variable {p : Program} {l : Launch} {e : Env} {R : Room} {s : State} {m : MethodId} {args : Array Value} {below : List Frame} {meth : Method} {c : Code} {Q : State → Prop} {G : Gd} {ρ : Nat → Nat} {A : Nat → Prop} {nL cells slots pc : Nat} {lv : List (Nat × Value)} {rest : List Value} {κ : Ka} {cc : ByteArray} {own : String} {cm : CMu} {mm : Nat → Nat → Int32} {oo : Nat → Int64}
theorem L_min (X : MC p l s m args meth c cc nL own G ρ A) {index : Nat} {x y : Int32} (d : decode cc pc = .ok (.invokestatic index, 3)) (h1 : Cond.methodLink own index Lib.Math.min.name ∈ TW) (h2 : Cond.static Lib.Math.min.name ∈ TW) (h3 : Cond.initialized "java/lang/Math" ∈ TW) (h4 : Cond.code Lib.Math.min.name Lib.Math.min.code 2 (some .int) ∈ TW)
    (hf : 1 ≤ R.frames) (hlo : (rest.map fun v => v.category).sum + 13 ≤ R.locals) (hc : cells ≤ R.cells) (hs : slots ≤ R.slots) (k : LW p l e R s m args below meth c Q G ρ A nL cells slots (pc + 3) lv (.int (jmin x y) :: rest) κ) : LW p l e R s m args below meth c Q G ρ A nL cells slots pc lv (.int y :: .int x :: rest) κ := by
  intro H locs ls hP hS hl
  exact va_mmin X.hx X.hb (X.hml.trans hl.1.symm) X.ho (X.hT _ h1) (X.hT _ h2) (X.hT _ h3) (X.hT _ h4) hf (by rw [cv_sum]; exact hlo) hc hs d (k H locs ls hP hS hl)
theorem L_max (X : MC p l s m args meth c cc nL own G ρ A) {index : Nat} {x y : Int32} (d : decode cc pc = .ok (.invokestatic index, 3)) (h1 : Cond.methodLink own index Lib.Math.max.name ∈ TW) (h2 : Cond.static Lib.Math.max.name ∈ TW) (h3 : Cond.initialized "java/lang/Math" ∈ TW) (h4 : Cond.code Lib.Math.max.name Lib.Math.max.code 2 (some .int) ∈ TW)
    (hf : 1 ≤ R.frames) (hlo : (rest.map fun v => v.category).sum + 13 ≤ R.locals) (hc : cells ≤ R.cells) (hs : slots ≤ R.slots) (k : LW p l e R s m args below meth c Q G ρ A nL cells slots (pc + 3) lv (.int (jmax x y) :: rest) κ) : LW p l e R s m args below meth c Q G ρ A nL cells slots pc lv (.int y :: .int x :: rest) κ := by
  intro H locs ls hP hS hl
  exact va_mmax X.hx X.hb (X.hml.trans hl.1.symm) X.ho (X.hT _ h1) (X.hT _ h2) (X.hT _ h3) (X.hT _ h4) hf (by rw [cv_sum]; exact hlo) hc hs d (k H locs ls hP hS hl)
/-- a word's constant -/
theorem L_getsW (X : MC p l s m args meth c cc nL own G ρ A) {index : Nat} {nm : String} (i : Nat) (hi : i < 31) (hn : wnm.getD i "" = nm) {w : Fin 32} (hw9 : wAt i = w) (d : decode cc pc = .ok (.getstatic index, 3)) (hw : Cond.fieldLink own index RX11 nm "LFlumeOrders$Word;" ∈ TW) (k : LW p l e R s m args below meth c Q G ρ A nL cells slots (pc + 3) lv (wv w :: rest) κ) : LW p l e R s m args below meth c Q G ρ A nL cells slots pc lv rest κ := by
  intro H locs ls hP hS hl
  have hZ := (X.hS.1.1 i hi).1
  rw [hn] at hZ
  refine va_gets X.hx X.hb hZ hS X.ho (X.hT _ hw) (fun _ h => h) d ?_
  have h2 := k H locs ls hP hS hl
  rw [List.map_cons, cv_wv, ← hw9] at h2
  have e1 : wO ρ (wAt i) = some (ρ (1001 + i)) := by
    unfold wO
    have e2 : (wAt i).val = i + 1 := Nat.mod_eq_of_lt (by omega)
    rw [if_neg (fun z => by rw [z] at e2; exact absurd e2 (by simp)), e2]
    exact congrArg some (congrArg ρ (by omega))
  rw [e1] at h2
  exact h2
theorem wv_at {w : Fin 32} (h : ¬ w = 0) : ∃ i, i < 31 ∧ w.val = i + 1 ∧ wv w = .ref (1001 + i) := by
  have h1 : w.val ≠ 0 := fun z => h (Fin.ext z)
  refine ⟨w.val - 1, by omega, by omega, ?_⟩
  have e : 1001 + (w.val - 1) = 1000 + w.val := by omega
  rw [e]
  exact if_neg h
theorem L_getWi (X : MC p l s m args meth c cc nL own G ρ A) {index : Nat} {w : Fin 32} (hn : ¬ w = 0) (q : String × String × String × List Int32) (hq : q ∈ wF) {v : Int32} (hv : ∀ i, w.val = i + 1 → q.2.2.2.getD i 0 = v) (d : decode cc pc = .ok (.getfield index, 3)) (hw : Cond.fieldLink own index q.1 q.2.1 q.2.2.1 ∈ TW) (k : LW p l e R s m args below meth c Q G ρ A nL cells slots (pc + 3) lv (.int v :: rest) κ) : LW p l e R s m args below meth c Q G ρ A nL cells slots pc lv (wv w :: rest) κ := by
  intro H locs ls hP hS hl
  obtain ⟨i, hi, e1, e2⟩ := wv_at hn
  rw [List.map_cons, e2]
  refine va_getE X.hx X.hb X.hS.1 (i := i) hi hS X.ho hq (X.hT _ hw) (fun _ h => h) d ?_
  rw [hv i e1]
  exact k H locs ls hP hS hl
theorem wP_at {w : Fin 32} (i : Nat) (h : w.val = i + 1) : wpt.getD i 0 = b2 (wP w) := by
  have hi : i < 31 := by have := w.isLt; omega
  have e : w.val - 1 = i := by omega
  unfold wP
  rw [e]
  exact (by decide +kernel : ∀ i, i < 31 → wpt.getD i 0 = b2 (decide (wpt.getD i 0 = 1))) i hi
theorem wJ_at {w : Fin 32} (i : Nat) (h : w.val = i + 1) : wjn.getD i 0 = b2 (wJ w) := by
  have hi : i < 31 := by have := w.isLt; omega
  have e : w.val - 1 = i := by omega
  unfold wJ
  rw [e]
  exact (by decide +kernel : ∀ i, i < 31 → wjn.getD i 0 = b2 (decide (wjn.getD i 0 = 1))) i hi
theorem L_getWS (X : MC p l s m args meth c cc nL own G ρ A) {index : Nat} {w : Fin 32} (hn : ¬ w = 0) (d : decode cc pc = .ok (.getfield index, 3)) (hw : Cond.fieldLink own index RX11 "spelling" "Ljava/lang/String;" ∈ TW) (k : LW p l e R s m args below meth c Q G ρ A nL cells slots (pc + 3) lv (.ref (2001 + wsp (w.val - 1)) :: rest) κ) : LW p l e R s m args below meth c Q G ρ A nL cells slots pc lv (wv w :: rest) κ := by
  intro H locs ls hP hS hl
  obtain ⟨i, hi, e1, e2⟩ := wv_at hn
  rw [List.map_cons, e2]
  refine va_getX X.hx X.hb X.hS.2.1 (i := i) hi hS X.ho (X.hT _ hw) (fun _ h => h) d ?_
  have e3 : w.val - 1 = i := by omega
  rw [e3] at k
  exact k H locs ls hP hS hl
theorem L_getsList (X : MC p l s m args meth c cc nL own G ρ A) {index : Nat} (d : decode cc pc = .ok (.getstatic index, 3)) (hw : Cond.fieldLink own index RX11 "LIST" "[LFlumeOrders$Word;" ∈ TW) (k : LW p l e R s m args below meth c Q G ρ A nL cells slots (pc + 3) lv (.ref 1100 :: rest) κ) : LW p l e R s m args below meth c Q G ρ A nL cells slots pc lv rest κ := by
  intro H locs ls hP hS hl
  exact va_gets X.hx X.hb X.hS.2.2.2.1.1 hS X.ho (X.hT _ hw) (fun _ h => h) d (k H locs ls hP hS hl)
theorem L_getsSw (X : MC p l s m args meth c cc nL own G ρ A) {index : Nat} (d : decode cc pc = .ok (.getstatic index, 3)) (hw : Cond.fieldLink own index "FlumeOrders$1" "$SwitchMap$FlumeOrders$Word" "[I" ∈ TW) (k : LW p l e R s m args below meth c Q G ρ A nL cells slots (pc + 3) lv (.ref 1101 :: rest) κ) : LW p l e R s m args below meth c Q G ρ A nL cells slots pc lv rest κ := by
  intro H locs ls hP hS hl
  exact va_gets X.hx X.hb X.hS.2.2.2.2.1.1 hS X.ho (X.hT _ hw) (fun _ h => h) d (k H locs ls hP hS hl)
theorem L_lenList (X : MC p l s m args meth c cc nL own G ρ A) (d : decode cc pc = .ok (.arraylength, 1)) (k : LW p l e R s m args below meth c Q G ρ A nL cells slots (pc + 1) lv (.int 31 :: rest) κ) : LW p l e R s m args below meth c Q G ρ A nL cells slots pc lv (.ref 1100 :: rest) κ := by
  intro H locs ls hP hS hl
  exact va_tlen X.hx X.hb X.hS.2.2.2.1.2 hS rfl d (k H locs ls hP hS hl)
theorem L_aaldList (X : MC p l s m args meth c cc nL own G ρ A) {i : Int32} (hin : vp_in i 31) (d : decode cc pc = .ok (.aaload, 1)) (k : LW p l e R s m args below meth c Q G ρ A nL cells slots (pc + 1) lv (wv (wAt i.toNatClampNeg) :: rest) κ) : LW p l e R s m args below meth c Q G ρ A nL cells slots pc lv (.int i :: .ref 1100 :: rest) κ := by
  intro H locs ls hP hS hl
  refine vb_tq X.hx X.hb X.hS.2.2.2.1.2 hS hin rfl d ?_
  have h2 := k H locs ls hP hS hl
  have hi : i.toNatClampNeg < 31 := Nat.not_le.mp fun q => hin (Or.inr q)
  rw [List.map_cons, cv_wv] at h2
  have e1 : wO ρ (wAt i.toNatClampNeg) = some (ρ (1001 + i.toNatClampNeg)) := by
    unfold wO
    have e2 : (wAt i.toNatClampNeg).val = i.toNatClampNeg + 1 := Nat.mod_eq_of_lt (by omega)
    rw [if_neg (fun z => by rw [z] at e2; exact absurd e2 (by simp)), e2]
    exact congrArg some (congrArg ρ (by omega))
  rw [e1] at h2
  exact h2
theorem L_ialdSw (X : MC p l s m args meth c cc nL own G ρ A) {i : Int32} (hin : vp_in i 31) (d : decode cc pc = .ok (.iaload, 1)) (k : LW p l e R s m args below meth c Q G ρ A nL cells slots (pc + 1) lv (.int (swm.getD i.toNatClampNeg 0) :: rest) κ) : LW p l e R s m args below meth c Q G ρ A nL cells slots pc lv (.int i :: .ref 1101 :: rest) κ := by
  intro H locs ls hP hS hl
  exact va_ti X.hx X.hb X.hS.2.2.2.2.1.2 hS hin rfl d (k H locs ls hP hS hl)
theorem L_ldcS (X : MC p l s m args meth c cc nL RX13 G ρ A) {index i : Nat} (hi : (index, i) ∈ mtx) (d : decode cc pc = .ok (.ldc index, 2)) (k : LW p l e R s m args below meth c Q G ρ A nL cells slots (pc + 2) lv (.ref (2001 + i) :: rest) κ) : LW p l e R s m args below meth c Q G ρ A nL cells slots pc lv rest κ := by
  intro H locs ls hP hS hl
  exact va_ldcS X.hx X.hb X.ho (X.hS.2.2.2.2.2.2.2.2.2.1 _ hi) d (k H locs ls hP hS hl)
theorem L_aastW (X : MC p l s m args meth c cc nL own G ρ A) {a n : Nat} {i : Int32} {w : Fin 32} (h : KD a = (26, n)) (hin : vp_in i n) (hn : ¬ w = 0) (d : decode cc pc = .ok (.aastore, 1)) (k : LW p l e R s m args below meth c Q G ρ A nL cells slots (pc + 1) lv rest (uW cm a i.toNatClampNeg w, mm, oo)) : LW p l e R s m args below meth c Q G ρ A nL cells slots pc lv (wv w :: .int i :: .ref a :: rest) (cm, mm, oo) := by
  intro H locs ls hP hS hl
  obtain ⟨i9, hi, e1, e2⟩ := wv_at hn
  rw [List.map_cons, e2]
  have hany : va_Any RX11 s H (ρ (1001 + i9)) := by
    obtain ⟨cell, h1, h2, h3, h4⟩ := ((X.hS.1.1 i9 hi).2.1).kept hS.2.1
    obtain ⟨-, hfc, kC, hkC, -⟩ := X.hK.1 10 _ (rfl : vwCl[10]? = some (RX11, TX11, 0))
    have ecl : cell.cls = G.1.1 10 := Option.some.inj (h3.symm.trans hfc)
    refine ⟨cell, h1, h2, ⟨kC, by rw [ecl]; exact hkC⟩, fun comp2 h5 => ?_⟩
    have e5 : cell.cls = comp2 := Option.some.inj (h3.symm.trans h5)
    rw [e5]
    exact va_asg _ _
  refine va_astqM X.hx X.hb X.hK hP (X.hD _) hS (a - 1) 6 (he_word h) rfl hany hin d (fun H1 locs1 hP1 _ hS1 => ?_)
  obtain ⟨h1, h2⟩ := KD_in (a := a) (by rw [h]; show (26 : Nat) ≠ 99; omega)
  rw [wsK_set G ρ (cm, mm, oo) (uW cm a i.toNatClampNeg w, mm, oo) h1 h2 ?_ (fun b hb => cell_uW hb)] at hP1
  · exact k H1 locs1 ls hP1 hS1 hl
  · rw [cell_word h]
    refine congrArg (fun f => (Sum.inl (G.2 6, n, .inr (.inr (.inr (.inr f)))) : va_E)) (funext fun j => ?_)
    show wO ρ (up2 cm.2.2 a i.toNatClampNeg w a j) = va_up (fun i => wO ρ (cm.2.2 a i)) i.toNatClampNeg (some (ρ (1001 + i9))) j
    unfold up2 va_up
    by_cases q : j = i.toNatClampNeg
    · rw [if_pos ⟨rfl, q⟩, if_pos q]
      unfold wO
      rw [if_neg hn, e1]
      exact congrArg some (congrArg ρ (by omega))
    · rw [if_neg (fun z => q z.2), if_neg q]
end MORE
