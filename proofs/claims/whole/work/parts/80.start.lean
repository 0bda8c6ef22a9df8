def R_law : String := "FlumeOrdersLaw"
def lw_P (b : Addr) (xs : List Int32) (args : Array Value) (s : State) : Prop := args = #[.ref b] ∧ s.IntsAt b xs ∧ xs.length ≤ 3072 ∧ (Jvm.Cond.and given_1 narrow_1).before args s = true
def lw_Q (_ : Array Value) (s : State) (o : Outcome) (t : State) : Prop := o = .returned (some (.int 1)) ∧ Framed s o t [] 601024 7293034
def lw_Z (below : List Frame) (a : Array Value) (s : State) : State → Prop := fun t => ∃ o, t.status = .running ∧ Ended t below o ∧ lw_Q a s o t
/-- the law's own end, with 1 on the stack, nothing written that was there before, its room as the claim has it -/
theorem lw_ret {p : Program} {l : Launch} {e : Env} {s : State} {m : MethodId} {below : List Frame} {meth : Method} {c : Code} {b : Nat} (hx : p.tables.exec = Jvm.exec) (hb : c.code = code) (hr : meth.sig.returnType = ret) (hlocks : meth.locks = false) {pc : Nat} {H : Heap} {ls : Array Slot} (hdg : decode code pc = .ok (.ireturn, 1)) : W p l e room_1 s m #[Value.ref b] below meth c H [] 601024 7293034 (lw_Z below #[Value.ref b] s) (F0 m pc ls [.int 1]) := by
  intro T hT X
  obtain ⟨fs, hret, hrun, hended, hW, hframe⟩ := X.leave (v := some (.int 1)) (hlocks := hlocks) (fun h => by rw [hr] at h; cases h)
  have hmeth' : T.vm.method? m = some meth := X.method'
  refine ⟨T.setFrames fs, ?_, .returned (some (.int 1)), hrun, hended, rfl, ⟨_, rfl⟩, hW, hframe⟩
  jvm_step X.here [X.here.top, hx, hb, hdg, hmeth', hr, ret, narrow_b1]
  (try refine ⟨rfl, ?_⟩); (try refine ⟨rfl, ?_⟩)
  first | (intro acts; rw [hret _ acts rfl rfl rfl]) | rw [hret _ _ rfl rfl rfl]
  exact Steps.refl _
/-- what holds at the law's entry: the machine, the code, the tables' words (any of lw_tbl by 'hts w (by decide +kernel)'), the script of L ints xs at the cell b, what the Statement gives of the start (any of its parts by flat_of_before) -/
def lw_At (p : Program) (s : State) (m : MethodId) (meth : Method) (c : Code) (b L : Nat) (xs : Nat → Int32) : Prop :=
  p.tables.exec = Jvm.exec ∧ c.code = code ∧ meth.sig.returnType = ret ∧ c.maxLocals = 7 ∧ s.vm.findClass R_law = some m.cls ∧ (∀ w ∈ lw_tbl, w.before #[Value.ref b] s = true) ∧ va_X b L xs s s.heap ∧ b < s.heap.size ∧ meth.locks = false ∧ (Jvm.Cond.and given_1 narrow_1).before #[Value.ref b] s = true
theorem zL_0 : decode code 0 = .ok (.new 8, 3) := by decide +kernel
theorem zL_3 : decode code 3 = .ok (.dup, 1) := by decide +kernel
theorem zL_4 : decode code 4 = .ok (.invokespecial 74, 3) := by decide +kernel
theorem zL_7 : decode code 7 = .ok (.astore_n 1, 1) := by decide +kernel
theorem zL_8 : decode code 8 = .ok (.new 75, 3) := by decide +kernel
theorem zL_11 : decode code 11 = .ok (.dup, 1) := by decide +kernel
theorem zL_12 : decode code 12 = .ok (.invokespecial 77, 3) := by decide +kernel
theorem zL_15 : decode code 15 = .ok (.astore_n 2, 1) := by decide +kernel
theorem zL_16 : decode code 16 = .ok (.iconst 1, 1) := by decide +kernel
theorem zL_17 : decode code 17 = .ok (.newarray .long, 2) := by decide +kernel
theorem zL_19 : decode code 19 = .ok (.astore_n 3, 1) := by decide +kernel
theorem zL_20 : decode code 20 = .ok (.iconst 0, 1) := by decide +kernel
theorem zL_21 : decode code 21 = .ok (.istore 4, 2) := by decide +kernel
/-- a numbering as it is wanted -/
theorem rho_ex (B b : Nat) (adW adK adV : Nat → Nat) (tL tS tI : Nat) : ∃ ρ : Nat → Nat, (∀ x, 1 ≤ x → x ≤ 715 → ρ x = B + x) ∧ (∀ i, i < 31 → ρ (1001 + i) = adW i) ∧ (∀ i, i < 30 → ρ (2001 + i) = adK i) ∧ (∀ i, i < 30 → ρ (3001 + i) = adV i) ∧ ρ 1100 = tL ∧ ρ 1101 = tS ∧ ρ 4000 = tI ∧ ρ 5000 = b := by
  refine ⟨rhoE B b adW adK adV tL tS tI, fun x h1 h2 => ?_, fun i hi => ?_, fun i hi => ?_, fun i hi => ?_, ?_, ?_, ?_, ?_⟩
  · unfold rhoE
    rw [if_pos h2]
  · unfold rhoE
    rw [if_neg (by omega), if_neg (by omega), if_neg (by omega), if_neg (by omega), if_neg (by omega), if_pos (by omega), Nat.add_sub_cancel_left]
  · unfold rhoE
    rw [if_neg (by omega), if_neg (by omega), if_neg (by omega), if_neg (by omega), if_neg (by omega), if_neg (by omega), if_pos (by omega), Nat.add_sub_cancel_left]
  · unfold rhoE
    rw [if_neg (by omega), if_neg (by omega), if_neg (by omega), if_neg (by omega), if_neg (by omega), if_neg (by omega), if_neg (by omega), Nat.add_sub_cancel_left]
  · unfold rhoE
    rw [if_neg (by omega), if_pos rfl]
  · unfold rhoE
    rw [if_neg (by omega), if_neg (by omega), if_pos rfl]
  · unfold rhoE
    rw [if_neg (by omega), if_neg (by omega), if_neg (by omega), if_pos rfl]
  · unfold rhoE
    rw [if_neg (by omega), if_neg (by omega), if_neg (by omega), if_neg (by omega), if_pos rfl]
/-- what the constructors made is a world -/
theorem GW_P {G : Gd} {ρ : Nat → Nat} {B : Nat} {H : Heap} (h : GW G ρ B 1 715 [] H) : va_P G.1 vwCl (wsK G ρ kI0) H := by
  intro k q hq
  have hk : k < 715 := by rw [← wsK_len G ρ kI0]; exact (List.getElem?_eq_some_iff.mp hq).1
  have e := wsK_get G ρ kI0 (a := k + 1) (by omega) (by omega)
  rw [Nat.add_sub_cancel, hq] at e
  have e2 := Option.some.inj e
  rw [e2]
  have h9 := h.2 (k + 1) (by omega) (by omega)
  rw [EL_ge (by show 1 + 0 ≤ k + 1; omega)] at h9
  exact h9
/-- a new object keeps the invariant -/
theorem rf0 : ∀ x, x < 262 → (x < 13 ∨ 94 ≤ x) → cI0 (382 + (ad x).1) (ad x).2 = mI0 1 x := by decide +kernel
theorem m1_0 {x : Nat} (h5 : x ≠ 5) (h8 : x ≠ 8) (h10 : x ≠ 10) : mI0 1 x = 0 := by
  unfold mI0
  rw [if_neg (fun z => by omega), if_neg (fun z => by omega), if_neg (fun z => by omega), if_neg (fun z => by omega)]
theorem SI_0 : SI 0 kI0.1 kI0.2.1 := by
  have hM : ∀ x, x ≠ 5 → x ≠ 8 → x ≠ 10 → (kI0.2.1 1) x = 0 := fun x h5 h8 h10 => m1_0 h5 h8 h10
  have z0 : (0 : Int32) = nI 0 := rfl
  refine ⟨0, 0, 0, fun _ => (-1, []), ⟨?_, ?_, ?_, ?_⟩, ⟨?_, ?_, ?_, ?_, ?_, ?_, ?_⟩, ?_, ?_, ?_, ?_⟩
  · intro x hx
    have h9 : x < 262 ∧ (x < 13 ∨ 94 ≤ x) := by
      unfold DD at hx
      omega
    exact rf0 x h9.1 h9.2
  · intro r hr
    have h9 : r = 0 := by omega
    subst h9
    show cI0 406 3 = nI 0
    decide +kernel
  · intro i hi
    omega
  · intro i p h1 h2 h3
    omega
  · exact ⟨(hM 1 (by omega) (by omega) (by omega)).trans z0, by omega, (hM 2 (by omega) (by omega) (by omega)).trans z0, by omega, (hM 3 (by omega) (by omega) (by omega)).trans z0, rfl, ⟨0, (hM 0 (by omega) (by omega) (by omega)).trans z0, by omega⟩, by show 1 ≤ (mI0 1 5).toInt; decide +kernel, by show (mI0 1 5).toInt ≤ 9; decide +kernel, 0, (hM 4 (by omega) (by omega) (by omega)).trans z0, by omega⟩
  · intro r hr
    have h9 : r = 0 := by omega
    subst h9
    show 1 ≤ (mI0 1 10).toInt ∧ (mI0 1 10).toInt ≤ 20 ∧ 0 ≤ (mI0 1 11).toInt ∧ (mI0 1 11).toInt ≤ 99 ∧ 0 ≤ (mI0 1 12).toInt ∧ (mI0 1 12).toInt ≤ 9
    decide +kernel
  · intro j hj
    omega
  · refine ⟨0, (hM 9 (by omega) (by omega) (by omega)).trans z0, by omega, fun i hi => by omega, fun i j hi hj => ?_, fun i hi => ?_⟩
    · rw [hM _ (by omega) (by omega) (by omega)]
      decide
    · exact hM _ (by omega) (by omega) (by omega)
  · intro i p h1 h2 h3
    exact hM _ (by omega) (by omega) (by omega)
  · intro j hj
    omega
  · intro j hj
    rfl
  · intro i hi h
    exact absurd rfl h
  · exact ⟨0, by show cI0 2 1 = nI 0; decide +kernel, by show mI0 0 6 = nI 0; decide +kernel, by omega, fun i hi => by omega⟩
  · show cI0 4 7 = mI0 0 10
    decide +kernel
  · exact ⟨false, by show cI0 1 7 = 0; decide +kernel, by show mI0 0 3 = 0; decide +kernel, fun h => by cases h⟩
theorem nost {l : Launch} (h : l.flags = flags0) : l.stackTraces = false := by
  show (!l.flags.contains Jvm.noTraceFlag) = false
  rw [h]
  decide +kernel
set_option maxHeartbeats 4000000 in
set_option maxRecDepth 100000 in
/-- the law's first rows: the class, the reference, the long row -/
theorem law_first {p : Program} {l : Launch} {e : Env} {s : State} {m : MethodId} {args : Array Value} {below : List Frame} {meth : Method} {c : Code} {Q : State → Prop} {G : Gd} {ρ : Nat → Nat} {B : Nat} (Y : MG p s m args meth c code 7 RL G ρ B 1)
    (k : ∀ ce se, ce ≤ 715 → se ≤ 109806 → LW p l e room_1 s m args below meth c Q G ρ (fun q => B + 1 ≤ q) 7 ce se 23 [(0, .ref 5000), (1, .ref 1), (2, .ref 703), (3, .ref 715), (4, .int 0)] [] kI0) : LG p l e room_1 s m args below meth c Q G ρ B 1 7 0 0 0 [(0, .ref 5000)] [] 0 [] := by
  refine G_newC Y (fs := [.null, .null, .null, .null, .null, .null, .null, .int 0]) inX12 tyX12_ok rfl bl_11 tw_101 tw_102 tw_72 rfl rfl (Or.inl tw_103) tw_104 tw_105 (by decide +kernel) (k_X12 Y.hρ (by decide +kernel)) rfl rfl (by decide) zL_0 zL_3 zL_4 (by decide) (by decide) (by decide) ⟨Nat.le_of_ble_eq_true rfl, Nat.le_of_ble_eq_true rfl⟩ (Nat.le_of_ble_eq_true rfl) ?_
  refine LG.to (n' := 702) (L' := []) rfl rfl ?_
  refine G_astore_n (lv2 := [(1, .ref 1), (0, .ref 5000)]) Y zL_7 rfl (by decide) rfl ?_
  refine G_newC Y (fs := [.int 0, .null, .null, .int 0, .null, .null, .int 0, .int 0, .int 0, .int 0, .int 0, .int 0, .int 0, .int 0, .int 0, .int 0, .null, .null, .null, .null, .int 0, .int 0, .null, .null, .null]) inX13 tyX13_ok rfl bl_12 tw_1232 tw_1233 tw_83 rfl rfl (Or.inl tw_1234) tw_1235 tw_1236 (by decide +kernel) (k_X13 Y.hρ rfl) rfl rfl (by decide) zL_8 zL_11 zL_12 (by decide) (by decide) (by decide) ⟨Nat.le_of_ble_eq_true rfl, Nat.le_of_ble_eq_true rfl⟩ (Nat.le_of_ble_eq_true rfl) ?_
  refine LG.to (n' := 714) (L' := []) rfl rfl ?_
  refine G_astore_n (lv2 := [(2, .ref 703), (1, .ref 1), (0, .ref 5000)]) Y zL_15 rfl (by decide) rfl ?_
  refine G_iconst (x := 1) Y zL_16 (by decide) ?_
  refine G_newaL Y (N := 1) (L' := []) tw_1604 (by decide) (by decide) (by decide) ⟨Nat.le_of_ble_eq_true rfl, Nat.le_of_ble_eq_true rfl⟩ (by decide) (by decide) (fun x h1 h2 => rfl) ((EL_ge (by decide)).trans (ce_l (by decide +kernel))) zL_17 ?_
  refine LG.to (n' := 715) (L' := []) rfl rfl ?_
  refine G_astore_n (lv2 := [(3, .ref 715), (2, .ref 703), (1, .ref 1), (0, .ref 5000)]) Y zL_19 rfl (by decide) rfl ?_
  refine G_iconst (x := 0) Y zL_20 (by decide) ?_
  refine G_istore (lv2 := [(4, .int 0), (3, .ref 715), (2, .ref 703), (1, .ref 1), (0, .ref 5000)]) Y zL_21 (by decide) rfl ?_
  intro H locs ls hP hS hl
  exact LW.sub [4, 3, 2, 1, 0] rfl (k _ _ (Nat.le_of_ble_eq_true rfl) (Nat.le_of_ble_eq_true rfl)) H locs ls (GW_P hP) hS hl
set_option maxHeartbeats 4000000 in
set_option maxRecDepth 100000 in
/-- from the entry, for every script of at most 3072 ints, the law comes to its end with true -/
theorem whole_start {p : Program} {e : Env} {s : State} {m : MethodId} {below : List Frame} {meth : Method} {c : Code} (l : Launch) (hflags : l.flags = flags0) {b L : Nat} {xs : Nat → Int32} (hL : L ≤ 3072) (C0 : lw_At p s m meth c b L xs) : W p l e room_1 s m #[Value.ref b] below meth c s.heap [] 0 0 (lw_Z below #[Value.ref b] s) (entryFrame m ([Value.ref b] : List Value).toArray 7) := by
  obtain ⟨hx, hb, hr, hml, hown, hts, hX, hbl, hlocks, hgv⟩ := C0
  have hst := nost hflags
  obtain ⟨B, hB⟩ : ∃ B, s.heap.size = B + 1 := ⟨s.heap.size - 1, by omega⟩
  have hA : ∀ a : Nat, a < s.heap.size → ¬ (fun q : Nat => B + 1 ≤ q) a := fun a h z => by
    have z2 : B + 1 ≤ a := z
    omega
  have hs : ∀ w ∈ NWL, w.before #[Value.ref b] s = true := flat_of_before _ hgv
  obtain ⟨adW, adK, adV, tL, tS, tI, hads⟩ := ads_of hs hts hA
  obtain ⟨ρ, r0, r1, r2, r3, r4, r5, r6, r7⟩ := rho_ex B b adW adK adV tL tS tI
  obtain ⟨G, hG⟩ := known_of hts
  have hSt : Stat ρ (fun q : Nat => B + 1 ≤ q) s s.heap := stat_of hs hts hA hads r1 r2 r3 r4 r5 r6
  have hinj : InjR ρ := fun x y x1 x2 y1 y2 h => by
    rw [r0 x x1 x2, r0 y y1 y2] at h
    omega
  have X : MC p l s m #[Value.ref b] meth c code 7 RL G ρ (fun q : Nat => B + 1 ≤ q) := ⟨hx, hb, hml, hown, TW_of hts, hG, hlocks, hst, fun x h1 h2 => by
    show B + 1 ≤ ρ x
    rw [r0 x h1 h2]
    omega, fun q hq => by
    show B + 1 ≤ q
    omega, hinj, hSt⟩
  have Y : MG p s m #[Value.ref b] meth c code 7 RL G ρ B 1 := ⟨hx, hb, hml, hown, TW_of hts, hG, hlocks, r0, aok_of hts, Nat.le_refl 1, by omega⟩
  have hXb : va_X (ρ 5000) L xs s s.heap := by
    rw [r7]
    exact hX
  have hend : ∀ (pc : Nat) (lv : List (Nat × Value)) (cm : CMu) (mm : Nat → Nat → Int32) (oo : Nat → Int64) (ce se : Nat), ce ≤ 600000 → se ≤ 7200000 → decode code pc = .ok (.ireturn, 1) → LW p l e room_1 s m #[Value.ref b] below meth c (lw_Z below #[Value.ref b] s) G ρ (fun q : Nat => B + 1 ≤ q) 7 ce se pc lv [.int 1] (cm, mm, oo) := by
    intro pc lv cm mm oo ce se h1 h2 d H locs ls hP hS hl
    refine va_forget (fun q hq => ?_) (W.widen (Nat.le_trans h1 (Nat.le_of_ble_eq_true rfl)) (Nat.le_trans h2 (Nat.le_of_ble_eq_true rfl)) (lw_ret hx hb hr hlocks d))
    rw [hB]
    exact hS.2.2 q hq
  have hB0 : B_L_law L xs (L / 6 + 1 + 1) 0 kI0.1 kI0.2.1 kI0.2.2 := law_loop hL (L / 6 + 1) 0 kI0.1 kI0.2.1 kI0.2.2 (by omega) SI_0
  have hlg := law_first (below := below) (Q := lw_Z below #[Value.ref b] s) Y (fun ce se h1 h2 => T_L_law X hXb (by rw [r7]; exact hbl) (by rw [r7]; exact hA b hbl) hend (L / 6 + 1 + 1) 0 kI0.1 kI0.2.1 kI0.2.2 ce se (by omega) (by omega) hB0)
  have hl := lv_entry ([.ref b]) (n := 7) (Nat.le_of_ble_eq_true rfl)
  rw [lg_entry_eq]
  refine hlg s.heap [] _ ⟨hB, fun x h1 h2 => by omega⟩ va_S.rf ?_
  show lv_has _ 7 [(0, Value.ref (ρ 5000))]
  rw [r7]
  exact hl
