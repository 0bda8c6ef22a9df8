theorem yk_X13_timeOf : yX13_timeOf.cls ≠ "java/lang/invoke/MethodHandle" ∧ yX13_timeOf.cls ≠ "java/lang/invoke/VarHandle" ∧ (parseMethodDescriptor yX13_timeOf.desc).map (fun d => d.parameters.length) = some 3 := by decide +kernel
theorem lk_X13_230 : LinkS RX13 230 yX13_timeOf (.code yX13_timeOf cX13_timeOf 3 (some .int)) 3 := ⟨tw_1491, tw_1492, tw_83, tw_1493, yk_X13_timeOf⟩
theorem d_X13_wayOf_0 : decode cX13_wayOf 0 = .ok (.iconst 0, 1) := by decide +kernel
theorem d_X13_wayOf_1 : decode cX13_wayOf 1 = .ok (.istore 5, 2) := by decide +kernel
theorem d_X13_wayOf_3 : decode cX13_wayOf 3 = .ok (.iload_n 1, 1) := by decide +kernel
theorem d_X13_wayOf_4 : decode cX13_wayOf 4 = .ok (.istore 6, 2) := by decide +kernel
theorem d_X13_wayOf_6 : decode cX13_wayOf 6 = .ok (.iload 6, 2) := by decide +kernel
theorem d_X13_wayOf_8 : decode cX13_wayOf 8 = .ok (.iload_n 2, 1) := by decide +kernel
theorem d_X13_wayOf_9 : decode cX13_wayOf 9 = .ok (.if_icmp .ge 27, 3) := by decide +kernel
theorem d_X13_wayOf_12 : decode cX13_wayOf 12 = .ok (.iload 5, 2) := by decide +kernel
theorem d_X13_wayOf_14 : decode cX13_wayOf 14 = .ok (.aload_n 0, 1) := by decide +kernel
theorem d_X13_wayOf_15 : decode cX13_wayOf 15 = .ok (.iload 6, 2) := by decide +kernel
theorem d_X13_wayOf_17 : decode cX13_wayOf 17 = .ok (.iconst 0, 1) := by decide +kernel
theorem d_X13_wayOf_18 : decode cX13_wayOf 18 = .ok (.invokevirtual 224, 3) := by decide +kernel
theorem d_X13_wayOf_21 : decode cX13_wayOf 21 = .ok (.iload_n 3, 1) := by decide +kernel
theorem d_X13_wayOf_22 : decode cX13_wayOf 22 = .ok (.iload 4, 2) := by decide +kernel
theorem d_X13_wayOf_24 : decode cX13_wayOf 24 = .ok (.invokestatic 230, 3) := by decide +kernel
theorem d_X13_wayOf_27 : decode cX13_wayOf 27 = .ok (.iadd, 1) := by decide +kernel
theorem d_X13_wayOf_28 : decode cX13_wayOf 28 = .ok (.istore 5, 2) := by decide +kernel
theorem d_X13_wayOf_30 : decode cX13_wayOf 30 = .ok (.iinc 6 1, 3) := by decide +kernel
theorem d_X13_wayOf_33 : decode cX13_wayOf 33 = .ok (.goto (-27), 3) := by decide +kernel
theorem d_X13_wayOf_36 : decode cX13_wayOf 36 = .ok (.iload 5, 2) := by decide +kernel
theorem d_X13_wayOf_38 : decode cX13_wayOf 38 = .ok (.ireturn, 1) := by decide +kernel
abbrev rm_X13_wayOf : Room := { frames := 1, cells := 0, slots := 0, locals := 22 }
def B_X13_wayOf_6 (post : Int32 → (Nat → Nat → Int32) → Prop) : Nat → Int32 → Int32 → Int32 → Int32 → Int32 → (Nat → Nat → Int32) → Prop
  | 0 => fun _ _ _ _ _ _ => False
  | n + 1 => fun v2 v3 v4 v5 v6 mm => (v2 ≤ v6 → (post v5 mm)) ∧ (¬ v2 ≤ v6 → (w_X13_reachOf (fun (r1 : Int32) (u2 : (Nat → Nat → Int32)) => w_X13_timeOf (fun (r3 : Int32) (u4 : (Nat → Nat → Int32)) => B_X13_wayOf_6 post n v2 v3 v4 (v5 + r3) (v6 + 1) u4) r1 v3 v4 u2) v6 0 mm))
def w_X13_wayOf (post : Int32 → (Nat → Nat → Int32) → Prop) (x1 : Int32) (x2 : Int32) (x3 : Int32) (x4 : Int32) (mm : (Nat → Nat → Int32)) : Prop := ∃ n6, B_X13_wayOf_6 post n6 x2 x3 x4 0 x1 mm
section G_X13_wayOf
variable {p : Program} {l : Launch} {e : Env} {s : State} {m : MethodId} {args : Array Value} {below : List Frame} {meth : Method} {c : Code} {G : Gd} {ρ : Nat → Nat} {A : Nat → Prop} {cm : CMu} {oo : Nat → Int64}
set_option maxHeartbeats 4000000 in
set_option maxRecDepth 100000 in
theorem T_X13_wayOf_6 {post : Int32 → (Nat → Nat → Int32) → Prop} (hl : l.stackTraces = false) (X : MC p l s m args meth c cX13_wayOf 7 RX13 G ρ A) (hr : meth.sig.returnType = (some .int)) (hex : ∀ z ∈ c.exceptionTable.toList, False) (n : Nat) : ∀ (v2 : Int32) (v3 : Int32) (v4 : Int32) (v5 : Int32) (v6 : Int32) (mm : (Nat → Nat → Int32)), B_X13_wayOf_6 post n v2 v3 v4 v5 v6 mm → LW p l e rm_X13_wayOf s m args below meth c (Qm below G ρ A (PI (fun u => (cm, u, oo)) post) noX args s 0 0) G ρ A 7 0 0 6 [(0, .ref 703), (2, .int v2), (3, .int v3), (4, .int v4), (5, .int v5), (6, .int v6)] [] (cm, mm, oo) := by
  induction n with
  | zero =>
    intro v2 v3 v4 v5 v6 mm h
    exact False.elim h
  | succ n ih =>
    intro v2 v3 v4 v5 v6 mm h
    unfold B_X13_wayOf_6 at h
    refine L_iload (pc := 6) X d_X13_wayOf_6 5 rfl ?_
    refine L_iload_n (pc := 8) X d_X13_wayOf_8 rfl 1 rfl ?_
    refine L_icmp_ge (pc := 9) (tgt := 36) X d_X13_wayOf_9 (by decide) (fun c9 => ?_) (fun c9 => ?_)
    · replace h := h.1 c9
      refine L_iload (pc := 36) X d_X13_wayOf_36 4 rfl ?_
      exact L_iret (pc := 38) X hr d_X13_wayOf_38 (by decide) (by decide) ⟨_, _, rfl, rfl, h⟩
    · replace h := h.2 c9
      refine L_iload (pc := 12) X d_X13_wayOf_12 4 rfl ?_
      refine L_aload_n (pc := 14) X d_X13_wayOf_14 rfl 0 rfl ?_
      refine L_iload (pc := 15) X d_X13_wayOf_15 5 rfl ?_
      refine L_iconst (pc := 17) (v := 0) X d_X13_wayOf_17 (by decide) ?_
      refine L_callVI (pc := 18) X lk_X13_224 (c_X13_reachOf X.hst  h) rfl rfl kd_703 (by decide) rfl rfl ⟨by decide, by decide⟩ ⟨by decide, by decide⟩ (Nat.le_of_ble_eq_true rfl) d_X13_wayOf_18 rfl (fun x κ1 hx => L_nox hx) (fun r1 u2 h => ?_)
      refine L_iload_n (pc := 21) X d_X13_wayOf_21 rfl 2 rfl ?_
      refine L_iload (pc := 22) X d_X13_wayOf_22 3 rfl ?_
      refine L_callSI (pc := 24) X lk_X13_230 (c_X13_timeOf X.hst  h) rfl rfl rfl ⟨by decide, by decide⟩ ⟨by decide, by decide⟩ (Nat.le_of_ble_eq_true rfl) d_X13_wayOf_24 rfl (fun x κ1 hx => L_nox hx) (fun r3 u4 h => ?_)
      refine L_iadd (pc := 27) X d_X13_wayOf_27 ?_
      refine L_istore (pc := 28) (lv2 := [(5, .int (v5 + r3)), (0, .ref 703), (2, .int v2), (3, .int v3), (4, .int v4), (6, .int v6)]) X d_X13_wayOf_28 (by decide) rfl ?_
      refine L_iinc (pc := 30) (v := v6 + 1) (lv2 := [(6, .int (v6 + 1)), (5, .int (v5 + r3)), (0, .ref 703), (2, .int v2), (3, .int v3), (4, .int v4)]) X d_X13_wayOf_30 5 rfl rfl (by decide) rfl ?_
      refine L_goto (pc := 33) (tgt := 6) X d_X13_wayOf_33 (by decide) ?_
      refine LW.sub [2, 3, 4, 5, 1, 0] rfl ?_
      exact ih _ _ _ _ _  _ h
set_option maxHeartbeats 4000000 in
set_option maxRecDepth 100000 in
theorem c_X13_wayOf (hl : l.stackTraces = false) {x1 : Int32} {x2 : Int32} {x3 : Int32} {x4 : Int32} {mm : (Nat → Nat → Int32)} {post : Int32 → (Nat → Nat → Int32) → Prop} (h : w_X13_wayOf post x1 x2 x3 x4 mm) : CT l yX13_wayOf (.code yX13_wayOf cX13_wayOf 7 (some .int)) rm_X13_wayOf 0 0 G ρ [.ref 703, .int x1, .int x2, .int x3, .int x4] (cm, mm, oo) (PI (fun u => (cm, u, oo)) post) noX := by
  refine CT_of hl (by decide +kernel) rfl (Nat.le_of_ble_eq_true rfl) (lv0 := [(0, .ref 703), (1, .int x1), (2, .int x2), (3, .int x3), (4, .int x4)]) rfl (fun p e s m args below meth c A X hr hex hnm => ?_)
  unfold w_X13_wayOf at h
  refine L_iconst (pc := 0) (v := 0) X d_X13_wayOf_0 (by decide) ?_
  refine L_istore (pc := 1) (lv2 := [(5, .int 0), (0, .ref 703), (1, .int x1), (2, .int x2), (3, .int x3), (4, .int x4)]) X d_X13_wayOf_1 (by decide) rfl ?_
  refine L_iload_n (pc := 3) X d_X13_wayOf_3 rfl 2 rfl ?_
  refine L_istore (pc := 4) (lv2 := [(6, .int x1), (5, .int 0), (0, .ref 703), (1, .int x1), (2, .int x2), (3, .int x3), (4, .int x4)]) X d_X13_wayOf_4 (by decide) rfl ?_
  obtain ⟨n6, h⟩ := h
  refine LW.sub [2, 4, 5, 6, 1, 0] rfl ?_
  exact T_X13_wayOf_6 hl X hr hex n6 _ _ _ _ _  _ h
end G_X13_wayOf
theorem d_X13_twoStations_0 : decode cX13_twoStations 0 = .ok (.aload_n 0, 1) := by decide +kernel
theorem d_X13_twoStations_1 : decode cX13_twoStations 1 = .ok (.iload_n 1, 1) := by decide +kernel
theorem d_X13_twoStations_2 : decode cX13_twoStations 2 = .ok (.aload_n 0, 1) := by decide +kernel
theorem d_X13_twoStations_3 : decode cX13_twoStations 3 = .ok (.getfield 7, 3) := by decide +kernel
theorem d_X13_twoStations_6 : decode cX13_twoStations 6 = .ok (.iconst 1, 1) := by decide +kernel
theorem d_X13_twoStations_7 : decode cX13_twoStations 7 = .ok (.iaload, 1) := by decide +kernel
theorem d_X13_twoStations_8 : decode cX13_twoStations 8 = .ok (.iconst 1, 1) := by decide +kernel
theorem d_X13_twoStations_9 : decode cX13_twoStations 9 = .ok (.iadd, 1) := by decide +kernel
theorem d_X13_twoStations_10 : decode cX13_twoStations 10 = .ok (.invokevirtual 206, 3) := by decide +kernel
theorem d_X13_twoStations_13 : decode cX13_twoStations 13 = .ok (.ifCond .eq 19, 3) := by decide +kernel
theorem d_X13_twoStations_16 : decode cX13_twoStations 16 = .ok (.aload_n 0, 1) := by decide +kernel
theorem d_X13_twoStations_17 : decode cX13_twoStations 17 = .ok (.iload_n 2, 1) := by decide +kernel
theorem d_X13_twoStations_18 : decode cX13_twoStations 18 = .ok (.aload_n 0, 1) := by decide +kernel
theorem d_X13_twoStations_19 : decode cX13_twoStations 19 = .ok (.getfield 7, 3) := by decide +kernel
theorem d_X13_twoStations_22 : decode cX13_twoStations 22 = .ok (.iconst 1, 1) := by decide +kernel
theorem d_X13_twoStations_23 : decode cX13_twoStations 23 = .ok (.iaload, 1) := by decide +kernel
theorem d_X13_twoStations_24 : decode cX13_twoStations 24 = .ok (.iconst 1, 1) := by decide +kernel
theorem d_X13_twoStations_25 : decode cX13_twoStations 25 = .ok (.iadd, 1) := by decide +kernel
theorem d_X13_twoStations_26 : decode cX13_twoStations 26 = .ok (.invokevirtual 206, 3) := by decide +kernel
theorem d_X13_twoStations_29 : decode cX13_twoStations 29 = .ok (.ifCond .ne 7, 3) := by decide +kernel
theorem d_X13_twoStations_32 : decode cX13_twoStations 32 = .ok (.iconst 1, 1) := by decide +kernel
theorem d_X13_twoStations_33 : decode cX13_twoStations 33 = .ok (.goto 13, 3) := by decide +kernel
theorem d_X13_twoStations_36 : decode cX13_twoStations 36 = .ok (.iload_n 2, 1) := by decide +kernel
theorem d_X13_twoStations_37 : decode cX13_twoStations 37 = .ok (.iload_n 1, 1) := by decide +kernel
theorem d_X13_twoStations_38 : decode cX13_twoStations 38 = .ok (.if_icmp .ge 7, 3) := by decide +kernel
theorem d_X13_twoStations_41 : decode cX13_twoStations 41 = .ok (.iconst 2, 1) := by decide +kernel
theorem d_X13_twoStations_42 : decode cX13_twoStations 42 = .ok (.goto 4, 3) := by decide +kernel
theorem d_X13_twoStations_45 : decode cX13_twoStations 45 = .ok (.iconst 0, 1) := by decide +kernel
theorem d_X13_twoStations_46 : decode cX13_twoStations 46 = .ok (.ireturn, 1) := by decide +kernel
abbrev rm_X13_twoStations : Room := { frames := 2, cells := 0, slots := 0, locals := 44 }
def w_X13_twoStations (post : Int32 → (Nat → Nat → Int32) → Prop) (x1 : Int32) (x2 : Int32) (mm : (Nat → Nat → Int32)) : Prop := w_X13_isStation (fun (r1 : Bool) (u2 : (Nat → Nat → Int32)) => ((r1 = false) → (post 1 u2)) ∧ (¬ (r1 = false) → (w_X13_isStation (fun (r3 : Bool) (u4 : (Nat → Nat → Int32)) => (¬ (r3 = false) → ((x1 ≤ x2 → (post 0 u4)) ∧ (¬ x1 ≤ x2 → (post 2 u4)))) ∧ ((r3 = false) → (post 1 u4))) x2 ((u2 1 (Int32.toNatClampNeg (1 : Int32))) + 1) u2))) x1 ((mm 1 (Int32.toNatClampNeg (1 : Int32))) + 1) mm
section G_X13_twoStations
variable {p : Program} {l : Launch} {e : Env} {s : State} {m : MethodId} {args : Array Value} {below : List Frame} {meth : Method} {c : Code} {G : Gd} {ρ : Nat → Nat} {A : Nat → Prop} {cm : CMu} {oo : Nat → Int64}
set_option maxHeartbeats 4000000 in
set_option maxRecDepth 100000 in
theorem c_X13_twoStations (hl : l.stackTraces = false) {x1 : Int32} {x2 : Int32} {mm : (Nat → Nat → Int32)} {post : Int32 → (Nat → Nat → Int32) → Prop} (h : w_X13_twoStations post x1 x2 mm) : CT l yX13_twoStations (.code yX13_twoStations cX13_twoStations 3 (some .int)) rm_X13_twoStations 0 0 G ρ [.ref 703, .int x1, .int x2] (cm, mm, oo) (PI (fun u => (cm, u, oo)) post) noX := by
  refine CT_of hl (by decide +kernel) rfl (Nat.le_of_ble_eq_true rfl) (lv0 := [(0, .ref 703), (1, .int x1), (2, .int x2)]) rfl (fun p e s m args below meth c A X hr hex hnm => ?_)
  unfold w_X13_twoStations at h
  refine L_aload_n (pc := 0) X d_X13_twoStations_0 rfl 0 rfl ?_
  refine L_iload_n (pc := 1) X d_X13_twoStations_1 rfl 1 rfl ?_
  refine L_aload_n (pc := 2) X d_X13_twoStations_2 rfl 0 rfl ?_
  refine gf_X13_7 (pc := 3) X d_X13_twoStations_3 ?_
  refine L_iconst (pc := 6) (v := 1) X d_X13_twoStations_6 (by decide) ?_
  refine L_ialdM (pc := 7) (a := 1) X d_X13_twoStations_7 kd_704 (by unfold vp_in; decide) ?_
  refine L_iconst (pc := 8) (v := 1) X d_X13_twoStations_8 (by decide) ?_
  refine L_iadd (pc := 9) X d_X13_twoStations_9 ?_
  refine L_callVZ (pc := 10) X lk_X13_206 (c_X13_isStation X.hst  h) rfl rfl kd_703 (by decide) rfl rfl ⟨by decide, by decide⟩ ⟨by decide, by decide⟩ (Nat.zero_le _) d_X13_twoStations_10 rfl (fun x κ1 hx => L_nox hx) (fun r1 u2 h => ?_)
  refine L_if_eq (pc := 13) (tgt := 32) X d_X13_twoStations_13 (by decide) (fun c13 => ?_) (fun c13 => ?_)
  · replace h := h.1 ((b2_0 _).mp c13)
    refine L_iconst (pc := 32) (v := 1) X d_X13_twoStations_32 (by decide) ?_
    refine L_goto (pc := 33) (tgt := 46) X d_X13_twoStations_33 (by decide) ?_
    exact L_iret (pc := 46) X hr d_X13_twoStations_46 (by decide) (by decide) ⟨_, _, rfl, rfl, h⟩
  · replace h := h.2 (fun z => c13 ((b2_0 _).mpr z))
    refine L_aload_n (pc := 16) X d_X13_twoStations_16 rfl 0 rfl ?_
    refine L_iload_n (pc := 17) X d_X13_twoStations_17 rfl 2 rfl ?_
    refine L_aload_n (pc := 18) X d_X13_twoStations_18 rfl 0 rfl ?_
    refine gf_X13_7 (pc := 19) X d_X13_twoStations_19 ?_
    refine L_iconst (pc := 22) (v := 1) X d_X13_twoStations_22 (by decide) ?_
    refine L_ialdM (pc := 23) (a := 1) X d_X13_twoStations_23 kd_704 (by unfold vp_in; decide) ?_
    refine L_iconst (pc := 24) (v := 1) X d_X13_twoStations_24 (by decide) ?_
    refine L_iadd (pc := 25) X d_X13_twoStations_25 ?_
    refine L_callVZ (pc := 26) X lk_X13_206 (c_X13_isStation X.hst  h) rfl rfl kd_703 (by decide) rfl rfl ⟨by decide, by decide⟩ ⟨by decide, by decide⟩ (Nat.zero_le _) d_X13_twoStations_26 rfl (fun x κ1 hx => L_nox hx) (fun r3 u4 h => ?_)
    refine L_if_ne (pc := 29) (tgt := 36) X d_X13_twoStations_29 (by decide) (fun c29 => ?_) (fun c29 => ?_)
    · replace h := h.1 (fun z => c29 ((b2_0 _).mpr z))
      refine L_iload_n (pc := 36) X d_X13_twoStations_36 rfl 2 rfl ?_
      refine L_iload_n (pc := 37) X d_X13_twoStations_37 rfl 1 rfl ?_
      refine L_icmp_ge (pc := 38) (tgt := 45) X d_X13_twoStations_38 (by decide) (fun c38 => ?_) (fun c38 => ?_)
      · replace h := h.1 c38
        refine L_iconst (pc := 45) (v := 0) X d_X13_twoStations_45 (by decide) ?_
        exact L_iret (pc := 46) X hr d_X13_twoStations_46 (by decide) (by decide) ⟨_, _, rfl, rfl, h⟩
      · replace h := h.2 c38
        refine L_iconst (pc := 41) (v := 2) X d_X13_twoStations_41 (by decide) ?_
        refine L_goto (pc := 42) (tgt := 46) X d_X13_twoStations_42 (by decide) ?_
        exact L_iret (pc := 46) X hr d_X13_twoStations_46 (by decide) (by decide) ⟨_, _, rfl, rfl, h⟩
    · replace h := h.2 ((b2_0 _).mp c29)
      refine L_iconst (pc := 32) (v := 1) X d_X13_twoStations_32 (by decide) ?_
      refine L_goto (pc := 33) (tgt := 46) X d_X13_twoStations_33 (by decide) ?_
      exact L_iret (pc := 46) X hr d_X13_twoStations_46 (by decide) (by decide) ⟨_, _, rfl, rfl, h⟩
end G_X13_twoStations
theorem yk_X13_twoStations : yX13_twoStations.cls = RX13 ∧ yX13_twoStations.cls ≠ "java/lang/invoke/MethodHandle" ∧ yX13_twoStations.cls ≠ "java/lang/invoke/VarHandle" ∧ (parseMethodDescriptor yX13_twoStations.desc).map (fun d => d.parameters.length) = some 2 := by decide +kernel
theorem lk_X13_247 : LinkV RX13 247 RX13 yX13_twoStations (.code yX13_twoStations cX13_twoStations 3 (some .int)) 2 := ⟨tw_1527, tw_1529, tw_65, tw_83, tw_1530, yk_X13_twoStations⟩
theorem yk_X13_wayOf : yX13_wayOf.cls = RX13 ∧ yX13_wayOf.cls ≠ "java/lang/invoke/MethodHandle" ∧ yX13_wayOf.cls ≠ "java/lang/invoke/VarHandle" ∧ (parseMethodDescriptor yX13_wayOf.desc).map (fun d => d.parameters.length) = some 4 := by decide +kernel
theorem lk_X13_250 : LinkV RX13 250 RX13 yX13_wayOf (.code yX13_wayOf cX13_wayOf 7 (some .int)) 4 := ⟨tw_1531, tw_1533, tw_66, tw_83, tw_1534, yk_X13_wayOf⟩
theorem d_X13_time_0 : decode cX13_time 0 = .ok (.aload_n 0, 1) := by decide +kernel
theorem d_X13_time_1 : decode cX13_time 1 = .ok (.aload_n 0, 1) := by decide +kernel
theorem d_X13_time_2 : decode cX13_time 2 = .ok (.iload_n 1, 1) := by decide +kernel
theorem d_X13_time_3 : decode cX13_time 3 = .ok (.iload_n 2, 1) := by decide +kernel
theorem d_X13_time_4 : decode cX13_time 4 = .ok (.invokevirtual 247, 3) := by decide +kernel
theorem d_X13_time_7 : decode cX13_time 7 = .ok (.putfield 47, 3) := by decide +kernel
theorem d_X13_time_10 : decode cX13_time 10 = .ok (.aload_n 0, 1) := by decide +kernel
theorem d_X13_time_11 : decode cX13_time 11 = .ok (.getfield 47, 3) := by decide +kernel
theorem d_X13_time_14 : decode cX13_time 14 = .ok (.ifCond .ne 29, 3) := by decide +kernel
theorem d_X13_time_17 : decode cX13_time 17 = .ok (.iload_n 3, 1) := by decide +kernel
theorem d_X13_time_18 : decode cX13_time 18 = .ok (.iconst 1, 1) := by decide +kernel
theorem d_X13_time_19 : decode cX13_time 19 = .ok (.bipush 9, 2) := by decide +kernel
theorem d_X13_time_21 : decode cX13_time 21 = .ok (.invokestatic 50, 3) := by decide +kernel
theorem d_X13_time_24 : decode cX13_time 24 = .ok (.ifCond .eq 14, 3) := by decide +kernel
theorem d_X13_time_27 : decode cX13_time 27 = .ok (.iload 4, 2) := by decide +kernel
theorem d_X13_time_29 : decode cX13_time 29 = .ok (.iconst 1, 1) := by decide +kernel
theorem d_X13_time_30 : decode cX13_time 30 = .ok (.bipush 9, 2) := by decide +kernel
theorem d_X13_time_32 : decode cX13_time 32 = .ok (.invokestatic 50, 3) := by decide +kernel
theorem d_X13_time_35 : decode cX13_time 35 = .ok (.ifCond .ne 8, 3) := by decide +kernel
theorem d_X13_time_38 : decode cX13_time 38 = .ok (.aload_n 0, 1) := by decide +kernel
theorem d_X13_time_39 : decode cX13_time 39 = .ok (.iconst 2, 1) := by decide +kernel
theorem d_X13_time_40 : decode cX13_time 40 = .ok (.putfield 47, 3) := by decide +kernel
theorem d_X13_time_43 : decode cX13_time 43 = .ok (.aload_n 0, 1) := by decide +kernel
theorem d_X13_time_44 : decode cX13_time 44 = .ok (.getfield 47, 3) := by decide +kernel
theorem d_X13_time_47 : decode cX13_time 47 = .ok (.ifCond .le 5, 3) := by decide +kernel
theorem d_X13_time_50 : decode cX13_time 50 = .ok (.iconst 0, 1) := by decide +kernel
theorem d_X13_time_51 : decode cX13_time 51 = .ok (.ireturn, 1) := by decide +kernel
theorem d_X13_time_52 : decode cX13_time 52 = .ok (.aload_n 0, 1) := by decide +kernel
theorem d_X13_time_53 : decode cX13_time 53 = .ok (.iload_n 1, 1) := by decide +kernel
theorem d_X13_time_54 : decode cX13_time 54 = .ok (.iload_n 2, 1) := by decide +kernel
theorem d_X13_time_55 : decode cX13_time 55 = .ok (.iload_n 3, 1) := by decide +kernel
theorem d_X13_time_56 : decode cX13_time 56 = .ok (.iload 4, 2) := by decide +kernel
theorem d_X13_time_58 : decode cX13_time 58 = .ok (.invokevirtual 250, 3) := by decide +kernel
theorem d_X13_time_61 : decode cX13_time 61 = .ok (.ireturn, 1) := by decide +kernel
abbrev rm_X13_time : Room := { frames := 3, cells := 0, slots := 0, locals := 66 }
def B_X13_time_43 (post : Int32 → (Nat → Nat → Int32) → Prop) (v1 : Int32) (v2 : Int32) (v3 : Int32) (v4 : Int32) (mm : (Nat → Nat → Int32)) : Prop := ((mm 0 0) ≤ 0 → (w_X13_wayOf (fun (r7 : Int32) (u8 : (Nat → Nat → Int32)) => post r7 u8) v1 v2 v3 v4 mm)) ∧ (¬ (mm 0 0) ≤ 0 → (post 0 mm))
def B_X13_time_38 (post : Int32 → (Nat → Nat → Int32) → Prop) (v1 : Int32) (v2 : Int32) (v3 : Int32) (v4 : Int32) (mm : (Nat → Nat → Int32)) : Prop := B_X13_time_43 post v1 v2 v3 v4 (up2 mm 0 0 2)
def w_X13_time (post : Int32 → (Nat → Nat → Int32) → Prop) (x1 : Int32) (x2 : Int32) (x3 : Int32) (x4 : Int32) (mm : (Nat → Nat → Int32)) : Prop := w_X13_twoStations (fun (r1 : Int32) (u2 : (Nat → Nat → Int32)) => (¬ ((up2 u2 0 0 r1) 0 0) = 0 → (B_X13_time_43 post x1 x2 x3 x4 (up2 u2 0 0 r1))) ∧ (((up2 u2 0 0 r1) 0 0) = 0 → (w_X13_isIn (fun (r3 : Bool) (u4 : (Nat → Nat → Int32)) => ((r3 = false) → (B_X13_time_38 post x1 x2 x3 x4 u4)) ∧ (¬ (r3 = false) → (w_X13_isIn (fun (r5 : Bool) (u6 : (Nat → Nat → Int32)) => (¬ (r5 = false) → (B_X13_time_43 post x1 x2 x3 x4 u6)) ∧ ((r5 = false) → (B_X13_time_38 post x1 x2 x3 x4 u6))) x4 1 9 u4))) x3 1 9 (up2 u2 0 0 r1)))) x1 x2 mm
section G_X13_time
variable {p : Program} {l : Launch} {e : Env} {s : State} {m : MethodId} {args : Array Value} {below : List Frame} {meth : Method} {c : Code} {G : Gd} {ρ : Nat → Nat} {A : Nat → Prop} {cm : CMu} {oo : Nat → Int64}
set_option maxHeartbeats 4000000 in
set_option maxRecDepth 100000 in
theorem T_X13_time_43 {post : Int32 → (Nat → Nat → Int32) → Prop} (hl : l.stackTraces = false) (X : MC p l s m args meth c cX13_time 5 RX13 G ρ A) (hr : meth.sig.returnType = (some .int)) (hex : ∀ z ∈ c.exceptionTable.toList, False) : ∀ (v1 : Int32) (v2 : Int32) (v3 : Int32) (v4 : Int32) (mm : (Nat → Nat → Int32)), B_X13_time_43 post v1 v2 v3 v4 mm → LW p l e rm_X13_time s m args below meth c (Qm below G ρ A (PI (fun u => (cm, u, oo)) post) noX args s 0 0) G ρ A 5 0 0 43 [(0, .ref 703), (1, .int v1), (2, .int v2), (3, .int v3), (4, .int v4)] [] (cm, mm, oo) := by
  intro v1 v2 v3 v4 mm h
  unfold B_X13_time_43 at h
  refine L_aload_n (pc := 43) X d_X13_time_43 rfl 0 rfl ?_
  refine gf_X13_47 (pc := 44) X d_X13_time_44 ?_
  refine L_if_le (pc := 47) (tgt := 52) X d_X13_time_47 (by decide) (fun c47 => ?_) (fun c47 => ?_)
  · replace h := h.1 c47
    refine L_aload_n (pc := 52) X d_X13_time_52 rfl 0 rfl ?_
    refine L_iload_n (pc := 53) X d_X13_time_53 rfl 1 rfl ?_
    refine L_iload_n (pc := 54) X d_X13_time_54 rfl 2 rfl ?_
    refine L_iload_n (pc := 55) X d_X13_time_55 rfl 3 rfl ?_
    refine L_iload (pc := 56) X d_X13_time_56 4 rfl ?_
    refine L_callVI (pc := 58) X lk_X13_250 (c_X13_wayOf X.hst  h) rfl rfl kd_703 (by decide) rfl rfl ⟨by decide, by decide⟩ ⟨by decide, by decide⟩ (Nat.zero_le _) d_X13_time_58 rfl (fun x κ1 hx => L_nox hx) (fun r7 u8 h => ?_)
    exact L_iret (pc := 61) X hr d_X13_time_61 (by decide) (by decide) ⟨_, _, rfl, rfl, h⟩
  · replace h := h.2 c47
    refine L_iconst (pc := 50) (v := 0) X d_X13_time_50 (by decide) ?_
    exact L_iret (pc := 51) X hr d_X13_time_51 (by decide) (by decide) ⟨_, _, rfl, rfl, h⟩
set_option maxHeartbeats 4000000 in
set_option maxRecDepth 100000 in
theorem T_X13_time_38 {post : Int32 → (Nat → Nat → Int32) → Prop} (hl : l.stackTraces = false) (X : MC p l s m args meth c cX13_time 5 RX13 G ρ A) (hr : meth.sig.returnType = (some .int)) (hex : ∀ z ∈ c.exceptionTable.toList, False) : ∀ (v1 : Int32) (v2 : Int32) (v3 : Int32) (v4 : Int32) (mm : (Nat → Nat → Int32)), B_X13_time_38 post v1 v2 v3 v4 mm → LW p l e rm_X13_time s m args below meth c (Qm below G ρ A (PI (fun u => (cm, u, oo)) post) noX args s 0 0) G ρ A 5 0 0 38 [(0, .ref 703), (1, .int v1), (2, .int v2), (3, .int v3), (4, .int v4)] [] (cm, mm, oo) := by
  intro v1 v2 v3 v4 mm h
  unfold B_X13_time_38 at h
  refine L_aload_n (pc := 38) X d_X13_time_38 rfl 0 rfl ?_
  refine L_iconst (pc := 39) (v := 2) X d_X13_time_39 (by decide) ?_
  refine pf_X13_47 (pc := 40) X d_X13_time_40 ?_
  refine LW.sub [0, 1, 2, 3, 4] rfl ?_
  exact T_X13_time_43 hl X hr hex _ _ _ _  _ h
set_option maxHeartbeats 4000000 in
set_option maxRecDepth 100000 in
theorem c_X13_time (hl : l.stackTraces = false) {x1 : Int32} {x2 : Int32} {x3 : Int32} {x4 : Int32} {mm : (Nat → Nat → Int32)} {post : Int32 → (Nat → Nat → Int32) → Prop} (h : w_X13_time post x1 x2 x3 x4 mm) : CT l yX13_time (.code yX13_time cX13_time 5 (some .int)) rm_X13_time 0 0 G ρ [.ref 703, .int x1, .int x2, .int x3, .int x4] (cm, mm, oo) (PI (fun u => (cm, u, oo)) post) noX := by
  refine CT_of hl (by decide +kernel) rfl (Nat.le_of_ble_eq_true rfl) (lv0 := [(0, .ref 703), (1, .int x1), (2, .int x2), (3, .int x3), (4, .int x4)]) rfl (fun p e s m args below meth c A X hr hex hnm => ?_)
  unfold w_X13_time at h
  refine L_aload_n (pc := 0) X d_X13_time_0 rfl 0 rfl ?_
  refine L_aload_n (pc := 1) X d_X13_time_1 rfl 0 rfl ?_
  refine L_iload_n (pc := 2) X d_X13_time_2 rfl 1 rfl ?_
  refine L_iload_n (pc := 3) X d_X13_time_3 rfl 2 rfl ?_
  refine L_callVI (pc := 4) X lk_X13_247 (c_X13_twoStations X.hst  h) rfl rfl kd_703 (by decide) rfl rfl ⟨by decide, by decide⟩ ⟨by decide, by decide⟩ (Nat.le_of_ble_eq_true rfl) d_X13_time_4 rfl (fun x κ1 hx => L_nox hx) (fun r1 u2 h => ?_)
  refine pf_X13_47 (pc := 7) X d_X13_time_7 ?_
  refine L_aload_n (pc := 10) X d_X13_time_10 rfl 0 rfl ?_
  refine gf_X13_47 (pc := 11) X d_X13_time_11 ?_
  refine L_if_ne (pc := 14) (tgt := 43) X d_X13_time_14 (by decide) (fun c14 => ?_) (fun c14 => ?_)
  · replace h := h.1 c14
    refine LW.sub [0, 1, 2, 3, 4] rfl ?_
    exact T_X13_time_43 hl X hr hex _ _ _ _  _ h
  · replace h := h.2 c14
    refine L_iload_n (pc := 17) X d_X13_time_17 rfl 3 rfl ?_
    refine L_iconst (pc := 18) (v := 1) X d_X13_time_18 (by decide) ?_
    refine L_bipush (pc := 19) (v := 9) X d_X13_time_19 (by decide) ?_
    refine L_callSZ (pc := 21) X lk_X13_50 (c_X13_isIn X.hst  h) rfl rfl rfl ⟨by decide, by decide⟩ ⟨by decide, by decide⟩ (Nat.zero_le _) d_X13_time_21 rfl (fun x κ1 hx => L_nox hx) (fun r3 u4 h => ?_)
    refine L_if_eq (pc := 24) (tgt := 38) X d_X13_time_24 (by decide) (fun c24 => ?_) (fun c24 => ?_)
    · replace h := h.1 ((b2_0 _).mp c24)
      refine LW.sub [0, 1, 2, 3, 4] rfl ?_
      exact T_X13_time_38 hl X hr hex _ _ _ _  _ h
    · replace h := h.2 (fun z => c24 ((b2_0 _).mpr z))
      refine L_iload (pc := 27) X d_X13_time_27 4 rfl ?_
      refine L_iconst (pc := 29) (v := 1) X d_X13_time_29 (by decide) ?_
      refine L_bipush (pc := 30) (v := 9) X d_X13_time_30 (by decide) ?_
      refine L_callSZ (pc := 32) X lk_X13_50 (c_X13_isIn X.hst  h) rfl rfl rfl ⟨by decide, by decide⟩ ⟨by decide, by decide⟩ (Nat.zero_le _) d_X13_time_32 rfl (fun x κ1 hx => L_nox hx) (fun r5 u6 h => ?_)
      refine L_if_ne (pc := 35) (tgt := 43) X d_X13_time_35 (by decide) (fun c35 => ?_) (fun c35 => ?_)
      · replace h := h.1 (fun z => c35 ((b2_0 _).mpr z))
        refine LW.sub [0, 1, 2, 3, 4] rfl ?_
        exact T_X13_time_43 hl X hr hex _ _ _ _  _ h
      · replace h := h.2 ((b2_0 _).mp c35)
        refine LW.sub [0, 1, 2, 3, 4] rfl ?_
        exact T_X13_time_38 hl X hr hex _ _ _ _  _ h
end G_X13_time
theorem d_X13_waits_0 : decode cX13_waits 0 = .ok (.aload_n 0, 1) := by decide +kernel
theorem d_X13_waits_1 : decode cX13_waits 1 = .ok (.aload_n 0, 1) := by decide +kernel
theorem d_X13_waits_2 : decode cX13_waits 2 = .ok (.iload_n 1, 1) := by decide +kernel
theorem d_X13_waits_3 : decode cX13_waits 3 = .ok (.aload_n 0, 1) := by decide +kernel
theorem d_X13_waits_4 : decode cX13_waits 4 = .ok (.getfield 7, 3) := by decide +kernel
theorem d_X13_waits_7 : decode cX13_waits 7 = .ok (.iconst 1, 1) := by decide +kernel
theorem d_X13_waits_8 : decode cX13_waits 8 = .ok (.iaload, 1) := by decide +kernel
theorem d_X13_waits_9 : decode cX13_waits 9 = .ok (.iconst 1, 1) := by decide +kernel
theorem d_X13_waits_10 : decode cX13_waits 10 = .ok (.iadd, 1) := by decide +kernel
theorem d_X13_waits_11 : decode cX13_waits 11 = .ok (.invokevirtual 206, 3) := by decide +kernel
theorem d_X13_waits_14 : decode cX13_waits 14 = .ok (.ifCond .ne 7, 3) := by decide +kernel
theorem d_X13_waits_17 : decode cX13_waits 17 = .ok (.iconst 1, 1) := by decide +kernel
theorem d_X13_waits_18 : decode cX13_waits 18 = .ok (.goto 51, 3) := by decide +kernel
theorem d_X13_waits_21 : decode cX13_waits 21 = .ok (.iload_n 2, 1) := by decide +kernel
theorem d_X13_waits_22 : decode cX13_waits 22 = .ok (.iconst 1, 1) := by decide +kernel
theorem d_X13_waits_23 : decode cX13_waits 23 = .ok (.bipush 9, 2) := by decide +kernel
theorem d_X13_waits_25 : decode cX13_waits 25 = .ok (.invokestatic 50, 3) := by decide +kernel
theorem d_X13_waits_28 : decode cX13_waits 28 = .ok (.ifCond .eq 36, 3) := by decide +kernel
theorem d_X13_waits_31 : decode cX13_waits 31 = .ok (.iload_n 3, 1) := by decide +kernel
theorem d_X13_waits_32 : decode cX13_waits 32 = .ok (.iconst 1, 1) := by decide +kernel
theorem d_X13_waits_33 : decode cX13_waits 33 = .ok (.bipush 9, 2) := by decide +kernel
theorem d_X13_waits_35 : decode cX13_waits 35 = .ok (.invokestatic 50, 3) := by decide +kernel
theorem d_X13_waits_38 : decode cX13_waits 38 = .ok (.ifCond .eq 26, 3) := by decide +kernel
theorem d_X13_waits_41 : decode cX13_waits 41 = .ok (.iload 4, 2) := by decide +kernel
theorem d_X13_waits_43 : decode cX13_waits 43 = .ok (.iconst 1, 1) := by decide +kernel
theorem d_X13_waits_44 : decode cX13_waits 44 = .ok (.bipush 9, 2) := by decide +kernel
theorem d_X13_waits_46 : decode cX13_waits 46 = .ok (.invokestatic 50, 3) := by decide +kernel
theorem d_X13_waits_49 : decode cX13_waits 49 = .ok (.ifCond .eq 15, 3) := by decide +kernel
theorem d_X13_waits_52 : decode cX13_waits 52 = .ok (.iload 5, 2) := by decide +kernel
theorem d_X13_waits_54 : decode cX13_waits 54 = .ok (.iload 4, 2) := by decide +kernel
theorem d_X13_waits_56 : decode cX13_waits 56 = .ok (.bipush 9, 2) := by decide +kernel
theorem d_X13_waits_58 : decode cX13_waits 58 = .ok (.invokestatic 50, 3) := by decide +kernel
theorem d_X13_waits_61 : decode cX13_waits 61 = .ok (.ifCond .ne 7, 3) := by decide +kernel
theorem d_X13_waits_64 : decode cX13_waits 64 = .ok (.iconst 2, 1) := by decide +kernel
theorem d_X13_waits_65 : decode cX13_waits 65 = .ok (.goto 4, 3) := by decide +kernel
theorem d_X13_waits_68 : decode cX13_waits 68 = .ok (.iconst 0, 1) := by decide +kernel
theorem d_X13_waits_69 : decode cX13_waits 69 = .ok (.putfield 47, 3) := by decide +kernel
theorem d_X13_waits_72 : decode cX13_waits 72 = .ok (.aload_n 0, 1) := by decide +kernel
theorem d_X13_waits_73 : decode cX13_waits 73 = .ok (.getfield 47, 3) := by decide +kernel
theorem d_X13_waits_76 : decode cX13_waits 76 = .ok (.ifCond .le 5, 3) := by decide +kernel
theorem d_X13_waits_79 : decode cX13_waits 79 = .ok (.iconst 0, 1) := by decide +kernel
theorem d_X13_waits_80 : decode cX13_waits 80 = .ok (.ireturn, 1) := by decide +kernel
theorem d_X13_waits_81 : decode cX13_waits 81 = .ok (.iconst 0, 1) := by decide +kernel
theorem d_X13_waits_82 : decode cX13_waits 82 = .ok (.istore 6, 2) := by decide +kernel
theorem d_X13_waits_84 : decode cX13_waits 84 = .ok (.iload 4, 2) := by decide +kernel
theorem d_X13_waits_86 : decode cX13_waits 86 = .ok (.istore 7, 2) := by decide +kernel
theorem d_X13_waits_88 : decode cX13_waits 88 = .ok (.iload 7, 2) := by decide +kernel
theorem d_X13_waits_90 : decode cX13_waits 90 = .ok (.iload 5, 2) := by decide +kernel
theorem d_X13_waits_92 : decode cX13_waits 92 = .ok (.if_icmp .gt 48, 3) := by decide +kernel
theorem d_X13_waits_95 : decode cX13_waits 95 = .ok (.aload_n 0, 1) := by decide +kernel
theorem d_X13_waits_96 : decode cX13_waits 96 = .ok (.iconst 0, 1) := by decide +kernel
theorem d_X13_waits_97 : decode cX13_waits 97 = .ok (.iload_n 1, 1) := by decide +kernel
theorem d_X13_waits_98 : decode cX13_waits 98 = .ok (.iload_n 2, 1) := by decide +kernel
theorem d_X13_waits_99 : decode cX13_waits 99 = .ok (.iload 7, 2) := by decide +kernel
theorem d_X13_waits_101 : decode cX13_waits 101 = .ok (.invokevirtual 250, 3) := by decide +kernel
theorem d_X13_waits_104 : decode cX13_waits 104 = .ok (.aload_n 0, 1) := by decide +kernel
theorem d_X13_waits_105 : decode cX13_waits 105 = .ok (.iconst 0, 1) := by decide +kernel
theorem d_X13_waits_106 : decode cX13_waits 106 = .ok (.iload_n 1, 1) := by decide +kernel
theorem d_X13_waits_107 : decode cX13_waits 107 = .ok (.iload_n 3, 1) := by decide +kernel
theorem d_X13_waits_108 : decode cX13_waits 108 = .ok (.iload 7, 2) := by decide +kernel
theorem d_X13_waits_110 : decode cX13_waits 110 = .ok (.invokevirtual 250, 3) := by decide +kernel
theorem d_X13_waits_113 : decode cX13_waits 113 = .ok (.isub, 1) := by decide +kernel
theorem d_X13_waits_114 : decode cX13_waits 114 = .ok (.iconst 1, 1) := by decide +kernel
theorem d_X13_waits_115 : decode cX13_waits 115 = .ok (.iadd, 1) := by decide +kernel
theorem d_X13_waits_116 : decode cX13_waits 116 = .ok (.istore 8, 2) := by decide +kernel
theorem d_X13_waits_118 : decode cX13_waits 118 = .ok (.iload 8, 2) := by decide +kernel
theorem d_X13_waits_120 : decode cX13_waits 120 = .ok (.iload 6, 2) := by decide +kernel
theorem d_X13_waits_122 : decode cX13_waits 122 = .ok (.if_icmp .le 8, 3) := by decide +kernel
theorem d_X13_waits_125 : decode cX13_waits 125 = .ok (.iload 8, 2) := by decide +kernel
theorem d_X13_waits_127 : decode cX13_waits 127 = .ok (.goto 5, 3) := by decide +kernel
theorem d_X13_waits_130 : decode cX13_waits 130 = .ok (.iload 6, 2) := by decide +kernel
theorem d_X13_waits_132 : decode cX13_waits 132 = .ok (.istore 6, 2) := by decide +kernel
theorem d_X13_waits_134 : decode cX13_waits 134 = .ok (.iinc 7 1, 3) := by decide +kernel
theorem d_X13_waits_137 : decode cX13_waits 137 = .ok (.goto (-49), 3) := by decide +kernel
theorem d_X13_waits_140 : decode cX13_waits 140 = .ok (.iload 6, 2) := by decide +kernel
theorem d_X13_waits_142 : decode cX13_waits 142 = .ok (.ireturn, 1) := by decide +kernel
abbrev rm_X13_waits : Room := { frames := 2, cells := 0, slots := 0, locals := 48 }
def B_X13_waits_132 (post : Int32 → (Nat → Nat → Int32) → Prop) (k88 : Int32 → Int32 → Int32 → Int32 → Int32 → Int32 → (Nat → Nat → Int32) → Prop) (v1 : Int32) (v2 : Int32) (v3 : Int32) (v5 : Int32) (v7 : Int32) (s0 : Int32) (mm : (Nat → Nat → Int32)) : Prop := k88 v1 v2 v3 v5 s0 (v7 + 1) mm
def B_X13_waits_88 (post : Int32 → (Nat → Nat → Int32) → Prop) : Nat → Int32 → Int32 → Int32 → Int32 → Int32 → Int32 → (Nat → Nat → Int32) → Prop
  | 0 => fun _ _ _ _ _ _ _ => False
  | n + 1 => fun v1 v2 v3 v5 v6 v7 mm => (v5 < v7 → (post v6 mm)) ∧ (¬ v5 < v7 → (w_X13_wayOf (fun (r11 : Int32) (u12 : (Nat → Nat → Int32)) => w_X13_wayOf (fun (r13 : Int32) (u14 : (Nat → Nat → Int32)) => (((r11 - r13) + 1) ≤ v6 → (B_X13_waits_132 post (B_X13_waits_88 post n) v1 v2 v3 v5 v7 v6 u14)) ∧ (¬ ((r11 - r13) + 1) ≤ v6 → (B_X13_waits_132 post (B_X13_waits_88 post n) v1 v2 v3 v5 v7 ((r11 - r13) + 1) u14))) 0 v1 v3 v7 u12) 0 v1 v2 v7 mm))
def B_X13_waits_69 (post : Int32 → (Nat → Nat → Int32) → Prop) (v1 : Int32) (v2 : Int32) (v3 : Int32) (v4 : Int32) (v5 : Int32) (s0 : Int32) (mm : (Nat → Nat → Int32)) : Prop := (((up2 mm 0 0 s0) 0 0) ≤ 0 → (∃ n88, B_X13_waits_88 post n88 v1 v2 v3 v5 0 v4 (up2 mm 0 0 s0))) ∧ (¬ ((up2 mm 0 0 s0) 0 0) ≤ 0 → (post 0 (up2 mm 0 0 s0)))
def B_X13_waits_64 (post : Int32 → (Nat → Nat → Int32) → Prop) (v1 : Int32) (v2 : Int32) (v3 : Int32) (v4 : Int32) (v5 : Int32) (mm : (Nat → Nat → Int32)) : Prop := B_X13_waits_69 post v1 v2 v3 v4 v5 2 mm
def w_X13_waits (post : Int32 → (Nat → Nat → Int32) → Prop) (x1 : Int32) (x2 : Int32) (x3 : Int32) (x4 : Int32) (x5 : Int32) (mm : (Nat → Nat → Int32)) : Prop := w_X13_isStation (fun (r1 : Bool) (u2 : (Nat → Nat → Int32)) => (¬ (r1 = false) → (w_X13_isIn (fun (r3 : Bool) (u4 : (Nat → Nat → Int32)) => ((r3 = false) → (B_X13_waits_64 post x1 x2 x3 x4 x5 u4)) ∧ (¬ (r3 = false) → (w_X13_isIn (fun (r5 : Bool) (u6 : (Nat → Nat → Int32)) => ((r5 = false) → (B_X13_waits_64 post x1 x2 x3 x4 x5 u6)) ∧ (¬ (r5 = false) → (w_X13_isIn (fun (r7 : Bool) (u8 : (Nat → Nat → Int32)) => ((r7 = false) → (B_X13_waits_64 post x1 x2 x3 x4 x5 u8)) ∧ (¬ (r7 = false) → (w_X13_isIn (fun (r9 : Bool) (u10 : (Nat → Nat → Int32)) => (¬ (r9 = false) → (B_X13_waits_69 post x1 x2 x3 x4 x5 0 u10)) ∧ ((r9 = false) → (B_X13_waits_64 post x1 x2 x3 x4 x5 u10))) x5 x4 9 u8))) x4 1 9 u6))) x3 1 9 u4))) x2 1 9 u2)) ∧ ((r1 = false) → (B_X13_waits_69 post x1 x2 x3 x4 x5 1 u2))) x1 ((mm 1 (Int32.toNatClampNeg (1 : Int32))) + 1) mm
section G_X13_waits
variable {p : Program} {l : Launch} {e : Env} {s : State} {m : MethodId} {args : Array Value} {below : List Frame} {meth : Method} {c : Code} {G : Gd} {ρ : Nat → Nat} {A : Nat → Prop} {cm : CMu} {oo : Nat → Int64}
set_option maxHeartbeats 4000000 in
set_option maxRecDepth 100000 in
theorem T_X13_waits_132 {post : Int32 → (Nat → Nat → Int32) → Prop} {k88 : Int32 → Int32 → Int32 → Int32 → Int32 → Int32 → (Nat → Nat → Int32) → Prop} (hl : l.stackTraces = false) (X : MC p l s m args meth c cX13_waits 9 RX13 G ρ A) (hr : meth.sig.returnType = (some .int)) (hex : ∀ z ∈ c.exceptionTable.toList, False)
    (hk88 : ∀ (v1 : Int32) (v2 : Int32) (v3 : Int32) (v5 : Int32) (v6 : Int32) (v7 : Int32) (mm : (Nat → Nat → Int32)), k88 v1 v2 v3 v5 v6 v7 mm → LW p l e rm_X13_waits s m args below meth c (Qm below G ρ A (PI (fun u => (cm, u, oo)) post) noX args s 0 0) G ρ A 9 0 0 88 [(0, .ref 703), (1, .int v1), (2, .int v2), (3, .int v3), (5, .int v5), (6, .int v6), (7, .int v7)] [] (cm, mm, oo)) : ∀ (v1 : Int32) (v2 : Int32) (v3 : Int32) (v5 : Int32) (v7 : Int32) (s0 : Int32) (mm : (Nat → Nat → Int32)), B_X13_waits_132 post k88 v1 v2 v3 v5 v7 s0 mm → LW p l e rm_X13_waits s m args below meth c (Qm below G ρ A (PI (fun u => (cm, u, oo)) post) noX args s 0 0) G ρ A 9 0 0 132 [(0, .ref 703), (1, .int v1), (2, .int v2), (3, .int v3), (5, .int v5), (7, .int v7)] [.int s0] (cm, mm, oo) := by
  intro v1 v2 v3 v5 v7 s0 mm h
  unfold B_X13_waits_132 at h
  refine L_istore (pc := 132) (lv2 := [(6, .int s0), (0, .ref 703), (1, .int v1), (2, .int v2), (3, .int v3), (5, .int v5), (7, .int v7)]) X d_X13_waits_132 (by decide) rfl ?_
  refine L_iinc (pc := 134) (v := v7 + 1) (lv2 := [(7, .int (v7 + 1)), (6, .int s0), (0, .ref 703), (1, .int v1), (2, .int v2), (3, .int v3), (5, .int v5)]) X d_X13_waits_134 6 rfl rfl (by decide) rfl ?_
  refine L_goto (pc := 137) (tgt := 88) X d_X13_waits_137 (by decide) ?_
  refine LW.sub [2, 3, 4, 5, 6, 1, 0] rfl ?_
  exact hk88 _ _ _ _ _ _  _ h
set_option maxHeartbeats 4000000 in
set_option maxRecDepth 100000 in
theorem T_X13_waits_88 {post : Int32 → (Nat → Nat → Int32) → Prop} (hl : l.stackTraces = false) (X : MC p l s m args meth c cX13_waits 9 RX13 G ρ A) (hr : meth.sig.returnType = (some .int)) (hex : ∀ z ∈ c.exceptionTable.toList, False) (n : Nat) : ∀ (v1 : Int32) (v2 : Int32) (v3 : Int32) (v5 : Int32) (v6 : Int32) (v7 : Int32) (mm : (Nat → Nat → Int32)), B_X13_waits_88 post n v1 v2 v3 v5 v6 v7 mm → LW p l e rm_X13_waits s m args below meth c (Qm below G ρ A (PI (fun u => (cm, u, oo)) post) noX args s 0 0) G ρ A 9 0 0 88 [(0, .ref 703), (1, .int v1), (2, .int v2), (3, .int v3), (5, .int v5), (6, .int v6), (7, .int v7)] [] (cm, mm, oo) := by
  induction n with
  | zero =>
    intro v1 v2 v3 v5 v6 v7 mm h
    exact False.elim h
  | succ n ih =>
    intro v1 v2 v3 v5 v6 v7 mm h
    unfold B_X13_waits_88 at h
    refine L_iload (pc := 88) X d_X13_waits_88 6 rfl ?_
    refine L_iload (pc := 90) X d_X13_waits_90 4 rfl ?_
    refine L_icmp_gt (pc := 92) (tgt := 140) X d_X13_waits_92 (by decide) (fun c92 => ?_) (fun c92 => ?_)
    · replace h := h.1 c92
      refine L_iload (pc := 140) X d_X13_waits_140 5 rfl ?_
      exact L_iret (pc := 142) X hr d_X13_waits_142 (by decide) (by decide) ⟨_, _, rfl, rfl, h⟩
    · replace h := h.2 c92
      refine L_aload_n (pc := 95) X d_X13_waits_95 rfl 0 rfl ?_
      refine L_iconst (pc := 96) (v := 0) X d_X13_waits_96 (by decide) ?_
      refine L_iload_n (pc := 97) X d_X13_waits_97 rfl 1 rfl ?_
      refine L_iload_n (pc := 98) X d_X13_waits_98 rfl 2 rfl ?_
      refine L_iload (pc := 99) X d_X13_waits_99 6 rfl ?_
      refine L_callVI (pc := 101) X lk_X13_250 (c_X13_wayOf X.hst  h) rfl rfl kd_703 (by decide) rfl rfl ⟨by decide, by decide⟩ ⟨by decide, by decide⟩ (Nat.zero_le _) d_X13_waits_101 rfl (fun x κ1 hx => L_nox hx) (fun r11 u12 h => ?_)
      refine L_aload_n (pc := 104) X d_X13_waits_104 rfl 0 rfl ?_
      refine L_iconst (pc := 105) (v := 0) X d_X13_waits_105 (by decide) ?_
      refine L_iload_n (pc := 106) X d_X13_waits_106 rfl 1 rfl ?_
      refine L_iload_n (pc := 107) X d_X13_waits_107 rfl 3 rfl ?_
      refine L_iload (pc := 108) X d_X13_waits_108 6 rfl ?_
      refine L_callVI (pc := 110) X lk_X13_250 (c_X13_wayOf X.hst  h) rfl rfl kd_703 (by decide) rfl rfl ⟨by decide, by decide⟩ ⟨by decide, by decide⟩ (Nat.le_of_ble_eq_true rfl) d_X13_waits_110 rfl (fun x κ1 hx => L_nox hx) (fun r13 u14 h => ?_)
      refine L_isub (pc := 113) X d_X13_waits_113 ?_
      refine L_iconst (pc := 114) (v := 1) X d_X13_waits_114 (by decide) ?_
      refine L_iadd (pc := 115) X d_X13_waits_115 ?_
      refine L_istore (pc := 116) (lv2 := [(8, .int ((r11 - r13) + 1)), (0, .ref 703), (1, .int v1), (2, .int v2), (3, .int v3), (5, .int v5), (6, .int v6), (7, .int v7)]) X d_X13_waits_116 (by decide) rfl ?_
      refine L_iload (pc := 118) X d_X13_waits_118 0 rfl ?_
      refine L_iload (pc := 120) X d_X13_waits_120 6 rfl ?_
      refine L_icmp_le (pc := 122) (tgt := 130) X d_X13_waits_122 (by decide) (fun c122 => ?_) (fun c122 => ?_)
      · replace h := h.1 c122
        refine L_iload (pc := 130) X d_X13_waits_130 6 rfl ?_
        refine LW.sub [1, 2, 3, 4, 5, 7] rfl ?_
        exact T_X13_waits_132 hl X hr hex ih _ _ _ _ _ _  _ h
      · replace h := h.2 c122
        refine L_iload (pc := 125) X d_X13_waits_125 0 rfl ?_
        refine L_goto (pc := 127) (tgt := 132) X d_X13_waits_127 (by decide) ?_
        refine LW.sub [1, 2, 3, 4, 5, 7] rfl ?_
        exact T_X13_waits_132 hl X hr hex ih _ _ _ _ _ _  _ h
set_option maxHeartbeats 4000000 in
set_option maxRecDepth 100000 in
theorem T_X13_waits_69 {post : Int32 → (Nat → Nat → Int32) → Prop} (hl : l.stackTraces = false) (X : MC p l s m args meth c cX13_waits 9 RX13 G ρ A) (hr : meth.sig.returnType = (some .int)) (hex : ∀ z ∈ c.exceptionTable.toList, False) : ∀ (v1 : Int32) (v2 : Int32) (v3 : Int32) (v4 : Int32) (v5 : Int32) (s0 : Int32) (mm : (Nat → Nat → Int32)), B_X13_waits_69 post v1 v2 v3 v4 v5 s0 mm → LW p l e rm_X13_waits s m args below meth c (Qm below G ρ A (PI (fun u => (cm, u, oo)) post) noX args s 0 0) G ρ A 9 0 0 69 [(0, .ref 703), (1, .int v1), (2, .int v2), (3, .int v3), (4, .int v4), (5, .int v5)] [.int s0, .ref 703] (cm, mm, oo) := by
  intro v1 v2 v3 v4 v5 s0 mm h
  unfold B_X13_waits_69 at h
  refine pf_X13_47 (pc := 69) X d_X13_waits_69 ?_
  refine L_aload_n (pc := 72) X d_X13_waits_72 rfl 0 rfl ?_
  refine gf_X13_47 (pc := 73) X d_X13_waits_73 ?_
  refine L_if_le (pc := 76) (tgt := 81) X d_X13_waits_76 (by decide) (fun c76 => ?_) (fun c76 => ?_)
  · replace h := h.1 c76
    refine L_iconst (pc := 81) (v := 0) X d_X13_waits_81 (by decide) ?_
    refine L_istore (pc := 82) (lv2 := [(6, .int 0), (0, .ref 703), (1, .int v1), (2, .int v2), (3, .int v3), (4, .int v4), (5, .int v5)]) X d_X13_waits_82 (by decide) rfl ?_
    refine L_iload (pc := 84) X d_X13_waits_84 5 rfl ?_
    refine L_istore (pc := 86) (lv2 := [(7, .int v4), (6, .int 0), (0, .ref 703), (1, .int v1), (2, .int v2), (3, .int v3), (4, .int v4), (5, .int v5)]) X d_X13_waits_86 (by decide) rfl ?_
    obtain ⟨n88, h⟩ := h
    refine LW.sub [2, 3, 4, 5, 7, 1, 0] rfl ?_
    exact T_X13_waits_88 hl X hr hex n88 _ _ _ _ _ _  _ h
  · replace h := h.2 c76
    refine L_iconst (pc := 79) (v := 0) X d_X13_waits_79 (by decide) ?_
    exact L_iret (pc := 80) X hr d_X13_waits_80 (by decide) (by decide) ⟨_, _, rfl, rfl, h⟩
set_option maxHeartbeats 4000000 in
set_option maxRecDepth 100000 in
theorem T_X13_waits_64 {post : Int32 → (Nat → Nat → Int32) → Prop} (hl : l.stackTraces = false) (X : MC p l s m args meth c cX13_waits 9 RX13 G ρ A) (hr : meth.sig.returnType = (some .int)) (hex : ∀ z ∈ c.exceptionTable.toList, False) : ∀ (v1 : Int32) (v2 : Int32) (v3 : Int32) (v4 : Int32) (v5 : Int32) (mm : (Nat → Nat → Int32)), B_X13_waits_64 post v1 v2 v3 v4 v5 mm → LW p l e rm_X13_waits s m args below meth c (Qm below G ρ A (PI (fun u => (cm, u, oo)) post) noX args s 0 0) G ρ A 9 0 0 64 [(0, .ref 703), (1, .int v1), (2, .int v2), (3, .int v3), (4, .int v4), (5, .int v5)] [.ref 703] (cm, mm, oo) := by
  intro v1 v2 v3 v4 v5 mm h
  unfold B_X13_waits_64 at h
  refine L_iconst (pc := 64) (v := 2) X d_X13_waits_64 (by decide) ?_
  refine L_goto (pc := 65) (tgt := 69) X d_X13_waits_65 (by decide) ?_
  refine LW.sub [0, 1, 2, 3, 4, 5] rfl ?_
  exact T_X13_waits_69 hl X hr hex _ _ _ _ _ _  _ h
set_option maxHeartbeats 4000000 in
set_option maxRecDepth 100000 in
theorem c_X13_waits (hl : l.stackTraces = false) {x1 : Int32} {x2 : Int32} {x3 : Int32} {x4 : Int32} {x5 : Int32} {mm : (Nat → Nat → Int32)} {post : Int32 → (Nat → Nat → Int32) → Prop} (h : w_X13_waits post x1 x2 x3 x4 x5 mm) : CT l yX13_waits (.code yX13_waits cX13_waits 9 (some .int)) rm_X13_waits 0 0 G ρ [.ref 703, .int x1, .int x2, .int x3, .int x4, .int x5] (cm, mm, oo) (PI (fun u => (cm, u, oo)) post) noX := by
  refine CT_of hl (by decide +kernel) rfl (Nat.le_of_ble_eq_true rfl) (lv0 := [(0, .ref 703), (1, .int x1), (2, .int x2), (3, .int x3), (4, .int x4), (5, .int x5)]) rfl (fun p e s m args below meth c A X hr hex hnm => ?_)
  unfold w_X13_waits at h
  refine L_aload_n (pc := 0) X d_X13_waits_0 rfl 0 rfl ?_
  refine L_aload_n (pc := 1) X d_X13_waits_1 rfl 0 rfl ?_
  refine L_iload_n (pc := 2) X d_X13_waits_2 rfl 1 rfl ?_
  refine L_aload_n (pc := 3) X d_X13_waits_3 rfl 0 rfl ?_
  refine gf_X13_7 (pc := 4) X d_X13_waits_4 ?_
  refine L_iconst (pc := 7) (v := 1) X d_X13_waits_7 (by decide) ?_
  refine L_ialdM (pc := 8) (a := 1) X d_X13_waits_8 kd_704 (by unfold vp_in; decide) ?_
  refine L_iconst (pc := 9) (v := 1) X d_X13_waits_9 (by decide) ?_
  refine L_iadd (pc := 10) X d_X13_waits_10 ?_
  refine L_callVZ (pc := 11) X lk_X13_206 (c_X13_isStation X.hst  h) rfl rfl kd_703 (by decide) rfl rfl ⟨by decide, by decide⟩ ⟨by decide, by decide⟩ (Nat.le_of_ble_eq_true rfl) d_X13_waits_11 rfl (fun x κ1 hx => L_nox hx) (fun r1 u2 h => ?_)
  refine L_if_ne (pc := 14) (tgt := 21) X d_X13_waits_14 (by decide) (fun c14 => ?_) (fun c14 => ?_)
  · replace h := h.1 (fun z => c14 ((b2_0 _).mpr z))
    refine L_iload_n (pc := 21) X d_X13_waits_21 rfl 2 rfl ?_
    refine L_iconst (pc := 22) (v := 1) X d_X13_waits_22 (by decide) ?_
    refine L_bipush (pc := 23) (v := 9) X d_X13_waits_23 (by decide) ?_
    refine L_callSZ (pc := 25) X lk_X13_50 (c_X13_isIn X.hst  h) rfl rfl rfl ⟨by decide, by decide⟩ ⟨by decide, by decide⟩ (Nat.le_of_ble_eq_true rfl) d_X13_waits_25 rfl (fun x κ1 hx => L_nox hx) (fun r3 u4 h => ?_)
    refine L_if_eq (pc := 28) (tgt := 64) X d_X13_waits_28 (by decide) (fun c28 => ?_) (fun c28 => ?_)
    · replace h := h.1 ((b2_0 _).mp c28)
      refine LW.sub [0, 1, 2, 3, 4, 5] rfl ?_
      exact T_X13_waits_64 hl X hr hex _ _ _ _ _  _ h
    · replace h := h.2 (fun z => c28 ((b2_0 _).mpr z))
      refine L_iload_n (pc := 31) X d_X13_waits_31 rfl 3 rfl ?_
      refine L_iconst (pc := 32) (v := 1) X d_X13_waits_32 (by decide) ?_
      refine L_bipush (pc := 33) (v := 9) X d_X13_waits_33 (by decide) ?_
      refine L_callSZ (pc := 35) X lk_X13_50 (c_X13_isIn X.hst  h) rfl rfl rfl ⟨by decide, by decide⟩ ⟨by decide, by decide⟩ (Nat.le_of_ble_eq_true rfl) d_X13_waits_35 rfl (fun x κ1 hx => L_nox hx) (fun r5 u6 h => ?_)
      refine L_if_eq (pc := 38) (tgt := 64) X d_X13_waits_38 (by decide) (fun c38 => ?_) (fun c38 => ?_)
      · replace h := h.1 ((b2_0 _).mp c38)
        refine LW.sub [0, 1, 2, 3, 4, 5] rfl ?_
        exact T_X13_waits_64 hl X hr hex _ _ _ _ _  _ h
      · replace h := h.2 (fun z => c38 ((b2_0 _).mpr z))
        refine L_iload (pc := 41) X d_X13_waits_41 4 rfl ?_
        refine L_iconst (pc := 43) (v := 1) X d_X13_waits_43 (by decide) ?_
        refine L_bipush (pc := 44) (v := 9) X d_X13_waits_44 (by decide) ?_
        refine L_callSZ (pc := 46) X lk_X13_50 (c_X13_isIn X.hst  h) rfl rfl rfl ⟨by decide, by decide⟩ ⟨by decide, by decide⟩ (Nat.le_of_ble_eq_true rfl) d_X13_waits_46 rfl (fun x κ1 hx => L_nox hx) (fun r7 u8 h => ?_)
        refine L_if_eq (pc := 49) (tgt := 64) X d_X13_waits_49 (by decide) (fun c49 => ?_) (fun c49 => ?_)
        · replace h := h.1 ((b2_0 _).mp c49)
          refine LW.sub [0, 1, 2, 3, 4, 5] rfl ?_
          exact T_X13_waits_64 hl X hr hex _ _ _ _ _  _ h
        · replace h := h.2 (fun z => c49 ((b2_0 _).mpr z))
          refine L_iload (pc := 52) X d_X13_waits_52 5 rfl ?_
          refine L_iload (pc := 54) X d_X13_waits_54 4 rfl ?_
          refine L_bipush (pc := 56) (v := 9) X d_X13_waits_56 (by decide) ?_
          refine L_callSZ (pc := 58) X lk_X13_50 (c_X13_isIn X.hst  h) rfl rfl rfl ⟨by decide, by decide⟩ ⟨by decide, by decide⟩ (Nat.le_of_ble_eq_true rfl) d_X13_waits_58 rfl (fun x κ1 hx => L_nox hx) (fun r9 u10 h => ?_)
          refine L_if_ne (pc := 61) (tgt := 68) X d_X13_waits_61 (by decide) (fun c61 => ?_) (fun c61 => ?_)
          · replace h := h.1 (fun z => c61 ((b2_0 _).mpr z))
            refine L_iconst (pc := 68) (v := 0) X d_X13_waits_68 (by decide) ?_
            refine LW.sub [0, 1, 2, 3, 4, 5] rfl ?_
            exact T_X13_waits_69 hl X hr hex _ _ _ _ _ _  _ h
          · replace h := h.2 ((b2_0 _).mp c61)
            refine LW.sub [0, 1, 2, 3, 4, 5] rfl ?_
            exact T_X13_waits_64 hl X hr hex _ _ _ _ _  _ h
  · replace h := h.2 ((b2_0 _).mp c14)
    refine L_iconst (pc := 17) (v := 1) X d_X13_waits_17 (by decide) ?_
    refine L_goto (pc := 18) (tgt := 69) X d_X13_waits_18 (by decide) ?_
    refine LW.sub [0, 1, 2, 3, 4, 5] rfl ?_
    exact T_X13_waits_69 hl X hr hex _ _ _ _ _ _  _ h
end G_X13_waits
theorem d_X13_order_0 : decode cX13_order 0 = .ok (.aload_n 0, 1) := by decide +kernel
theorem d_X13_order_1 : decode cX13_order 1 = .ok (.aload_n 0, 1) := by decide +kernel
theorem d_X13_order_2 : decode cX13_order 2 = .ok (.iload_n 1, 1) := by decide +kernel
theorem d_X13_order_3 : decode cX13_order 3 = .ok (.invokevirtual 244, 3) := by decide +kernel
theorem d_X13_order_6 : decode cX13_order 6 = .ok (.ifCond .ne 7, 3) := by decide +kernel
theorem d_X13_order_9 : decode cX13_order 9 = .ok (.iconst 1, 1) := by decide +kernel
theorem d_X13_order_10 : decode cX13_order 10 = .ok (.goto 34, 3) := by decide +kernel
theorem d_X13_order_13 : decode cX13_order 13 = .ok (.iload_n 2, 1) := by decide +kernel
theorem d_X13_order_14 : decode cX13_order 14 = .ok (.iconst 1, 1) := by decide +kernel
theorem d_X13_order_15 : decode cX13_order 15 = .ok (.bipush 9, 2) := by decide +kernel
theorem d_X13_order_17 : decode cX13_order 17 = .ok (.invokestatic 50, 3) := by decide +kernel
theorem d_X13_order_20 : decode cX13_order 20 = .ok (.ifCond .ne 7, 3) := by decide +kernel
theorem d_X13_order_23 : decode cX13_order 23 = .ok (.iconst 2, 1) := by decide +kernel
theorem d_X13_order_24 : decode cX13_order 24 = .ok (.goto 20, 3) := by decide +kernel
theorem d_X13_order_27 : decode cX13_order 27 = .ok (.aload_n 0, 1) := by decide +kernel
theorem d_X13_order_28 : decode cX13_order 28 = .ok (.getfield 7, 3) := by decide +kernel
theorem d_X13_order_31 : decode cX13_order 31 = .ok (.bipush 9, 2) := by decide +kernel
theorem d_X13_order_33 : decode cX13_order 33 = .ok (.iaload, 1) := by decide +kernel
theorem d_X13_order_34 : decode cX13_order 34 = .ok (.bipush 12, 2) := by decide +kernel
theorem d_X13_order_36 : decode cX13_order 36 = .ok (.if_icmp .ne 7, 3) := by decide +kernel
theorem d_X13_order_39 : decode cX13_order 39 = .ok (.iconst 3, 1) := by decide +kernel
theorem d_X13_order_40 : decode cX13_order 40 = .ok (.goto 4, 3) := by decide +kernel
theorem d_X13_order_43 : decode cX13_order 43 = .ok (.iconst 0, 1) := by decide +kernel
theorem d_X13_order_44 : decode cX13_order 44 = .ok (.putfield 47, 3) := by decide +kernel
theorem d_X13_order_47 : decode cX13_order 47 = .ok (.aload_n 0, 1) := by decide +kernel
theorem d_X13_order_48 : decode cX13_order 48 = .ok (.getfield 47, 3) := by decide +kernel
theorem d_X13_order_51 : decode cX13_order 51 = .ok (.ifCond .le 5, 3) := by decide +kernel
theorem d_X13_order_54 : decode cX13_order 54 = .ok (.iconst 0, 1) := by decide +kernel
theorem d_X13_order_55 : decode cX13_order 55 = .ok (.ireturn, 1) := by decide +kernel
theorem d_X13_order_56 : decode cX13_order 56 = .ok (.aload_n 0, 1) := by decide +kernel
theorem d_X13_order_57 : decode cX13_order 57 = .ok (.getfield 7, 3) := by decide +kernel
theorem d_X13_order_60 : decode cX13_order 60 = .ok (.bipush 94, 2) := by decide +kernel
theorem d_X13_order_62 : decode cX13_order 62 = .ok (.iconst 2, 1) := by decide +kernel
theorem d_X13_order_63 : decode cX13_order 63 = .ok (.aload_n 0, 1) := by decide +kernel
theorem d_X13_order_64 : decode cX13_order 64 = .ok (.getfield 7, 3) := by decide +kernel
theorem d_X13_order_67 : decode cX13_order 67 = .ok (.bipush 9, 2) := by decide +kernel
theorem d_X13_order_69 : decode cX13_order 69 = .ok (.iaload, 1) := by decide +kernel
theorem d_X13_order_70 : decode cX13_order 70 = .ok (.imul, 1) := by decide +kernel
theorem d_X13_order_71 : decode cX13_order 71 = .ok (.iadd, 1) := by decide +kernel
theorem d_X13_order_72 : decode cX13_order 72 = .ok (.iload_n 1, 1) := by decide +kernel
theorem d_X13_order_73 : decode cX13_order 73 = .ok (.iastore, 1) := by decide +kernel
theorem d_X13_order_74 : decode cX13_order 74 = .ok (.aload_n 0, 1) := by decide +kernel
theorem d_X13_order_75 : decode cX13_order 75 = .ok (.getfield 7, 3) := by decide +kernel
theorem d_X13_order_78 : decode cX13_order 78 = .ok (.bipush 94, 2) := by decide +kernel
theorem d_X13_order_80 : decode cX13_order 80 = .ok (.iconst 2, 1) := by decide +kernel
theorem d_X13_order_81 : decode cX13_order 81 = .ok (.aload_n 0, 1) := by decide +kernel
theorem d_X13_order_82 : decode cX13_order 82 = .ok (.getfield 7, 3) := by decide +kernel
theorem d_X13_order_85 : decode cX13_order 85 = .ok (.bipush 9, 2) := by decide +kernel
theorem d_X13_order_87 : decode cX13_order 87 = .ok (.iaload, 1) := by decide +kernel
theorem d_X13_order_88 : decode cX13_order 88 = .ok (.imul, 1) := by decide +kernel
theorem d_X13_order_89 : decode cX13_order 89 = .ok (.iadd, 1) := by decide +kernel
theorem d_X13_order_90 : decode cX13_order 90 = .ok (.iconst 1, 1) := by decide +kernel
theorem d_X13_order_91 : decode cX13_order 91 = .ok (.iadd, 1) := by decide +kernel
theorem d_X13_order_92 : decode cX13_order 92 = .ok (.iload_n 2, 1) := by decide +kernel
theorem d_X13_order_93 : decode cX13_order 93 = .ok (.iastore, 1) := by decide +kernel
theorem d_X13_order_94 : decode cX13_order 94 = .ok (.aload_n 0, 1) := by decide +kernel
theorem d_X13_order_95 : decode cX13_order 95 = .ok (.getfield 7, 3) := by decide +kernel
theorem d_X13_order_98 : decode cX13_order 98 = .ok (.bipush 9, 2) := by decide +kernel
theorem d_X13_order_100 : decode cX13_order 100 = .ok (.dup2, 1) := by decide +kernel
theorem d_X13_order_101 : decode cX13_order 101 = .ok (.iaload, 1) := by decide +kernel
theorem d_X13_order_102 : decode cX13_order 102 = .ok (.iconst 1, 1) := by decide +kernel
theorem d_X13_order_103 : decode cX13_order 103 = .ok (.iadd, 1) := by decide +kernel
theorem d_X13_order_104 : decode cX13_order 104 = .ok (.iastore, 1) := by decide +kernel
theorem d_X13_order_105 : decode cX13_order 105 = .ok (.aload_n 0, 1) := by decide +kernel
theorem d_X13_order_106 : decode cX13_order 106 = .ok (.getfield 7, 3) := by decide +kernel
theorem d_X13_order_109 : decode cX13_order 109 = .ok (.bipush 9, 2) := by decide +kernel
theorem d_X13_order_111 : decode cX13_order 111 = .ok (.iaload, 1) := by decide +kernel
theorem d_X13_order_112 : decode cX13_order 112 = .ok (.iconst 1, 1) := by decide +kernel
theorem d_X13_order_113 : decode cX13_order 113 = .ok (.isub, 1) := by decide +kernel
theorem d_X13_order_114 : decode cX13_order 114 = .ok (.ireturn, 1) := by decide +kernel
abbrev rm_X13_order : Room := { frames := 2, cells := 0, slots := 0, locals := 43 }
def B_X13_order_44 (post : Int32 → (Nat → Nat → Int32) → Prop) (v1 : Int32) (v2 : Int32) (s0 : Int32) (mm : (Nat → Nat → Int32)) : Prop := (((up2 mm 0 0 s0) 0 0) ≤ 0 → ((vp_in (94 + (2 * ((up2 mm 0 0 s0) 1 (Int32.toNatClampNeg (9 : Int32))))) 25530) ∧ (vp_in ((94 + (2 * ((up2 (up2 mm 0 0 s0) 1 (Int32.toNatClampNeg (94 + (2 * ((up2 mm 0 0 s0) 1 (Int32.toNatClampNeg (9 : Int32)))))) v1) 1 (Int32.toNatClampNeg (9 : Int32))))) + 1) 25530) ∧ post (((up2 (up2 (up2 (up2 mm 0 0 s0) 1 (Int32.toNatClampNeg (94 + (2 * ((up2 mm 0 0 s0) 1 (Int32.toNatClampNeg (9 : Int32)))))) v1) 1 (Int32.toNatClampNeg ((94 + (2 * ((up2 (up2 mm 0 0 s0) 1 (Int32.toNatClampNeg (94 + (2 * ((up2 mm 0 0 s0) 1 (Int32.toNatClampNeg (9 : Int32)))))) v1) 1 (Int32.toNatClampNeg (9 : Int32))))) + 1)) v2) 1 (Int32.toNatClampNeg (9 : Int32)) (((up2 (up2 (up2 mm 0 0 s0) 1 (Int32.toNatClampNeg (94 + (2 * ((up2 mm 0 0 s0) 1 (Int32.toNatClampNeg (9 : Int32)))))) v1) 1 (Int32.toNatClampNeg ((94 + (2 * ((up2 (up2 mm 0 0 s0) 1 (Int32.toNatClampNeg (94 + (2 * ((up2 mm 0 0 s0) 1 (Int32.toNatClampNeg (9 : Int32)))))) v1) 1 (Int32.toNatClampNeg (9 : Int32))))) + 1)) v2) 1 (Int32.toNatClampNeg (9 : Int32))) + 1)) 1 (Int32.toNatClampNeg (9 : Int32))) - 1) (up2 (up2 (up2 (up2 mm 0 0 s0) 1 (Int32.toNatClampNeg (94 + (2 * ((up2 mm 0 0 s0) 1 (Int32.toNatClampNeg (9 : Int32)))))) v1) 1 (Int32.toNatClampNeg ((94 + (2 * ((up2 (up2 mm 0 0 s0) 1 (Int32.toNatClampNeg (94 + (2 * ((up2 mm 0 0 s0) 1 (Int32.toNatClampNeg (9 : Int32)))))) v1) 1 (Int32.toNatClampNeg (9 : Int32))))) + 1)) v2) 1 (Int32.toNatClampNeg (9 : Int32)) (((up2 (up2 (up2 mm 0 0 s0) 1 (Int32.toNatClampNeg (94 + (2 * ((up2 mm 0 0 s0) 1 (Int32.toNatClampNeg (9 : Int32)))))) v1) 1 (Int32.toNatClampNeg ((94 + (2 * ((up2 (up2 mm 0 0 s0) 1 (Int32.toNatClampNeg (94 + (2 * ((up2 mm 0 0 s0) 1 (Int32.toNatClampNeg (9 : Int32)))))) v1) 1 (Int32.toNatClampNeg (9 : Int32))))) + 1)) v2) 1 (Int32.toNatClampNeg (9 : Int32))) + 1)))) ∧ (¬ ((up2 mm 0 0 s0) 0 0) ≤ 0 → (post 0 (up2 mm 0 0 s0)))
def w_X13_order (post : Int32 → (Nat → Nat → Int32) → Prop) (x1 : Int32) (x2 : Int32) (mm : (Nat → Nat → Int32)) : Prop := w_X13_isCamp (fun (r1 : Bool) (u2 : (Nat → Nat → Int32)) => (¬ (r1 = false) → (w_X13_isIn (fun (r3 : Bool) (u4 : (Nat → Nat → Int32)) => (¬ (r3 = false) → ((¬ (u4 1 (Int32.toNatClampNeg (9 : Int32))) = 12 → (B_X13_order_44 post x1 x2 0 u4)) ∧ ((u4 1 (Int32.toNatClampNeg (9 : Int32))) = 12 → (B_X13_order_44 post x1 x2 3 u4)))) ∧ ((r3 = false) → (B_X13_order_44 post x1 x2 2 u4))) x2 1 9 u2)) ∧ ((r1 = false) → (B_X13_order_44 post x1 x2 1 u2))) x1 mm
section G_X13_order
variable {p : Program} {l : Launch} {e : Env} {s : State} {m : MethodId} {args : Array Value} {below : List Frame} {meth : Method} {c : Code} {G : Gd} {ρ : Nat → Nat} {A : Nat → Prop} {cm : CMu} {oo : Nat → Int64}
set_option maxHeartbeats 4000000 in
set_option maxRecDepth 100000 in
theorem T_X13_order_44 {post : Int32 → (Nat → Nat → Int32) → Prop} (hl : l.stackTraces = false) (X : MC p l s m args meth c cX13_order 3 RX13 G ρ A) (hr : meth.sig.returnType = (some .int)) (hex : ∀ z ∈ c.exceptionTable.toList, False) : ∀ (v1 : Int32) (v2 : Int32) (s0 : Int32) (mm : (Nat → Nat → Int32)), B_X13_order_44 post v1 v2 s0 mm → LW p l e rm_X13_order s m args below meth c (Qm below G ρ A (PI (fun u => (cm, u, oo)) post) noX args s 0 0) G ρ A 3 0 0 44 [(0, .ref 703), (1, .int v1), (2, .int v2)] [.int s0, .ref 703] (cm, mm, oo) := by
  intro v1 v2 s0 mm h
  unfold B_X13_order_44 at h
  refine pf_X13_47 (pc := 44) X d_X13_order_44 ?_
  refine L_aload_n (pc := 47) X d_X13_order_47 rfl 0 rfl ?_
  refine gf_X13_47 (pc := 48) X d_X13_order_48 ?_
  refine L_if_le (pc := 51) (tgt := 56) X d_X13_order_51 (by decide) (fun c51 => ?_) (fun c51 => ?_)
  · replace h := h.1 c51
    refine L_aload_n (pc := 56) X d_X13_order_56 rfl 0 rfl ?_
    refine gf_X13_7 (pc := 57) X d_X13_order_57 ?_
    refine L_bipush (pc := 60) (v := 94) X d_X13_order_60 (by decide) ?_
    refine L_iconst (pc := 62) (v := 2) X d_X13_order_62 (by decide) ?_
    refine L_aload_n (pc := 63) X d_X13_order_63 rfl 0 rfl ?_
    refine gf_X13_7 (pc := 64) X d_X13_order_64 ?_
    refine L_bipush (pc := 67) (v := 9) X d_X13_order_67 (by decide) ?_
    refine L_ialdM (pc := 69) (a := 1) X d_X13_order_69 kd_704 (by unfold vp_in; decide) ?_
    refine L_imul (pc := 70) X d_X13_order_70 ?_
    refine L_iadd (pc := 71) X d_X13_order_71 ?_
    refine L_iload_n (pc := 72) X d_X13_order_72 rfl 1 rfl ?_
    obtain ⟨q5, h⟩ := h
    refine L_iastM (pc := 73) (a := 1) X d_X13_order_73 kd_704 q5 ?_
    refine L_aload_n (pc := 74) X d_X13_order_74 rfl 0 rfl ?_
    refine gf_X13_7 (pc := 75) X d_X13_order_75 ?_
    refine L_bipush (pc := 78) (v := 94) X d_X13_order_78 (by decide) ?_
    refine L_iconst (pc := 80) (v := 2) X d_X13_order_80 (by decide) ?_
    refine L_aload_n (pc := 81) X d_X13_order_81 rfl 0 rfl ?_
    refine gf_X13_7 (pc := 82) X d_X13_order_82 ?_
    refine L_bipush (pc := 85) (v := 9) X d_X13_order_85 (by decide) ?_
    refine L_ialdM (pc := 87) (a := 1) X d_X13_order_87 kd_704 (by unfold vp_in; decide) ?_
    refine L_imul (pc := 88) X d_X13_order_88 ?_
    refine L_iadd (pc := 89) X d_X13_order_89 ?_
    refine L_iconst (pc := 90) (v := 1) X d_X13_order_90 (by decide) ?_
    refine L_iadd (pc := 91) X d_X13_order_91 ?_
    refine L_iload_n (pc := 92) X d_X13_order_92 rfl 2 rfl ?_
    obtain ⟨q6, h⟩ := h
    refine L_iastM (pc := 93) (a := 1) X d_X13_order_93 kd_704 q6 ?_
    refine L_aload_n (pc := 94) X d_X13_order_94 rfl 0 rfl ?_
    refine gf_X13_7 (pc := 95) X d_X13_order_95 ?_
    refine L_bipush (pc := 98) (v := 9) X d_X13_order_98 (by decide) ?_
    refine L_dup2 (pc := 100) X d_X13_order_100 rfl rfl ?_
    refine L_ialdM (pc := 101) (a := 1) X d_X13_order_101 kd_704 (by unfold vp_in; decide) ?_
    refine L_iconst (pc := 102) (v := 1) X d_X13_order_102 (by decide) ?_
    refine L_iadd (pc := 103) X d_X13_order_103 ?_
    refine L_iastM (pc := 104) (a := 1) X d_X13_order_104 kd_704 (by unfold vp_in; decide) ?_
    refine L_aload_n (pc := 105) X d_X13_order_105 rfl 0 rfl ?_
    refine gf_X13_7 (pc := 106) X d_X13_order_106 ?_
    refine L_bipush (pc := 109) (v := 9) X d_X13_order_109 (by decide) ?_
    refine L_ialdM (pc := 111) (a := 1) X d_X13_order_111 kd_704 (by unfold vp_in; decide) ?_
    refine L_iconst (pc := 112) (v := 1) X d_X13_order_112 (by decide) ?_
    refine L_isub (pc := 113) X d_X13_order_113 ?_
    exact L_iret (pc := 114) X hr d_X13_order_114 (by decide) (by decide) ⟨_, _, rfl, rfl, h⟩
  · replace h := h.2 c51
    refine L_iconst (pc := 54) (v := 0) X d_X13_order_54 (by decide) ?_
    exact L_iret (pc := 55) X hr d_X13_order_55 (by decide) (by decide) ⟨_, _, rfl, rfl, h⟩
set_option maxHeartbeats 4000000 in
set_option maxRecDepth 100000 in
theorem c_X13_order (hl : l.stackTraces = false) {x1 : Int32} {x2 : Int32} {mm : (Nat → Nat → Int32)} {post : Int32 → (Nat → Nat → Int32) → Prop} (h : w_X13_order post x1 x2 mm) : CT l yX13_order (.code yX13_order cX13_order 3 (some .int)) rm_X13_order 0 0 G ρ [.ref 703, .int x1, .int x2] (cm, mm, oo) (PI (fun u => (cm, u, oo)) post) noX := by
  refine CT_of hl (by decide +kernel) rfl (Nat.le_of_ble_eq_true rfl) (lv0 := [(0, .ref 703), (1, .int x1), (2, .int x2)]) rfl (fun p e s m args below meth c A X hr hex hnm => ?_)
  unfold w_X13_order at h
  refine L_aload_n (pc := 0) X d_X13_order_0 rfl 0 rfl ?_
  refine L_aload_n (pc := 1) X d_X13_order_1 rfl 0 rfl ?_
  refine L_iload_n (pc := 2) X d_X13_order_2 rfl 1 rfl ?_
  refine L_callVZ (pc := 3) X lk_X13_244 (c_X13_isCamp X.hst  h) rfl rfl kd_703 (by decide) rfl rfl ⟨by decide, by decide⟩ ⟨by decide, by decide⟩ (Nat.le_of_ble_eq_true rfl) d_X13_order_3 rfl (fun x κ1 hx => L_nox hx) (fun r1 u2 h => ?_)
  refine L_if_ne (pc := 6) (tgt := 13) X d_X13_order_6 (by decide) (fun c6 => ?_) (fun c6 => ?_)
  · replace h := h.1 (fun z => c6 ((b2_0 _).mpr z))
    refine L_iload_n (pc := 13) X d_X13_order_13 rfl 2 rfl ?_
    refine L_iconst (pc := 14) (v := 1) X d_X13_order_14 (by decide) ?_
    refine L_bipush (pc := 15) (v := 9) X d_X13_order_15 (by decide) ?_
    refine L_callSZ (pc := 17) X lk_X13_50 (c_X13_isIn X.hst  h) rfl rfl rfl ⟨by decide, by decide⟩ ⟨by decide, by decide⟩ (Nat.le_of_ble_eq_true rfl) d_X13_order_17 rfl (fun x κ1 hx => L_nox hx) (fun r3 u4 h => ?_)
    refine L_if_ne (pc := 20) (tgt := 27) X d_X13_order_20 (by decide) (fun c20 => ?_) (fun c20 => ?_)
    · replace h := h.1 (fun z => c20 ((b2_0 _).mpr z))
      refine L_aload_n (pc := 27) X d_X13_order_27 rfl 0 rfl ?_
      refine gf_X13_7 (pc := 28) X d_X13_order_28 ?_
      refine L_bipush (pc := 31) (v := 9) X d_X13_order_31 (by decide) ?_
      refine L_ialdM (pc := 33) (a := 1) X d_X13_order_33 kd_704 (by unfold vp_in; decide) ?_
      refine L_bipush (pc := 34) (v := 12) X d_X13_order_34 (by decide) ?_
      refine L_icmp_ne (pc := 36) (tgt := 43) X d_X13_order_36 (by decide) (fun c36 => ?_) (fun c36 => ?_)
      · replace h := h.1 c36
        refine L_iconst (pc := 43) (v := 0) X d_X13_order_43 (by decide) ?_
        refine LW.sub [0, 1, 2] rfl ?_
        exact T_X13_order_44 hl X hr hex _ _ _  _ h
      · replace h := h.2 c36
        refine L_iconst (pc := 39) (v := 3) X d_X13_order_39 (by decide) ?_
        refine L_goto (pc := 40) (tgt := 44) X d_X13_order_40 (by decide) ?_
        refine LW.sub [0, 1, 2] rfl ?_
        exact T_X13_order_44 hl X hr hex _ _ _  _ h
    · replace h := h.2 ((b2_0 _).mp c20)
      refine L_iconst (pc := 23) (v := 2) X d_X13_order_23 (by decide) ?_
      refine L_goto (pc := 24) (tgt := 44) X d_X13_order_24 (by decide) ?_
      refine LW.sub [0, 1, 2] rfl ?_
      exact T_X13_order_44 hl X hr hex _ _ _  _ h
  · replace h := h.2 ((b2_0 _).mp c6)
    refine L_iconst (pc := 9) (v := 1) X d_X13_order_9 (by decide) ?_
    refine L_goto (pc := 10) (tgt := 44) X d_X13_order_10 (by decide) ?_
    refine LW.sub [0, 1, 2] rfl ?_
    exact T_X13_order_44 hl X hr hex _ _ _  _ h
end G_X13_order
theorem d_X13_ahead_0 : decode cX13_ahead 0 = .ok (.aload_n 0, 1) := by decide +kernel
theorem d_X13_ahead_1 : decode cX13_ahead 1 = .ok (.iload_n 1, 1) := by decide +kernel
theorem d_X13_ahead_2 : decode cX13_ahead 2 = .ok (.iconst 0, 1) := by decide +kernel
theorem d_X13_ahead_3 : decode cX13_ahead 3 = .ok (.aload_n 0, 1) := by decide +kernel
theorem d_X13_ahead_4 : decode cX13_ahead 4 = .ok (.getfield 7, 3) := by decide +kernel
theorem d_X13_ahead_7 : decode cX13_ahead 7 = .ok (.bipush 9, 2) := by decide +kernel
theorem d_X13_ahead_9 : decode cX13_ahead 9 = .ok (.iaload, 1) := by decide +kernel
theorem d_X13_ahead_10 : decode cX13_ahead 10 = .ok (.iconst 1, 1) := by decide +kernel
theorem d_X13_ahead_11 : decode cX13_ahead 11 = .ok (.isub, 1) := by decide +kernel
theorem d_X13_ahead_12 : decode cX13_ahead 12 = .ok (.invokestatic 50, 3) := by decide +kernel
theorem d_X13_ahead_15 : decode cX13_ahead 15 = .ok (.ifCond .eq 20, 3) := by decide +kernel
theorem d_X13_ahead_18 : decode cX13_ahead 18 = .ok (.iload_n 2, 1) := by decide +kernel
theorem d_X13_ahead_19 : decode cX13_ahead 19 = .ok (.iconst 0, 1) := by decide +kernel
theorem d_X13_ahead_20 : decode cX13_ahead 20 = .ok (.aload_n 0, 1) := by decide +kernel
theorem d_X13_ahead_21 : decode cX13_ahead 21 = .ok (.getfield 7, 3) := by decide +kernel
theorem d_X13_ahead_24 : decode cX13_ahead 24 = .ok (.bipush 9, 2) := by decide +kernel
theorem d_X13_ahead_26 : decode cX13_ahead 26 = .ok (.iaload, 1) := by decide +kernel
theorem d_X13_ahead_27 : decode cX13_ahead 27 = .ok (.iconst 1, 1) := by decide +kernel
theorem d_X13_ahead_28 : decode cX13_ahead 28 = .ok (.isub, 1) := by decide +kernel
theorem d_X13_ahead_29 : decode cX13_ahead 29 = .ok (.invokestatic 50, 3) := by decide +kernel
theorem d_X13_ahead_32 : decode cX13_ahead 32 = .ok (.ifCond .ne 7, 3) := by decide +kernel
theorem d_X13_ahead_35 : decode cX13_ahead 35 = .ok (.iconst 1, 1) := by decide +kernel
theorem d_X13_ahead_36 : decode cX13_ahead 36 = .ok (.goto 24, 3) := by decide +kernel
theorem d_X13_ahead_39 : decode cX13_ahead 39 = .ok (.iload_n 1, 1) := by decide +kernel
theorem d_X13_ahead_40 : decode cX13_ahead 40 = .ok (.iload_n 2, 1) := by decide +kernel
theorem d_X13_ahead_41 : decode cX13_ahead 41 = .ok (.if_icmp .eq 14, 3) := by decide +kernel
theorem d_X13_ahead_44 : decode cX13_ahead 44 = .ok (.iload_n 3, 1) := by decide +kernel
theorem d_X13_ahead_45 : decode cX13_ahead 45 = .ok (.iconst 0, 1) := by decide +kernel
theorem d_X13_ahead_46 : decode cX13_ahead 46 = .ok (.sipush 999, 3) := by decide +kernel
theorem d_X13_ahead_49 : decode cX13_ahead 49 = .ok (.invokestatic 50, 3) := by decide +kernel
theorem d_X13_ahead_52 : decode cX13_ahead 52 = .ok (.ifCond .ne 7, 3) := by decide +kernel
theorem d_X13_ahead_55 : decode cX13_ahead 55 = .ok (.iconst 2, 1) := by decide +kernel
theorem d_X13_ahead_56 : decode cX13_ahead 56 = .ok (.goto 4, 3) := by decide +kernel
theorem d_X13_ahead_59 : decode cX13_ahead 59 = .ok (.iconst 0, 1) := by decide +kernel
theorem d_X13_ahead_60 : decode cX13_ahead 60 = .ok (.putfield 47, 3) := by decide +kernel
theorem d_X13_ahead_63 : decode cX13_ahead 63 = .ok (.aload_n 0, 1) := by decide +kernel
theorem d_X13_ahead_64 : decode cX13_ahead 64 = .ok (.getfield 47, 3) := by decide +kernel
theorem d_X13_ahead_67 : decode cX13_ahead 67 = .ok (.ifCond .le 5, 3) := by decide +kernel
theorem d_X13_ahead_70 : decode cX13_ahead 70 = .ok (.iconst 0, 1) := by decide +kernel
theorem d_X13_ahead_71 : decode cX13_ahead 71 = .ok (.ireturn, 1) := by decide +kernel
theorem d_X13_ahead_72 : decode cX13_ahead 72 = .ok (.aload_n 0, 1) := by decide +kernel
theorem d_X13_ahead_73 : decode cX13_ahead 73 = .ok (.getfield 7, 3) := by decide +kernel
theorem d_X13_ahead_76 : decode cX13_ahead 76 = .ok (.bipush 118, 2) := by decide +kernel
theorem d_X13_ahead_78 : decode cX13_ahead 78 = .ok (.bipush 12, 2) := by decide +kernel
theorem d_X13_ahead_80 : decode cX13_ahead 80 = .ok (.iload_n 1, 1) := by decide +kernel
theorem d_X13_ahead_81 : decode cX13_ahead 81 = .ok (.imul, 1) := by decide +kernel
theorem d_X13_ahead_82 : decode cX13_ahead 82 = .ok (.iadd, 1) := by decide +kernel
theorem d_X13_ahead_83 : decode cX13_ahead 83 = .ok (.iload_n 2, 1) := by decide +kernel
theorem d_X13_ahead_84 : decode cX13_ahead 84 = .ok (.iadd, 1) := by decide +kernel
theorem d_X13_ahead_85 : decode cX13_ahead 85 = .ok (.iaload, 1) := by decide +kernel
theorem d_X13_ahead_86 : decode cX13_ahead 86 = .ok (.istore 4, 2) := by decide +kernel
theorem d_X13_ahead_88 : decode cX13_ahead 88 = .ok (.aload_n 0, 1) := by decide +kernel
theorem d_X13_ahead_89 : decode cX13_ahead 89 = .ok (.getfield 7, 3) := by decide +kernel
theorem d_X13_ahead_92 : decode cX13_ahead 92 = .ok (.bipush 118, 2) := by decide +kernel
theorem d_X13_ahead_94 : decode cX13_ahead 94 = .ok (.bipush 12, 2) := by decide +kernel
theorem d_X13_ahead_96 : decode cX13_ahead 96 = .ok (.iload_n 1, 1) := by decide +kernel
theorem d_X13_ahead_97 : decode cX13_ahead 97 = .ok (.imul, 1) := by decide +kernel
theorem d_X13_ahead_98 : decode cX13_ahead 98 = .ok (.iadd, 1) := by decide +kernel
theorem d_X13_ahead_99 : decode cX13_ahead 99 = .ok (.iload_n 2, 1) := by decide +kernel
theorem d_X13_ahead_100 : decode cX13_ahead 100 = .ok (.iadd, 1) := by decide +kernel
theorem d_X13_ahead_101 : decode cX13_ahead 101 = .ok (.iload_n 3, 1) := by decide +kernel
theorem d_X13_ahead_102 : decode cX13_ahead 102 = .ok (.iastore, 1) := by decide +kernel
theorem d_X13_ahead_103 : decode cX13_ahead 103 = .ok (.iload 4, 2) := by decide +kernel
theorem d_X13_ahead_105 : decode cX13_ahead 105 = .ok (.ireturn, 1) := by decide +kernel
abbrev rm_X13_ahead : Room := { frames := 1, cells := 0, slots := 0, locals := 22 }
def B_X13_ahead_60 (post : Int32 → (Nat → Nat → Int32) → Prop) (v1 : Int32) (v2 : Int32) (v3 : Int32) (s0 : Int32) (mm : (Nat → Nat → Int32)) : Prop := (((up2 mm 0 0 s0) 0 0) ≤ 0 → ((vp_in ((118 + (12 * v1)) + v2) 25530) ∧ (vp_in ((118 + (12 * v1)) + v2) 25530) ∧ post ((up2 mm 0 0 s0) 1 (Int32.toNatClampNeg ((118 + (12 * v1)) + v2))) (up2 (up2 mm 0 0 s0) 1 (Int32.toNatClampNeg ((118 + (12 * v1)) + v2)) v3))) ∧ (¬ ((up2 mm 0 0 s0) 0 0) ≤ 0 → (post 0 (up2 mm 0 0 s0)))
def B_X13_ahead_55 (post : Int32 → (Nat → Nat → Int32) → Prop) (v1 : Int32) (v2 : Int32) (v3 : Int32) (mm : (Nat → Nat → Int32)) : Prop := B_X13_ahead_60 post v1 v2 v3 2 mm
def B_X13_ahead_35 (post : Int32 → (Nat → Nat → Int32) → Prop) (v1 : Int32) (v2 : Int32) (v3 : Int32) (mm : (Nat → Nat → Int32)) : Prop := B_X13_ahead_60 post v1 v2 v3 1 mm
def w_X13_ahead (post : Int32 → (Nat → Nat → Int32) → Prop) (x1 : Int32) (x2 : Int32) (x3 : Int32) (mm : (Nat → Nat → Int32)) : Prop := w_X13_isIn (fun (r1 : Bool) (u2 : (Nat → Nat → Int32)) => ((r1 = false) → (B_X13_ahead_35 post x1 x2 x3 u2)) ∧ (¬ (r1 = false) → (w_X13_isIn (fun (r3 : Bool) (u4 : (Nat → Nat → Int32)) => (¬ (r3 = false) → ((x1 = x2 → (B_X13_ahead_55 post x1 x2 x3 u4)) ∧ (¬ x1 = x2 → (w_X13_isIn (fun (r5 : Bool) (u6 : (Nat → Nat → Int32)) => (¬ (r5 = false) → (B_X13_ahead_60 post x1 x2 x3 0 u6)) ∧ ((r5 = false) → (B_X13_ahead_55 post x1 x2 x3 u6))) x3 0 999 u4)))) ∧ ((r3 = false) → (B_X13_ahead_35 post x1 x2 x3 u4))) x2 0 ((u2 1 (Int32.toNatClampNeg (9 : Int32))) - 1) u2))) x1 0 ((mm 1 (Int32.toNatClampNeg (9 : Int32))) - 1) mm
section G_X13_ahead
variable {p : Program} {l : Launch} {e : Env} {s : State} {m : MethodId} {args : Array Value} {below : List Frame} {meth : Method} {c : Code} {G : Gd} {ρ : Nat → Nat} {A : Nat → Prop} {cm : CMu} {oo : Nat → Int64}
set_option maxHeartbeats 4000000 in
set_option maxRecDepth 100000 in
theorem T_X13_ahead_60 {post : Int32 → (Nat → Nat → Int32) → Prop} (hl : l.stackTraces = false) (X : MC p l s m args meth c cX13_ahead 5 RX13 G ρ A) (hr : meth.sig.returnType = (some .int)) (hex : ∀ z ∈ c.exceptionTable.toList, False) : ∀ (v1 : Int32) (v2 : Int32) (v3 : Int32) (s0 : Int32) (mm : (Nat → Nat → Int32)), B_X13_ahead_60 post v1 v2 v3 s0 mm → LW p l e rm_X13_ahead s m args below meth c (Qm below G ρ A (PI (fun u => (cm, u, oo)) post) noX args s 0 0) G ρ A 5 0 0 60 [(0, .ref 703), (1, .int v1), (2, .int v2), (3, .int v3)] [.int s0, .ref 703] (cm, mm, oo) := by
  intro v1 v2 v3 s0 mm h
  unfold B_X13_ahead_60 at h
  refine pf_X13_47 (pc := 60) X d_X13_ahead_60 ?_
  refine L_aload_n (pc := 63) X d_X13_ahead_63 rfl 0 rfl ?_
  refine gf_X13_47 (pc := 64) X d_X13_ahead_64 ?_
  refine L_if_le (pc := 67) (tgt := 72) X d_X13_ahead_67 (by decide) (fun c67 => ?_) (fun c67 => ?_)
  · replace h := h.1 c67
    refine L_aload_n (pc := 72) X d_X13_ahead_72 rfl 0 rfl ?_
    refine gf_X13_7 (pc := 73) X d_X13_ahead_73 ?_
    refine L_bipush (pc := 76) (v := 118) X d_X13_ahead_76 (by decide) ?_
    refine L_bipush (pc := 78) (v := 12) X d_X13_ahead_78 (by decide) ?_
    refine L_iload_n (pc := 80) X d_X13_ahead_80 rfl 1 rfl ?_
    refine L_imul (pc := 81) X d_X13_ahead_81 ?_
    refine L_iadd (pc := 82) X d_X13_ahead_82 ?_
    refine L_iload_n (pc := 83) X d_X13_ahead_83 rfl 2 rfl ?_
    refine L_iadd (pc := 84) X d_X13_ahead_84 ?_
    obtain ⟨q7, h⟩ := h
    refine L_ialdM (pc := 85) (a := 1) X d_X13_ahead_85 kd_704 q7 ?_
    refine L_istore (pc := 86) (lv2 := [(4, .int ((up2 mm 0 0 s0) 1 (Int32.toNatClampNeg ((118 + (12 * v1)) + v2)))), (0, .ref 703), (1, .int v1), (2, .int v2), (3, .int v3)]) X d_X13_ahead_86 (by decide) rfl ?_
    refine L_aload_n (pc := 88) X d_X13_ahead_88 rfl 1 rfl ?_
    refine gf_X13_7 (pc := 89) X d_X13_ahead_89 ?_
    refine L_bipush (pc := 92) (v := 118) X d_X13_ahead_92 (by decide) ?_
    refine L_bipush (pc := 94) (v := 12) X d_X13_ahead_94 (by decide) ?_
    refine L_iload_n (pc := 96) X d_X13_ahead_96 rfl 2 rfl ?_
    refine L_imul (pc := 97) X d_X13_ahead_97 ?_
    refine L_iadd (pc := 98) X d_X13_ahead_98 ?_
    refine L_iload_n (pc := 99) X d_X13_ahead_99 rfl 3 rfl ?_
    refine L_iadd (pc := 100) X d_X13_ahead_100 ?_
    refine L_iload_n (pc := 101) X d_X13_ahead_101 rfl 4 rfl ?_
    obtain ⟨q8, h⟩ := h
    refine L_iastM (pc := 102) (a := 1) X d_X13_ahead_102 kd_704 q8 ?_
    refine L_iload (pc := 103) X d_X13_ahead_103 0 rfl ?_
    exact L_iret (pc := 105) X hr d_X13_ahead_105 (by decide) (by decide) ⟨_, _, rfl, rfl, h⟩
  · replace h := h.2 c67
    refine L_iconst (pc := 70) (v := 0) X d_X13_ahead_70 (by decide) ?_
    exact L_iret (pc := 71) X hr d_X13_ahead_71 (by decide) (by decide) ⟨_, _, rfl, rfl, h⟩
set_option maxHeartbeats 4000000 in
set_option maxRecDepth 100000 in
theorem T_X13_ahead_55 {post : Int32 → (Nat → Nat → Int32) → Prop} (hl : l.stackTraces = false) (X : MC p l s m args meth c cX13_ahead 5 RX13 G ρ A) (hr : meth.sig.returnType = (some .int)) (hex : ∀ z ∈ c.exceptionTable.toList, False) : ∀ (v1 : Int32) (v2 : Int32) (v3 : Int32) (mm : (Nat → Nat → Int32)), B_X13_ahead_55 post v1 v2 v3 mm → LW p l e rm_X13_ahead s m args below meth c (Qm below G ρ A (PI (fun u => (cm, u, oo)) post) noX args s 0 0) G ρ A 5 0 0 55 [(0, .ref 703), (1, .int v1), (2, .int v2), (3, .int v3)] [.ref 703] (cm, mm, oo) := by
  intro v1 v2 v3 mm h
  unfold B_X13_ahead_55 at h
  refine L_iconst (pc := 55) (v := 2) X d_X13_ahead_55 (by decide) ?_
  refine L_goto (pc := 56) (tgt := 60) X d_X13_ahead_56 (by decide) ?_
  refine LW.sub [0, 1, 2, 3] rfl ?_
  exact T_X13_ahead_60 hl X hr hex _ _ _ _  _ h
set_option maxHeartbeats 4000000 in
set_option maxRecDepth 100000 in
theorem T_X13_ahead_35 {post : Int32 → (Nat → Nat → Int32) → Prop} (hl : l.stackTraces = false) (X : MC p l s m args meth c cX13_ahead 5 RX13 G ρ A) (hr : meth.sig.returnType = (some .int)) (hex : ∀ z ∈ c.exceptionTable.toList, False) : ∀ (v1 : Int32) (v2 : Int32) (v3 : Int32) (mm : (Nat → Nat → Int32)), B_X13_ahead_35 post v1 v2 v3 mm → LW p l e rm_X13_ahead s m args below meth c (Qm below G ρ A (PI (fun u => (cm, u, oo)) post) noX args s 0 0) G ρ A 5 0 0 35 [(0, .ref 703), (1, .int v1), (2, .int v2), (3, .int v3)] [.ref 703] (cm, mm, oo) := by
  intro v1 v2 v3 mm h
  unfold B_X13_ahead_35 at h
  refine L_iconst (pc := 35) (v := 1) X d_X13_ahead_35 (by decide) ?_
  refine L_goto (pc := 36) (tgt := 60) X d_X13_ahead_36 (by decide) ?_
  refine LW.sub [0, 1, 2, 3] rfl ?_
  exact T_X13_ahead_60 hl X hr hex _ _ _ _  _ h
set_option maxHeartbeats 4000000 in
set_option maxRecDepth 100000 in
theorem c_X13_ahead (hl : l.stackTraces = false) {x1 : Int32} {x2 : Int32} {x3 : Int32} {mm : (Nat → Nat → Int32)} {post : Int32 → (Nat → Nat → Int32) → Prop} (h : w_X13_ahead post x1 x2 x3 mm) : CT l yX13_ahead (.code yX13_ahead cX13_ahead 5 (some .int)) rm_X13_ahead 0 0 G ρ [.ref 703, .int x1, .int x2, .int x3] (cm, mm, oo) (PI (fun u => (cm, u, oo)) post) noX := by
  refine CT_of hl (by decide +kernel) rfl (Nat.le_of_ble_eq_true rfl) (lv0 := [(0, .ref 703), (1, .int x1), (2, .int x2), (3, .int x3)]) rfl (fun p e s m args below meth c A X hr hex hnm => ?_)
  unfold w_X13_ahead at h
  refine L_aload_n (pc := 0) X d_X13_ahead_0 rfl 0 rfl ?_
  refine L_iload_n (pc := 1) X d_X13_ahead_1 rfl 1 rfl ?_
  refine L_iconst (pc := 2) (v := 0) X d_X13_ahead_2 (by decide) ?_
  refine L_aload_n (pc := 3) X d_X13_ahead_3 rfl 0 rfl ?_
  refine gf_X13_7 (pc := 4) X d_X13_ahead_4 ?_
  refine L_bipush (pc := 7) (v := 9) X d_X13_ahead_7 (by decide) ?_
  refine L_ialdM (pc := 9) (a := 1) X d_X13_ahead_9 kd_704 (by unfold vp_in; decide) ?_
  refine L_iconst (pc := 10) (v := 1) X d_X13_ahead_10 (by decide) ?_
  refine L_isub (pc := 11) X d_X13_ahead_11 ?_
  refine L_callSZ (pc := 12) X lk_X13_50 (c_X13_isIn X.hst  h) rfl rfl rfl ⟨by decide, by decide⟩ ⟨by decide, by decide⟩ (Nat.le_of_ble_eq_true rfl) d_X13_ahead_12 rfl (fun x κ1 hx => L_nox hx) (fun r1 u2 h => ?_)
  refine L_if_eq (pc := 15) (tgt := 35) X d_X13_ahead_15 (by decide) (fun c15 => ?_) (fun c15 => ?_)
  · replace h := h.1 ((b2_0 _).mp c15)
    refine LW.sub [0, 1, 2, 3] rfl ?_
    exact T_X13_ahead_35 hl X hr hex _ _ _  _ h
  · replace h := h.2 (fun z => c15 ((b2_0 _).mpr z))
    refine L_iload_n (pc := 18) X d_X13_ahead_18 rfl 2 rfl ?_
    refine L_iconst (pc := 19) (v := 0) X d_X13_ahead_19 (by decide) ?_
    refine L_aload_n (pc := 20) X d_X13_ahead_20 rfl 0 rfl ?_
    refine gf_X13_7 (pc := 21) X d_X13_ahead_21 ?_
    refine L_bipush (pc := 24) (v := 9) X d_X13_ahead_24 (by decide) ?_
    refine L_ialdM (pc := 26) (a := 1) X d_X13_ahead_26 kd_704 (by unfold vp_in; decide) ?_
    refine L_iconst (pc := 27) (v := 1) X d_X13_ahead_27 (by decide) ?_
    refine L_isub (pc := 28) X d_X13_ahead_28 ?_
    refine L_callSZ (pc := 29) X lk_X13_50 (c_X13_isIn X.hst  h) rfl rfl rfl ⟨by decide, by decide⟩ ⟨by decide, by decide⟩ (Nat.le_of_ble_eq_true rfl) d_X13_ahead_29 rfl (fun x κ1 hx => L_nox hx) (fun r3 u4 h => ?_)
    refine L_if_ne (pc := 32) (tgt := 39) X d_X13_ahead_32 (by decide) (fun c32 => ?_) (fun c32 => ?_)
    · replace h := h.1 (fun z => c32 ((b2_0 _).mpr z))
      refine L_iload_n (pc := 39) X d_X13_ahead_39 rfl 1 rfl ?_
      refine L_iload_n (pc := 40) X d_X13_ahead_40 rfl 2 rfl ?_
      refine L_icmp_eq (pc := 41) (tgt := 55) X d_X13_ahead_41 (by decide) (fun c41 => ?_) (fun c41 => ?_)
      · replace h := h.1 c41
        refine LW.sub [0, 1, 2, 3] rfl ?_
        exact T_X13_ahead_55 hl X hr hex _ _ _  _ h
      · replace h := h.2 c41
        refine L_iload_n (pc := 44) X d_X13_ahead_44 rfl 3 rfl ?_
        refine L_iconst (pc := 45) (v := 0) X d_X13_ahead_45 (by decide) ?_
        refine L_sipush (pc := 46) (v := 999) X d_X13_ahead_46 (by decide) ?_
        refine L_callSZ (pc := 49) X lk_X13_50 (c_X13_isIn X.hst  h) rfl rfl rfl ⟨by decide, by decide⟩ ⟨by decide, by decide⟩ (Nat.le_of_ble_eq_true rfl) d_X13_ahead_49 rfl (fun x κ1 hx => L_nox hx) (fun r5 u6 h => ?_)
        refine L_if_ne (pc := 52) (tgt := 59) X d_X13_ahead_52 (by decide) (fun c52 => ?_) (fun c52 => ?_)
        · replace h := h.1 (fun z => c52 ((b2_0 _).mpr z))
          refine L_iconst (pc := 59) (v := 0) X d_X13_ahead_59 (by decide) ?_
          refine LW.sub [0, 1, 2, 3] rfl ?_
          exact T_X13_ahead_60 hl X hr hex _ _ _ _  _ h
        · replace h := h.2 ((b2_0 _).mp c52)
          refine LW.sub [0, 1, 2, 3] rfl ?_
          exact T_X13_ahead_55 hl X hr hex _ _ _  _ h
    · replace h := h.2 ((b2_0 _).mp c32)
      refine LW.sub [0, 1, 2, 3] rfl ?_
      exact T_X13_ahead_35 hl X hr hex _ _ _  _ h
end G_X13_ahead
theorem d_X13_orderTime_0 : decode cX13_orderTime 0 = .ok (.aload_n 0, 1) := by decide +kernel
theorem d_X13_orderTime_1 : decode cX13_orderTime 1 = .ok (.iconst 0, 1) := by decide +kernel
theorem d_X13_orderTime_2 : decode cX13_orderTime 2 = .ok (.aload_n 0, 1) := by decide +kernel
theorem d_X13_orderTime_3 : decode cX13_orderTime 3 = .ok (.getfield 7, 3) := by decide +kernel
theorem d_X13_orderTime_6 : decode cX13_orderTime 6 = .ok (.bipush 94, 2) := by decide +kernel
theorem d_X13_orderTime_8 : decode cX13_orderTime 8 = .ok (.iconst 2, 1) := by decide +kernel
theorem d_X13_orderTime_9 : decode cX13_orderTime 9 = .ok (.iload_n 1, 1) := by decide +kernel
theorem d_X13_orderTime_10 : decode cX13_orderTime 10 = .ok (.imul, 1) := by decide +kernel
theorem d_X13_orderTime_11 : decode cX13_orderTime 11 = .ok (.iadd, 1) := by decide +kernel
theorem d_X13_orderTime_12 : decode cX13_orderTime 12 = .ok (.iaload, 1) := by decide +kernel
theorem d_X13_orderTime_13 : decode cX13_orderTime 13 = .ok (.aload_n 0, 1) := by decide +kernel
theorem d_X13_orderTime_14 : decode cX13_orderTime 14 = .ok (.getfield 7, 3) := by decide +kernel
theorem d_X13_orderTime_17 : decode cX13_orderTime 17 = .ok (.bipush 94, 2) := by decide +kernel
theorem d_X13_orderTime_19 : decode cX13_orderTime 19 = .ok (.iconst 2, 1) := by decide +kernel
theorem d_X13_orderTime_20 : decode cX13_orderTime 20 = .ok (.iload_n 1, 1) := by decide +kernel
theorem d_X13_orderTime_21 : decode cX13_orderTime 21 = .ok (.imul, 1) := by decide +kernel
theorem d_X13_orderTime_22 : decode cX13_orderTime 22 = .ok (.iadd, 1) := by decide +kernel
theorem d_X13_orderTime_23 : decode cX13_orderTime 23 = .ok (.iconst 1, 1) := by decide +kernel
theorem d_X13_orderTime_24 : decode cX13_orderTime 24 = .ok (.iadd, 1) := by decide +kernel
theorem d_X13_orderTime_25 : decode cX13_orderTime 25 = .ok (.iaload, 1) := by decide +kernel
theorem d_X13_orderTime_26 : decode cX13_orderTime 26 = .ok (.aload_n 0, 1) := by decide +kernel
theorem d_X13_orderTime_27 : decode cX13_orderTime 27 = .ok (.getfield 7, 3) := by decide +kernel
theorem d_X13_orderTime_30 : decode cX13_orderTime 30 = .ok (.iconst 5, 1) := by decide +kernel
theorem d_X13_orderTime_31 : decode cX13_orderTime 31 = .ok (.iaload, 1) := by decide +kernel
theorem d_X13_orderTime_32 : decode cX13_orderTime 32 = .ok (.invokevirtual 250, 3) := by decide +kernel
theorem d_X13_orderTime_35 : decode cX13_orderTime 35 = .ok (.ireturn, 1) := by decide +kernel
abbrev rm_X13_orderTime : Room := { frames := 2, cells := 0, slots := 0, locals := 48 }
def w_X13_orderTime (post : Int32 → (Nat → Nat → Int32) → Prop) (x1 : Int32) (mm : (Nat → Nat → Int32)) : Prop := (vp_in (94 + (2 * x1)) 25530) ∧ (vp_in ((94 + (2 * x1)) + 1) 25530) ∧ w_X13_wayOf (fun (r3 : Int32) (u4 : (Nat → Nat → Int32)) => post r3 u4) 0 (mm 1 (Int32.toNatClampNeg (94 + (2 * x1)))) (mm 1 (Int32.toNatClampNeg ((94 + (2 * x1)) + 1))) (mm 1 (Int32.toNatClampNeg (5 : Int32))) mm
section G_X13_orderTime
variable {p : Program} {l : Launch} {e : Env} {s : State} {m : MethodId} {args : Array Value} {below : List Frame} {meth : Method} {c : Code} {G : Gd} {ρ : Nat → Nat} {A : Nat → Prop} {cm : CMu} {oo : Nat → Int64}
set_option maxHeartbeats 4000000 in
set_option maxRecDepth 100000 in
theorem c_X13_orderTime (hl : l.stackTraces = false) {x1 : Int32} {mm : (Nat → Nat → Int32)} {post : Int32 → (Nat → Nat → Int32) → Prop} (h : w_X13_orderTime post x1 mm) : CT l yX13_orderTime (.code yX13_orderTime cX13_orderTime 2 (some .int)) rm_X13_orderTime 0 0 G ρ [.ref 703, .int x1] (cm, mm, oo) (PI (fun u => (cm, u, oo)) post) noX := by
  refine CT_of hl (by decide +kernel) rfl (Nat.le_of_ble_eq_true rfl) (lv0 := [(0, .ref 703), (1, .int x1)]) rfl (fun p e s m args below meth c A X hr hex hnm => ?_)
  unfold w_X13_orderTime at h
  refine L_aload_n (pc := 0) X d_X13_orderTime_0 rfl 0 rfl ?_
  refine L_iconst (pc := 1) (v := 0) X d_X13_orderTime_1 (by decide) ?_
  refine L_aload_n (pc := 2) X d_X13_orderTime_2 rfl 0 rfl ?_
  refine gf_X13_7 (pc := 3) X d_X13_orderTime_3 ?_
  refine L_bipush (pc := 6) (v := 94) X d_X13_orderTime_6 (by decide) ?_
  refine L_iconst (pc := 8) (v := 2) X d_X13_orderTime_8 (by decide) ?_
  refine L_iload_n (pc := 9) X d_X13_orderTime_9 rfl 1 rfl ?_
  refine L_imul (pc := 10) X d_X13_orderTime_10 ?_
  refine L_iadd (pc := 11) X d_X13_orderTime_11 ?_
  obtain ⟨q1, h⟩ := h
  refine L_ialdM (pc := 12) (a := 1) X d_X13_orderTime_12 kd_704 q1 ?_
  refine L_aload_n (pc := 13) X d_X13_orderTime_13 rfl 0 rfl ?_
  refine gf_X13_7 (pc := 14) X d_X13_orderTime_14 ?_
  refine L_bipush (pc := 17) (v := 94) X d_X13_orderTime_17 (by decide) ?_
  refine L_iconst (pc := 19) (v := 2) X d_X13_orderTime_19 (by decide) ?_
  refine L_iload_n (pc := 20) X d_X13_orderTime_20 rfl 1 rfl ?_
  refine L_imul (pc := 21) X d_X13_orderTime_21 ?_
  refine L_iadd (pc := 22) X d_X13_orderTime_22 ?_
  refine L_iconst (pc := 23) (v := 1) X d_X13_orderTime_23 (by decide) ?_
  refine L_iadd (pc := 24) X d_X13_orderTime_24 ?_
  obtain ⟨q2, h⟩ := h
  refine L_ialdM (pc := 25) (a := 1) X d_X13_orderTime_25 kd_704 q2 ?_
  refine L_aload_n (pc := 26) X d_X13_orderTime_26 rfl 0 rfl ?_
  refine gf_X13_7 (pc := 27) X d_X13_orderTime_27 ?_
  refine L_iconst (pc := 30) (v := 5) X d_X13_orderTime_30 (by decide) ?_
  refine L_ialdM (pc := 31) (a := 1) X d_X13_orderTime_31 kd_704 (by unfold vp_in; decide) ?_
  refine L_callVI (pc := 32) X lk_X13_250 (c_X13_wayOf X.hst  h) rfl rfl kd_703 (by decide) rfl rfl ⟨by decide, by decide⟩ ⟨by decide, by decide⟩ (Nat.zero_le _) d_X13_orderTime_32 rfl (fun x κ1 hx => L_nox hx) (fun r3 u4 h => ?_)
  exact L_iret (pc := 35) X hr d_X13_orderTime_35 (by decide) (by decide) ⟨_, _, rfl, rfl, h⟩
end G_X13_orderTime
theorem yk_X13_orderTime : yX13_orderTime.cls = RX13 ∧ yX13_orderTime.cls ≠ "java/lang/invoke/MethodHandle" ∧ yX13_orderTime.cls ≠ "java/lang/invoke/VarHandle" ∧ (parseMethodDescriptor yX13_orderTime.desc).map (fun d => d.parameters.length) = some 1 := by decide +kernel
theorem lk_X13_253 : LinkV RX13 253 RX13 yX13_orderTime (.code yX13_orderTime cX13_orderTime 2 (some .int)) 1 := ⟨tw_1551, tw_1553, tw_67, tw_83, tw_1554, yk_X13_orderTime⟩
theorem d_X13_plan_0 : decode cX13_plan 0 = .ok (.aload_n 0, 1) := by decide +kernel
theorem d_X13_plan_1 : decode cX13_plan 1 = .ok (.iload_n 1, 1) := by decide +kernel
theorem d_X13_plan_2 : decode cX13_plan 2 = .ok (.iconst (-1), 1) := by decide +kernel
theorem d_X13_plan_3 : decode cX13_plan 3 = .ok (.if_icmp .eq 24, 3) := by decide +kernel
theorem d_X13_plan_6 : decode cX13_plan 6 = .ok (.iload_n 1, 1) := by decide +kernel
theorem d_X13_plan_7 : decode cX13_plan 7 = .ok (.iconst 0, 1) := by decide +kernel
theorem d_X13_plan_8 : decode cX13_plan 8 = .ok (.aload_n 0, 1) := by decide +kernel
theorem d_X13_plan_9 : decode cX13_plan 9 = .ok (.getfield 7, 3) := by decide +kernel
theorem d_X13_plan_12 : decode cX13_plan 12 = .ok (.bipush 9, 2) := by decide +kernel
theorem d_X13_plan_14 : decode cX13_plan 14 = .ok (.iaload, 1) := by decide +kernel
theorem d_X13_plan_15 : decode cX13_plan 15 = .ok (.iconst 1, 1) := by decide +kernel
theorem d_X13_plan_16 : decode cX13_plan 16 = .ok (.isub, 1) := by decide +kernel
theorem d_X13_plan_17 : decode cX13_plan 17 = .ok (.invokestatic 50, 3) := by decide +kernel
theorem d_X13_plan_20 : decode cX13_plan 20 = .ok (.ifCond .ne 7, 3) := by decide +kernel
theorem d_X13_plan_23 : decode cX13_plan 23 = .ok (.iconst 1, 1) := by decide +kernel
theorem d_X13_plan_24 : decode cX13_plan 24 = .ok (.goto 4, 3) := by decide +kernel
theorem d_X13_plan_27 : decode cX13_plan 27 = .ok (.iconst 0, 1) := by decide +kernel
theorem d_X13_plan_28 : decode cX13_plan 28 = .ok (.putfield 47, 3) := by decide +kernel
theorem d_X13_plan_31 : decode cX13_plan 31 = .ok (.aload_n 0, 1) := by decide +kernel
theorem d_X13_plan_32 : decode cX13_plan 32 = .ok (.getfield 47, 3) := by decide +kernel
theorem d_X13_plan_35 : decode cX13_plan 35 = .ok (.ifCond .le 5, 3) := by decide +kernel
theorem d_X13_plan_38 : decode cX13_plan 38 = .ok (.iconst 0, 1) := by decide +kernel
theorem d_X13_plan_39 : decode cX13_plan 39 = .ok (.ireturn, 1) := by decide +kernel
theorem d_X13_plan_40 : decode cX13_plan 40 = .ok (.aload_n 0, 1) := by decide +kernel
theorem d_X13_plan_41 : decode cX13_plan 41 = .ok (.getfield 7, 3) := by decide +kernel
theorem d_X13_plan_44 : decode cX13_plan 44 = .ok (.bipush 9, 2) := by decide +kernel
theorem d_X13_plan_46 : decode cX13_plan 46 = .ok (.iaload, 1) := by decide +kernel
theorem d_X13_plan_47 : decode cX13_plan 47 = .ok (.istore_n 2, 1) := by decide +kernel
theorem d_X13_plan_48 : decode cX13_plan 48 = .ok (.iconst 0, 1) := by decide +kernel
theorem d_X13_plan_49 : decode cX13_plan 49 = .ok (.istore_n 3, 1) := by decide +kernel
theorem d_X13_plan_50 : decode cX13_plan 50 = .ok (.iload_n 3, 1) := by decide +kernel
theorem d_X13_plan_51 : decode cX13_plan 51 = .ok (.iload_n 2, 1) := by decide +kernel
theorem d_X13_plan_52 : decode cX13_plan 52 = .ok (.if_icmp .ge 20, 3) := by decide +kernel
theorem d_X13_plan_55 : decode cX13_plan 55 = .ok (.aload_n 0, 1) := by decide +kernel
theorem d_X13_plan_56 : decode cX13_plan 56 = .ok (.getfield 38, 3) := by decide +kernel
theorem d_X13_plan_59 : decode cX13_plan 59 = .ok (.iload_n 3, 1) := by decide +kernel
theorem d_X13_plan_60 : decode cX13_plan 60 = .ok (.aload_n 0, 1) := by decide +kernel
theorem d_X13_plan_61 : decode cX13_plan 61 = .ok (.iload_n 3, 1) := by decide +kernel
theorem d_X13_plan_62 : decode cX13_plan 62 = .ok (.invokevirtual 253, 3) := by decide +kernel
theorem d_X13_plan_65 : decode cX13_plan 65 = .ok (.iastore, 1) := by decide +kernel
theorem d_X13_plan_66 : decode cX13_plan 66 = .ok (.iinc 3 1, 3) := by decide +kernel
theorem d_X13_plan_69 : decode cX13_plan 69 = .ok (.goto (-19), 3) := by decide +kernel
theorem d_X13_plan_72 : decode cX13_plan 72 = .ok (.iconst 1, 1) := by decide +kernel
theorem d_X13_plan_73 : decode cX13_plan 73 = .ok (.istore_n 3, 1) := by decide +kernel
theorem d_X13_plan_74 : decode cX13_plan 74 = .ok (.iconst 0, 1) := by decide +kernel
theorem d_X13_plan_75 : decode cX13_plan 75 = .ok (.istore 4, 2) := by decide +kernel
theorem d_X13_plan_77 : decode cX13_plan 77 = .ok (.iload 4, 2) := by decide +kernel
theorem d_X13_plan_79 : decode cX13_plan 79 = .ok (.iload_n 2, 1) := by decide +kernel
theorem d_X13_plan_80 : decode cX13_plan 80 = .ok (.if_icmp .gt 110, 3) := by decide +kernel
theorem d_X13_plan_83 : decode cX13_plan 83 = .ok (.iload_n 3, 1) := by decide +kernel
theorem d_X13_plan_84 : decode cX13_plan 84 = .ok (.ifCond .eq 106, 3) := by decide +kernel
theorem d_X13_plan_87 : decode cX13_plan 87 = .ok (.iconst 0, 1) := by decide +kernel
theorem d_X13_plan_88 : decode cX13_plan 88 = .ok (.istore_n 3, 1) := by decide +kernel
theorem d_X13_plan_89 : decode cX13_plan 89 = .ok (.iconst 0, 1) := by decide +kernel
theorem d_X13_plan_90 : decode cX13_plan 90 = .ok (.istore 5, 2) := by decide +kernel
theorem d_X13_plan_92 : decode cX13_plan 92 = .ok (.iload 5, 2) := by decide +kernel
theorem d_X13_plan_94 : decode cX13_plan 94 = .ok (.iload_n 2, 1) := by decide +kernel
theorem d_X13_plan_95 : decode cX13_plan 95 = .ok (.if_icmp .ge 89, 3) := by decide +kernel
theorem d_X13_plan_98 : decode cX13_plan 98 = .ok (.iconst 0, 1) := by decide +kernel
theorem d_X13_plan_99 : decode cX13_plan 99 = .ok (.istore 6, 2) := by decide +kernel
theorem d_X13_plan_101 : decode cX13_plan 101 = .ok (.iload 6, 2) := by decide +kernel
theorem d_X13_plan_103 : decode cX13_plan 103 = .ok (.iload_n 2, 1) := by decide +kernel
theorem d_X13_plan_104 : decode cX13_plan 104 = .ok (.if_icmp .ge 74, 3) := by decide +kernel
theorem d_X13_plan_107 : decode cX13_plan 107 = .ok (.aload_n 0, 1) := by decide +kernel
theorem d_X13_plan_108 : decode cX13_plan 108 = .ok (.getfield 7, 3) := by decide +kernel
theorem d_X13_plan_111 : decode cX13_plan 111 = .ok (.bipush 118, 2) := by decide +kernel
theorem d_X13_plan_113 : decode cX13_plan 113 = .ok (.bipush 12, 2) := by decide +kernel
theorem d_X13_plan_115 : decode cX13_plan 115 = .ok (.iload 5, 2) := by decide +kernel
theorem d_X13_plan_117 : decode cX13_plan 117 = .ok (.imul, 1) := by decide +kernel
theorem d_X13_plan_118 : decode cX13_plan 118 = .ok (.iadd, 1) := by decide +kernel
theorem d_X13_plan_119 : decode cX13_plan 119 = .ok (.iload 6, 2) := by decide +kernel
theorem d_X13_plan_121 : decode cX13_plan 121 = .ok (.iadd, 1) := by decide +kernel
theorem d_X13_plan_122 : decode cX13_plan 122 = .ok (.iaload, 1) := by decide +kernel
theorem d_X13_plan_123 : decode cX13_plan 123 = .ok (.istore 7, 2) := by decide +kernel
theorem d_X13_plan_125 : decode cX13_plan 125 = .ok (.iload 7, 2) := by decide +kernel
theorem d_X13_plan_127 : decode cX13_plan 127 = .ok (.ifCond .eq 45, 3) := by decide +kernel
theorem d_X13_plan_130 : decode cX13_plan 130 = .ok (.aload_n 0, 1) := by decide +kernel
theorem d_X13_plan_131 : decode cX13_plan 131 = .ok (.getfield 38, 3) := by decide +kernel
theorem d_X13_plan_134 : decode cX13_plan 134 = .ok (.iload 6, 2) := by decide +kernel
theorem d_X13_plan_136 : decode cX13_plan 136 = .ok (.iaload, 1) := by decide +kernel
theorem d_X13_plan_137 : decode cX13_plan 137 = .ok (.aload_n 0, 1) := by decide +kernel
theorem d_X13_plan_138 : decode cX13_plan 138 = .ok (.getfield 38, 3) := by decide +kernel
theorem d_X13_plan_141 : decode cX13_plan 141 = .ok (.iload 5, 2) := by decide +kernel
theorem d_X13_plan_143 : decode cX13_plan 143 = .ok (.iaload, 1) := by decide +kernel
theorem d_X13_plan_144 : decode cX13_plan 144 = .ok (.iload 7, 2) := by decide +kernel
theorem d_X13_plan_146 : decode cX13_plan 146 = .ok (.iadd, 1) := by decide +kernel
theorem d_X13_plan_147 : decode cX13_plan 147 = .ok (.if_icmp .lt 6, 3) := by decide +kernel
theorem d_X13_plan_150 : decode cX13_plan 150 = .ok (.goto 22, 3) := by decide +kernel
theorem d_X13_plan_153 : decode cX13_plan 153 = .ok (.aload_n 0, 1) := by decide +kernel
theorem d_X13_plan_154 : decode cX13_plan 154 = .ok (.getfield 38, 3) := by decide +kernel
theorem d_X13_plan_157 : decode cX13_plan 157 = .ok (.iload 6, 2) := by decide +kernel
theorem d_X13_plan_159 : decode cX13_plan 159 = .ok (.aload_n 0, 1) := by decide +kernel
theorem d_X13_plan_160 : decode cX13_plan 160 = .ok (.getfield 38, 3) := by decide +kernel
theorem d_X13_plan_163 : decode cX13_plan 163 = .ok (.iload 5, 2) := by decide +kernel
theorem d_X13_plan_165 : decode cX13_plan 165 = .ok (.iaload, 1) := by decide +kernel
theorem d_X13_plan_166 : decode cX13_plan 166 = .ok (.iload 7, 2) := by decide +kernel
theorem d_X13_plan_168 : decode cX13_plan 168 = .ok (.iadd, 1) := by decide +kernel
theorem d_X13_plan_169 : decode cX13_plan 169 = .ok (.iastore, 1) := by decide +kernel
theorem d_X13_plan_170 : decode cX13_plan 170 = .ok (.iconst 1, 1) := by decide +kernel
theorem d_X13_plan_171 : decode cX13_plan 171 = .ok (.istore_n 3, 1) := by decide +kernel
theorem d_X13_plan_172 : decode cX13_plan 172 = .ok (.iinc 6 1, 3) := by decide +kernel
theorem d_X13_plan_175 : decode cX13_plan 175 = .ok (.goto (-74), 3) := by decide +kernel
theorem d_X13_plan_178 : decode cX13_plan 178 = .ok (.iinc 5 1, 3) := by decide +kernel
theorem d_X13_plan_181 : decode cX13_plan 181 = .ok (.goto (-89), 3) := by decide +kernel
theorem d_X13_plan_184 : decode cX13_plan 184 = .ok (.iinc 4 1, 3) := by decide +kernel
theorem d_X13_plan_187 : decode cX13_plan 187 = .ok (.goto (-110), 3) := by decide +kernel
theorem d_X13_plan_190 : decode cX13_plan 190 = .ok (.iload_n 3, 1) := by decide +kernel
theorem d_X13_plan_191 : decode cX13_plan 191 = .ok (.ifCond .eq 5, 3) := by decide +kernel
theorem d_X13_plan_194 : decode cX13_plan 194 = .ok (.iconst (-1), 1) := by decide +kernel
theorem d_X13_plan_195 : decode cX13_plan 195 = .ok (.ireturn, 1) := by decide +kernel
theorem d_X13_plan_196 : decode cX13_plan 196 = .ok (.iload_n 1, 1) := by decide +kernel
theorem d_X13_plan_197 : decode cX13_plan 197 = .ok (.iconst (-1), 1) := by decide +kernel
theorem d_X13_plan_198 : decode cX13_plan 198 = .ok (.if_icmp .eq 16, 3) := by decide +kernel
theorem d_X13_plan_201 : decode cX13_plan 201 = .ok (.aload_n 0, 1) := by decide +kernel
theorem d_X13_plan_202 : decode cX13_plan 202 = .ok (.getfield 38, 3) := by decide +kernel
theorem d_X13_plan_205 : decode cX13_plan 205 = .ok (.iload_n 1, 1) := by decide +kernel
theorem d_X13_plan_206 : decode cX13_plan 206 = .ok (.iaload, 1) := by decide +kernel
theorem d_X13_plan_207 : decode cX13_plan 207 = .ok (.aload_n 0, 1) := by decide +kernel
theorem d_X13_plan_208 : decode cX13_plan 208 = .ok (.iload_n 1, 1) := by decide +kernel
theorem d_X13_plan_209 : decode cX13_plan 209 = .ok (.invokevirtual 253, 3) := by decide +kernel
theorem d_X13_plan_212 : decode cX13_plan 212 = .ok (.isub, 1) := by decide +kernel
theorem d_X13_plan_213 : decode cX13_plan 213 = .ok (.ireturn, 1) := by decide +kernel
theorem d_X13_plan_214 : decode cX13_plan 214 = .ok (.iconst 0, 1) := by decide +kernel
theorem d_X13_plan_215 : decode cX13_plan 215 = .ok (.istore 4, 2) := by decide +kernel
theorem d_X13_plan_217 : decode cX13_plan 217 = .ok (.iconst 0, 1) := by decide +kernel
theorem d_X13_plan_218 : decode cX13_plan 218 = .ok (.istore 5, 2) := by decide +kernel
theorem d_X13_plan_220 : decode cX13_plan 220 = .ok (.iload 5, 2) := by decide +kernel
theorem d_X13_plan_222 : decode cX13_plan 222 = .ok (.iload_n 2, 1) := by decide +kernel
theorem d_X13_plan_223 : decode cX13_plan 223 = .ok (.if_icmp .ge 35, 3) := by decide +kernel
theorem d_X13_plan_226 : decode cX13_plan 226 = .ok (.aload_n 0, 1) := by decide +kernel
theorem d_X13_plan_227 : decode cX13_plan 227 = .ok (.getfield 38, 3) := by decide +kernel
theorem d_X13_plan_230 : decode cX13_plan 230 = .ok (.iload 5, 2) := by decide +kernel
theorem d_X13_plan_232 : decode cX13_plan 232 = .ok (.iaload, 1) := by decide +kernel
theorem d_X13_plan_233 : decode cX13_plan 233 = .ok (.iload 4, 2) := by decide +kernel
theorem d_X13_plan_235 : decode cX13_plan 235 = .ok (.if_icmp .le 13, 3) := by decide +kernel
theorem d_X13_plan_238 : decode cX13_plan 238 = .ok (.aload_n 0, 1) := by decide +kernel
theorem d_X13_plan_239 : decode cX13_plan 239 = .ok (.getfield 38, 3) := by decide +kernel
theorem d_X13_plan_242 : decode cX13_plan 242 = .ok (.iload 5, 2) := by decide +kernel
theorem d_X13_plan_244 : decode cX13_plan 244 = .ok (.iaload, 1) := by decide +kernel
theorem d_X13_plan_245 : decode cX13_plan 245 = .ok (.goto 5, 3) := by decide +kernel
theorem d_X13_plan_248 : decode cX13_plan 248 = .ok (.iload 4, 2) := by decide +kernel
theorem d_X13_plan_250 : decode cX13_plan 250 = .ok (.istore 4, 2) := by decide +kernel
theorem d_X13_plan_252 : decode cX13_plan 252 = .ok (.iinc 5 1, 3) := by decide +kernel
theorem d_X13_plan_255 : decode cX13_plan 255 = .ok (.goto (-35), 3) := by decide +kernel
theorem d_X13_plan_258 : decode cX13_plan 258 = .ok (.iload 4, 2) := by decide +kernel
theorem d_X13_plan_260 : decode cX13_plan 260 = .ok (.ireturn, 1) := by decide +kernel
abbrev rm_X13_plan : Room := { frames := 3, cells := 0, slots := 0, locals := 69 }
def B_X13_plan_250 (post : Int32 → (Nat → Nat → Int32) → Prop) (k220 : Int32 → Int32 → Int32 → (Nat → Nat → Int32) → Prop) (v2 : Int32) (v5 : Int32) (s0 : Int32) (mm : (Nat → Nat → Int32)) : Prop := k220 v2 s0 (v5 + 1) mm
def B_X13_plan_220 (post : Int32 → (Nat → Nat → Int32) → Prop) : Nat → Int32 → Int32 → Int32 → (Nat → Nat → Int32) → Prop
  | 0 => fun _ _ _ _ => False
  | n + 1 => fun v2 v4 v5 mm => (v2 ≤ v5 → (post v4 mm)) ∧ (¬ v2 ≤ v5 → ((vp_in v5 12) ∧ ((mm 9 (Int32.toNatClampNeg v5)) ≤ v4 → (B_X13_plan_250 post (B_X13_plan_220 post n) v2 v5 v4 mm)) ∧ (¬ (mm 9 (Int32.toNatClampNeg v5)) ≤ v4 → ((vp_in v5 12) ∧ B_X13_plan_250 post (B_X13_plan_220 post n) v2 v5 (mm 9 (Int32.toNatClampNeg v5)) mm))))
def B_X13_plan_190 (post : Int32 → (Nat → Nat → Int32) → Prop) (v1 : Int32) (v2 : Int32) (v3 : Int32) (mm : (Nat → Nat → Int32)) : Prop := (v3 = 0 → ((v1 = (-1) → (∃ n220, B_X13_plan_220 post n220 v2 0 0 mm)) ∧ (¬ v1 = (-1) → ((vp_in v1 12) ∧ w_X13_orderTime (fun (r12 : Int32) (u13 : (Nat → Nat → Int32)) => post ((mm 9 (Int32.toNatClampNeg v1)) - r12) u13) v1 mm)))) ∧ (¬ v3 = 0 → (post (-1) mm))
def B_X13_plan_172 (post : Int32 → (Nat → Nat → Int32) → Prop) (k77 : Int32 → Int32 → Int32 → Int32 → (Nat → Nat → Int32) → Prop) (k92 : Int32 → Int32 → Int32 → Int32 → Int32 → (Nat → Nat → Int32) → Prop) (k101 : Int32 → Int32 → Int32 → Int32 → Int32 → Int32 → (Nat → Nat → Int32) → Prop) (v1 : Int32) (v2 : Int32) (v3 : Int32) (v4 : Int32) (v5 : Int32) (v6 : Int32) (mm : (Nat → Nat → Int32)) : Prop := k101 v1 v2 v3 v4 v5 (v6 + 1) mm
def B_X13_plan_101 (post : Int32 → (Nat → Nat → Int32) → Prop) (k77 : Int32 → Int32 → Int32 → Int32 → (Nat → Nat → Int32) → Prop) (k92 : Int32 → Int32 → Int32 → Int32 → Int32 → (Nat → Nat → Int32) → Prop) : Nat → Int32 → Int32 → Int32 → Int32 → Int32 → Int32 → (Nat → Nat → Int32) → Prop
  | 0 => fun _ _ _ _ _ _ _ => False
  | n + 1 => fun v1 v2 v3 v4 v5 v6 mm => (v2 ≤ v6 → (k92 v1 v2 v3 v4 (v5 + 1) mm)) ∧ (¬ v2 ≤ v6 → ((vp_in ((118 + (12 * v5)) + v6) 25530) ∧ ((mm 1 (Int32.toNatClampNeg ((118 + (12 * v5)) + v6))) = 0 → (B_X13_plan_172 post k77 k92 (B_X13_plan_101 post k77 k92 n) v1 v2 v3 v4 v5 v6 mm)) ∧ (¬ (mm 1 (Int32.toNatClampNeg ((118 + (12 * v5)) + v6))) = 0 → ((vp_in v6 12) ∧ (vp_in v5 12) ∧ ((mm 9 (Int32.toNatClampNeg v6)) < ((mm 9 (Int32.toNatClampNeg v5)) + (mm 1 (Int32.toNatClampNeg ((118 + (12 * v5)) + v6)))) → ((vp_in v5 12) ∧ (vp_in v6 12) ∧ B_X13_plan_172 post k77 k92 (B_X13_plan_101 post k77 k92 n) v1 v2 1 v4 v5 v6 (up2 mm 9 (Int32.toNatClampNeg v6) ((mm 9 (Int32.toNatClampNeg v5)) + (mm 1 (Int32.toNatClampNeg ((118 + (12 * v5)) + v6))))))) ∧ (¬ (mm 9 (Int32.toNatClampNeg v6)) < ((mm 9 (Int32.toNatClampNeg v5)) + (mm 1 (Int32.toNatClampNeg ((118 + (12 * v5)) + v6)))) → (B_X13_plan_172 post k77 k92 (B_X13_plan_101 post k77 k92 n) v1 v2 v3 v4 v5 v6 mm))))))
def B_X13_plan_92 (post : Int32 → (Nat → Nat → Int32) → Prop) (k77 : Int32 → Int32 → Int32 → Int32 → (Nat → Nat → Int32) → Prop) : Nat → Int32 → Int32 → Int32 → Int32 → Int32 → (Nat → Nat → Int32) → Prop
  | 0 => fun _ _ _ _ _ _ => False
  | n + 1 => fun v1 v2 v3 v4 v5 mm => (v2 ≤ v5 → (k77 v1 v2 v3 (v4 + 1) mm)) ∧ (¬ v2 ≤ v5 → (∃ n101, B_X13_plan_101 post k77 (B_X13_plan_92 post k77 n) n101 v1 v2 v3 v4 v5 0 mm))
def B_X13_plan_77 (post : Int32 → (Nat → Nat → Int32) → Prop) : Nat → Int32 → Int32 → Int32 → Int32 → (Nat → Nat → Int32) → Prop
  | 0 => fun _ _ _ _ _ => False
  | n + 1 => fun v1 v2 v3 v4 mm => (v2 < v4 → (B_X13_plan_190 post v1 v2 v3 mm)) ∧ (¬ v2 < v4 → ((v3 = 0 → (B_X13_plan_190 post v1 v2 v3 mm)) ∧ (¬ v3 = 0 → (∃ n92, B_X13_plan_92 post (B_X13_plan_77 post n) n92 v1 v2 0 v4 0 mm))))
def B_X13_plan_50 (post : Int32 → (Nat → Nat → Int32) → Prop) : Nat → Int32 → Int32 → Int32 → (Nat → Nat → Int32) → Prop
  | 0 => fun _ _ _ _ => False
  | n + 1 => fun v1 v2 v3 mm => (v2 ≤ v3 → (∃ n77, B_X13_plan_77 post n77 v1 v2 1 0 mm)) ∧ (¬ v2 ≤ v3 → (w_X13_orderTime (fun (r3 : Int32) (u4 : (Nat → Nat → Int32)) => (vp_in v3 12) ∧ B_X13_plan_50 post n v1 v2 (v3 + 1) (up2 u4 9 (Int32.toNatClampNeg v3) r3)) v3 mm))
def B_X13_plan_28 (post : Int32 → (Nat → Nat → Int32) → Prop) (v1 : Int32) (s0 : Bool) (mm : (Nat → Nat → Int32)) : Prop := (((up2 mm 0 0 (b2 s0)) 0 0) ≤ 0 → (∃ n50, B_X13_plan_50 post n50 v1 ((up2 mm 0 0 (b2 s0)) 1 (Int32.toNatClampNeg (9 : Int32))) 0 (up2 mm 0 0 (b2 s0)))) ∧ (¬ ((up2 mm 0 0 (b2 s0)) 0 0) ≤ 0 → (post 0 (up2 mm 0 0 (b2 s0))))
def B_X13_plan_27 (post : Int32 → (Nat → Nat → Int32) → Prop) (v1 : Int32) (mm : (Nat → Nat → Int32)) : Prop := B_X13_plan_28 post v1 false mm
def w_X13_plan (post : Int32 → (Nat → Nat → Int32) → Prop) (x1 : Int32) (mm : (Nat → Nat → Int32)) : Prop := (x1 = (-1) → (B_X13_plan_27 post x1 mm)) ∧ (¬ x1 = (-1) → (w_X13_isIn (fun (r1 : Bool) (u2 : (Nat → Nat → Int32)) => (¬ (r1 = false) → (B_X13_plan_27 post x1 u2)) ∧ ((r1 = false) → (B_X13_plan_28 post x1 true u2))) x1 0 ((mm 1 (Int32.toNatClampNeg (9 : Int32))) - 1) mm))
section G_X13_plan
variable {p : Program} {l : Launch} {e : Env} {s : State} {m : MethodId} {args : Array Value} {below : List Frame} {meth : Method} {c : Code} {G : Gd} {ρ : Nat → Nat} {A : Nat → Prop} {cm : CMu} {oo : Nat → Int64}
set_option maxHeartbeats 4000000 in
set_option maxRecDepth 100000 in
theorem T_X13_plan_250 {post : Int32 → (Nat → Nat → Int32) → Prop} {k220 : Int32 → Int32 → Int32 → (Nat → Nat → Int32) → Prop} (hl : l.stackTraces = false) (X : MC p l s m args meth c cX13_plan 8 RX13 G ρ A) (hr : meth.sig.returnType = (some .int)) (hex : ∀ z ∈ c.exceptionTable.toList, False)
    (hk220 : ∀ (v2 : Int32) (v4 : Int32) (v5 : Int32) (mm : (Nat → Nat → Int32)), k220 v2 v4 v5 mm → LW p l e rm_X13_plan s m args below meth c (Qm below G ρ A (PI (fun u => (cm, u, oo)) post) noX args s 0 0) G ρ A 8 0 0 220 [(0, .ref 703), (2, .int v2), (4, .int v4), (5, .int v5)] [] (cm, mm, oo)) : ∀ (v2 : Int32) (v5 : Int32) (s0 : Int32) (mm : (Nat → Nat → Int32)), B_X13_plan_250 post k220 v2 v5 s0 mm → LW p l e rm_X13_plan s m args below meth c (Qm below G ρ A (PI (fun u => (cm, u, oo)) post) noX args s 0 0) G ρ A 8 0 0 250 [(0, .ref 703), (2, .int v2), (5, .int v5)] [.int s0] (cm, mm, oo) := by
  intro v2 v5 s0 mm h
  unfold B_X13_plan_250 at h
  refine L_istore (pc := 250) (lv2 := [(4, .int s0), (0, .ref 703), (2, .int v2), (5, .int v5)]) X d_X13_plan_250 (by decide) rfl ?_
  refine L_iinc (pc := 252) (v := v5 + 1) (lv2 := [(5, .int (v5 + 1)), (4, .int s0), (0, .ref 703), (2, .int v2)]) X d_X13_plan_252 3 rfl rfl (by decide) rfl ?_
  refine L_goto (pc := 255) (tgt := 220) X d_X13_plan_255 (by decide) ?_
  refine LW.sub [2, 3, 1, 0] rfl ?_
  exact hk220 _ _ _  _ h
set_option maxHeartbeats 4000000 in
set_option maxRecDepth 100000 in
theorem T_X13_plan_220 {post : Int32 → (Nat → Nat → Int32) → Prop} (hl : l.stackTraces = false) (X : MC p l s m args meth c cX13_plan 8 RX13 G ρ A) (hr : meth.sig.returnType = (some .int)) (hex : ∀ z ∈ c.exceptionTable.toList, False) (n : Nat) : ∀ (v2 : Int32) (v4 : Int32) (v5 : Int32) (mm : (Nat → Nat → Int32)), B_X13_plan_220 post n v2 v4 v5 mm → LW p l e rm_X13_plan s m args below meth c (Qm below G ρ A (PI (fun u => (cm, u, oo)) post) noX args s 0 0) G ρ A 8 0 0 220 [(0, .ref 703), (2, .int v2), (4, .int v4), (5, .int v5)] [] (cm, mm, oo) := by
  induction n with
  | zero =>
    intro v2 v4 v5 mm h
    exact False.elim h
  | succ n ih =>
    intro v2 v4 v5 mm h
    unfold B_X13_plan_220 at h
    refine L_iload (pc := 220) X d_X13_plan_220 3 rfl ?_
    refine L_iload_n (pc := 222) X d_X13_plan_222 rfl 1 rfl ?_
    refine L_icmp_ge (pc := 223) (tgt := 258) X d_X13_plan_223 (by decide) (fun c223 => ?_) (fun c223 => ?_)
    · replace h := h.1 c223
      refine L_iload (pc := 258) X d_X13_plan_258 2 rfl ?_
      exact L_iret (pc := 260) X hr d_X13_plan_260 (by decide) (by decide) ⟨_, _, rfl, rfl, h⟩
    · replace h := h.2 c223
      refine L_aload_n (pc := 226) X d_X13_plan_226 rfl 0 rfl ?_
      refine gf_X13_38 (pc := 227) X d_X13_plan_227 ?_
      refine L_iload (pc := 230) X d_X13_plan_230 3 rfl ?_
      obtain ⟨q14, h⟩ := h
      refine L_ialdM (pc := 232) (a := 9) X d_X13_plan_232 kd_712 q14 ?_
      refine L_iload (pc := 233) X d_X13_plan_233 2 rfl ?_
      refine L_icmp_le (pc := 235) (tgt := 248) X d_X13_plan_235 (by decide) (fun c235 => ?_) (fun c235 => ?_)
      · replace h := h.1 c235
        refine L_iload (pc := 248) X d_X13_plan_248 2 rfl ?_
        refine LW.sub [0, 1, 3] rfl ?_
        exact T_X13_plan_250 hl X hr hex ih _ _ _  _ h
      · replace h := h.2 c235
        refine L_aload_n (pc := 238) X d_X13_plan_238 rfl 0 rfl ?_
        refine gf_X13_38 (pc := 239) X d_X13_plan_239 ?_
        refine L_iload (pc := 242) X d_X13_plan_242 3 rfl ?_
        obtain ⟨q15, h⟩ := h
        refine L_ialdM (pc := 244) (a := 9) X d_X13_plan_244 kd_712 q15 ?_
        refine L_goto (pc := 245) (tgt := 250) X d_X13_plan_245 (by decide) ?_
        refine LW.sub [0, 1, 3] rfl ?_
        exact T_X13_plan_250 hl X hr hex ih _ _ _  _ h
set_option maxHeartbeats 4000000 in
set_option maxRecDepth 100000 in
theorem T_X13_plan_190 {post : Int32 → (Nat → Nat → Int32) → Prop} (hl : l.stackTraces = false) (X : MC p l s m args meth c cX13_plan 8 RX13 G ρ A) (hr : meth.sig.returnType = (some .int)) (hex : ∀ z ∈ c.exceptionTable.toList, False) : ∀ (v1 : Int32) (v2 : Int32) (v3 : Int32) (mm : (Nat → Nat → Int32)), B_X13_plan_190 post v1 v2 v3 mm → LW p l e rm_X13_plan s m args below meth c (Qm below G ρ A (PI (fun u => (cm, u, oo)) post) noX args s 0 0) G ρ A 8 0 0 190 [(0, .ref 703), (1, .int v1), (2, .int v2), (3, .int v3)] [] (cm, mm, oo) := by
  intro v1 v2 v3 mm h
  unfold B_X13_plan_190 at h
  refine L_iload_n (pc := 190) X d_X13_plan_190 rfl 3 rfl ?_
  refine L_if_eq (pc := 191) (tgt := 196) X d_X13_plan_191 (by decide) (fun c191 => ?_) (fun c191 => ?_)
  · replace h := h.1 c191
    refine L_iload_n (pc := 196) X d_X13_plan_196 rfl 1 rfl ?_
    refine L_iconst (pc := 197) (v := (-1)) X d_X13_plan_197 (by decide) ?_
    refine L_icmp_eq (pc := 198) (tgt := 214) X d_X13_plan_198 (by decide) (fun c198 => ?_) (fun c198 => ?_)
    · replace h := h.1 c198
      refine L_iconst (pc := 214) (v := 0) X d_X13_plan_214 (by decide) ?_
      refine L_istore (pc := 215) (lv2 := [(4, .int 0), (0, .ref 703), (1, .int v1), (2, .int v2), (3, .int v3)]) X d_X13_plan_215 (by decide) rfl ?_
      refine L_iconst (pc := 217) (v := 0) X d_X13_plan_217 (by decide) ?_
      refine L_istore (pc := 218) (lv2 := [(5, .int 0), (4, .int 0), (0, .ref 703), (1, .int v1), (2, .int v2), (3, .int v3)]) X d_X13_plan_218 (by decide) rfl ?_
      obtain ⟨n220, h⟩ := h
      refine LW.sub [2, 4, 1, 0] rfl ?_
      exact T_X13_plan_220 hl X hr hex n220 _ _ _  _ h
    · replace h := h.2 c198
      refine L_aload_n (pc := 201) X d_X13_plan_201 rfl 0 rfl ?_
      refine gf_X13_38 (pc := 202) X d_X13_plan_202 ?_
      refine L_iload_n (pc := 205) X d_X13_plan_205 rfl 1 rfl ?_
      obtain ⟨q11, h⟩ := h
      refine L_ialdM (pc := 206) (a := 9) X d_X13_plan_206 kd_712 q11 ?_
      refine L_aload_n (pc := 207) X d_X13_plan_207 rfl 0 rfl ?_
      refine L_iload_n (pc := 208) X d_X13_plan_208 rfl 1 rfl ?_
      refine L_callVI (pc := 209) X lk_X13_253 (c_X13_orderTime X.hst  h) rfl rfl kd_703 (by decide) rfl rfl ⟨by decide, by decide⟩ ⟨by decide, by decide⟩ (Nat.le_of_ble_eq_true rfl) d_X13_plan_209 rfl (fun x κ1 hx => L_nox hx) (fun r12 u13 h => ?_)
      refine L_isub (pc := 212) X d_X13_plan_212 ?_
      exact L_iret (pc := 213) X hr d_X13_plan_213 (by decide) (by decide) ⟨_, _, rfl, rfl, h⟩
  · replace h := h.2 c191
    refine L_iconst (pc := 194) (v := (-1)) X d_X13_plan_194 (by decide) ?_
    exact L_iret (pc := 195) X hr d_X13_plan_195 (by decide) (by decide) ⟨_, _, rfl, rfl, h⟩
set_option maxHeartbeats 4000000 in
set_option maxRecDepth 100000 in
theorem T_X13_plan_172 {post : Int32 → (Nat → Nat → Int32) → Prop} {k77 : Int32 → Int32 → Int32 → Int32 → (Nat → Nat → Int32) → Prop} {k92 : Int32 → Int32 → Int32 → Int32 → Int32 → (Nat → Nat → Int32) → Prop} {k101 : Int32 → Int32 → Int32 → Int32 → Int32 → Int32 → (Nat → Nat → Int32) → Prop} (hl : l.stackTraces = false) (X : MC p l s m args meth c cX13_plan 8 RX13 G ρ A) (hr : meth.sig.returnType = (some .int)) (hex : ∀ z ∈ c.exceptionTable.toList, False)
    (hk77 : ∀ (v1 : Int32) (v2 : Int32) (v3 : Int32) (v4 : Int32) (mm : (Nat → Nat → Int32)), k77 v1 v2 v3 v4 mm → LW p l e rm_X13_plan s m args below meth c (Qm below G ρ A (PI (fun u => (cm, u, oo)) post) noX args s 0 0) G ρ A 8 0 0 77 [(0, .ref 703), (1, .int v1), (2, .int v2), (3, .int v3), (4, .int v4)] [] (cm, mm, oo))
    (hk92 : ∀ (v1 : Int32) (v2 : Int32) (v3 : Int32) (v4 : Int32) (v5 : Int32) (mm : (Nat → Nat → Int32)), k92 v1 v2 v3 v4 v5 mm → LW p l e rm_X13_plan s m args below meth c (Qm below G ρ A (PI (fun u => (cm, u, oo)) post) noX args s 0 0) G ρ A 8 0 0 92 [(0, .ref 703), (1, .int v1), (2, .int v2), (3, .int v3), (4, .int v4), (5, .int v5)] [] (cm, mm, oo))
    (hk101 : ∀ (v1 : Int32) (v2 : Int32) (v3 : Int32) (v4 : Int32) (v5 : Int32) (v6 : Int32) (mm : (Nat → Nat → Int32)), k101 v1 v2 v3 v4 v5 v6 mm → LW p l e rm_X13_plan s m args below meth c (Qm below G ρ A (PI (fun u => (cm, u, oo)) post) noX args s 0 0) G ρ A 8 0 0 101 [(0, .ref 703), (1, .int v1), (2, .int v2), (3, .int v3), (4, .int v4), (5, .int v5), (6, .int v6)] [] (cm, mm, oo)) : ∀ (v1 : Int32) (v2 : Int32) (v3 : Int32) (v4 : Int32) (v5 : Int32) (v6 : Int32) (mm : (Nat → Nat → Int32)), B_X13_plan_172 post k77 k92 k101 v1 v2 v3 v4 v5 v6 mm → LW p l e rm_X13_plan s m args below meth c (Qm below G ρ A (PI (fun u => (cm, u, oo)) post) noX args s 0 0) G ρ A 8 0 0 172 [(0, .ref 703), (1, .int v1), (2, .int v2), (3, .int v3), (4, .int v4), (5, .int v5), (6, .int v6)] [] (cm, mm, oo) := by
  intro v1 v2 v3 v4 v5 v6 mm h
  unfold B_X13_plan_172 at h
  refine L_iinc (pc := 172) (v := v6 + 1) (lv2 := [(6, .int (v6 + 1)), (0, .ref 703), (1, .int v1), (2, .int v2), (3, .int v3), (4, .int v4), (5, .int v5)]) X d_X13_plan_172 6 rfl rfl (by decide) rfl ?_
  refine L_goto (pc := 175) (tgt := 101) X d_X13_plan_175 (by decide) ?_
  refine LW.sub [1, 2, 3, 4, 5, 6, 0] rfl ?_
  exact hk101 _ _ _ _ _ _  _ h
set_option maxHeartbeats 4000000 in
set_option maxRecDepth 100000 in
theorem T_X13_plan_101 {post : Int32 → (Nat → Nat → Int32) → Prop} {k77 : Int32 → Int32 → Int32 → Int32 → (Nat → Nat → Int32) → Prop} {k92 : Int32 → Int32 → Int32 → Int32 → Int32 → (Nat → Nat → Int32) → Prop} (hl : l.stackTraces = false) (X : MC p l s m args meth c cX13_plan 8 RX13 G ρ A) (hr : meth.sig.returnType = (some .int)) (hex : ∀ z ∈ c.exceptionTable.toList, False)
    (hk77 : ∀ (v1 : Int32) (v2 : Int32) (v3 : Int32) (v4 : Int32) (mm : (Nat → Nat → Int32)), k77 v1 v2 v3 v4 mm → LW p l e rm_X13_plan s m args below meth c (Qm below G ρ A (PI (fun u => (cm, u, oo)) post) noX args s 0 0) G ρ A 8 0 0 77 [(0, .ref 703), (1, .int v1), (2, .int v2), (3, .int v3), (4, .int v4)] [] (cm, mm, oo))
    (hk92 : ∀ (v1 : Int32) (v2 : Int32) (v3 : Int32) (v4 : Int32) (v5 : Int32) (mm : (Nat → Nat → Int32)), k92 v1 v2 v3 v4 v5 mm → LW p l e rm_X13_plan s m args below meth c (Qm below G ρ A (PI (fun u => (cm, u, oo)) post) noX args s 0 0) G ρ A 8 0 0 92 [(0, .ref 703), (1, .int v1), (2, .int v2), (3, .int v3), (4, .int v4), (5, .int v5)] [] (cm, mm, oo)) (n : Nat) : ∀ (v1 : Int32) (v2 : Int32) (v3 : Int32) (v4 : Int32) (v5 : Int32) (v6 : Int32) (mm : (Nat → Nat → Int32)), B_X13_plan_101 post k77 k92 n v1 v2 v3 v4 v5 v6 mm → LW p l e rm_X13_plan s m args below meth c (Qm below G ρ A (PI (fun u => (cm, u, oo)) post) noX args s 0 0) G ρ A 8 0 0 101 [(0, .ref 703), (1, .int v1), (2, .int v2), (3, .int v3), (4, .int v4), (5, .int v5), (6, .int v6)] [] (cm, mm, oo) := by
  induction n with
  | zero =>
    intro v1 v2 v3 v4 v5 v6 mm h
    exact False.elim h
  | succ n ih =>
    intro v1 v2 v3 v4 v5 v6 mm h
    unfold B_X13_plan_101 at h
    refine L_iload (pc := 101) X d_X13_plan_101 6 rfl ?_
    refine L_iload_n (pc := 103) X d_X13_plan_103 rfl 2 rfl ?_
    refine L_icmp_ge (pc := 104) (tgt := 178) X d_X13_plan_104 (by decide) (fun c104 => ?_) (fun c104 => ?_)
    · replace h := h.1 c104
      refine L_iinc (pc := 178) (v := v5 + 1) (lv2 := [(5, .int (v5 + 1)), (0, .ref 703), (1, .int v1), (2, .int v2), (3, .int v3), (4, .int v4), (6, .int v6)]) X d_X13_plan_178 5 rfl rfl (by decide) rfl ?_
      refine L_goto (pc := 181) (tgt := 92) X d_X13_plan_181 (by decide) ?_
      refine LW.sub [1, 2, 3, 4, 5, 0] rfl ?_
      exact hk92 _ _ _ _ _  _ h
    · replace h := h.2 c104
      refine L_aload_n (pc := 107) X d_X13_plan_107 rfl 0 rfl ?_
      refine gf_X13_7 (pc := 108) X d_X13_plan_108 ?_
      refine L_bipush (pc := 111) (v := 118) X d_X13_plan_111 (by decide) ?_
      refine L_bipush (pc := 113) (v := 12) X d_X13_plan_113 (by decide) ?_
      refine L_iload (pc := 115) X d_X13_plan_115 5 rfl ?_
      refine L_imul (pc := 117) X d_X13_plan_117 ?_
      refine L_iadd (pc := 118) X d_X13_plan_118 ?_
      refine L_iload (pc := 119) X d_X13_plan_119 6 rfl ?_
      refine L_iadd (pc := 121) X d_X13_plan_121 ?_
      obtain ⟨q6, h⟩ := h
      refine L_ialdM (pc := 122) (a := 1) X d_X13_plan_122 kd_704 q6 ?_
      refine L_istore (pc := 123) (lv2 := [(7, .int (mm 1 (Int32.toNatClampNeg ((118 + (12 * v5)) + v6)))), (0, .ref 703), (1, .int v1), (2, .int v2), (3, .int v3), (4, .int v4), (5, .int v5), (6, .int v6)]) X d_X13_plan_123 (by decide) rfl ?_
      refine L_iload (pc := 125) X d_X13_plan_125 0 rfl ?_
      refine L_if_eq (pc := 127) (tgt := 172) X d_X13_plan_127 (by decide) (fun c127 => ?_) (fun c127 => ?_)
      · replace h := h.1 c127
        refine LW.sub [1, 2, 3, 4, 5, 6, 7] rfl ?_
        exact T_X13_plan_172 hl X hr hex hk77 hk92 ih _ _ _ _ _ _  _ h
      · replace h := h.2 c127
        refine L_aload_n (pc := 130) X d_X13_plan_130 rfl 1 rfl ?_
        refine gf_X13_38 (pc := 131) X d_X13_plan_131 ?_
        refine L_iload (pc := 134) X d_X13_plan_134 7 rfl ?_
        obtain ⟨q7, h⟩ := h
        refine L_ialdM (pc := 136) (a := 9) X d_X13_plan_136 kd_712 q7 ?_
        refine L_aload_n (pc := 137) X d_X13_plan_137 rfl 1 rfl ?_
        refine gf_X13_38 (pc := 138) X d_X13_plan_138 ?_
        refine L_iload (pc := 141) X d_X13_plan_141 6 rfl ?_
        obtain ⟨q8, h⟩ := h
        refine L_ialdM (pc := 143) (a := 9) X d_X13_plan_143 kd_712 q8 ?_
        refine L_iload (pc := 144) X d_X13_plan_144 0 rfl ?_
        refine L_iadd (pc := 146) X d_X13_plan_146 ?_
        refine L_icmp_lt (pc := 147) (tgt := 153) X d_X13_plan_147 (by decide) (fun c147 => ?_) (fun c147 => ?_)
        · replace h := h.1 c147
          refine L_aload_n (pc := 153) X d_X13_plan_153 rfl 1 rfl ?_
          refine gf_X13_38 (pc := 154) X d_X13_plan_154 ?_
          refine L_iload (pc := 157) X d_X13_plan_157 7 rfl ?_
          refine L_aload_n (pc := 159) X d_X13_plan_159 rfl 1 rfl ?_
          refine gf_X13_38 (pc := 160) X d_X13_plan_160 ?_
          refine L_iload (pc := 163) X d_X13_plan_163 6 rfl ?_
          obtain ⟨q9, h⟩ := h
          refine L_ialdM (pc := 165) (a := 9) X d_X13_plan_165 kd_712 q9 ?_
          refine L_iload (pc := 166) X d_X13_plan_166 0 rfl ?_
          refine L_iadd (pc := 168) X d_X13_plan_168 ?_
          obtain ⟨q10, h⟩ := h
          refine L_iastM (pc := 169) (a := 9) X d_X13_plan_169 kd_712 q10 ?_
          refine L_iconst (pc := 170) (v := 1) X d_X13_plan_170 (by decide) ?_
          refine L_istore_n (pc := 171) (lv2 := [(3, .int 1), (7, .int (mm 1 (Int32.toNatClampNeg ((118 + (12 * v5)) + v6)))), (0, .ref 703), (1, .int v1), (2, .int v2), (4, .int v4), (5, .int v5), (6, .int v6)]) X d_X13_plan_171 rfl (by decide) rfl ?_
          refine LW.sub [2, 3, 4, 0, 5, 6, 7] rfl ?_
          exact T_X13_plan_172 hl X hr hex hk77 hk92 ih _ _ _ _ _ _  _ h
        · replace h := h.2 c147
          refine L_goto (pc := 150) (tgt := 172) X d_X13_plan_150 (by decide) ?_
          refine LW.sub [1, 2, 3, 4, 5, 6, 7] rfl ?_
          exact T_X13_plan_172 hl X hr hex hk77 hk92 ih _ _ _ _ _ _  _ h
set_option maxHeartbeats 4000000 in
set_option maxRecDepth 100000 in
theorem T_X13_plan_92 {post : Int32 → (Nat → Nat → Int32) → Prop} {k77 : Int32 → Int32 → Int32 → Int32 → (Nat → Nat → Int32) → Prop} (hl : l.stackTraces = false) (X : MC p l s m args meth c cX13_plan 8 RX13 G ρ A) (hr : meth.sig.returnType = (some .int)) (hex : ∀ z ∈ c.exceptionTable.toList, False)
    (hk77 : ∀ (v1 : Int32) (v2 : Int32) (v3 : Int32) (v4 : Int32) (mm : (Nat → Nat → Int32)), k77 v1 v2 v3 v4 mm → LW p l e rm_X13_plan s m args below meth c (Qm below G ρ A (PI (fun u => (cm, u, oo)) post) noX args s 0 0) G ρ A 8 0 0 77 [(0, .ref 703), (1, .int v1), (2, .int v2), (3, .int v3), (4, .int v4)] [] (cm, mm, oo)) (n : Nat) : ∀ (v1 : Int32) (v2 : Int32) (v3 : Int32) (v4 : Int32) (v5 : Int32) (mm : (Nat → Nat → Int32)), B_X13_plan_92 post k77 n v1 v2 v3 v4 v5 mm → LW p l e rm_X13_plan s m args below meth c (Qm below G ρ A (PI (fun u => (cm, u, oo)) post) noX args s 0 0) G ρ A 8 0 0 92 [(0, .ref 703), (1, .int v1), (2, .int v2), (3, .int v3), (4, .int v4), (5, .int v5)] [] (cm, mm, oo) := by
  induction n with
  | zero =>
    intro v1 v2 v3 v4 v5 mm h
    exact False.elim h
  | succ n ih =>
    intro v1 v2 v3 v4 v5 mm h
    unfold B_X13_plan_92 at h
    refine L_iload (pc := 92) X d_X13_plan_92 5 rfl ?_
    refine L_iload_n (pc := 94) X d_X13_plan_94 rfl 2 rfl ?_
    refine L_icmp_ge (pc := 95) (tgt := 184) X d_X13_plan_95 (by decide) (fun c95 => ?_) (fun c95 => ?_)
    · replace h := h.1 c95
      refine L_iinc (pc := 184) (v := v4 + 1) (lv2 := [(4, .int (v4 + 1)), (0, .ref 703), (1, .int v1), (2, .int v2), (3, .int v3), (5, .int v5)]) X d_X13_plan_184 4 rfl rfl (by decide) rfl ?_
      refine L_goto (pc := 187) (tgt := 77) X d_X13_plan_187 (by decide) ?_
      refine LW.sub [1, 2, 3, 4, 0] rfl ?_
      exact hk77 _ _ _ _  _ h
    · replace h := h.2 c95
      refine L_iconst (pc := 98) (v := 0) X d_X13_plan_98 (by decide) ?_
      refine L_istore (pc := 99) (lv2 := [(6, .int 0), (0, .ref 703), (1, .int v1), (2, .int v2), (3, .int v3), (4, .int v4), (5, .int v5)]) X d_X13_plan_99 (by decide) rfl ?_
      obtain ⟨n101, h⟩ := h
      refine LW.sub [1, 2, 3, 4, 5, 6, 0] rfl ?_
      exact T_X13_plan_101 hl X hr hex hk77 ih n101 _ _ _ _ _ _  _ h
set_option maxHeartbeats 4000000 in
set_option maxRecDepth 100000 in
theorem T_X13_plan_77 {post : Int32 → (Nat → Nat → Int32) → Prop} (hl : l.stackTraces = false) (X : MC p l s m args meth c cX13_plan 8 RX13 G ρ A) (hr : meth.sig.returnType = (some .int)) (hex : ∀ z ∈ c.exceptionTable.toList, False) (n : Nat) : ∀ (v1 : Int32) (v2 : Int32) (v3 : Int32) (v4 : Int32) (mm : (Nat → Nat → Int32)), B_X13_plan_77 post n v1 v2 v3 v4 mm → LW p l e rm_X13_plan s m args below meth c (Qm below G ρ A (PI (fun u => (cm, u, oo)) post) noX args s 0 0) G ρ A 8 0 0 77 [(0, .ref 703), (1, .int v1), (2, .int v2), (3, .int v3), (4, .int v4)] [] (cm, mm, oo) := by
  induction n with
  | zero =>
    intro v1 v2 v3 v4 mm h
    exact False.elim h
  | succ n ih =>
    intro v1 v2 v3 v4 mm h
    unfold B_X13_plan_77 at h
    refine L_iload (pc := 77) X d_X13_plan_77 4 rfl ?_
    refine L_iload_n (pc := 79) X d_X13_plan_79 rfl 2 rfl ?_
    refine L_icmp_gt (pc := 80) (tgt := 190) X d_X13_plan_80 (by decide) (fun c80 => ?_) (fun c80 => ?_)
    · replace h := h.1 c80
      refine LW.sub [0, 1, 2, 3] rfl ?_
      exact T_X13_plan_190 hl X hr hex _ _ _  _ h
    · replace h := h.2 c80
      refine L_iload_n (pc := 83) X d_X13_plan_83 rfl 3 rfl ?_
      refine L_if_eq (pc := 84) (tgt := 190) X d_X13_plan_84 (by decide) (fun c84 => ?_) (fun c84 => ?_)
      · replace h := h.1 c84
        refine LW.sub [0, 1, 2, 3] rfl ?_
        exact T_X13_plan_190 hl X hr hex _ _ _  _ h
      · replace h := h.2 c84
        refine L_iconst (pc := 87) (v := 0) X d_X13_plan_87 (by decide) ?_
        refine L_istore_n (pc := 88) (lv2 := [(3, .int 0), (0, .ref 703), (1, .int v1), (2, .int v2), (4, .int v4)]) X d_X13_plan_88 rfl (by decide) rfl ?_
        refine L_iconst (pc := 89) (v := 0) X d_X13_plan_89 (by decide) ?_
        refine L_istore (pc := 90) (lv2 := [(5, .int 0), (3, .int 0), (0, .ref 703), (1, .int v1), (2, .int v2), (4, .int v4)]) X d_X13_plan_90 (by decide) rfl ?_
        obtain ⟨n92, h⟩ := h
        refine LW.sub [2, 3, 4, 1, 5, 0] rfl ?_
        exact T_X13_plan_92 hl X hr hex ih n92 _ _ _ _ _  _ h
set_option maxHeartbeats 4000000 in
set_option maxRecDepth 100000 in
theorem T_X13_plan_50 {post : Int32 → (Nat → Nat → Int32) → Prop} (hl : l.stackTraces = false) (X : MC p l s m args meth c cX13_plan 8 RX13 G ρ A) (hr : meth.sig.returnType = (some .int)) (hex : ∀ z ∈ c.exceptionTable.toList, False) (n : Nat) : ∀ (v1 : Int32) (v2 : Int32) (v3 : Int32) (mm : (Nat → Nat → Int32)), B_X13_plan_50 post n v1 v2 v3 mm → LW p l e rm_X13_plan s m args below meth c (Qm below G ρ A (PI (fun u => (cm, u, oo)) post) noX args s 0 0) G ρ A 8 0 0 50 [(0, .ref 703), (1, .int v1), (2, .int v2), (3, .int v3)] [] (cm, mm, oo) := by
  induction n with
  | zero =>
    intro v1 v2 v3 mm h
    exact False.elim h
  | succ n ih =>
    intro v1 v2 v3 mm h
    unfold B_X13_plan_50 at h
    refine L_iload_n (pc := 50) X d_X13_plan_50 rfl 3 rfl ?_
    refine L_iload_n (pc := 51) X d_X13_plan_51 rfl 2 rfl ?_
    refine L_icmp_ge (pc := 52) (tgt := 72) X d_X13_plan_52 (by decide) (fun c52 => ?_) (fun c52 => ?_)
    · replace h := h.1 c52
      refine L_iconst (pc := 72) (v := 1) X d_X13_plan_72 (by decide) ?_
      refine L_istore_n (pc := 73) (lv2 := [(3, .int 1), (0, .ref 703), (1, .int v1), (2, .int v2)]) X d_X13_plan_73 rfl (by decide) rfl ?_
      refine L_iconst (pc := 74) (v := 0) X d_X13_plan_74 (by decide) ?_
      refine L_istore (pc := 75) (lv2 := [(4, .int 0), (3, .int 1), (0, .ref 703), (1, .int v1), (2, .int v2)]) X d_X13_plan_75 (by decide) rfl ?_
      obtain ⟨n77, h⟩ := h
      refine LW.sub [2, 3, 4, 1, 0] rfl ?_
      exact T_X13_plan_77 hl X hr hex n77 _ _ _ _  _ h
    · replace h := h.2 c52
      refine L_aload_n (pc := 55) X d_X13_plan_55 rfl 0 rfl ?_
      refine gf_X13_38 (pc := 56) X d_X13_plan_56 ?_
      refine L_iload_n (pc := 59) X d_X13_plan_59 rfl 3 rfl ?_
      refine L_aload_n (pc := 60) X d_X13_plan_60 rfl 0 rfl ?_
      refine L_iload_n (pc := 61) X d_X13_plan_61 rfl 3 rfl ?_
      refine L_callVI (pc := 62) X lk_X13_253 (c_X13_orderTime X.hst  h) rfl rfl kd_703 (by decide) rfl rfl ⟨by decide, by decide⟩ ⟨by decide, by decide⟩ (Nat.le_of_ble_eq_true rfl) d_X13_plan_62 rfl (fun x κ1 hx => L_nox hx) (fun r3 u4 h => ?_)
      obtain ⟨q5, h⟩ := h
      refine L_iastM (pc := 65) (a := 9) X d_X13_plan_65 kd_712 q5 ?_
      refine L_iinc (pc := 66) (v := v3 + 1) (lv2 := [(3, .int (v3 + 1)), (0, .ref 703), (1, .int v1), (2, .int v2)]) X d_X13_plan_66 3 rfl rfl (by decide) rfl ?_
      refine L_goto (pc := 69) (tgt := 50) X d_X13_plan_69 (by decide) ?_
      refine LW.sub [1, 2, 3, 0] rfl ?_
      exact ih _ _ _  _ h
set_option maxHeartbeats 4000000 in
set_option maxRecDepth 100000 in
theorem T_X13_plan_28 {post : Int32 → (Nat → Nat → Int32) → Prop} (hl : l.stackTraces = false) (X : MC p l s m args meth c cX13_plan 8 RX13 G ρ A) (hr : meth.sig.returnType = (some .int)) (hex : ∀ z ∈ c.exceptionTable.toList, False) : ∀ (v1 : Int32) (s0 : Bool) (mm : (Nat → Nat → Int32)), B_X13_plan_28 post v1 s0 mm → LW p l e rm_X13_plan s m args below meth c (Qm below G ρ A (PI (fun u => (cm, u, oo)) post) noX args s 0 0) G ρ A 8 0 0 28 [(0, .ref 703), (1, .int v1)] [.int (b2 s0), .ref 703] (cm, mm, oo) := by
  intro v1 s0 mm h
  unfold B_X13_plan_28 at h
  refine pf_X13_47 (pc := 28) X d_X13_plan_28 ?_
  refine L_aload_n (pc := 31) X d_X13_plan_31 rfl 0 rfl ?_
  refine gf_X13_47 (pc := 32) X d_X13_plan_32 ?_
  refine L_if_le (pc := 35) (tgt := 40) X d_X13_plan_35 (by decide) (fun c35 => ?_) (fun c35 => ?_)
  · replace h := h.1 c35
    refine L_aload_n (pc := 40) X d_X13_plan_40 rfl 0 rfl ?_
    refine gf_X13_7 (pc := 41) X d_X13_plan_41 ?_
    refine L_bipush (pc := 44) (v := 9) X d_X13_plan_44 (by decide) ?_
    refine L_ialdM (pc := 46) (a := 1) X d_X13_plan_46 kd_704 (by unfold vp_in; decide) ?_
    refine L_istore_n (pc := 47) (lv2 := [(2, .int ((up2 mm 0 0 (b2 s0)) 1 (Int32.toNatClampNeg (9 : Int32)))), (0, .ref 703), (1, .int v1)]) X d_X13_plan_47 rfl (by decide) rfl ?_
    refine L_iconst (pc := 48) (v := 0) X d_X13_plan_48 (by decide) ?_
    refine L_istore_n (pc := 49) (lv2 := [(3, .int 0), (2, .int ((up2 mm 0 0 (b2 s0)) 1 (Int32.toNatClampNeg (9 : Int32)))), (0, .ref 703), (1, .int v1)]) X d_X13_plan_49 rfl (by decide) rfl ?_
    obtain ⟨n50, h⟩ := h
    refine LW.sub [2, 3, 1, 0] rfl ?_
    exact T_X13_plan_50 hl X hr hex n50 _ _ _  _ h
  · replace h := h.2 c35
    refine L_iconst (pc := 38) (v := 0) X d_X13_plan_38 (by decide) ?_
    exact L_iret (pc := 39) X hr d_X13_plan_39 (by decide) (by decide) ⟨_, _, rfl, rfl, h⟩
set_option maxHeartbeats 4000000 in
set_option maxRecDepth 100000 in
theorem T_X13_plan_27 {post : Int32 → (Nat → Nat → Int32) → Prop} (hl : l.stackTraces = false) (X : MC p l s m args meth c cX13_plan 8 RX13 G ρ A) (hr : meth.sig.returnType = (some .int)) (hex : ∀ z ∈ c.exceptionTable.toList, False) : ∀ (v1 : Int32) (mm : (Nat → Nat → Int32)), B_X13_plan_27 post v1 mm → LW p l e rm_X13_plan s m args below meth c (Qm below G ρ A (PI (fun u => (cm, u, oo)) post) noX args s 0 0) G ρ A 8 0 0 27 [(0, .ref 703), (1, .int v1)] [.ref 703] (cm, mm, oo) := by
  intro v1 mm h
  unfold B_X13_plan_27 at h
  refine L_iconst (pc := 27) (v := 0) X d_X13_plan_27 (by decide) ?_
  refine LW.sub [0, 1] rfl ?_
  exact T_X13_plan_28 hl X hr hex _ _  _ h
set_option maxHeartbeats 4000000 in
set_option maxRecDepth 100000 in
theorem c_X13_plan (hl : l.stackTraces = false) {x1 : Int32} {mm : (Nat → Nat → Int32)} {post : Int32 → (Nat → Nat → Int32) → Prop} (h : w_X13_plan post x1 mm) : CT l yX13_plan (.code yX13_plan cX13_plan 8 (some .int)) rm_X13_plan 0 0 G ρ [.ref 703, .int x1] (cm, mm, oo) (PI (fun u => (cm, u, oo)) post) noX := by
  refine CT_of hl (by decide +kernel) rfl (Nat.le_of_ble_eq_true rfl) (lv0 := [(0, .ref 703), (1, .int x1)]) rfl (fun p e s m args below meth c A X hr hex hnm => ?_)
  unfold w_X13_plan at h
  refine L_aload_n (pc := 0) X d_X13_plan_0 rfl 0 rfl ?_
  refine L_iload_n (pc := 1) X d_X13_plan_1 rfl 1 rfl ?_
  refine L_iconst (pc := 2) (v := (-1)) X d_X13_plan_2 (by decide) ?_
  refine L_icmp_eq (pc := 3) (tgt := 27) X d_X13_plan_3 (by decide) (fun c3 => ?_) (fun c3 => ?_)
  · replace h := h.1 c3
    refine LW.sub [0, 1] rfl ?_
    exact T_X13_plan_27 hl X hr hex _  _ h
  · replace h := h.2 c3
    refine L_iload_n (pc := 6) X d_X13_plan_6 rfl 1 rfl ?_
    refine L_iconst (pc := 7) (v := 0) X d_X13_plan_7 (by decide) ?_
    refine L_aload_n (pc := 8) X d_X13_plan_8 rfl 0 rfl ?_
    refine gf_X13_7 (pc := 9) X d_X13_plan_9 ?_
    refine L_bipush (pc := 12) (v := 9) X d_X13_plan_12 (by decide) ?_
    refine L_ialdM (pc := 14) (a := 1) X d_X13_plan_14 kd_704 (by unfold vp_in; decide) ?_
    refine L_iconst (pc := 15) (v := 1) X d_X13_plan_15 (by decide) ?_
    refine L_isub (pc := 16) X d_X13_plan_16 ?_
    refine L_callSZ (pc := 17) X lk_X13_50 (c_X13_isIn X.hst  h) rfl rfl rfl ⟨by decide, by decide⟩ ⟨by decide, by decide⟩ (Nat.le_of_ble_eq_true rfl) d_X13_plan_17 rfl (fun x κ1 hx => L_nox hx) (fun r1 u2 h => ?_)
    refine L_if_ne (pc := 20) (tgt := 27) X d_X13_plan_20 (by decide) (fun c20 => ?_) (fun c20 => ?_)
    · replace h := h.1 (fun z => c20 ((b2_0 _).mpr z))
      refine LW.sub [0, 1] rfl ?_
      exact T_X13_plan_27 hl X hr hex _  _ h
    · replace h := h.2 ((b2_0 _).mp c20)
      refine L_iconst (pc := 23) (v := 1) X d_X13_plan_23 (by decide) ?_
      refine L_goto (pc := 24) (tgt := 28) X d_X13_plan_24 (by decide) ?_
      refine LW.sub [0, 1] rfl ?_
      exact T_X13_plan_28 hl X hr hex _ _  _ h
end G_X13_plan
theorem d_X13_chanceOf_0 : decode cX13_chanceOf 0 = .ok (.ldc2_w 256, 3) := by decide +kernel
theorem d_X13_chanceOf_3 : decode cX13_chanceOf 3 = .ok (.lstore_n 3, 1) := by decide +kernel
theorem d_X13_chanceOf_4 : decode cX13_chanceOf 4 = .ok (.iload_n 1, 1) := by decide +kernel
theorem d_X13_chanceOf_5 : decode cX13_chanceOf 5 = .ok (.istore 5, 2) := by decide +kernel
theorem d_X13_chanceOf_7 : decode cX13_chanceOf 7 = .ok (.iload 5, 2) := by decide +kernel
theorem d_X13_chanceOf_9 : decode cX13_chanceOf 9 = .ok (.iload_n 2, 1) := by decide +kernel
theorem d_X13_chanceOf_10 : decode cX13_chanceOf 10 = .ok (.if_icmp .ge 27, 3) := by decide +kernel
theorem d_X13_chanceOf_13 : decode cX13_chanceOf 13 = .ok (.lload_n 3, 1) := by decide +kernel
theorem d_X13_chanceOf_14 : decode cX13_chanceOf 14 = .ok (.bipush 100, 2) := by decide +kernel
theorem d_X13_chanceOf_16 : decode cX13_chanceOf 16 = .ok (.aload_n 0, 1) := by decide +kernel
theorem d_X13_chanceOf_17 : decode cX13_chanceOf 17 = .ok (.iload 5, 2) := by decide +kernel
theorem d_X13_chanceOf_19 : decode cX13_chanceOf 19 = .ok (.iconst 1, 1) := by decide +kernel
theorem d_X13_chanceOf_20 : decode cX13_chanceOf 20 = .ok (.invokevirtual 224, 3) := by decide +kernel
theorem d_X13_chanceOf_23 : decode cX13_chanceOf 23 = .ok (.isub, 1) := by decide +kernel
theorem d_X13_chanceOf_24 : decode cX13_chanceOf 24 = .ok (.i2l, 1) := by decide +kernel
theorem d_X13_chanceOf_25 : decode cX13_chanceOf 25 = .ok (.lmul, 1) := by decide +kernel
theorem d_X13_chanceOf_26 : decode cX13_chanceOf 26 = .ok (.ldc2_w 258, 3) := by decide +kernel
theorem d_X13_chanceOf_29 : decode cX13_chanceOf 29 = .ok (.ldiv, 1) := by decide +kernel
theorem d_X13_chanceOf_30 : decode cX13_chanceOf 30 = .ok (.lstore_n 3, 1) := by decide +kernel
theorem d_X13_chanceOf_31 : decode cX13_chanceOf 31 = .ok (.iinc 5 1, 3) := by decide +kernel
theorem d_X13_chanceOf_34 : decode cX13_chanceOf 34 = .ok (.goto (-27), 3) := by decide +kernel
theorem d_X13_chanceOf_37 : decode cX13_chanceOf 37 = .ok (.lload_n 3, 1) := by decide +kernel
theorem d_X13_chanceOf_38 : decode cX13_chanceOf 38 = .ok (.l2i, 1) := by decide +kernel
theorem d_X13_chanceOf_39 : decode cX13_chanceOf 39 = .ok (.ireturn, 1) := by decide +kernel
abbrev rm_X13_chanceOf : Room := { frames := 1, cells := 0, slots := 0, locals := 22 }
def B_X13_chanceOf_7 (post : Int32 → (Nat → Nat → Int32) → Prop) : Nat → Int32 → Int64 → Int32 → (Nat → Nat → Int32) → Prop
  | 0 => fun _ _ _ _ => False
  | n + 1 => fun v2 v3 v5 mm => (v2 ≤ v5 → (post (Int64.toInt32 v3) mm)) ∧ (¬ v2 ≤ v5 → (w_X13_reachOf (fun (r1 : Int32) (u2 : (Nat → Nat → Int32)) => B_X13_chanceOf_7 post n v2 ((v3 * (Int32.toInt64 (100 - r1))) / 100) (v5 + 1) u2) v5 1 mm))
def w_X13_chanceOf (post : Int32 → (Nat → Nat → Int32) → Prop) (x1 : Int32) (x2 : Int32) (mm : (Nat → Nat → Int32)) : Prop := ∃ n7, B_X13_chanceOf_7 post n7 x2 1000000000 x1 mm
section G_X13_chanceOf
variable {p : Program} {l : Launch} {e : Env} {s : State} {m : MethodId} {args : Array Value} {below : List Frame} {meth : Method} {c : Code} {G : Gd} {ρ : Nat → Nat} {A : Nat → Prop} {cm : CMu} {oo : Nat → Int64}
set_option maxHeartbeats 4000000 in
set_option maxRecDepth 100000 in
theorem T_X13_chanceOf_7 {post : Int32 → (Nat → Nat → Int32) → Prop} (hl : l.stackTraces = false) (X : MC p l s m args meth c cX13_chanceOf 6 RX13 G ρ A) (hr : meth.sig.returnType = (some .int)) (hex : ∀ z ∈ c.exceptionTable.toList, False) (n : Nat) : ∀ (v2 : Int32) (v3 : Int64) (v5 : Int32) (mm : (Nat → Nat → Int32)), B_X13_chanceOf_7 post n v2 v3 v5 mm → LW p l e rm_X13_chanceOf s m args below meth c (Qm below G ρ A (PI (fun u => (cm, u, oo)) post) noX args s 0 0) G ρ A 6 0 0 7 [(0, .ref 703), (2, .int v2), (3, .long v3), (5, .int v5)] [] (cm, mm, oo) := by
  induction n with
  | zero =>
    intro v2 v3 v5 mm h
    exact False.elim h
  | succ n ih =>
    intro v2 v3 v5 mm h
    unfold B_X13_chanceOf_7 at h
    refine L_iload (pc := 7) X d_X13_chanceOf_7 3 rfl ?_
    refine L_iload_n (pc := 9) X d_X13_chanceOf_9 rfl 1 rfl ?_
    refine L_icmp_ge (pc := 10) (tgt := 37) X d_X13_chanceOf_10 (by decide) (fun c10 => ?_) (fun c10 => ?_)
    · replace h := h.1 c10
      refine L_lload_n (pc := 37) X d_X13_chanceOf_37 rfl 2 rfl ?_
      refine L_l2i (pc := 38) X d_X13_chanceOf_38 ?_
      exact L_iret (pc := 39) X hr d_X13_chanceOf_39 (by decide) (by decide) ⟨_, _, rfl, rfl, h⟩
    · replace h := h.2 c10
      refine L_lload_n (pc := 13) X d_X13_chanceOf_13 rfl 2 rfl ?_
      refine L_bipush (pc := 14) (v := 100) X d_X13_chanceOf_14 (by decide) ?_
      refine L_aload_n (pc := 16) X d_X13_chanceOf_16 rfl 0 rfl ?_
      refine L_iload (pc := 17) X d_X13_chanceOf_17 3 rfl ?_
      refine L_iconst (pc := 19) (v := 1) X d_X13_chanceOf_19 (by decide) ?_
      refine L_callVI (pc := 20) X lk_X13_224 (c_X13_reachOf X.hst  h) rfl rfl kd_703 (by decide) rfl rfl ⟨by decide, by decide⟩ ⟨by decide, by decide⟩ (Nat.le_of_ble_eq_true rfl) d_X13_chanceOf_20 rfl (fun x κ1 hx => L_nox hx) (fun r1 u2 h => ?_)
      refine L_isub (pc := 23) X d_X13_chanceOf_23 ?_
      refine L_i2l (pc := 24) X d_X13_chanceOf_24 ?_
      refine L_lmul (pc := 25) X d_X13_chanceOf_25 ?_
      refine L_ldc2 (pc := 26) (v := 100) X d_X13_chanceOf_26 tw_1564 ?_
      refine L_ldiv (pc := 29) X d_X13_chanceOf_29 (by decide) ?_
      refine L_lstore_n (pc := 30) (lv2 := [(3, .long ((v3 * (Int32.toInt64 (100 - r1))) / 100)), (0, .ref 703), (2, .int v2), (5, .int v5)]) X d_X13_chanceOf_30 rfl (by decide) rfl ?_
      refine L_iinc (pc := 31) (v := v5 + 1) (lv2 := [(5, .int (v5 + 1)), (3, .long ((v3 * (Int32.toInt64 (100 - r1))) / 100)), (0, .ref 703), (2, .int v2)]) X d_X13_chanceOf_31 3 rfl rfl (by decide) rfl ?_
      refine L_goto (pc := 34) (tgt := 7) X d_X13_chanceOf_34 (by decide) ?_
      refine LW.sub [2, 3, 1, 0] rfl ?_
      exact ih _ _ _  _ h
set_option maxHeartbeats 4000000 in
set_option maxRecDepth 100000 in
theorem c_X13_chanceOf (hl : l.stackTraces = false) {x1 : Int32} {x2 : Int32} {mm : (Nat → Nat → Int32)} {post : Int32 → (Nat → Nat → Int32) → Prop} (h : w_X13_chanceOf post x1 x2 mm) : CT l yX13_chanceOf (.code yX13_chanceOf cX13_chanceOf 6 (some .int)) rm_X13_chanceOf 0 0 G ρ [.ref 703, .int x1, .int x2] (cm, mm, oo) (PI (fun u => (cm, u, oo)) post) noX := by
  refine CT_of hl (by decide +kernel) rfl (Nat.le_of_ble_eq_true rfl) (lv0 := [(0, .ref 703), (1, .int x1), (2, .int x2)]) rfl (fun p e s m args below meth c A X hr hex hnm => ?_)
  unfold w_X13_chanceOf at h
  refine L_ldc2 (pc := 0) (v := 1000000000) X d_X13_chanceOf_0 tw_1563 ?_
  refine L_lstore_n (pc := 3) (lv2 := [(3, .long 1000000000), (0, .ref 703), (1, .int x1), (2, .int x2)]) X d_X13_chanceOf_3 rfl (by decide) rfl ?_
  refine L_iload_n (pc := 4) X d_X13_chanceOf_4 rfl 2 rfl ?_
  refine L_istore (pc := 5) (lv2 := [(5, .int x1), (3, .long 1000000000), (0, .ref 703), (1, .int x1), (2, .int x2)]) X d_X13_chanceOf_5 (by decide) rfl ?_
  obtain ⟨n7, h⟩ := h
  refine LW.sub [2, 4, 1, 0] rfl ?_
  exact T_X13_chanceOf_7 hl X hr hex n7 _ _ _  _ h
end G_X13_chanceOf
theorem yk_X13_chanceOf : yX13_chanceOf.cls = RX13 ∧ yX13_chanceOf.cls ≠ "java/lang/invoke/MethodHandle" ∧ yX13_chanceOf.cls ≠ "java/lang/invoke/VarHandle" ∧ (parseMethodDescriptor yX13_chanceOf.desc).map (fun d => d.parameters.length) = some 2 := by decide +kernel
theorem lk_X13_260 : LinkV RX13 260 RX13 yX13_chanceOf (.code yX13_chanceOf cX13_chanceOf 6 (some .int)) 2 := ⟨tw_1559, tw_1561, tw_68, tw_83, tw_1562, yk_X13_chanceOf⟩
theorem d_X13_chance_0 : decode cX13_chance 0 = .ok (.aload_n 0, 1) := by decide +kernel
theorem d_X13_chance_1 : decode cX13_chance 1 = .ok (.aload_n 0, 1) := by decide +kernel
theorem d_X13_chance_2 : decode cX13_chance 2 = .ok (.iload_n 1, 1) := by decide +kernel
theorem d_X13_chance_3 : decode cX13_chance 3 = .ok (.iload_n 2, 1) := by decide +kernel
theorem d_X13_chance_4 : decode cX13_chance 4 = .ok (.invokevirtual 247, 3) := by decide +kernel
theorem d_X13_chance_7 : decode cX13_chance 7 = .ok (.putfield 47, 3) := by decide +kernel
theorem d_X13_chance_10 : decode cX13_chance 10 = .ok (.aload_n 0, 1) := by decide +kernel
theorem d_X13_chance_11 : decode cX13_chance 11 = .ok (.getfield 47, 3) := by decide +kernel
theorem d_X13_chance_14 : decode cX13_chance 14 = .ok (.ifCond .le 5, 3) := by decide +kernel
theorem d_X13_chance_17 : decode cX13_chance 17 = .ok (.iconst 0, 1) := by decide +kernel
theorem d_X13_chance_18 : decode cX13_chance 18 = .ok (.ireturn, 1) := by decide +kernel
theorem d_X13_chance_19 : decode cX13_chance 19 = .ok (.aload_n 0, 1) := by decide +kernel
theorem d_X13_chance_20 : decode cX13_chance 20 = .ok (.iload_n 1, 1) := by decide +kernel
theorem d_X13_chance_21 : decode cX13_chance 21 = .ok (.iload_n 2, 1) := by decide +kernel
theorem d_X13_chance_22 : decode cX13_chance 22 = .ok (.invokevirtual 260, 3) := by decide +kernel
theorem d_X13_chance_25 : decode cX13_chance 25 = .ok (.ireturn, 1) := by decide +kernel
abbrev rm_X13_chance : Room := { frames := 3, cells := 0, slots := 0, locals := 66 }
def w_X13_chance (post : Int32 → (Nat → Nat → Int32) → Prop) (x1 : Int32) (x2 : Int32) (mm : (Nat → Nat → Int32)) : Prop := w_X13_twoStations (fun (r1 : Int32) (u2 : (Nat → Nat → Int32)) => (((up2 u2 0 0 r1) 0 0) ≤ 0 → (w_X13_chanceOf (fun (r3 : Int32) (u4 : (Nat → Nat → Int32)) => post r3 u4) x1 x2 (up2 u2 0 0 r1))) ∧ (¬ ((up2 u2 0 0 r1) 0 0) ≤ 0 → (post 0 (up2 u2 0 0 r1)))) x1 x2 mm
section G_X13_chance
variable {p : Program} {l : Launch} {e : Env} {s : State} {m : MethodId} {args : Array Value} {below : List Frame} {meth : Method} {c : Code} {G : Gd} {ρ : Nat → Nat} {A : Nat → Prop} {cm : CMu} {oo : Nat → Int64}
set_option maxHeartbeats 4000000 in
set_option maxRecDepth 100000 in
theorem c_X13_chance (hl : l.stackTraces = false) {x1 : Int32} {x2 : Int32} {mm : (Nat → Nat → Int32)} {post : Int32 → (Nat → Nat → Int32) → Prop} (h : w_X13_chance post x1 x2 mm) : CT l yX13_chance (.code yX13_chance cX13_chance 3 (some .int)) rm_X13_chance 0 0 G ρ [.ref 703, .int x1, .int x2] (cm, mm, oo) (PI (fun u => (cm, u, oo)) post) noX := by
  refine CT_of hl (by decide +kernel) rfl (Nat.le_of_ble_eq_true rfl) (lv0 := [(0, .ref 703), (1, .int x1), (2, .int x2)]) rfl (fun p e s m args below meth c A X hr hex hnm => ?_)
  unfold w_X13_chance at h
  refine L_aload_n (pc := 0) X d_X13_chance_0 rfl 0 rfl ?_
  refine L_aload_n (pc := 1) X d_X13_chance_1 rfl 0 rfl ?_
  refine L_iload_n (pc := 2) X d_X13_chance_2 rfl 1 rfl ?_
  refine L_iload_n (pc := 3) X d_X13_chance_3 rfl 2 rfl ?_
  refine L_callVI (pc := 4) X lk_X13_247 (c_X13_twoStations X.hst  h) rfl rfl kd_703 (by decide) rfl rfl ⟨by decide, by decide⟩ ⟨by decide, by decide⟩ (Nat.le_of_ble_eq_true rfl) d_X13_chance_4 rfl (fun x κ1 hx => L_nox hx) (fun r1 u2 h => ?_)
  refine pf_X13_47 (pc := 7) X d_X13_chance_7 ?_
  refine L_aload_n (pc := 10) X d_X13_chance_10 rfl 0 rfl ?_
  refine gf_X13_47 (pc := 11) X d_X13_chance_11 ?_
  refine L_if_le (pc := 14) (tgt := 19) X d_X13_chance_14 (by decide) (fun c14 => ?_) (fun c14 => ?_)
  · replace h := h.1 c14
    refine L_aload_n (pc := 19) X d_X13_chance_19 rfl 0 rfl ?_
    refine L_iload_n (pc := 20) X d_X13_chance_20 rfl 1 rfl ?_
    refine L_iload_n (pc := 21) X d_X13_chance_21 rfl 2 rfl ?_
    refine L_callVI (pc := 22) X lk_X13_260 (c_X13_chanceOf X.hst  h) rfl rfl kd_703 (by decide) rfl rfl ⟨by decide, by decide⟩ ⟨by decide, by decide⟩ (Nat.zero_le _) d_X13_chance_22 rfl (fun x κ1 hx => L_nox hx) (fun r3 u4 h => ?_)
    exact L_iret (pc := 25) X hr d_X13_chance_25 (by decide) (by decide) ⟨_, _, rfl, rfl, h⟩
  · replace h := h.2 c14
    refine L_iconst (pc := 17) (v := 0) X d_X13_chance_17 (by decide) ?_
    exact L_iret (pc := 18) X hr d_X13_chance_18 (by decide) (by decide) ⟨_, _, rfl, rfl, h⟩
end G_X13_chance
theorem d_X13_repeats_0 : decode cX13_repeats 0 = .ok (.aload_n 0, 1) := by decide +kernel
theorem d_X13_repeats_1 : decode cX13_repeats 1 = .ok (.aload_n 0, 1) := by decide +kernel
theorem d_X13_repeats_2 : decode cX13_repeats 2 = .ok (.iload_n 1, 1) := by decide +kernel
theorem d_X13_repeats_3 : decode cX13_repeats 3 = .ok (.iload_n 2, 1) := by decide +kernel
theorem d_X13_repeats_4 : decode cX13_repeats 4 = .ok (.invokevirtual 247, 3) := by decide +kernel
theorem d_X13_repeats_7 : decode cX13_repeats 7 = .ok (.putfield 47, 3) := by decide +kernel
theorem d_X13_repeats_10 : decode cX13_repeats 10 = .ok (.aload_n 0, 1) := by decide +kernel
theorem d_X13_repeats_11 : decode cX13_repeats 11 = .ok (.getfield 47, 3) := by decide +kernel
theorem d_X13_repeats_14 : decode cX13_repeats 14 = .ok (.ifCond .ne 19, 3) := by decide +kernel
theorem d_X13_repeats_17 : decode cX13_repeats 17 = .ok (.iload_n 3, 1) := by decide +kernel
theorem d_X13_repeats_18 : decode cX13_repeats 18 = .ok (.iconst 0, 1) := by decide +kernel
theorem d_X13_repeats_19 : decode cX13_repeats 19 = .ok (.ldc_w 263, 3) := by decide +kernel
theorem d_X13_repeats_22 : decode cX13_repeats 22 = .ok (.invokestatic 50, 3) := by decide +kernel
theorem d_X13_repeats_25 : decode cX13_repeats 25 = .ok (.ifCond .ne 8, 3) := by decide +kernel
theorem d_X13_repeats_28 : decode cX13_repeats 28 = .ok (.aload_n 0, 1) := by decide +kernel
theorem d_X13_repeats_29 : decode cX13_repeats 29 = .ok (.iconst 2, 1) := by decide +kernel
theorem d_X13_repeats_30 : decode cX13_repeats 30 = .ok (.putfield 47, 3) := by decide +kernel
theorem d_X13_repeats_33 : decode cX13_repeats 33 = .ok (.aload_n 0, 1) := by decide +kernel
theorem d_X13_repeats_34 : decode cX13_repeats 34 = .ok (.getfield 47, 3) := by decide +kernel
theorem d_X13_repeats_37 : decode cX13_repeats 37 = .ok (.ifCond .le 5, 3) := by decide +kernel
theorem d_X13_repeats_40 : decode cX13_repeats 40 = .ok (.iconst 0, 1) := by decide +kernel
theorem d_X13_repeats_41 : decode cX13_repeats 41 = .ok (.ireturn, 1) := by decide +kernel
theorem d_X13_repeats_42 : decode cX13_repeats 42 = .ok (.ldc2_w 256, 3) := by decide +kernel
theorem d_X13_repeats_45 : decode cX13_repeats 45 = .ok (.lstore 4, 2) := by decide +kernel
theorem d_X13_repeats_47 : decode cX13_repeats 47 = .ok (.ldc_w 264, 3) := by decide +kernel
theorem d_X13_repeats_50 : decode cX13_repeats 50 = .ok (.aload_n 0, 1) := by decide +kernel
theorem d_X13_repeats_51 : decode cX13_repeats 51 = .ok (.iload_n 1, 1) := by decide +kernel
theorem d_X13_repeats_52 : decode cX13_repeats 52 = .ok (.iload_n 2, 1) := by decide +kernel
theorem d_X13_repeats_53 : decode cX13_repeats 53 = .ok (.invokevirtual 260, 3) := by decide +kernel
theorem d_X13_repeats_56 : decode cX13_repeats 56 = .ok (.isub, 1) := by decide +kernel
theorem d_X13_repeats_57 : decode cX13_repeats 57 = .ok (.i2l, 1) := by decide +kernel
theorem d_X13_repeats_58 : decode cX13_repeats 58 = .ok (.lstore 6, 2) := by decide +kernel
theorem d_X13_repeats_60 : decode cX13_repeats 60 = .ok (.iconst 0, 1) := by decide +kernel
theorem d_X13_repeats_61 : decode cX13_repeats 61 = .ok (.istore 8, 2) := by decide +kernel
theorem d_X13_repeats_63 : decode cX13_repeats 63 = .ok (.iload 8, 2) := by decide +kernel
theorem d_X13_repeats_65 : decode cX13_repeats 65 = .ok (.bipush 100, 2) := by decide +kernel
theorem d_X13_repeats_67 : decode cX13_repeats 67 = .ok (.if_icmp .ge 35, 3) := by decide +kernel
theorem d_X13_repeats_70 : decode cX13_repeats 70 = .ok (.lload 4, 2) := by decide +kernel
theorem d_X13_repeats_72 : decode cX13_repeats 72 = .ok (.ldc2_w 265, 3) := by decide +kernel
theorem d_X13_repeats_75 : decode cX13_repeats 75 = .ok (.iload_n 3, 1) := by decide +kernel
theorem d_X13_repeats_76 : decode cX13_repeats 76 = .ok (.i2l, 1) := by decide +kernel
theorem d_X13_repeats_77 : decode cX13_repeats 77 = .ok (.lmul, 1) := by decide +kernel
theorem d_X13_repeats_78 : decode cX13_repeats 78 = .ok (.lcmp, 1) := by decide +kernel
theorem d_X13_repeats_79 : decode cX13_repeats 79 = .ok (.ifCond .gt 6, 3) := by decide +kernel
theorem d_X13_repeats_82 : decode cX13_repeats 82 = .ok (.iload 8, 2) := by decide +kernel
theorem d_X13_repeats_84 : decode cX13_repeats 84 = .ok (.ireturn, 1) := by decide +kernel
theorem d_X13_repeats_85 : decode cX13_repeats 85 = .ok (.lload 4, 2) := by decide +kernel
theorem d_X13_repeats_87 : decode cX13_repeats 87 = .ok (.lload 6, 2) := by decide +kernel
theorem d_X13_repeats_89 : decode cX13_repeats 89 = .ok (.lmul, 1) := by decide +kernel
theorem d_X13_repeats_90 : decode cX13_repeats 90 = .ok (.ldc2_w 256, 3) := by decide +kernel
theorem d_X13_repeats_93 : decode cX13_repeats 93 = .ok (.ldiv, 1) := by decide +kernel
theorem d_X13_repeats_94 : decode cX13_repeats 94 = .ok (.lstore 4, 2) := by decide +kernel
theorem d_X13_repeats_96 : decode cX13_repeats 96 = .ok (.iinc 8 1, 3) := by decide +kernel
theorem d_X13_repeats_99 : decode cX13_repeats 99 = .ok (.goto (-36), 3) := by decide +kernel
theorem d_X13_repeats_102 : decode cX13_repeats 102 = .ok (.iconst (-1), 1) := by decide +kernel
theorem d_X13_repeats_103 : decode cX13_repeats 103 = .ok (.ireturn, 1) := by decide +kernel
abbrev rm_X13_repeats : Room := { frames := 3, cells := 0, slots := 0, locals := 66 }
def B_X13_repeats_63 (post : Int32 → (Nat → Nat → Int32) → Prop) : Nat → Int32 → Int64 → Int64 → Int32 → (Nat → Nat → Int32) → Prop
  | 0 => fun _ _ _ _ _ => False
  | n + 1 => fun v3 v4 v6 v8 mm => (100 ≤ v8 → (post (-1) mm)) ∧ (¬ 100 ≤ v8 → ((0 < (lg_cmp v4 (1000 * (Int32.toInt64 v3))) → (B_X13_repeats_63 post n v3 ((v4 * v6) / 1000000000) v6 (v8 + 1) mm)) ∧ (¬ 0 < (lg_cmp v4 (1000 * (Int32.toInt64 v3))) → (post v8 mm))))
def B_X13_repeats_33 (post : Int32 → (Nat → Nat → Int32) → Prop) (v1 : Int32) (v2 : Int32) (v3 : Int32) (mm : (Nat → Nat → Int32)) : Prop := ((mm 0 0) ≤ 0 → (w_X13_chanceOf (fun (r5 : Int32) (u6 : (Nat → Nat → Int32)) => ∃ n63, B_X13_repeats_63 post n63 v3 1000000000 (Int32.toInt64 (1000000000 - r5)) 0 u6) v1 v2 mm)) ∧ (¬ (mm 0 0) ≤ 0 → (post 0 mm))
def w_X13_repeats (post : Int32 → (Nat → Nat → Int32) → Prop) (x1 : Int32) (x2 : Int32) (x3 : Int32) (mm : (Nat → Nat → Int32)) : Prop := w_X13_twoStations (fun (r1 : Int32) (u2 : (Nat → Nat → Int32)) => (¬ ((up2 u2 0 0 r1) 0 0) = 0 → (B_X13_repeats_33 post x1 x2 x3 (up2 u2 0 0 r1))) ∧ (((up2 u2 0 0 r1) 0 0) = 0 → (w_X13_isIn (fun (r3 : Bool) (u4 : (Nat → Nat → Int32)) => (¬ (r3 = false) → (B_X13_repeats_33 post x1 x2 x3 u4)) ∧ ((r3 = false) → (B_X13_repeats_33 post x1 x2 x3 (up2 u4 0 0 2)))) x3 0 1000000 (up2 u2 0 0 r1)))) x1 x2 mm
section G_X13_repeats
variable {p : Program} {l : Launch} {e : Env} {s : State} {m : MethodId} {args : Array Value} {below : List Frame} {meth : Method} {c : Code} {G : Gd} {ρ : Nat → Nat} {A : Nat → Prop} {cm : CMu} {oo : Nat → Int64}
set_option maxHeartbeats 4000000 in
set_option maxRecDepth 100000 in
theorem T_X13_repeats_63 {post : Int32 → (Nat → Nat → Int32) → Prop} (hl : l.stackTraces = false) (X : MC p l s m args meth c cX13_repeats 9 RX13 G ρ A) (hr : meth.sig.returnType = (some .int)) (hex : ∀ z ∈ c.exceptionTable.toList, False) (n : Nat) : ∀ (v3 : Int32) (v4 : Int64) (v6 : Int64) (v8 : Int32) (mm : (Nat → Nat → Int32)), B_X13_repeats_63 post n v3 v4 v6 v8 mm → LW p l e rm_X13_repeats s m args below meth c (Qm below G ρ A (PI (fun u => (cm, u, oo)) post) noX args s 0 0) G ρ A 9 0 0 63 [(3, .int v3), (4, .long v4), (6, .long v6), (8, .int v8)] [] (cm, mm, oo) := by
  induction n with
  | zero =>
    intro v3 v4 v6 v8 mm h
    exact False.elim h
  | succ n ih =>
    intro v3 v4 v6 v8 mm h
    unfold B_X13_repeats_63 at h
    refine L_iload (pc := 63) X d_X13_repeats_63 3 rfl ?_
    refine L_bipush (pc := 65) (v := 100) X d_X13_repeats_65 (by decide) ?_
    refine L_icmp_ge (pc := 67) (tgt := 102) X d_X13_repeats_67 (by decide) (fun c67 => ?_) (fun c67 => ?_)
    · replace h := h.1 c67
      refine L_iconst (pc := 102) (v := (-1)) X d_X13_repeats_102 (by decide) ?_
      exact L_iret (pc := 103) X hr d_X13_repeats_103 (by decide) (by decide) ⟨_, _, rfl, rfl, h⟩
    · replace h := h.2 c67
      refine L_lload (pc := 70) X d_X13_repeats_70 1 rfl ?_
      refine L_ldc2 (pc := 72) (v := 1000) X d_X13_repeats_72 tw_1571 ?_
      refine L_iload_n (pc := 75) X d_X13_repeats_75 rfl 0 rfl ?_
      refine L_i2l (pc := 76) X d_X13_repeats_76 ?_
      refine L_lmul (pc := 77) X d_X13_repeats_77 ?_
      refine L_lcmp (pc := 78) X d_X13_repeats_78 ?_
      refine L_if_gt (pc := 79) (tgt := 85) X d_X13_repeats_79 (by decide) (fun c79 => ?_) (fun c79 => ?_)
      · replace h := h.1 c79
        refine L_lload (pc := 85) X d_X13_repeats_85 1 rfl ?_
        refine L_lload (pc := 87) X d_X13_repeats_87 2 rfl ?_
        refine L_lmul (pc := 89) X d_X13_repeats_89 ?_
        refine L_ldc2 (pc := 90) (v := 1000000000) X d_X13_repeats_90 tw_1563 ?_
        refine L_ldiv (pc := 93) X d_X13_repeats_93 (by decide) ?_
        refine L_lstore (pc := 94) (lv2 := [(4, .long ((v4 * v6) / 1000000000)), (3, .int v3), (6, .long v6), (8, .int v8)]) X d_X13_repeats_94 (by decide) rfl ?_
        refine L_iinc (pc := 96) (v := v8 + 1) (lv2 := [(8, .int (v8 + 1)), (4, .long ((v4 * v6) / 1000000000)), (3, .int v3), (6, .long v6)]) X d_X13_repeats_96 3 rfl rfl (by decide) rfl ?_
        refine L_goto (pc := 99) (tgt := 63) X d_X13_repeats_99 (by decide) ?_
        refine LW.sub [2, 1, 3, 0] rfl ?_
        exact ih _ _ _ _  _ h
      · replace h := h.2 c79
        refine L_iload (pc := 82) X d_X13_repeats_82 3 rfl ?_
        exact L_iret (pc := 84) X hr d_X13_repeats_84 (by decide) (by decide) ⟨_, _, rfl, rfl, h⟩
set_option maxHeartbeats 4000000 in
set_option maxRecDepth 100000 in
theorem T_X13_repeats_33 {post : Int32 → (Nat → Nat → Int32) → Prop} (hl : l.stackTraces = false) (X : MC p l s m args meth c cX13_repeats 9 RX13 G ρ A) (hr : meth.sig.returnType = (some .int)) (hex : ∀ z ∈ c.exceptionTable.toList, False) : ∀ (v1 : Int32) (v2 : Int32) (v3 : Int32) (mm : (Nat → Nat → Int32)), B_X13_repeats_33 post v1 v2 v3 mm → LW p l e rm_X13_repeats s m args below meth c (Qm below G ρ A (PI (fun u => (cm, u, oo)) post) noX args s 0 0) G ρ A 9 0 0 33 [(0, .ref 703), (1, .int v1), (2, .int v2), (3, .int v3)] [] (cm, mm, oo) := by
  intro v1 v2 v3 mm h
  unfold B_X13_repeats_33 at h
  refine L_aload_n (pc := 33) X d_X13_repeats_33 rfl 0 rfl ?_
  refine gf_X13_47 (pc := 34) X d_X13_repeats_34 ?_
  refine L_if_le (pc := 37) (tgt := 42) X d_X13_repeats_37 (by decide) (fun c37 => ?_) (fun c37 => ?_)
  · replace h := h.1 c37
    refine L_ldc2 (pc := 42) (v := 1000000000) X d_X13_repeats_42 tw_1563 ?_
    refine L_lstore (pc := 45) (lv2 := [(4, .long 1000000000), (0, .ref 703), (1, .int v1), (2, .int v2), (3, .int v3)]) X d_X13_repeats_45 (by decide) rfl ?_
    refine L_ldcw (pc := 47) (v := 1000000000) X d_X13_repeats_47 tw_1570 ?_
    refine L_aload_n (pc := 50) X d_X13_repeats_50 rfl 1 rfl ?_
    refine L_iload_n (pc := 51) X d_X13_repeats_51 rfl 2 rfl ?_
    refine L_iload_n (pc := 52) X d_X13_repeats_52 rfl 3 rfl ?_
    refine L_callVI (pc := 53) X lk_X13_260 (c_X13_chanceOf X.hst  h) rfl rfl kd_703 (by decide) rfl rfl ⟨by decide, by decide⟩ ⟨by decide, by decide⟩ (Nat.le_of_ble_eq_true rfl) d_X13_repeats_53 rfl (fun x κ1 hx => L_nox hx) (fun r5 u6 h => ?_)
    refine L_isub (pc := 56) X d_X13_repeats_56 ?_
    refine L_i2l (pc := 57) X d_X13_repeats_57 ?_
    refine L_lstore (pc := 58) (lv2 := [(6, .long (Int32.toInt64 (1000000000 - r5))), (4, .long 1000000000), (0, .ref 703), (1, .int v1), (2, .int v2), (3, .int v3)]) X d_X13_repeats_58 (by decide) rfl ?_
    refine L_iconst (pc := 60) (v := 0) X d_X13_repeats_60 (by decide) ?_
    refine L_istore (pc := 61) (lv2 := [(8, .int 0), (6, .long (Int32.toInt64 (1000000000 - r5))), (4, .long 1000000000), (0, .ref 703), (1, .int v1), (2, .int v2), (3, .int v3)]) X d_X13_repeats_61 (by decide) rfl ?_
    obtain ⟨n63, h⟩ := h
    refine LW.sub [6, 2, 1, 0] rfl ?_
    exact T_X13_repeats_63 hl X hr hex n63 _ _ _ _  _ h
  · replace h := h.2 c37
    refine L_iconst (pc := 40) (v := 0) X d_X13_repeats_40 (by decide) ?_
    exact L_iret (pc := 41) X hr d_X13_repeats_41 (by decide) (by decide) ⟨_, _, rfl, rfl, h⟩
set_option maxHeartbeats 4000000 in
set_option maxRecDepth 100000 in
theorem c_X13_repeats (hl : l.stackTraces = false) {x1 : Int32} {x2 : Int32} {x3 : Int32} {mm : (Nat → Nat → Int32)} {post : Int32 → (Nat → Nat → Int32) → Prop} (h : w_X13_repeats post x1 x2 x3 mm) : CT l yX13_repeats (.code yX13_repeats cX13_repeats 9 (some .int)) rm_X13_repeats 0 0 G ρ [.ref 703, .int x1, .int x2, .int x3] (cm, mm, oo) (PI (fun u => (cm, u, oo)) post) noX := by
  refine CT_of hl (by decide +kernel) rfl (Nat.le_of_ble_eq_true rfl) (lv0 := [(0, .ref 703), (1, .int x1), (2, .int x2), (3, .int x3)]) rfl (fun p e s m args below meth c A X hr hex hnm => ?_)
  unfold w_X13_repeats at h
  refine L_aload_n (pc := 0) X d_X13_repeats_0 rfl 0 rfl ?_
  refine L_aload_n (pc := 1) X d_X13_repeats_1 rfl 0 rfl ?_
  refine L_iload_n (pc := 2) X d_X13_repeats_2 rfl 1 rfl ?_
  refine L_iload_n (pc := 3) X d_X13_repeats_3 rfl 2 rfl ?_
  refine L_callVI (pc := 4) X lk_X13_247 (c_X13_twoStations X.hst  h) rfl rfl kd_703 (by decide) rfl rfl ⟨by decide, by decide⟩ ⟨by decide, by decide⟩ (Nat.le_of_ble_eq_true rfl) d_X13_repeats_4 rfl (fun x κ1 hx => L_nox hx) (fun r1 u2 h => ?_)
  refine pf_X13_47 (pc := 7) X d_X13_repeats_7 ?_
  refine L_aload_n (pc := 10) X d_X13_repeats_10 rfl 0 rfl ?_
  refine gf_X13_47 (pc := 11) X d_X13_repeats_11 ?_
  refine L_if_ne (pc := 14) (tgt := 33) X d_X13_repeats_14 (by decide) (fun c14 => ?_) (fun c14 => ?_)
  · replace h := h.1 c14
    refine LW.sub [0, 1, 2, 3] rfl ?_
    exact T_X13_repeats_33 hl X hr hex _ _ _  _ h
  · replace h := h.2 c14
    refine L_iload_n (pc := 17) X d_X13_repeats_17 rfl 3 rfl ?_
    refine L_iconst (pc := 18) (v := 0) X d_X13_repeats_18 (by decide) ?_
    refine L_ldcw (pc := 19) (v := 1000000) X d_X13_repeats_19 tw_1569 ?_
    refine L_callSZ (pc := 22) X lk_X13_50 (c_X13_isIn X.hst  h) rfl rfl rfl ⟨by decide, by decide⟩ ⟨by decide, by decide⟩ (Nat.zero_le _) d_X13_repeats_22 rfl (fun x κ1 hx => L_nox hx) (fun r3 u4 h => ?_)
    refine L_if_ne (pc := 25) (tgt := 33) X d_X13_repeats_25 (by decide) (fun c25 => ?_) (fun c25 => ?_)
    · replace h := h.1 (fun z => c25 ((b2_0 _).mpr z))
      refine LW.sub [0, 1, 2, 3] rfl ?_
      exact T_X13_repeats_33 hl X hr hex _ _ _  _ h
    · replace h := h.2 ((b2_0 _).mp c25)
      refine L_aload_n (pc := 28) X d_X13_repeats_28 rfl 0 rfl ?_
      refine L_iconst (pc := 29) (v := 2) X d_X13_repeats_29 (by decide) ?_
      refine pf_X13_47 (pc := 30) X d_X13_repeats_30 ?_
      refine LW.sub [0, 1, 2, 3] rfl ?_
      exact T_X13_repeats_33 hl X hr hex _ _ _  _ h
end G_X13_repeats
theorem d_X13_comesSo_0 : decode cX13_comesSo 0 = .ok (.iconst 0, 1) := by decide +kernel
theorem d_X13_comesSo_1 : decode cX13_comesSo 1 = .ok (.istore_n 1, 1) := by decide +kernel
theorem d_X13_comesSo_2 : decode cX13_comesSo 2 = .ok (.iconst 0, 1) := by decide +kernel
theorem d_X13_comesSo_3 : decode cX13_comesSo 3 = .ok (.istore_n 2, 1) := by decide +kernel
theorem d_X13_comesSo_4 : decode cX13_comesSo 4 = .ok (.iload_n 2, 1) := by decide +kernel
theorem d_X13_comesSo_5 : decode cX13_comesSo 5 = .ok (.aload_n 0, 1) := by decide +kernel
theorem d_X13_comesSo_6 : decode cX13_comesSo 6 = .ok (.getfield 267, 3) := by decide +kernel
theorem d_X13_comesSo_9 : decode cX13_comesSo 9 = .ok (.if_icmp .ge 118, 3) := by decide +kernel
theorem d_X13_comesSo_12 : decode cX13_comesSo 12 = .ok (.iconst (-1), 1) := by decide +kernel
theorem d_X13_comesSo_13 : decode cX13_comesSo 13 = .ok (.istore_n 3, 1) := by decide +kernel
theorem d_X13_comesSo_14 : decode cX13_comesSo 14 = .ok (.iconst 0, 1) := by decide +kernel
theorem d_X13_comesSo_15 : decode cX13_comesSo 15 = .ok (.istore 4, 2) := by decide +kernel
theorem d_X13_comesSo_17 : decode cX13_comesSo 17 = .ok (.iconst 0, 1) := by decide +kernel
theorem d_X13_comesSo_18 : decode cX13_comesSo 18 = .ok (.istore 5, 2) := by decide +kernel
theorem d_X13_comesSo_20 : decode cX13_comesSo 20 = .ok (.iload 5, 2) := by decide +kernel
theorem d_X13_comesSo_22 : decode cX13_comesSo 22 = .ok (.aload_n 0, 1) := by decide +kernel
theorem d_X13_comesSo_23 : decode cX13_comesSo 23 = .ok (.getfield 267, 3) := by decide +kernel
theorem d_X13_comesSo_26 : decode cX13_comesSo 26 = .ok (.if_icmp .ge 72, 3) := by decide +kernel
theorem d_X13_comesSo_29 : decode cX13_comesSo 29 = .ok (.iload 5, 2) := by decide +kernel
theorem d_X13_comesSo_31 : decode cX13_comesSo 31 = .ok (.aload_n 0, 1) := by decide +kernel
theorem d_X13_comesSo_32 : decode cX13_comesSo 32 = .ok (.iconst 0, 1) := by decide +kernel
theorem d_X13_comesSo_33 : decode cX13_comesSo 33 = .ok (.aload_n 0, 1) := by decide +kernel
theorem d_X13_comesSo_34 : decode cX13_comesSo 34 = .ok (.getfield 7, 3) := by decide +kernel
theorem d_X13_comesSo_37 : decode cX13_comesSo 37 = .ok (.iconst 1, 1) := by decide +kernel
theorem d_X13_comesSo_38 : decode cX13_comesSo 38 = .ok (.iaload, 1) := by decide +kernel
theorem d_X13_comesSo_39 : decode cX13_comesSo 39 = .ok (.iconst 1, 1) := by decide +kernel
theorem d_X13_comesSo_40 : decode cX13_comesSo 40 = .ok (.iadd, 1) := by decide +kernel
theorem d_X13_comesSo_41 : decode cX13_comesSo 41 = .ok (.aload_n 0, 1) := by decide +kernel
theorem d_X13_comesSo_42 : decode cX13_comesSo 42 = .ok (.getfield 32, 3) := by decide +kernel
theorem d_X13_comesSo_45 : decode cX13_comesSo 45 = .ok (.iload 5, 2) := by decide +kernel
theorem d_X13_comesSo_47 : decode cX13_comesSo 47 = .ok (.iaload, 1) := by decide +kernel
theorem d_X13_comesSo_48 : decode cX13_comesSo 48 = .ok (.aload_n 0, 1) := by decide +kernel
theorem d_X13_comesSo_49 : decode cX13_comesSo 49 = .ok (.getfield 7, 3) := by decide +kernel
theorem d_X13_comesSo_52 : decode cX13_comesSo 52 = .ok (.iconst 5, 1) := by decide +kernel
theorem d_X13_comesSo_53 : decode cX13_comesSo 53 = .ok (.iaload, 1) := by decide +kernel
theorem d_X13_comesSo_54 : decode cX13_comesSo 54 = .ok (.invokevirtual 250, 3) := by decide +kernel
theorem d_X13_comesSo_57 : decode cX13_comesSo 57 = .ok (.iadd, 1) := by decide +kernel
theorem d_X13_comesSo_58 : decode cX13_comesSo 58 = .ok (.istore 6, 2) := by decide +kernel
theorem d_X13_comesSo_60 : decode cX13_comesSo 60 = .ok (.iload_n 1, 1) := by decide +kernel
theorem d_X13_comesSo_61 : decode cX13_comesSo 61 = .ok (.iload 5, 2) := by decide +kernel
theorem d_X13_comesSo_63 : decode cX13_comesSo 63 = .ok (.ishr, 1) := by decide +kernel
theorem d_X13_comesSo_64 : decode cX13_comesSo 64 = .ok (.iconst 1, 1) := by decide +kernel
theorem d_X13_comesSo_65 : decode cX13_comesSo 65 = .ok (.iand, 1) := by decide +kernel
theorem d_X13_comesSo_66 : decode cX13_comesSo 66 = .ok (.iconst 1, 1) := by decide +kernel
theorem d_X13_comesSo_67 : decode cX13_comesSo 67 = .ok (.if_icmp .eq 25, 3) := by decide +kernel
theorem d_X13_comesSo_70 : decode cX13_comesSo 70 = .ok (.iload_n 3, 1) := by decide +kernel
theorem d_X13_comesSo_71 : decode cX13_comesSo 71 = .ok (.iconst (-1), 1) := by decide +kernel
theorem d_X13_comesSo_72 : decode cX13_comesSo 72 = .ok (.if_icmp .eq 13, 3) := by decide +kernel
theorem d_X13_comesSo_75 : decode cX13_comesSo 75 = .ok (.iload 6, 2) := by decide +kernel
theorem d_X13_comesSo_77 : decode cX13_comesSo 77 = .ok (.iload 4, 2) := by decide +kernel
theorem d_X13_comesSo_79 : decode cX13_comesSo 79 = .ok (.if_icmp .lt 6, 3) := by decide +kernel
theorem d_X13_comesSo_82 : decode cX13_comesSo 82 = .ok (.goto 10, 3) := by decide +kernel
theorem d_X13_comesSo_85 : decode cX13_comesSo 85 = .ok (.iload 5, 2) := by decide +kernel
theorem d_X13_comesSo_87 : decode cX13_comesSo 87 = .ok (.istore_n 3, 1) := by decide +kernel
theorem d_X13_comesSo_88 : decode cX13_comesSo 88 = .ok (.iload 6, 2) := by decide +kernel
theorem d_X13_comesSo_90 : decode cX13_comesSo 90 = .ok (.istore 4, 2) := by decide +kernel
theorem d_X13_comesSo_92 : decode cX13_comesSo 92 = .ok (.iinc 5 1, 3) := by decide +kernel
theorem d_X13_comesSo_95 : decode cX13_comesSo 95 = .ok (.goto (-75), 3) := by decide +kernel
theorem d_X13_comesSo_98 : decode cX13_comesSo 98 = .ok (.aload_n 0, 1) := by decide +kernel
theorem d_X13_comesSo_99 : decode cX13_comesSo 99 = .ok (.getfield 32, 3) := by decide +kernel
theorem d_X13_comesSo_102 : decode cX13_comesSo 102 = .ok (.iload_n 3, 1) := by decide +kernel
theorem d_X13_comesSo_103 : decode cX13_comesSo 103 = .ok (.iaload, 1) := by decide +kernel
theorem d_X13_comesSo_104 : decode cX13_comesSo 104 = .ok (.aload_n 0, 1) := by decide +kernel
theorem d_X13_comesSo_105 : decode cX13_comesSo 105 = .ok (.getfield 29, 3) := by decide +kernel
theorem d_X13_comesSo_108 : decode cX13_comesSo 108 = .ok (.iload_n 2, 1) := by decide +kernel
theorem d_X13_comesSo_109 : decode cX13_comesSo 109 = .ok (.iaload, 1) := by decide +kernel
theorem d_X13_comesSo_110 : decode cX13_comesSo 110 = .ok (.if_icmp .eq 5, 3) := by decide +kernel
theorem d_X13_comesSo_113 : decode cX13_comesSo 113 = .ok (.iconst 0, 1) := by decide +kernel
theorem d_X13_comesSo_114 : decode cX13_comesSo 114 = .ok (.ireturn, 1) := by decide +kernel
theorem d_X13_comesSo_115 : decode cX13_comesSo 115 = .ok (.iload_n 1, 1) := by decide +kernel
theorem d_X13_comesSo_116 : decode cX13_comesSo 116 = .ok (.iconst 1, 1) := by decide +kernel
theorem d_X13_comesSo_117 : decode cX13_comesSo 117 = .ok (.iload_n 3, 1) := by decide +kernel
theorem d_X13_comesSo_118 : decode cX13_comesSo 118 = .ok (.ishl, 1) := by decide +kernel
theorem d_X13_comesSo_119 : decode cX13_comesSo 119 = .ok (.ior, 1) := by decide +kernel
theorem d_X13_comesSo_120 : decode cX13_comesSo 120 = .ok (.istore_n 1, 1) := by decide +kernel
theorem d_X13_comesSo_121 : decode cX13_comesSo 121 = .ok (.iinc 2 1, 3) := by decide +kernel
theorem d_X13_comesSo_124 : decode cX13_comesSo 124 = .ok (.goto (-120), 3) := by decide +kernel
theorem d_X13_comesSo_127 : decode cX13_comesSo 127 = .ok (.iconst 1, 1) := by decide +kernel
theorem d_X13_comesSo_128 : decode cX13_comesSo 128 = .ok (.ireturn, 1) := by decide +kernel
abbrev rm_X13_comesSo : Room := { frames := 2, cells := 0, slots := 0, locals := 48 }
def B_X13_comesSo_92 (post : Bool → (Nat → Nat → Int32) → Prop) (k4 : Int32 → Int32 → (Nat → Nat → Int32) → Prop) (k20 : Int32 → Int32 → Int32 → Int32 → Int32 → (Nat → Nat → Int32) → Prop) (v1 : Int32) (v2 : Int32) (v3 : Int32) (v4 : Int32) (v5 : Int32) (mm : (Nat → Nat → Int32)) : Prop := k20 v1 v2 v3 v4 (v5 + 1) mm
def B_X13_comesSo_85 (post : Bool → (Nat → Nat → Int32) → Prop) (k4 : Int32 → Int32 → (Nat → Nat → Int32) → Prop) (k20 : Int32 → Int32 → Int32 → Int32 → Int32 → (Nat → Nat → Int32) → Prop) (v1 : Int32) (v2 : Int32) (v5 : Int32) (v6 : Int32) (mm : (Nat → Nat → Int32)) : Prop := B_X13_comesSo_92 post k4 k20 v1 v2 v5 v6 v5 mm
def B_X13_comesSo_20 (post : Bool → (Nat → Nat → Int32) → Prop) (k4 : Int32 → Int32 → (Nat → Nat → Int32) → Prop) : Nat → Int32 → Int32 → Int32 → Int32 → Int32 → (Nat → Nat → Int32) → Prop
  | 0 => fun _ _ _ _ _ _ => False
  | n + 1 => fun v1 v2 v3 v4 v5 mm => ((mm 0 20) ≤ v5 → ((vp_in v3 6) ∧ (vp_in v2 6) ∧ ((mm 7 (Int32.toNatClampNeg v3)) = (mm 6 (Int32.toNatClampNeg v2)) → (k4 (v1 ||| (1 <<< (v3 &&& 31))) (v2 + 1) mm)) ∧ (¬ (mm 7 (Int32.toNatClampNeg v3)) = (mm 6 (Int32.toNatClampNeg v2)) → (post false mm)))) ∧ (¬ (mm 0 20) ≤ v5 → ((vp_in v5 6) ∧ w_X13_wayOf (fun (r4 : Int32) (u5 : (Nat → Nat → Int32)) => (((v1 >>> (v5 &&& 31)) &&& 1) = 1 → (B_X13_comesSo_92 post k4 (B_X13_comesSo_20 post k4 n) v1 v2 v3 v4 v5 u5)) ∧ (¬ ((v1 >>> (v5 &&& 31)) &&& 1) = 1 → ((v3 = (-1) → (B_X13_comesSo_85 post k4 (B_X13_comesSo_20 post k4 n) v1 v2 v5 (v5 + r4) u5)) ∧ (¬ v3 = (-1) → (((v5 + r4) < v4 → (B_X13_comesSo_85 post k4 (B_X13_comesSo_20 post k4 n) v1 v2 v5 (v5 + r4) u5)) ∧ (¬ (v5 + r4) < v4 → (B_X13_comesSo_92 post k4 (B_X13_comesSo_20 post k4 n) v1 v2 v3 v4 v5 u5))))))) 0 ((mm 1 (Int32.toNatClampNeg (1 : Int32))) + 1) (mm 7 (Int32.toNatClampNeg v5)) (mm 1 (Int32.toNatClampNeg (5 : Int32))) mm))
def B_X13_comesSo_4 (post : Bool → (Nat → Nat → Int32) → Prop) : Nat → Int32 → Int32 → (Nat → Nat → Int32) → Prop
  | 0 => fun _ _ _ => False
  | n + 1 => fun v1 v2 mm => ((mm 0 20) ≤ v2 → (post true mm)) ∧ (¬ (mm 0 20) ≤ v2 → (∃ n20, B_X13_comesSo_20 post (B_X13_comesSo_4 post n) n20 v1 v2 (-1) 0 0 mm))
def w_X13_comesSo (post : Bool → (Nat → Nat → Int32) → Prop) (mm : (Nat → Nat → Int32)) : Prop := ∃ n4, B_X13_comesSo_4 post n4 0 0 mm
section G_X13_comesSo
variable {p : Program} {l : Launch} {e : Env} {s : State} {m : MethodId} {args : Array Value} {below : List Frame} {meth : Method} {c : Code} {G : Gd} {ρ : Nat → Nat} {A : Nat → Prop} {cm : CMu} {oo : Nat → Int64}
set_option maxHeartbeats 4000000 in
set_option maxRecDepth 100000 in
theorem T_X13_comesSo_92 {post : Bool → (Nat → Nat → Int32) → Prop} {k4 : Int32 → Int32 → (Nat → Nat → Int32) → Prop} {k20 : Int32 → Int32 → Int32 → Int32 → Int32 → (Nat → Nat → Int32) → Prop} (hl : l.stackTraces = false) (X : MC p l s m args meth c cX13_comesSo 7 RX13 G ρ A) (hr : meth.sig.returnType = (some .boolean)) (hex : ∀ z ∈ c.exceptionTable.toList, False)
    (hk4 : ∀ (v1 : Int32) (v2 : Int32) (mm : (Nat → Nat → Int32)), k4 v1 v2 mm → LW p l e rm_X13_comesSo s m args below meth c (Qm below G ρ A (PZ (fun u => (cm, u, oo)) post) noX args s 0 0) G ρ A 7 0 0 4 [(0, .ref 703), (1, .int v1), (2, .int v2)] [] (cm, mm, oo))
    (hk20 : ∀ (v1 : Int32) (v2 : Int32) (v3 : Int32) (v4 : Int32) (v5 : Int32) (mm : (Nat → Nat → Int32)), k20 v1 v2 v3 v4 v5 mm → LW p l e rm_X13_comesSo s m args below meth c (Qm below G ρ A (PZ (fun u => (cm, u, oo)) post) noX args s 0 0) G ρ A 7 0 0 20 [(0, .ref 703), (1, .int v1), (2, .int v2), (3, .int v3), (4, .int v4), (5, .int v5)] [] (cm, mm, oo)) : ∀ (v1 : Int32) (v2 : Int32) (v3 : Int32) (v4 : Int32) (v5 : Int32) (mm : (Nat → Nat → Int32)), B_X13_comesSo_92 post k4 k20 v1 v2 v3 v4 v5 mm → LW p l e rm_X13_comesSo s m args below meth c (Qm below G ρ A (PZ (fun u => (cm, u, oo)) post) noX args s 0 0) G ρ A 7 0 0 92 [(0, .ref 703), (1, .int v1), (2, .int v2), (3, .int v3), (4, .int v4), (5, .int v5)] [] (cm, mm, oo) := by
  intro v1 v2 v3 v4 v5 mm h
  unfold B_X13_comesSo_92 at h
  refine L_iinc (pc := 92) (v := v5 + 1) (lv2 := [(5, .int (v5 + 1)), (0, .ref 703), (1, .int v1), (2, .int v2), (3, .int v3), (4, .int v4)]) X d_X13_comesSo_92 5 rfl rfl (by decide) rfl ?_
  refine L_goto (pc := 95) (tgt := 20) X d_X13_comesSo_95 (by decide) ?_
  refine LW.sub [1, 2, 3, 4, 5, 0] rfl ?_
  exact hk20 _ _ _ _ _  _ h
set_option maxHeartbeats 4000000 in
set_option maxRecDepth 100000 in
theorem T_X13_comesSo_85 {post : Bool → (Nat → Nat → Int32) → Prop} {k4 : Int32 → Int32 → (Nat → Nat → Int32) → Prop} {k20 : Int32 → Int32 → Int32 → Int32 → Int32 → (Nat → Nat → Int32) → Prop} (hl : l.stackTraces = false) (X : MC p l s m args meth c cX13_comesSo 7 RX13 G ρ A) (hr : meth.sig.returnType = (some .boolean)) (hex : ∀ z ∈ c.exceptionTable.toList, False)
    (hk4 : ∀ (v1 : Int32) (v2 : Int32) (mm : (Nat → Nat → Int32)), k4 v1 v2 mm → LW p l e rm_X13_comesSo s m args below meth c (Qm below G ρ A (PZ (fun u => (cm, u, oo)) post) noX args s 0 0) G ρ A 7 0 0 4 [(0, .ref 703), (1, .int v1), (2, .int v2)] [] (cm, mm, oo))
    (hk20 : ∀ (v1 : Int32) (v2 : Int32) (v3 : Int32) (v4 : Int32) (v5 : Int32) (mm : (Nat → Nat → Int32)), k20 v1 v2 v3 v4 v5 mm → LW p l e rm_X13_comesSo s m args below meth c (Qm below G ρ A (PZ (fun u => (cm, u, oo)) post) noX args s 0 0) G ρ A 7 0 0 20 [(0, .ref 703), (1, .int v1), (2, .int v2), (3, .int v3), (4, .int v4), (5, .int v5)] [] (cm, mm, oo)) : ∀ (v1 : Int32) (v2 : Int32) (v5 : Int32) (v6 : Int32) (mm : (Nat → Nat → Int32)), B_X13_comesSo_85 post k4 k20 v1 v2 v5 v6 mm → LW p l e rm_X13_comesSo s m args below meth c (Qm below G ρ A (PZ (fun u => (cm, u, oo)) post) noX args s 0 0) G ρ A 7 0 0 85 [(0, .ref 703), (1, .int v1), (2, .int v2), (5, .int v5), (6, .int v6)] [] (cm, mm, oo) := by
  intro v1 v2 v5 v6 mm h
  unfold B_X13_comesSo_85 at h
  refine L_iload (pc := 85) X d_X13_comesSo_85 3 rfl ?_
  refine L_istore_n (pc := 87) (lv2 := [(3, .int v5), (0, .ref 703), (1, .int v1), (2, .int v2), (5, .int v5), (6, .int v6)]) X d_X13_comesSo_87 rfl (by decide) rfl ?_
  refine L_iload (pc := 88) X d_X13_comesSo_88 5 rfl ?_
  refine L_istore (pc := 90) (lv2 := [(4, .int v6), (3, .int v5), (0, .ref 703), (1, .int v1), (2, .int v2), (5, .int v5), (6, .int v6)]) X d_X13_comesSo_90 (by decide) rfl ?_
  refine LW.sub [2, 3, 4, 1, 0, 5] rfl ?_
  exact T_X13_comesSo_92 hl X hr hex hk4 hk20 _ _ _ _ _  _ h
set_option maxHeartbeats 4000000 in
set_option maxRecDepth 100000 in
theorem T_X13_comesSo_20 {post : Bool → (Nat → Nat → Int32) → Prop} {k4 : Int32 → Int32 → (Nat → Nat → Int32) → Prop} (hl : l.stackTraces = false) (X : MC p l s m args meth c cX13_comesSo 7 RX13 G ρ A) (hr : meth.sig.returnType = (some .boolean)) (hex : ∀ z ∈ c.exceptionTable.toList, False)
    (hk4 : ∀ (v1 : Int32) (v2 : Int32) (mm : (Nat → Nat → Int32)), k4 v1 v2 mm → LW p l e rm_X13_comesSo s m args below meth c (Qm below G ρ A (PZ (fun u => (cm, u, oo)) post) noX args s 0 0) G ρ A 7 0 0 4 [(0, .ref 703), (1, .int v1), (2, .int v2)] [] (cm, mm, oo)) (n : Nat) : ∀ (v1 : Int32) (v2 : Int32) (v3 : Int32) (v4 : Int32) (v5 : Int32) (mm : (Nat → Nat → Int32)), B_X13_comesSo_20 post k4 n v1 v2 v3 v4 v5 mm → LW p l e rm_X13_comesSo s m args below meth c (Qm below G ρ A (PZ (fun u => (cm, u, oo)) post) noX args s 0 0) G ρ A 7 0 0 20 [(0, .ref 703), (1, .int v1), (2, .int v2), (3, .int v3), (4, .int v4), (5, .int v5)] [] (cm, mm, oo) := by
  induction n with
  | zero =>
    intro v1 v2 v3 v4 v5 mm h
    exact False.elim h
  | succ n ih =>
    intro v1 v2 v3 v4 v5 mm h
    unfold B_X13_comesSo_20 at h
    refine L_iload (pc := 20) X d_X13_comesSo_20 5 rfl ?_
    refine L_aload_n (pc := 22) X d_X13_comesSo_22 rfl 0 rfl ?_
    refine gf_X13_267 (pc := 23) X d_X13_comesSo_23 ?_
    refine L_icmp_ge (pc := 26) (tgt := 98) X d_X13_comesSo_26 (by decide) (fun c26 => ?_) (fun c26 => ?_)
    · replace h := h.1 c26
      refine L_aload_n (pc := 98) X d_X13_comesSo_98 rfl 0 rfl ?_
      refine gf_X13_32 (pc := 99) X d_X13_comesSo_99 ?_
      refine L_iload_n (pc := 102) X d_X13_comesSo_102 rfl 3 rfl ?_
      obtain ⟨q1, h⟩ := h
      refine L_ialdM (pc := 103) (a := 7) X d_X13_comesSo_103 kd_710 q1 ?_
      refine L_aload_n (pc := 104) X d_X13_comesSo_104 rfl 0 rfl ?_
      refine gf_X13_29 (pc := 105) X d_X13_comesSo_105 ?_
      refine L_iload_n (pc := 108) X d_X13_comesSo_108 rfl 2 rfl ?_
      obtain ⟨q2, h⟩ := h
      refine L_ialdM (pc := 109) (a := 6) X d_X13_comesSo_109 kd_709 q2 ?_
      refine L_icmp_eq (pc := 110) (tgt := 115) X d_X13_comesSo_110 (by decide) (fun c110 => ?_) (fun c110 => ?_)
      · replace h := h.1 c110
        refine L_iload_n (pc := 115) X d_X13_comesSo_115 rfl 1 rfl ?_
        refine L_iconst (pc := 116) (v := 1) X d_X13_comesSo_116 (by decide) ?_
        refine L_iload_n (pc := 117) X d_X13_comesSo_117 rfl 3 rfl ?_
        refine L_ishl (pc := 118) X d_X13_comesSo_118 ?_
        refine L_ior (pc := 119) X d_X13_comesSo_119 ?_
        refine L_istore_n (pc := 120) (lv2 := [(1, .int (v1 ||| (1 <<< (v3 &&& 31)))), (0, .ref 703), (2, .int v2), (3, .int v3), (4, .int v4), (5, .int v5)]) X d_X13_comesSo_120 rfl (by decide) rfl ?_
        refine L_iinc (pc := 121) (v := v2 + 1) (lv2 := [(2, .int (v2 + 1)), (1, .int (v1 ||| (1 <<< (v3 &&& 31)))), (0, .ref 703), (3, .int v3), (4, .int v4), (5, .int v5)]) X d_X13_comesSo_121 2 rfl rfl (by decide) rfl ?_
        refine L_goto (pc := 124) (tgt := 4) X d_X13_comesSo_124 (by decide) ?_
        refine LW.sub [2, 1, 0] rfl ?_
        exact hk4 _ _  _ h
      · replace h := h.2 c110
        refine L_iconst (pc := 113) (v := 0) X d_X13_comesSo_113 (by decide) ?_
        exact L_zretB (pc := 114) X hr d_X13_comesSo_114 false rfl (by decide) (by decide) ⟨_, _, rfl, rfl, h⟩
    · replace h := h.2 c26
      refine L_iload (pc := 29) X d_X13_comesSo_29 5 rfl ?_
      refine L_aload_n (pc := 31) X d_X13_comesSo_31 rfl 0 rfl ?_
      refine L_iconst (pc := 32) (v := 0) X d_X13_comesSo_32 (by decide) ?_
      refine L_aload_n (pc := 33) X d_X13_comesSo_33 rfl 0 rfl ?_
      refine gf_X13_7 (pc := 34) X d_X13_comesSo_34 ?_
      refine L_iconst (pc := 37) (v := 1) X d_X13_comesSo_37 (by decide) ?_
      refine L_ialdM (pc := 38) (a := 1) X d_X13_comesSo_38 kd_704 (by unfold vp_in; decide) ?_
      refine L_iconst (pc := 39) (v := 1) X d_X13_comesSo_39 (by decide) ?_
      refine L_iadd (pc := 40) X d_X13_comesSo_40 ?_
      refine L_aload_n (pc := 41) X d_X13_comesSo_41 rfl 0 rfl ?_
      refine gf_X13_32 (pc := 42) X d_X13_comesSo_42 ?_
      refine L_iload (pc := 45) X d_X13_comesSo_45 5 rfl ?_
      obtain ⟨q3, h⟩ := h
      refine L_ialdM (pc := 47) (a := 7) X d_X13_comesSo_47 kd_710 q3 ?_
      refine L_aload_n (pc := 48) X d_X13_comesSo_48 rfl 0 rfl ?_
      refine gf_X13_7 (pc := 49) X d_X13_comesSo_49 ?_
      refine L_iconst (pc := 52) (v := 5) X d_X13_comesSo_52 (by decide) ?_
      refine L_ialdM (pc := 53) (a := 1) X d_X13_comesSo_53 kd_704 (by unfold vp_in; decide) ?_
      refine L_callVI (pc := 54) X lk_X13_250 (c_X13_wayOf X.hst  h) rfl rfl kd_703 (by decide) rfl rfl ⟨by decide, by decide⟩ ⟨by decide, by decide⟩ (Nat.le_of_ble_eq_true rfl) d_X13_comesSo_54 rfl (fun x κ1 hx => L_nox hx) (fun r4 u5 h => ?_)
      refine L_iadd (pc := 57) X d_X13_comesSo_57 ?_
      refine L_istore (pc := 58) (lv2 := [(6, .int (v5 + r4)), (0, .ref 703), (1, .int v1), (2, .int v2), (3, .int v3), (4, .int v4), (5, .int v5)]) X d_X13_comesSo_58 (by decide) rfl ?_
      refine L_iload_n (pc := 60) X d_X13_comesSo_60 rfl 2 rfl ?_
      refine L_iload (pc := 61) X d_X13_comesSo_61 6 rfl ?_
      refine L_ishr (pc := 63) X d_X13_comesSo_63 ?_
      refine L_iconst (pc := 64) (v := 1) X d_X13_comesSo_64 (by decide) ?_
      refine L_iand (pc := 65) X d_X13_comesSo_65 ?_
      refine L_iconst (pc := 66) (v := 1) X d_X13_comesSo_66 (by decide) ?_
      refine L_icmp_eq (pc := 67) (tgt := 92) X d_X13_comesSo_67 (by decide) (fun c67 => ?_) (fun c67 => ?_)
      · replace h := h.1 c67
        refine LW.sub [1, 2, 3, 4, 5, 6] rfl ?_
        exact T_X13_comesSo_92 hl X hr hex hk4 ih _ _ _ _ _  _ h
      · replace h := h.2 c67
        refine L_iload_n (pc := 70) X d_X13_comesSo_70 rfl 4 rfl ?_
        refine L_iconst (pc := 71) (v := (-1)) X d_X13_comesSo_71 (by decide) ?_
        refine L_icmp_eq (pc := 72) (tgt := 85) X d_X13_comesSo_72 (by decide) (fun c72 => ?_) (fun c72 => ?_)
        · replace h := h.1 c72
          refine LW.sub [1, 2, 3, 6, 0] rfl ?_
          exact T_X13_comesSo_85 hl X hr hex hk4 ih _ _ _ _  _ h
        · replace h := h.2 c72
          refine L_iload (pc := 75) X d_X13_comesSo_75 0 rfl ?_
          refine L_iload (pc := 77) X d_X13_comesSo_77 5 rfl ?_
          refine L_icmp_lt (pc := 79) (tgt := 85) X d_X13_comesSo_79 (by decide) (fun c79 => ?_) (fun c79 => ?_)
          · replace h := h.1 c79
            refine LW.sub [1, 2, 3, 6, 0] rfl ?_
            exact T_X13_comesSo_85 hl X hr hex hk4 ih _ _ _ _  _ h
          · replace h := h.2 c79
            refine L_goto (pc := 82) (tgt := 92) X d_X13_comesSo_82 (by decide) ?_
            refine LW.sub [1, 2, 3, 4, 5, 6] rfl ?_
            exact T_X13_comesSo_92 hl X hr hex hk4 ih _ _ _ _ _  _ h
set_option maxHeartbeats 4000000 in
set_option maxRecDepth 100000 in
theorem T_X13_comesSo_4 {post : Bool → (Nat → Nat → Int32) → Prop} (hl : l.stackTraces = false) (X : MC p l s m args meth c cX13_comesSo 7 RX13 G ρ A) (hr : meth.sig.returnType = (some .boolean)) (hex : ∀ z ∈ c.exceptionTable.toList, False) (n : Nat) : ∀ (v1 : Int32) (v2 : Int32) (mm : (Nat → Nat → Int32)), B_X13_comesSo_4 post n v1 v2 mm → LW p l e rm_X13_comesSo s m args below meth c (Qm below G ρ A (PZ (fun u => (cm, u, oo)) post) noX args s 0 0) G ρ A 7 0 0 4 [(0, .ref 703), (1, .int v1), (2, .int v2)] [] (cm, mm, oo) := by
  induction n with
  | zero =>
    intro v1 v2 mm h
    exact False.elim h
  | succ n ih =>
    intro v1 v2 mm h
    unfold B_X13_comesSo_4 at h
    refine L_iload_n (pc := 4) X d_X13_comesSo_4 rfl 2 rfl ?_
    refine L_aload_n (pc := 5) X d_X13_comesSo_5 rfl 0 rfl ?_
    refine gf_X13_267 (pc := 6) X d_X13_comesSo_6 ?_
    refine L_icmp_ge (pc := 9) (tgt := 127) X d_X13_comesSo_9 (by decide) (fun c9 => ?_) (fun c9 => ?_)
    · replace h := h.1 c9
      refine L_iconst (pc := 127) (v := 1) X d_X13_comesSo_127 (by decide) ?_
      exact L_zretB (pc := 128) X hr d_X13_comesSo_128 true rfl (by decide) (by decide) ⟨_, _, rfl, rfl, h⟩
    · replace h := h.2 c9
      refine L_iconst (pc := 12) (v := (-1)) X d_X13_comesSo_12 (by decide) ?_
      refine L_istore_n (pc := 13) (lv2 := [(3, .int (-1)), (0, .ref 703), (1, .int v1), (2, .int v2)]) X d_X13_comesSo_13 rfl (by decide) rfl ?_
      refine L_iconst (pc := 14) (v := 0) X d_X13_comesSo_14 (by decide) ?_
      refine L_istore (pc := 15) (lv2 := [(4, .int 0), (3, .int (-1)), (0, .ref 703), (1, .int v1), (2, .int v2)]) X d_X13_comesSo_15 (by decide) rfl ?_
      refine L_iconst (pc := 17) (v := 0) X d_X13_comesSo_17 (by decide) ?_
      refine L_istore (pc := 18) (lv2 := [(5, .int 0), (4, .int 0), (3, .int (-1)), (0, .ref 703), (1, .int v1), (2, .int v2)]) X d_X13_comesSo_18 (by decide) rfl ?_
      obtain ⟨n20, h⟩ := h
      refine LW.sub [3, 4, 5, 2, 1, 0] rfl ?_
      exact T_X13_comesSo_20 hl X hr hex ih n20 _ _ _ _ _  _ h
set_option maxHeartbeats 4000000 in
set_option maxRecDepth 100000 in
theorem c_X13_comesSo (hl : l.stackTraces = false) {mm : (Nat → Nat → Int32)} {post : Bool → (Nat → Nat → Int32) → Prop} (h : w_X13_comesSo post mm) : CT l yX13_comesSo (.code yX13_comesSo cX13_comesSo 7 (some .boolean)) rm_X13_comesSo 0 0 G ρ [.ref 703] (cm, mm, oo) (PZ (fun u => (cm, u, oo)) post) noX := by
  refine CT_of hl (by decide +kernel) rfl (Nat.le_of_ble_eq_true rfl) (lv0 := [(0, .ref 703)]) rfl (fun p e s m args below meth c A X hr hex hnm => ?_)
  unfold w_X13_comesSo at h
  refine L_iconst (pc := 0) (v := 0) X d_X13_comesSo_0 (by decide) ?_
  refine L_istore_n (pc := 1) (lv2 := [(1, .int 0), (0, .ref 703)]) X d_X13_comesSo_1 rfl (by decide) rfl ?_
  refine L_iconst (pc := 2) (v := 0) X d_X13_comesSo_2 (by decide) ?_
  refine L_istore_n (pc := 3) (lv2 := [(2, .int 0), (1, .int 0), (0, .ref 703)]) X d_X13_comesSo_3 rfl (by decide) rfl ?_
  obtain ⟨n4, h⟩ := h
  refine LW.sub [2, 1, 0] rfl ?_
  exact T_X13_comesSo_4 hl X hr hex n4 _ _  _ h
end G_X13_comesSo
abbrev rmG_tries (d : Nat) : Room := { frames := d + 3, cells := 0, slots := 0, locals := d * 24 + 74 }
theorem yk_X13_comesSo : yX13_comesSo.cls = RX13 ∧ yX13_comesSo.cls ≠ "java/lang/invoke/MethodHandle" ∧ yX13_comesSo.cls ≠ "java/lang/invoke/VarHandle" ∧ (parseMethodDescriptor yX13_comesSo.desc).map (fun d => d.parameters.length) = some 0 := by decide +kernel
theorem lk_X13_270 : LinkV RX13 270 RX13 yX13_comesSo (.code yX13_comesSo cX13_comesSo 7 (some .boolean)) 0 := ⟨tw_1580, tw_1582, tw_70, tw_83, tw_1583, yk_X13_comesSo⟩
theorem yk_X13_tries : yX13_tries.cls = RX13 ∧ yX13_tries.cls ≠ "java/lang/invoke/MethodHandle" ∧ yX13_tries.cls ≠ "java/lang/invoke/VarHandle" ∧ (parseMethodDescriptor yX13_tries.desc).map (fun d => d.parameters.length) = some 2 := by decide +kernel
theorem lk_X13_276 : LinkV RX13 276 RX13 yX13_tries (.code yX13_tries cX13_tries 5 none) 2 := ⟨tw_1576, tw_1578, tw_69, tw_83, tw_1579, yk_X13_tries⟩
theorem d_X13_tries_0 : decode cX13_tries 0 = .ok (.iload_n 1, 1) := by decide +kernel
theorem d_X13_tries_1 : decode cX13_tries 1 = .ok (.aload_n 0, 1) := by decide +kernel
theorem d_X13_tries_2 : decode cX13_tries 2 = .ok (.getfield 267, 3) := by decide +kernel
theorem d_X13_tries_5 : decode cX13_tries 5 = .ok (.if_icmp .ne 58, 3) := by decide +kernel
theorem d_X13_tries_8 : decode cX13_tries 8 = .ok (.aload_n 0, 1) := by decide +kernel
theorem d_X13_tries_9 : decode cX13_tries 9 = .ok (.invokevirtual 270, 3) := by decide +kernel
theorem d_X13_tries_12 : decode cX13_tries 12 = .ok (.ifCond .ne 4, 3) := by decide +kernel
theorem d_X13_tries_15 : decode cX13_tries 15 = .ok (.return_, 1) := by decide +kernel
theorem d_X13_tries_16 : decode cX13_tries 16 = .ok (.aload_n 0, 1) := by decide +kernel
theorem d_X13_tries_17 : decode cX13_tries 17 = .ok (.dup, 1) := by decide +kernel
theorem d_X13_tries_18 : decode cX13_tries 18 = .ok (.getfield 273, 3) := by decide +kernel
theorem d_X13_tries_21 : decode cX13_tries 21 = .ok (.iconst 1, 1) := by decide +kernel
theorem d_X13_tries_22 : decode cX13_tries 22 = .ok (.iadd, 1) := by decide +kernel
theorem d_X13_tries_23 : decode cX13_tries 23 = .ok (.putfield 273, 3) := by decide +kernel
theorem d_X13_tries_26 : decode cX13_tries 26 = .ok (.aload_n 0, 1) := by decide +kernel
theorem d_X13_tries_27 : decode cX13_tries 27 = .ok (.getfield 273, 3) := by decide +kernel
theorem d_X13_tries_30 : decode cX13_tries 30 = .ok (.iconst 1, 1) := by decide +kernel
theorem d_X13_tries_31 : decode cX13_tries 31 = .ok (.if_icmp .ne 31, 3) := by decide +kernel
theorem d_X13_tries_34 : decode cX13_tries 34 = .ok (.iconst 0, 1) := by decide +kernel
theorem d_X13_tries_35 : decode cX13_tries 35 = .ok (.istore_n 3, 1) := by decide +kernel
theorem d_X13_tries_36 : decode cX13_tries 36 = .ok (.iload_n 3, 1) := by decide +kernel
theorem d_X13_tries_37 : decode cX13_tries 37 = .ok (.aload_n 0, 1) := by decide +kernel
theorem d_X13_tries_38 : decode cX13_tries 38 = .ok (.getfield 267, 3) := by decide +kernel
theorem d_X13_tries_41 : decode cX13_tries 41 = .ok (.if_icmp .ge 21, 3) := by decide +kernel
theorem d_X13_tries_44 : decode cX13_tries 44 = .ok (.aload_n 0, 1) := by decide +kernel
theorem d_X13_tries_45 : decode cX13_tries 45 = .ok (.getfield 35, 3) := by decide +kernel
theorem d_X13_tries_48 : decode cX13_tries 48 = .ok (.iload_n 3, 1) := by decide +kernel
theorem d_X13_tries_49 : decode cX13_tries 49 = .ok (.aload_n 0, 1) := by decide +kernel
theorem d_X13_tries_50 : decode cX13_tries 50 = .ok (.getfield 32, 3) := by decide +kernel
theorem d_X13_tries_53 : decode cX13_tries 53 = .ok (.iload_n 3, 1) := by decide +kernel
theorem d_X13_tries_54 : decode cX13_tries 54 = .ok (.iaload, 1) := by decide +kernel
theorem d_X13_tries_55 : decode cX13_tries 55 = .ok (.iastore, 1) := by decide +kernel
theorem d_X13_tries_56 : decode cX13_tries 56 = .ok (.iinc 3 1, 3) := by decide +kernel
theorem d_X13_tries_59 : decode cX13_tries 59 = .ok (.goto (-23), 3) := by decide +kernel
theorem d_X13_tries_62 : decode cX13_tries 62 = .ok (.return_, 1) := by decide +kernel
theorem d_X13_tries_63 : decode cX13_tries 63 = .ok (.iconst 1, 1) := by decide +kernel
theorem d_X13_tries_64 : decode cX13_tries 64 = .ok (.istore_n 3, 1) := by decide +kernel
theorem d_X13_tries_65 : decode cX13_tries 65 = .ok (.iload_n 3, 1) := by decide +kernel
theorem d_X13_tries_66 : decode cX13_tries 66 = .ok (.bipush 10, 2) := by decide +kernel
theorem d_X13_tries_68 : decode cX13_tries 68 = .ok (.if_icmp .ge 80, 3) := by decide +kernel
theorem d_X13_tries_71 : decode cX13_tries 71 = .ok (.iconst 0, 1) := by decide +kernel
theorem d_X13_tries_72 : decode cX13_tries 72 = .ok (.istore 4, 2) := by decide +kernel
theorem d_X13_tries_74 : decode cX13_tries 74 = .ok (.iload 4, 2) := by decide +kernel
theorem d_X13_tries_76 : decode cX13_tries 76 = .ok (.aload_n 0, 1) := by decide +kernel
theorem d_X13_tries_77 : decode cX13_tries 77 = .ok (.getfield 267, 3) := by decide +kernel
theorem d_X13_tries_80 : decode cX13_tries 80 = .ok (.if_icmp .ge 30, 3) := by decide +kernel
theorem d_X13_tries_83 : decode cX13_tries 83 = .ok (.aload_n 0, 1) := by decide +kernel
theorem d_X13_tries_84 : decode cX13_tries 84 = .ok (.getfield 29, 3) := by decide +kernel
theorem d_X13_tries_87 : decode cX13_tries 87 = .ok (.iload 4, 2) := by decide +kernel
theorem d_X13_tries_89 : decode cX13_tries 89 = .ok (.iaload, 1) := by decide +kernel
theorem d_X13_tries_90 : decode cX13_tries 90 = .ok (.iload_n 3, 1) := by decide +kernel
theorem d_X13_tries_91 : decode cX13_tries 91 = .ok (.if_icmp .ne 13, 3) := by decide +kernel
theorem d_X13_tries_94 : decode cX13_tries 94 = .ok (.iload_n 2, 1) := by decide +kernel
theorem d_X13_tries_95 : decode cX13_tries 95 = .ok (.iload 4, 2) := by decide +kernel
theorem d_X13_tries_97 : decode cX13_tries 97 = .ok (.ishr, 1) := by decide +kernel
theorem d_X13_tries_98 : decode cX13_tries 98 = .ok (.iconst 1, 1) := by decide +kernel
theorem d_X13_tries_99 : decode cX13_tries 99 = .ok (.iand, 1) := by decide +kernel
theorem d_X13_tries_100 : decode cX13_tries 100 = .ok (.iconst 1, 1) := by decide +kernel
theorem d_X13_tries_101 : decode cX13_tries 101 = .ok (.if_icmp .ne 9, 3) := by decide +kernel
theorem d_X13_tries_104 : decode cX13_tries 104 = .ok (.iinc 4 1, 3) := by decide +kernel
theorem d_X13_tries_107 : decode cX13_tries 107 = .ok (.goto (-33), 3) := by decide +kernel
theorem d_X13_tries_110 : decode cX13_tries 110 = .ok (.iload 4, 2) := by decide +kernel
theorem d_X13_tries_112 : decode cX13_tries 112 = .ok (.aload_n 0, 1) := by decide +kernel
theorem d_X13_tries_113 : decode cX13_tries 113 = .ok (.getfield 267, 3) := by decide +kernel
theorem d_X13_tries_116 : decode cX13_tries 116 = .ok (.if_icmp .ne 6, 3) := by decide +kernel
theorem d_X13_tries_119 : decode cX13_tries 119 = .ok (.goto 23, 3) := by decide +kernel
theorem d_X13_tries_122 : decode cX13_tries 122 = .ok (.aload_n 0, 1) := by decide +kernel
theorem d_X13_tries_123 : decode cX13_tries 123 = .ok (.getfield 32, 3) := by decide +kernel
theorem d_X13_tries_126 : decode cX13_tries 126 = .ok (.iload_n 1, 1) := by decide +kernel
theorem d_X13_tries_127 : decode cX13_tries 127 = .ok (.iload_n 3, 1) := by decide +kernel
theorem d_X13_tries_128 : decode cX13_tries 128 = .ok (.iastore, 1) := by decide +kernel
theorem d_X13_tries_129 : decode cX13_tries 129 = .ok (.aload_n 0, 1) := by decide +kernel
theorem d_X13_tries_130 : decode cX13_tries 130 = .ok (.iload_n 1, 1) := by decide +kernel
theorem d_X13_tries_131 : decode cX13_tries 131 = .ok (.iconst 1, 1) := by decide +kernel
theorem d_X13_tries_132 : decode cX13_tries 132 = .ok (.iadd, 1) := by decide +kernel
theorem d_X13_tries_133 : decode cX13_tries 133 = .ok (.iload_n 2, 1) := by decide +kernel
theorem d_X13_tries_134 : decode cX13_tries 134 = .ok (.iconst 1, 1) := by decide +kernel
theorem d_X13_tries_135 : decode cX13_tries 135 = .ok (.iload 4, 2) := by decide +kernel
theorem d_X13_tries_137 : decode cX13_tries 137 = .ok (.ishl, 1) := by decide +kernel
theorem d_X13_tries_138 : decode cX13_tries 138 = .ok (.ior, 1) := by decide +kernel
theorem d_X13_tries_139 : decode cX13_tries 139 = .ok (.invokevirtual 276, 3) := by decide +kernel
theorem d_X13_tries_142 : decode cX13_tries 142 = .ok (.iinc 3 1, 3) := by decide +kernel
theorem d_X13_tries_145 : decode cX13_tries 145 = .ok (.goto (-80), 3) := by decide +kernel
theorem d_X13_tries_148 : decode cX13_tries 148 = .ok (.return_, 1) := by decide +kernel
def B_X13_tries_142 (r_X13_tries : ((Nat → Nat → Int32) → Prop) → Int32 → Int32 → (Nat → Nat → Int32) → Prop) (post : (Nat → Nat → Int32) → Prop) (k65 : Int32 → Int32 → Int32 → (Nat → Nat → Int32) → Prop) (v1 : Int32) (v2 : Int32) (v3 : Int32) (mm : (Nat → Nat → Int32)) : Prop := k65 v1 v2 (v3 + 1) mm
def B_X13_tries_110 (r_X13_tries : ((Nat → Nat → Int32) → Prop) → Int32 → Int32 → (Nat → Nat → Int32) → Prop) (post : (Nat → Nat → Int32) → Prop) (k65 : Int32 → Int32 → Int32 → (Nat → Nat → Int32) → Prop) (v1 : Int32) (v2 : Int32) (v3 : Int32) (v4 : Int32) (mm : (Nat → Nat → Int32)) : Prop := (¬ v4 = (mm 0 20) → ((vp_in v1 6) ∧ r_X13_tries (fun (u8 : (Nat → Nat → Int32)) => B_X13_tries_142 r_X13_tries post k65 v1 v2 v3 u8) (v1 + 1) (v2 ||| (1 <<< (v4 &&& 31))) (up2 mm 7 (Int32.toNatClampNeg v1) v3))) ∧ (v4 = (mm 0 20) → (B_X13_tries_142 r_X13_tries post k65 v1 v2 v3 mm))
def B_X13_tries_104 (r_X13_tries : ((Nat → Nat → Int32) → Prop) → Int32 → Int32 → (Nat → Nat → Int32) → Prop) (post : (Nat → Nat → Int32) → Prop) (k65 : Int32 → Int32 → Int32 → (Nat → Nat → Int32) → Prop) (k74 : Int32 → Int32 → Int32 → Int32 → (Nat → Nat → Int32) → Prop) (v1 : Int32) (v2 : Int32) (v3 : Int32) (v4 : Int32) (mm : (Nat → Nat → Int32)) : Prop := k74 v1 v2 v3 (v4 + 1) mm
def B_X13_tries_74 (r_X13_tries : ((Nat → Nat → Int32) → Prop) → Int32 → Int32 → (Nat → Nat → Int32) → Prop) (post : (Nat → Nat → Int32) → Prop) (k65 : Int32 → Int32 → Int32 → (Nat → Nat → Int32) → Prop) : Nat → Int32 → Int32 → Int32 → Int32 → (Nat → Nat → Int32) → Prop
  | 0 => fun _ _ _ _ _ => False
  | n + 1 => fun v1 v2 v3 v4 mm => ((mm 0 20) ≤ v4 → (B_X13_tries_110 r_X13_tries post k65 v1 v2 v3 v4 mm)) ∧ (¬ (mm 0 20) ≤ v4 → ((vp_in v4 6) ∧ (¬ (mm 6 (Int32.toNatClampNeg v4)) = v3 → (B_X13_tries_104 r_X13_tries post k65 (B_X13_tries_74 r_X13_tries post k65 n) v1 v2 v3 v4 mm)) ∧ ((mm 6 (Int32.toNatClampNeg v4)) = v3 → ((¬ ((v2 >>> (v4 &&& 31)) &&& 1) = 1 → (B_X13_tries_110 r_X13_tries post k65 v1 v2 v3 v4 mm)) ∧ (((v2 >>> (v4 &&& 31)) &&& 1) = 1 → (B_X13_tries_104 r_X13_tries post k65 (B_X13_tries_74 r_X13_tries post k65 n) v1 v2 v3 v4 mm))))))
def B_X13_tries_65 (r_X13_tries : ((Nat → Nat → Int32) → Prop) → Int32 → Int32 → (Nat → Nat → Int32) → Prop) (post : (Nat → Nat → Int32) → Prop) : Nat → Int32 → Int32 → Int32 → (Nat → Nat → Int32) → Prop
  | 0 => fun _ _ _ _ => False
  | n + 1 => fun v1 v2 v3 mm => (10 ≤ v3 → (post mm)) ∧ (¬ 10 ≤ v3 → (∃ n74, B_X13_tries_74 r_X13_tries post (B_X13_tries_65 r_X13_tries post n) n74 v1 v2 v3 0 mm))
def B_X13_tries_62 (r_X13_tries : ((Nat → Nat → Int32) → Prop) → Int32 → Int32 → (Nat → Nat → Int32) → Prop) (post : (Nat → Nat → Int32) → Prop) (mm : (Nat → Nat → Int32)) : Prop := post mm
def B_X13_tries_36 (r_X13_tries : ((Nat → Nat → Int32) → Prop) → Int32 → Int32 → (Nat → Nat → Int32) → Prop) (post : (Nat → Nat → Int32) → Prop) : Nat → Int32 → (Nat → Nat → Int32) → Prop
  | 0 => fun _ _ => False
  | n + 1 => fun v3 mm => ((mm 0 20) ≤ v3 → (B_X13_tries_62 r_X13_tries post mm)) ∧ (¬ (mm 0 20) ≤ v3 → ((vp_in v3 6) ∧ (vp_in v3 6) ∧ B_X13_tries_36 r_X13_tries post n (v3 + 1) (up2 mm 8 (Int32.toNatClampNeg v3) (mm 7 (Int32.toNatClampNeg v3)))))
def wb_X13_tries (r_X13_tries : ((Nat → Nat → Int32) → Prop) → Int32 → Int32 → (Nat → Nat → Int32) → Prop) (post : (Nat → Nat → Int32) → Prop) (x1 : Int32) (x2 : Int32) (mm : (Nat → Nat → Int32)) : Prop := (¬ x1 = (mm 0 20) → (∃ n65, B_X13_tries_65 r_X13_tries post n65 x1 x2 1 mm)) ∧ (x1 = (mm 0 20) → (w_X13_comesSo (fun (r1 : Bool) (u2 : (Nat → Nat → Int32)) => (¬ (r1 = false) → ((¬ ((up2 u2 0 21 ((u2 0 21) + 1)) 0 21) = 1 → (B_X13_tries_62 r_X13_tries post (up2 u2 0 21 ((u2 0 21) + 1)))) ∧ (((up2 u2 0 21 ((u2 0 21) + 1)) 0 21) = 1 → (∃ n36, B_X13_tries_36 r_X13_tries post n36 0 (up2 u2 0 21 ((u2 0 21) + 1)))))) ∧ ((r1 = false) → (post u2)))  mm))
section G_X13_tries
variable {p : Program} {l : Launch} {e : Env} {s : State} {m : MethodId} {args : Array Value} {below : List Frame} {meth : Method} {c : Code} {G : Gd} {ρ : Nat → Nat} {A : Nat → Prop} {cm : CMu} {oo : Nat → Int64}
set_option maxHeartbeats 4000000 in
set_option maxRecDepth 100000 in
theorem T_X13_tries_142 {d : Nat} {r_X13_tries : ((Nat → Nat → Int32) → Prop) → Int32 → Int32 → (Nat → Nat → Int32) → Prop} {post : (Nat → Nat → Int32) → Prop} {k65 : Int32 → Int32 → Int32 → (Nat → Nat → Int32) → Prop} (hl : l.stackTraces = false)
    (hg_X13_tries : ∀ (x1 : Int32) (x2 : Int32) (mm : (Nat → Nat → Int32)) {post : (Nat → Nat → Int32) → Prop}, r_X13_tries post x1 x2 mm → CT l yX13_tries (.code yX13_tries cX13_tries 5 none) (rmG_tries d) 0 0 G ρ [.ref 703, .int x1, .int x2] (cm, mm, oo) (PV (fun u => (cm, u, oo)) post) noX) (X : MC p l s m args meth c cX13_tries 5 RX13 G ρ A) (hr : meth.sig.returnType = none) (hex : ∀ z ∈ c.exceptionTable.toList, False)
    (hk65 : ∀ (v1 : Int32) (v2 : Int32) (v3 : Int32) (mm : (Nat → Nat → Int32)), k65 v1 v2 v3 mm → LW p l e (rmG_tries (d + 1)) s m args below meth c (Qm below G ρ A (PV (fun u => (cm, u, oo)) post) noX args s 0 0) G ρ A 5 0 0 65 [(0, .ref 703), (1, .int v1), (2, .int v2), (3, .int v3)] [] (cm, mm, oo)) : ∀ (v1 : Int32) (v2 : Int32) (v3 : Int32) (mm : (Nat → Nat → Int32)), B_X13_tries_142 r_X13_tries post k65 v1 v2 v3 mm → LW p l e (rmG_tries (d + 1)) s m args below meth c (Qm below G ρ A (PV (fun u => (cm, u, oo)) post) noX args s 0 0) G ρ A 5 0 0 142 [(0, .ref 703), (1, .int v1), (2, .int v2), (3, .int v3)] [] (cm, mm, oo) := by
  intro v1 v2 v3 mm h
  unfold B_X13_tries_142 at h
  refine L_iinc (pc := 142) (v := v3 + 1) (lv2 := [(3, .int (v3 + 1)), (0, .ref 703), (1, .int v1), (2, .int v2)]) X d_X13_tries_142 3 rfl rfl (by decide) rfl ?_
  refine L_goto (pc := 145) (tgt := 65) X d_X13_tries_145 (by decide) ?_
  refine LW.sub [1, 2, 3, 0] rfl ?_
  exact hk65 _ _ _  _ h
set_option maxHeartbeats 4000000 in
set_option maxRecDepth 100000 in
theorem T_X13_tries_110 {d : Nat} {r_X13_tries : ((Nat → Nat → Int32) → Prop) → Int32 → Int32 → (Nat → Nat → Int32) → Prop} {post : (Nat → Nat → Int32) → Prop} {k65 : Int32 → Int32 → Int32 → (Nat → Nat → Int32) → Prop} (hl : l.stackTraces = false)
    (hg_X13_tries : ∀ (x1 : Int32) (x2 : Int32) (mm : (Nat → Nat → Int32)) {post : (Nat → Nat → Int32) → Prop}, r_X13_tries post x1 x2 mm → CT l yX13_tries (.code yX13_tries cX13_tries 5 none) (rmG_tries d) 0 0 G ρ [.ref 703, .int x1, .int x2] (cm, mm, oo) (PV (fun u => (cm, u, oo)) post) noX) (X : MC p l s m args meth c cX13_tries 5 RX13 G ρ A) (hr : meth.sig.returnType = none) (hex : ∀ z ∈ c.exceptionTable.toList, False)
    (hk65 : ∀ (v1 : Int32) (v2 : Int32) (v3 : Int32) (mm : (Nat → Nat → Int32)), k65 v1 v2 v3 mm → LW p l e (rmG_tries (d + 1)) s m args below meth c (Qm below G ρ A (PV (fun u => (cm, u, oo)) post) noX args s 0 0) G ρ A 5 0 0 65 [(0, .ref 703), (1, .int v1), (2, .int v2), (3, .int v3)] [] (cm, mm, oo)) : ∀ (v1 : Int32) (v2 : Int32) (v3 : Int32) (v4 : Int32) (mm : (Nat → Nat → Int32)), B_X13_tries_110 r_X13_tries post k65 v1 v2 v3 v4 mm → LW p l e (rmG_tries (d + 1)) s m args below meth c (Qm below G ρ A (PV (fun u => (cm, u, oo)) post) noX args s 0 0) G ρ A 5 0 0 110 [(0, .ref 703), (1, .int v1), (2, .int v2), (3, .int v3), (4, .int v4)] [] (cm, mm, oo) := by
  intro v1 v2 v3 v4 mm h
  unfold B_X13_tries_110 at h
  refine L_iload (pc := 110) X d_X13_tries_110 4 rfl ?_
  refine L_aload_n (pc := 112) X d_X13_tries_112 rfl 0 rfl ?_
  refine gf_X13_267 (pc := 113) X d_X13_tries_113 ?_
  refine L_icmp_ne (pc := 116) (tgt := 122) X d_X13_tries_116 (by decide) (fun c116 => ?_) (fun c116 => ?_)
  · replace h := h.1 c116
    refine L_aload_n (pc := 122) X d_X13_tries_122 rfl 0 rfl ?_
    refine gf_X13_32 (pc := 123) X d_X13_tries_123 ?_
    refine L_iload_n (pc := 126) X d_X13_tries_126 rfl 1 rfl ?_
    refine L_iload_n (pc := 127) X d_X13_tries_127 rfl 3 rfl ?_
    obtain ⟨q6, h⟩ := h
    refine L_iastM (pc := 128) (a := 7) X d_X13_tries_128 kd_710 q6 ?_
    refine L_aload_n (pc := 129) X d_X13_tries_129 rfl 0 rfl ?_
    refine L_iload_n (pc := 130) X d_X13_tries_130 rfl 1 rfl ?_
    refine L_iconst (pc := 131) (v := 1) X d_X13_tries_131 (by decide) ?_
    refine L_iadd (pc := 132) X d_X13_tries_132 ?_
    refine L_iload_n (pc := 133) X d_X13_tries_133 rfl 2 rfl ?_
    refine L_iconst (pc := 134) (v := 1) X d_X13_tries_134 (by decide) ?_
    refine L_iload (pc := 135) X d_X13_tries_135 4 rfl ?_
    refine L_ishl (pc := 137) X d_X13_tries_137 ?_
    refine L_ior (pc := 138) X d_X13_tries_138 ?_
    refine L_callVV (pc := 139) X lk_X13_276 (hg_X13_tries _ _  _ h) rfl rfl kd_703 (by decide) rfl rfl ⟨by show d + 3 + 1 ≤ d + 1 + 3; omega, by show 8 + (5 + 11) + (d * 24 + 74) ≤ (d + 1) * 24 + 74; omega⟩ ⟨Nat.le_of_ble_eq_true rfl, Nat.le_of_ble_eq_true rfl⟩ (Nat.zero_le _) d_X13_tries_139 rfl (fun x κ1 hx => L_nox hx) (fun u8 h => ?_)
    refine LW.sub [0, 1, 2, 3] rfl ?_
    exact T_X13_tries_142 hl hg_X13_tries X hr hex hk65 _ _ _  _ h
  · replace h := h.2 c116
    refine L_goto (pc := 119) (tgt := 142) X d_X13_tries_119 (by decide) ?_
    refine LW.sub [0, 1, 2, 3] rfl ?_
    exact T_X13_tries_142 hl hg_X13_tries X hr hex hk65 _ _ _  _ h
set_option maxHeartbeats 4000000 in
set_option maxRecDepth 100000 in
theorem T_X13_tries_104 {d : Nat} {r_X13_tries : ((Nat → Nat → Int32) → Prop) → Int32 → Int32 → (Nat → Nat → Int32) → Prop} {post : (Nat → Nat → Int32) → Prop} {k65 : Int32 → Int32 → Int32 → (Nat → Nat → Int32) → Prop} {k74 : Int32 → Int32 → Int32 → Int32 → (Nat → Nat → Int32) → Prop} (hl : l.stackTraces = false)
    (hg_X13_tries : ∀ (x1 : Int32) (x2 : Int32) (mm : (Nat → Nat → Int32)) {post : (Nat → Nat → Int32) → Prop}, r_X13_tries post x1 x2 mm → CT l yX13_tries (.code yX13_tries cX13_tries 5 none) (rmG_tries d) 0 0 G ρ [.ref 703, .int x1, .int x2] (cm, mm, oo) (PV (fun u => (cm, u, oo)) post) noX) (X : MC p l s m args meth c cX13_tries 5 RX13 G ρ A) (hr : meth.sig.returnType = none) (hex : ∀ z ∈ c.exceptionTable.toList, False)
    (hk65 : ∀ (v1 : Int32) (v2 : Int32) (v3 : Int32) (mm : (Nat → Nat → Int32)), k65 v1 v2 v3 mm → LW p l e (rmG_tries (d + 1)) s m args below meth c (Qm below G ρ A (PV (fun u => (cm, u, oo)) post) noX args s 0 0) G ρ A 5 0 0 65 [(0, .ref 703), (1, .int v1), (2, .int v2), (3, .int v3)] [] (cm, mm, oo))
    (hk74 : ∀ (v1 : Int32) (v2 : Int32) (v3 : Int32) (v4 : Int32) (mm : (Nat → Nat → Int32)), k74 v1 v2 v3 v4 mm → LW p l e (rmG_tries (d + 1)) s m args below meth c (Qm below G ρ A (PV (fun u => (cm, u, oo)) post) noX args s 0 0) G ρ A 5 0 0 74 [(0, .ref 703), (1, .int v1), (2, .int v2), (3, .int v3), (4, .int v4)] [] (cm, mm, oo)) : ∀ (v1 : Int32) (v2 : Int32) (v3 : Int32) (v4 : Int32) (mm : (Nat → Nat → Int32)), B_X13_tries_104 r_X13_tries post k65 k74 v1 v2 v3 v4 mm → LW p l e (rmG_tries (d + 1)) s m args below meth c (Qm below G ρ A (PV (fun u => (cm, u, oo)) post) noX args s 0 0) G ρ A 5 0 0 104 [(0, .ref 703), (1, .int v1), (2, .int v2), (3, .int v3), (4, .int v4)] [] (cm, mm, oo) := by
  intro v1 v2 v3 v4 mm h
  unfold B_X13_tries_104 at h
  refine L_iinc (pc := 104) (v := v4 + 1) (lv2 := [(4, .int (v4 + 1)), (0, .ref 703), (1, .int v1), (2, .int v2), (3, .int v3)]) X d_X13_tries_104 4 rfl rfl (by decide) rfl ?_
  refine L_goto (pc := 107) (tgt := 74) X d_X13_tries_107 (by decide) ?_
  refine LW.sub [1, 2, 3, 4, 0] rfl ?_
  exact hk74 _ _ _ _  _ h
set_option maxHeartbeats 4000000 in
set_option maxRecDepth 100000 in
theorem T_X13_tries_74 {d : Nat} {r_X13_tries : ((Nat → Nat → Int32) → Prop) → Int32 → Int32 → (Nat → Nat → Int32) → Prop} {post : (Nat → Nat → Int32) → Prop} {k65 : Int32 → Int32 → Int32 → (Nat → Nat → Int32) → Prop} (hl : l.stackTraces = false)
    (hg_X13_tries : ∀ (x1 : Int32) (x2 : Int32) (mm : (Nat → Nat → Int32)) {post : (Nat → Nat → Int32) → Prop}, r_X13_tries post x1 x2 mm → CT l yX13_tries (.code yX13_tries cX13_tries 5 none) (rmG_tries d) 0 0 G ρ [.ref 703, .int x1, .int x2] (cm, mm, oo) (PV (fun u => (cm, u, oo)) post) noX) (X : MC p l s m args meth c cX13_tries 5 RX13 G ρ A) (hr : meth.sig.returnType = none) (hex : ∀ z ∈ c.exceptionTable.toList, False)
    (hk65 : ∀ (v1 : Int32) (v2 : Int32) (v3 : Int32) (mm : (Nat → Nat → Int32)), k65 v1 v2 v3 mm → LW p l e (rmG_tries (d + 1)) s m args below meth c (Qm below G ρ A (PV (fun u => (cm, u, oo)) post) noX args s 0 0) G ρ A 5 0 0 65 [(0, .ref 703), (1, .int v1), (2, .int v2), (3, .int v3)] [] (cm, mm, oo)) (n : Nat) : ∀ (v1 : Int32) (v2 : Int32) (v3 : Int32) (v4 : Int32) (mm : (Nat → Nat → Int32)), B_X13_tries_74 r_X13_tries post k65 n v1 v2 v3 v4 mm → LW p l e (rmG_tries (d + 1)) s m args below meth c (Qm below G ρ A (PV (fun u => (cm, u, oo)) post) noX args s 0 0) G ρ A 5 0 0 74 [(0, .ref 703), (1, .int v1), (2, .int v2), (3, .int v3), (4, .int v4)] [] (cm, mm, oo) := by
  induction n with
  | zero =>
    intro v1 v2 v3 v4 mm h
    exact False.elim h
  | succ n ih =>
    intro v1 v2 v3 v4 mm h
    unfold B_X13_tries_74 at h
    refine L_iload (pc := 74) X d_X13_tries_74 4 rfl ?_
    refine L_aload_n (pc := 76) X d_X13_tries_76 rfl 0 rfl ?_
    refine gf_X13_267 (pc := 77) X d_X13_tries_77 ?_
    refine L_icmp_ge (pc := 80) (tgt := 110) X d_X13_tries_80 (by decide) (fun c80 => ?_) (fun c80 => ?_)
    · replace h := h.1 c80
      refine LW.sub [0, 1, 2, 3, 4] rfl ?_
      exact T_X13_tries_110 hl hg_X13_tries X hr hex hk65 _ _ _ _  _ h
    · replace h := h.2 c80
      refine L_aload_n (pc := 83) X d_X13_tries_83 rfl 0 rfl ?_
      refine gf_X13_29 (pc := 84) X d_X13_tries_84 ?_
      refine L_iload (pc := 87) X d_X13_tries_87 4 rfl ?_
      obtain ⟨q5, h⟩ := h
      refine L_ialdM (pc := 89) (a := 6) X d_X13_tries_89 kd_709 q5 ?_
      refine L_iload_n (pc := 90) X d_X13_tries_90 rfl 3 rfl ?_
      refine L_icmp_ne (pc := 91) (tgt := 104) X d_X13_tries_91 (by decide) (fun c91 => ?_) (fun c91 => ?_)
      · replace h := h.1 c91
        refine LW.sub [0, 1, 2, 3, 4] rfl ?_
        exact T_X13_tries_104 hl hg_X13_tries X hr hex hk65 ih _ _ _ _  _ h
      · replace h := h.2 c91
        refine L_iload_n (pc := 94) X d_X13_tries_94 rfl 2 rfl ?_
        refine L_iload (pc := 95) X d_X13_tries_95 4 rfl ?_
        refine L_ishr (pc := 97) X d_X13_tries_97 ?_
        refine L_iconst (pc := 98) (v := 1) X d_X13_tries_98 (by decide) ?_
        refine L_iand (pc := 99) X d_X13_tries_99 ?_
        refine L_iconst (pc := 100) (v := 1) X d_X13_tries_100 (by decide) ?_
        refine L_icmp_ne (pc := 101) (tgt := 110) X d_X13_tries_101 (by decide) (fun c101 => ?_) (fun c101 => ?_)
        · replace h := h.1 c101
          refine LW.sub [0, 1, 2, 3, 4] rfl ?_
          exact T_X13_tries_110 hl hg_X13_tries X hr hex hk65 _ _ _ _  _ h
        · replace h := h.2 c101
          refine LW.sub [0, 1, 2, 3, 4] rfl ?_
          exact T_X13_tries_104 hl hg_X13_tries X hr hex hk65 ih _ _ _ _  _ h
set_option maxHeartbeats 4000000 in
set_option maxRecDepth 100000 in
theorem T_X13_tries_65 {d : Nat} {r_X13_tries : ((Nat → Nat → Int32) → Prop) → Int32 → Int32 → (Nat → Nat → Int32) → Prop} {post : (Nat → Nat → Int32) → Prop} (hl : l.stackTraces = false)
    (hg_X13_tries : ∀ (x1 : Int32) (x2 : Int32) (mm : (Nat → Nat → Int32)) {post : (Nat → Nat → Int32) → Prop}, r_X13_tries post x1 x2 mm → CT l yX13_tries (.code yX13_tries cX13_tries 5 none) (rmG_tries d) 0 0 G ρ [.ref 703, .int x1, .int x2] (cm, mm, oo) (PV (fun u => (cm, u, oo)) post) noX) (X : MC p l s m args meth c cX13_tries 5 RX13 G ρ A) (hr : meth.sig.returnType = none) (hex : ∀ z ∈ c.exceptionTable.toList, False) (n : Nat) : ∀ (v1 : Int32) (v2 : Int32) (v3 : Int32) (mm : (Nat → Nat → Int32)), B_X13_tries_65 r_X13_tries post n v1 v2 v3 mm → LW p l e (rmG_tries (d + 1)) s m args below meth c (Qm below G ρ A (PV (fun u => (cm, u, oo)) post) noX args s 0 0) G ρ A 5 0 0 65 [(0, .ref 703), (1, .int v1), (2, .int v2), (3, .int v3)] [] (cm, mm, oo) := by
  induction n with
  | zero =>
    intro v1 v2 v3 mm h
    exact False.elim h
  | succ n ih =>
    intro v1 v2 v3 mm h
    unfold B_X13_tries_65 at h
    refine L_iload_n (pc := 65) X d_X13_tries_65 rfl 3 rfl ?_
    refine L_bipush (pc := 66) (v := 10) X d_X13_tries_66 (by decide) ?_
    refine L_icmp_ge (pc := 68) (tgt := 148) X d_X13_tries_68 (by decide) (fun c68 => ?_) (fun c68 => ?_)
    · replace h := h.1 c68
      exact L_vret (pc := 148) X hr d_X13_tries_148 (by decide) (by decide) ⟨_, rfl, rfl, h⟩
    · replace h := h.2 c68
      refine L_iconst (pc := 71) (v := 0) X d_X13_tries_71 (by decide) ?_
      refine L_istore (pc := 72) (lv2 := [(4, .int 0), (0, .ref 703), (1, .int v1), (2, .int v2), (3, .int v3)]) X d_X13_tries_72 (by decide) rfl ?_
      obtain ⟨n74, h⟩ := h
      refine LW.sub [1, 2, 3, 4, 0] rfl ?_
      exact T_X13_tries_74 hl hg_X13_tries X hr hex ih n74 _ _ _ _  _ h
set_option maxHeartbeats 4000000 in
set_option maxRecDepth 100000 in
theorem T_X13_tries_62 {d : Nat} {r_X13_tries : ((Nat → Nat → Int32) → Prop) → Int32 → Int32 → (Nat → Nat → Int32) → Prop} {post : (Nat → Nat → Int32) → Prop} (hl : l.stackTraces = false)
    (hg_X13_tries : ∀ (x1 : Int32) (x2 : Int32) (mm : (Nat → Nat → Int32)) {post : (Nat → Nat → Int32) → Prop}, r_X13_tries post x1 x2 mm → CT l yX13_tries (.code yX13_tries cX13_tries 5 none) (rmG_tries d) 0 0 G ρ [.ref 703, .int x1, .int x2] (cm, mm, oo) (PV (fun u => (cm, u, oo)) post) noX) (X : MC p l s m args meth c cX13_tries 5 RX13 G ρ A) (hr : meth.sig.returnType = none) (hex : ∀ z ∈ c.exceptionTable.toList, False) : ∀ (mm : (Nat → Nat → Int32)), B_X13_tries_62 r_X13_tries post mm → LW p l e (rmG_tries (d + 1)) s m args below meth c (Qm below G ρ A (PV (fun u => (cm, u, oo)) post) noX args s 0 0) G ρ A 5 0 0 62 [] [] (cm, mm, oo) := by
  intro mm h
  unfold B_X13_tries_62 at h
  exact L_vret (pc := 62) X hr d_X13_tries_62 (by decide) (by decide) ⟨_, rfl, rfl, h⟩
set_option maxHeartbeats 4000000 in
set_option maxRecDepth 100000 in
theorem T_X13_tries_36 {d : Nat} {r_X13_tries : ((Nat → Nat → Int32) → Prop) → Int32 → Int32 → (Nat → Nat → Int32) → Prop} {post : (Nat → Nat → Int32) → Prop} (hl : l.stackTraces = false)
    (hg_X13_tries : ∀ (x1 : Int32) (x2 : Int32) (mm : (Nat → Nat → Int32)) {post : (Nat → Nat → Int32) → Prop}, r_X13_tries post x1 x2 mm → CT l yX13_tries (.code yX13_tries cX13_tries 5 none) (rmG_tries d) 0 0 G ρ [.ref 703, .int x1, .int x2] (cm, mm, oo) (PV (fun u => (cm, u, oo)) post) noX) (X : MC p l s m args meth c cX13_tries 5 RX13 G ρ A) (hr : meth.sig.returnType = none) (hex : ∀ z ∈ c.exceptionTable.toList, False) (n : Nat) : ∀ (v3 : Int32) (mm : (Nat → Nat → Int32)), B_X13_tries_36 r_X13_tries post n v3 mm → LW p l e (rmG_tries (d + 1)) s m args below meth c (Qm below G ρ A (PV (fun u => (cm, u, oo)) post) noX args s 0 0) G ρ A 5 0 0 36 [(0, .ref 703), (3, .int v3)] [] (cm, mm, oo) := by
  induction n with
  | zero =>
    intro v3 mm h
    exact False.elim h
  | succ n ih =>
    intro v3 mm h
    unfold B_X13_tries_36 at h
    refine L_iload_n (pc := 36) X d_X13_tries_36 rfl 1 rfl ?_
    refine L_aload_n (pc := 37) X d_X13_tries_37 rfl 0 rfl ?_
    refine gf_X13_267 (pc := 38) X d_X13_tries_38 ?_
    refine L_icmp_ge (pc := 41) (tgt := 62) X d_X13_tries_41 (by decide) (fun c41 => ?_) (fun c41 => ?_)
    · replace h := h.1 c41
      refine LW.sub [] rfl ?_
      exact T_X13_tries_62 hl hg_X13_tries X hr hex   _ h
    · replace h := h.2 c41
      refine L_aload_n (pc := 44) X d_X13_tries_44 rfl 0 rfl ?_
      refine gf_X13_35 (pc := 45) X d_X13_tries_45 ?_
      refine L_iload_n (pc := 48) X d_X13_tries_48 rfl 1 rfl ?_
      refine L_aload_n (pc := 49) X d_X13_tries_49 rfl 0 rfl ?_
      refine gf_X13_32 (pc := 50) X d_X13_tries_50 ?_
      refine L_iload_n (pc := 53) X d_X13_tries_53 rfl 1 rfl ?_
      obtain ⟨q3, h⟩ := h
      refine L_ialdM (pc := 54) (a := 7) X d_X13_tries_54 kd_710 q3 ?_
      obtain ⟨q4, h⟩ := h
      refine L_iastM (pc := 55) (a := 8) X d_X13_tries_55 kd_711 q4 ?_
      refine L_iinc (pc := 56) (v := v3 + 1) (lv2 := [(3, .int (v3 + 1)), (0, .ref 703)]) X d_X13_tries_56 1 rfl rfl (by decide) rfl ?_
      refine L_goto (pc := 59) (tgt := 36) X d_X13_tries_59 (by decide) ?_
      refine LW.sub [1, 0] rfl ?_
      exact ih _  _ h
set_option maxHeartbeats 4000000 in
set_option maxRecDepth 100000 in
theorem cb_X13_tries {d : Nat} {r_X13_tries : ((Nat → Nat → Int32) → Prop) → Int32 → Int32 → (Nat → Nat → Int32) → Prop} (hl : l.stackTraces = false)
    (hg_X13_tries : ∀ (x1 : Int32) (x2 : Int32) (mm : (Nat → Nat → Int32)) {post : (Nat → Nat → Int32) → Prop}, r_X13_tries post x1 x2 mm → CT l yX13_tries (.code yX13_tries cX13_tries 5 none) (rmG_tries d) 0 0 G ρ [.ref 703, .int x1, .int x2] (cm, mm, oo) (PV (fun u => (cm, u, oo)) post) noX) {x1 : Int32} {x2 : Int32} {mm : (Nat → Nat → Int32)} {post : (Nat → Nat → Int32) → Prop} (h : wb_X13_tries r_X13_tries post x1 x2 mm) : CT l yX13_tries (.code yX13_tries cX13_tries 5 none) (rmG_tries (d + 1)) 0 0 G ρ [.ref 703, .int x1, .int x2] (cm, mm, oo) (PV (fun u => (cm, u, oo)) post) noX := by
  refine CT_of hl (by decide +kernel) rfl (Nat.le_of_ble_eq_true rfl) (lv0 := [(0, .ref 703), (1, .int x1), (2, .int x2)]) rfl (fun p e s m args below meth c A X hr hex hnm => ?_)
  unfold wb_X13_tries at h
  refine L_iload_n (pc := 0) X d_X13_tries_0 rfl 1 rfl ?_
  refine L_aload_n (pc := 1) X d_X13_tries_1 rfl 0 rfl ?_
  refine gf_X13_267 (pc := 2) X d_X13_tries_2 ?_
  refine L_icmp_ne (pc := 5) (tgt := 63) X d_X13_tries_5 (by decide) (fun c5 => ?_) (fun c5 => ?_)
  · replace h := h.1 c5
    refine L_iconst (pc := 63) (v := 1) X d_X13_tries_63 (by decide) ?_
    refine L_istore_n (pc := 64) (lv2 := [(3, .int 1), (0, .ref 703), (1, .int x1), (2, .int x2)]) X d_X13_tries_64 rfl (by decide) rfl ?_
    obtain ⟨n65, h⟩ := h
    refine LW.sub [1, 2, 3, 0] rfl ?_
    exact T_X13_tries_65 hl hg_X13_tries X hr hex n65 _ _ _  _ h
  · replace h := h.2 c5
    refine L_aload_n (pc := 8) X d_X13_tries_8 rfl 0 rfl ?_
    refine L_callVZ (pc := 9) X lk_X13_270 (c_X13_comesSo X.hst  h) rfl rfl kd_703 (by decide) rfl rfl ⟨Nat.le_trans (m := 3) (Nat.le_of_ble_eq_true rfl) (by show 3 ≤ d + 1 + 3; omega), Nat.le_trans (m := 74) (Nat.le_of_ble_eq_true rfl) (by show 74 ≤ (d + 1) * 24 + 74; omega)⟩ ⟨Nat.le_of_ble_eq_true rfl, Nat.le_of_ble_eq_true rfl⟩ (Nat.zero_le _) d_X13_tries_9 rfl (fun x κ1 hx => L_nox hx) (fun r1 u2 h => ?_)
    refine L_if_ne (pc := 12) (tgt := 16) X d_X13_tries_12 (by decide) (fun c12 => ?_) (fun c12 => ?_)
    · replace h := h.1 (fun z => c12 ((b2_0 _).mpr z))
      refine L_aload_n (pc := 16) X d_X13_tries_16 rfl 0 rfl ?_
      refine L_dup (pc := 17) X d_X13_tries_17 rfl ?_
      refine gf_X13_273 (pc := 18) X d_X13_tries_18 ?_
      refine L_iconst (pc := 21) (v := 1) X d_X13_tries_21 (by decide) ?_
      refine L_iadd (pc := 22) X d_X13_tries_22 ?_
      refine pf_X13_273 (pc := 23) X d_X13_tries_23 ?_
      refine L_aload_n (pc := 26) X d_X13_tries_26 rfl 0 rfl ?_
      refine gf_X13_273 (pc := 27) X d_X13_tries_27 ?_
      refine L_iconst (pc := 30) (v := 1) X d_X13_tries_30 (by decide) ?_
      refine L_icmp_ne (pc := 31) (tgt := 62) X d_X13_tries_31 (by decide) (fun c31 => ?_) (fun c31 => ?_)
      · replace h := h.1 c31
        refine LW.sub [] rfl ?_
        exact T_X13_tries_62 hl hg_X13_tries X hr hex   _ h
      · replace h := h.2 c31
        refine L_iconst (pc := 34) (v := 0) X d_X13_tries_34 (by decide) ?_
        refine L_istore_n (pc := 35) (lv2 := [(3, .int 0), (0, .ref 703), (1, .int x1), (2, .int x2)]) X d_X13_tries_35 rfl (by decide) rfl ?_
        obtain ⟨n36, h⟩ := h
        refine LW.sub [1, 0] rfl ?_
        exact T_X13_tries_36 hl hg_X13_tries X hr hex n36 _  _ h
    · replace h := h.2 ((b2_0 _).mp c12)
      exact L_vret (pc := 15) X hr d_X13_tries_15 (by decide) (by decide) ⟨_, rfl, rfl, h⟩
end G_X13_tries
def WG_tries : Nat → (((Nat → Nat → Int32) → Prop) → Int32 → Int32 → (Nat → Nat → Int32) → Prop)
  | 0 => (fun _ _ _ _ => False)
  | d + 1 => (wb_X13_tries ((WG_tries d)))
section GG_tries
variable {l : Launch} {G : Gd} {ρ : Nat → Nat} {cm : CMu} {oo : Nat → Int64}
theorem CG_tries (hl : l.stackTraces = false) : ∀ d : Nat, (∀ (x1 : Int32) (x2 : Int32) (mm : (Nat → Nat → Int32)) {post : (Nat → Nat → Int32) → Prop}, ((WG_tries d)) post x1 x2 mm → CT l yX13_tries (.code yX13_tries cX13_tries 5 none) (rmG_tries d) 0 0 G ρ [.ref 703, .int x1, .int x2] (cm, mm, oo) (PV (fun u => (cm, u, oo)) post) noX) := by
  intro d
  induction d with
  | zero => exact fun x1 x2 mm _ h => False.elim h
  | succ d ih => exact fun x1 x2 mm _ h => cb_X13_tries hl ih  h
def w_X13_tries (post : (Nat → Nat → Int32) → Prop) (x1 : Int32) (x2 : Int32) (mm : (Nat → Nat → Int32)) : Prop := ((WG_tries 8)) post x1 x2 mm
abbrev rm_X13_tries : Room := rmG_tries 8
theorem c_X13_tries (hl : l.stackTraces = false) {x1 : Int32} {x2 : Int32} {mm : (Nat → Nat → Int32)} {post : (Nat → Nat → Int32) → Prop} (h : w_X13_tries post x1 x2 mm) : CT l yX13_tries (.code yX13_tries cX13_tries 5 none) rm_X13_tries 0 0 G ρ [.ref 703, .int x1, .int x2] (cm, mm, oo) (PV (fun u => (cm, u, oo)) post) noX := ((CG_tries hl 8)) x1 x2  _ h
end GG_tries
theorem d_X13_fits_0 : decode cX13_fits 0 = .ok (.aload_n 0, 1) := by decide +kernel
theorem d_X13_fits_1 : decode cX13_fits 1 = .ok (.getfield 54, 3) := by decide +kernel
theorem d_X13_fits_4 : decode cX13_fits 4 = .ok (.istore_n 2, 1) := by decide +kernel
theorem d_X13_fits_5 : decode cX13_fits 5 = .ok (.aload_n 0, 1) := by decide +kernel
theorem d_X13_fits_6 : decode cX13_fits 6 = .ok (.iconst 0, 1) := by decide +kernel
theorem d_X13_fits_7 : decode cX13_fits 7 = .ok (.putfield 54, 3) := by decide +kernel
theorem d_X13_fits_10 : decode cX13_fits 10 = .ok (.iload_n 2, 1) := by decide +kernel
theorem d_X13_fits_11 : decode cX13_fits 11 = .ok (.iconst 1, 1) := by decide +kernel
theorem d_X13_fits_12 : decode cX13_fits 12 = .ok (.bipush 6, 2) := by decide +kernel
theorem d_X13_fits_14 : decode cX13_fits 14 = .ok (.invokestatic 50, 3) := by decide +kernel
theorem d_X13_fits_17 : decode cX13_fits 17 = .ok (.ifCond .eq 12, 3) := by decide +kernel
theorem d_X13_fits_20 : decode cX13_fits 20 = .ok (.iload_n 1, 1) := by decide +kernel
theorem d_X13_fits_21 : decode cX13_fits 21 = .ok (.iconst (-1), 1) := by decide +kernel
theorem d_X13_fits_22 : decode cX13_fits 22 = .ok (.if_icmp .lt 7, 3) := by decide +kernel
theorem d_X13_fits_25 : decode cX13_fits 25 = .ok (.iconst 1, 1) := by decide +kernel
theorem d_X13_fits_26 : decode cX13_fits 26 = .ok (.goto 4, 3) := by decide +kernel
theorem d_X13_fits_29 : decode cX13_fits 29 = .ok (.iconst 0, 1) := by decide +kernel
theorem d_X13_fits_30 : decode cX13_fits 30 = .ok (.istore_n 3, 1) := by decide +kernel
theorem d_X13_fits_31 : decode cX13_fits 31 = .ok (.iconst 0, 1) := by decide +kernel
theorem d_X13_fits_32 : decode cX13_fits 32 = .ok (.istore 4, 2) := by decide +kernel
theorem d_X13_fits_34 : decode cX13_fits 34 = .ok (.iload 4, 2) := by decide +kernel
theorem d_X13_fits_36 : decode cX13_fits 36 = .ok (.iload_n 2, 1) := by decide +kernel
theorem d_X13_fits_37 : decode cX13_fits 37 = .ok (.if_icmp .ge 28, 3) := by decide +kernel
theorem d_X13_fits_40 : decode cX13_fits 40 = .ok (.iload_n 3, 1) := by decide +kernel
theorem d_X13_fits_41 : decode cX13_fits 41 = .ok (.ifCond .eq 24, 3) := by decide +kernel
theorem d_X13_fits_44 : decode cX13_fits 44 = .ok (.aload_n 0, 1) := by decide +kernel
theorem d_X13_fits_45 : decode cX13_fits 45 = .ok (.getfield 19, 3) := by decide +kernel
theorem d_X13_fits_48 : decode cX13_fits 48 = .ok (.iload 4, 2) := by decide +kernel
theorem d_X13_fits_50 : decode cX13_fits 50 = .ok (.iaload, 1) := by decide +kernel
theorem d_X13_fits_51 : decode cX13_fits 51 = .ok (.bipush 49, 2) := by decide +kernel
theorem d_X13_fits_53 : decode cX13_fits 53 = .ok (.bipush 57, 2) := by decide +kernel
theorem d_X13_fits_55 : decode cX13_fits 55 = .ok (.invokestatic 50, 3) := by decide +kernel
theorem d_X13_fits_58 : decode cX13_fits 58 = .ok (.istore_n 3, 1) := by decide +kernel
theorem d_X13_fits_59 : decode cX13_fits 59 = .ok (.iinc 4 1, 3) := by decide +kernel
theorem d_X13_fits_62 : decode cX13_fits 62 = .ok (.goto (-28), 3) := by decide +kernel
theorem d_X13_fits_65 : decode cX13_fits 65 = .ok (.aload_n 0, 1) := by decide +kernel
theorem d_X13_fits_66 : decode cX13_fits 66 = .ok (.iload_n 3, 1) := by decide +kernel
theorem d_X13_fits_67 : decode cX13_fits 67 = .ok (.ifCond .ne 7, 3) := by decide +kernel
theorem d_X13_fits_70 : decode cX13_fits 70 = .ok (.iconst 1, 1) := by decide +kernel
theorem d_X13_fits_71 : decode cX13_fits 71 = .ok (.goto 4, 3) := by decide +kernel
theorem d_X13_fits_74 : decode cX13_fits 74 = .ok (.iconst 0, 1) := by decide +kernel
theorem d_X13_fits_75 : decode cX13_fits 75 = .ok (.putfield 47, 3) := by decide +kernel
theorem d_X13_fits_78 : decode cX13_fits 78 = .ok (.aload_n 0, 1) := by decide +kernel
theorem d_X13_fits_79 : decode cX13_fits 79 = .ok (.getfield 47, 3) := by decide +kernel
theorem d_X13_fits_82 : decode cX13_fits 82 = .ok (.ifCond .le 5, 3) := by decide +kernel
theorem d_X13_fits_85 : decode cX13_fits 85 = .ok (.iconst 0, 1) := by decide +kernel
theorem d_X13_fits_86 : decode cX13_fits 86 = .ok (.ireturn, 1) := by decide +kernel
theorem d_X13_fits_87 : decode cX13_fits 87 = .ok (.aload_n 0, 1) := by decide +kernel
theorem d_X13_fits_88 : decode cX13_fits 88 = .ok (.iload_n 2, 1) := by decide +kernel
theorem d_X13_fits_89 : decode cX13_fits 89 = .ok (.putfield 267, 3) := by decide +kernel
theorem d_X13_fits_92 : decode cX13_fits 92 = .ok (.iconst 0, 1) := by decide +kernel
theorem d_X13_fits_93 : decode cX13_fits 93 = .ok (.istore 4, 2) := by decide +kernel
theorem d_X13_fits_95 : decode cX13_fits 95 = .ok (.iload 4, 2) := by decide +kernel
theorem d_X13_fits_97 : decode cX13_fits 97 = .ok (.iload_n 2, 1) := by decide +kernel
theorem d_X13_fits_98 : decode cX13_fits 98 = .ok (.if_icmp .ge 26, 3) := by decide +kernel
theorem d_X13_fits_101 : decode cX13_fits 101 = .ok (.aload_n 0, 1) := by decide +kernel
theorem d_X13_fits_102 : decode cX13_fits 102 = .ok (.getfield 29, 3) := by decide +kernel
theorem d_X13_fits_105 : decode cX13_fits 105 = .ok (.iload 4, 2) := by decide +kernel
theorem d_X13_fits_107 : decode cX13_fits 107 = .ok (.aload_n 0, 1) := by decide +kernel
theorem d_X13_fits_108 : decode cX13_fits 108 = .ok (.getfield 19, 3) := by decide +kernel
theorem d_X13_fits_111 : decode cX13_fits 111 = .ok (.iload 4, 2) := by decide +kernel
theorem d_X13_fits_113 : decode cX13_fits 113 = .ok (.iaload, 1) := by decide +kernel
theorem d_X13_fits_114 : decode cX13_fits 114 = .ok (.bipush 48, 2) := by decide +kernel
theorem d_X13_fits_116 : decode cX13_fits 116 = .ok (.isub, 1) := by decide +kernel
theorem d_X13_fits_117 : decode cX13_fits 117 = .ok (.iastore, 1) := by decide +kernel
theorem d_X13_fits_118 : decode cX13_fits 118 = .ok (.iinc 4 1, 3) := by decide +kernel
theorem d_X13_fits_121 : decode cX13_fits 121 = .ok (.goto (-26), 3) := by decide +kernel
theorem d_X13_fits_124 : decode cX13_fits 124 = .ok (.aload_n 0, 1) := by decide +kernel
theorem d_X13_fits_125 : decode cX13_fits 125 = .ok (.iconst 0, 1) := by decide +kernel
theorem d_X13_fits_126 : decode cX13_fits 126 = .ok (.putfield 273, 3) := by decide +kernel
theorem d_X13_fits_129 : decode cX13_fits 129 = .ok (.aload_n 0, 1) := by decide +kernel
theorem d_X13_fits_130 : decode cX13_fits 130 = .ok (.iconst 0, 1) := by decide +kernel
theorem d_X13_fits_131 : decode cX13_fits 131 = .ok (.iconst 0, 1) := by decide +kernel
theorem d_X13_fits_132 : decode cX13_fits 132 = .ok (.invokevirtual 276, 3) := by decide +kernel
theorem d_X13_fits_135 : decode cX13_fits 135 = .ok (.iload_n 1, 1) := by decide +kernel
theorem d_X13_fits_136 : decode cX13_fits 136 = .ok (.iconst (-1), 1) := by decide +kernel
theorem d_X13_fits_137 : decode cX13_fits 137 = .ok (.if_icmp .ne 8, 3) := by decide +kernel
theorem d_X13_fits_140 : decode cX13_fits 140 = .ok (.aload_n 0, 1) := by decide +kernel
theorem d_X13_fits_141 : decode cX13_fits 141 = .ok (.getfield 273, 3) := by decide +kernel
theorem d_X13_fits_144 : decode cX13_fits 144 = .ok (.ireturn, 1) := by decide +kernel
theorem d_X13_fits_145 : decode cX13_fits 145 = .ok (.aload_n 0, 1) := by decide +kernel
theorem d_X13_fits_146 : decode cX13_fits 146 = .ok (.getfield 273, 3) := by decide +kernel
theorem d_X13_fits_149 : decode cX13_fits 149 = .ok (.ifCond .le 17, 3) := by decide +kernel
theorem d_X13_fits_152 : decode cX13_fits 152 = .ok (.iload_n 1, 1) := by decide +kernel
theorem d_X13_fits_153 : decode cX13_fits 153 = .ok (.iload_n 2, 1) := by decide +kernel
theorem d_X13_fits_154 : decode cX13_fits 154 = .ok (.if_icmp .ge 12, 3) := by decide +kernel
theorem d_X13_fits_157 : decode cX13_fits 157 = .ok (.aload_n 0, 1) := by decide +kernel
theorem d_X13_fits_158 : decode cX13_fits 158 = .ok (.getfield 35, 3) := by decide +kernel
theorem d_X13_fits_161 : decode cX13_fits 161 = .ok (.iload_n 1, 1) := by decide +kernel
theorem d_X13_fits_162 : decode cX13_fits 162 = .ok (.iaload, 1) := by decide +kernel
theorem d_X13_fits_163 : decode cX13_fits 163 = .ok (.goto 4, 3) := by decide +kernel
theorem d_X13_fits_166 : decode cX13_fits 166 = .ok (.iconst (-1), 1) := by decide +kernel
theorem d_X13_fits_167 : decode cX13_fits 167 = .ok (.ireturn, 1) := by decide +kernel
abbrev rm_X13_fits : Room := { frames := 12, cells := 0, slots := 0, locals := 290 }
def B_X13_fits_167 (post : Int32 → (Nat → Nat → Int32) → Prop) (s0 : Int32) (mm : (Nat → Nat → Int32)) : Prop := post s0 mm
def B_X13_fits_166 (post : Int32 → (Nat → Nat → Int32) → Prop) (mm : (Nat → Nat → Int32)) : Prop := B_X13_fits_167 post (-1) mm
def B_X13_fits_95 (post : Int32 → (Nat → Nat → Int32) → Prop) : Nat → Int32 → Int32 → Int32 → (Nat → Nat → Int32) → Prop
  | 0 => fun _ _ _ _ => False
  | n + 1 => fun v1 v2 v4 mm => (v2 ≤ v4 → (w_X13_tries (fun (u7 : (Nat → Nat → Int32)) => (¬ v1 = (-1) → (((u7 0 21) ≤ 0 → (B_X13_fits_166 post u7)) ∧ (¬ (u7 0 21) ≤ 0 → ((v2 ≤ v1 → (B_X13_fits_166 post u7)) ∧ (¬ v2 ≤ v1 → ((vp_in v1 6) ∧ B_X13_fits_167 post (u7 8 (Int32.toNatClampNeg v1)) u7)))))) ∧ (v1 = (-1) → (post (u7 0 21) u7))) 0 0 (up2 mm 0 21 0))) ∧ (¬ v2 ≤ v4 → ((vp_in v4 400) ∧ (vp_in v4 6) ∧ B_X13_fits_95 post n v1 v2 (v4 + 1) (up2 mm 6 (Int32.toNatClampNeg v4) ((mm 4 (Int32.toNatClampNeg v4)) - 48))))
def B_X13_fits_75 (post : Int32 → (Nat → Nat → Int32) → Prop) (v1 : Int32) (v2 : Int32) (s0 : Bool) (mm : (Nat → Nat → Int32)) : Prop := (((up2 mm 0 0 (b2 s0)) 0 0) ≤ 0 → (∃ n95, B_X13_fits_95 post n95 v1 v2 0 (up2 (up2 mm 0 0 (b2 s0)) 0 20 v2))) ∧ (¬ ((up2 mm 0 0 (b2 s0)) 0 0) ≤ 0 → (post 0 (up2 mm 0 0 (b2 s0))))
def B_X13_fits_65 (post : Int32 → (Nat → Nat → Int32) → Prop) (v1 : Int32) (v2 : Int32) (v3 : Bool) (mm : (Nat → Nat → Int32)) : Prop := (¬ (v3 = false) → (B_X13_fits_75 post v1 v2 false mm)) ∧ ((v3 = false) → (B_X13_fits_75 post v1 v2 true mm))
def B_X13_fits_34 (post : Int32 → (Nat → Nat → Int32) → Prop) : Nat → Int32 → Int32 → Bool → Int32 → (Nat → Nat → Int32) → Prop
  | 0 => fun _ _ _ _ _ => False
  | n + 1 => fun v1 v2 v3 v4 mm => (v2 ≤ v4 → (B_X13_fits_65 post v1 v2 v3 mm)) ∧ (¬ v2 ≤ v4 → (((v3 = false) → (B_X13_fits_65 post v1 v2 v3 mm)) ∧ (¬ (v3 = false) → ((vp_in v4 400) ∧ w_X13_isIn (fun (r4 : Bool) (u5 : (Nat → Nat → Int32)) => B_X13_fits_34 post n v1 v2 r4 (v4 + 1) u5) (mm 4 (Int32.toNatClampNeg v4)) 49 57 mm))))
def B_X13_fits_30 (post : Int32 → (Nat → Nat → Int32) → Prop) (v1 : Int32) (v2 : Int32) (s0 : Bool) (mm : (Nat → Nat → Int32)) : Prop := ∃ n34, B_X13_fits_34 post n34 v1 v2 s0 0 mm
def B_X13_fits_29 (post : Int32 → (Nat → Nat → Int32) → Prop) (v1 : Int32) (v2 : Int32) (mm : (Nat → Nat → Int32)) : Prop := B_X13_fits_30 post v1 v2 false mm
def w_X13_fits (post : Int32 → (Nat → Nat → Int32) → Prop) (x1 : Int32) (mm : (Nat → Nat → Int32)) : Prop := w_X13_isIn (fun (r1 : Bool) (u2 : (Nat → Nat → Int32)) => ((r1 = false) → (B_X13_fits_29 post x1 (mm 0 6) u2)) ∧ (¬ (r1 = false) → ((x1 < (-1) → (B_X13_fits_29 post x1 (mm 0 6) u2)) ∧ (¬ x1 < (-1) → (B_X13_fits_30 post x1 (mm 0 6) true u2))))) (mm 0 6) 1 6 (up2 mm 0 6 0)
section G_X13_fits
variable {p : Program} {l : Launch} {e : Env} {s : State} {m : MethodId} {args : Array Value} {below : List Frame} {meth : Method} {c : Code} {G : Gd} {ρ : Nat → Nat} {A : Nat → Prop} {cm : CMu} {oo : Nat → Int64}
set_option maxHeartbeats 4000000 in
set_option maxRecDepth 100000 in
theorem T_X13_fits_167 {post : Int32 → (Nat → Nat → Int32) → Prop} (hl : l.stackTraces = false) (X : MC p l s m args meth c cX13_fits 5 RX13 G ρ A) (hr : meth.sig.returnType = (some .int)) (hex : ∀ z ∈ c.exceptionTable.toList, False) : ∀ (s0 : Int32) (mm : (Nat → Nat → Int32)), B_X13_fits_167 post s0 mm → LW p l e rm_X13_fits s m args below meth c (Qm below G ρ A (PI (fun u => (cm, u, oo)) post) noX args s 0 0) G ρ A 5 0 0 167 [] [.int s0] (cm, mm, oo) := by
  intro s0 mm h
  unfold B_X13_fits_167 at h
  exact L_iret (pc := 167) X hr d_X13_fits_167 (by decide) (by decide) ⟨_, _, rfl, rfl, h⟩
set_option maxHeartbeats 4000000 in
set_option maxRecDepth 100000 in
theorem T_X13_fits_166 {post : Int32 → (Nat → Nat → Int32) → Prop} (hl : l.stackTraces = false) (X : MC p l s m args meth c cX13_fits 5 RX13 G ρ A) (hr : meth.sig.returnType = (some .int)) (hex : ∀ z ∈ c.exceptionTable.toList, False) : ∀ (mm : (Nat → Nat → Int32)), B_X13_fits_166 post mm → LW p l e rm_X13_fits s m args below meth c (Qm below G ρ A (PI (fun u => (cm, u, oo)) post) noX args s 0 0) G ρ A 5 0 0 166 [] [] (cm, mm, oo) := by
  intro mm h
  unfold B_X13_fits_166 at h
  refine L_iconst (pc := 166) (v := (-1)) X d_X13_fits_166 (by decide) ?_
  refine LW.sub [] rfl ?_
  exact T_X13_fits_167 hl X hr hex _  _ h
set_option maxHeartbeats 4000000 in
set_option maxRecDepth 100000 in
theorem T_X13_fits_95 {post : Int32 → (Nat → Nat → Int32) → Prop} (hl : l.stackTraces = false) (X : MC p l s m args meth c cX13_fits 5 RX13 G ρ A) (hr : meth.sig.returnType = (some .int)) (hex : ∀ z ∈ c.exceptionTable.toList, False) (n : Nat) : ∀ (v1 : Int32) (v2 : Int32) (v4 : Int32) (mm : (Nat → Nat → Int32)), B_X13_fits_95 post n v1 v2 v4 mm → LW p l e rm_X13_fits s m args below meth c (Qm below G ρ A (PI (fun u => (cm, u, oo)) post) noX args s 0 0) G ρ A 5 0 0 95 [(0, .ref 703), (1, .int v1), (2, .int v2), (4, .int v4)] [] (cm, mm, oo) := by
  induction n with
  | zero =>
    intro v1 v2 v4 mm h
    exact False.elim h
  | succ n ih =>
    intro v1 v2 v4 mm h
    unfold B_X13_fits_95 at h
    refine L_iload (pc := 95) X d_X13_fits_95 3 rfl ?_
    refine L_iload_n (pc := 97) X d_X13_fits_97 rfl 2 rfl ?_
    refine L_icmp_ge (pc := 98) (tgt := 124) X d_X13_fits_98 (by decide) (fun c98 => ?_) (fun c98 => ?_)
    · replace h := h.1 c98
      refine L_aload_n (pc := 124) X d_X13_fits_124 rfl 0 rfl ?_
      refine L_iconst (pc := 125) (v := 0) X d_X13_fits_125 (by decide) ?_
      refine pf_X13_273 (pc := 126) X d_X13_fits_126 ?_
      refine L_aload_n (pc := 129) X d_X13_fits_129 rfl 0 rfl ?_
      refine L_iconst (pc := 130) (v := 0) X d_X13_fits_130 (by decide) ?_
      refine L_iconst (pc := 131) (v := 0) X d_X13_fits_131 (by decide) ?_
      refine L_callVV (pc := 132) X lk_X13_276 (c_X13_tries X.hst  h) rfl rfl kd_703 (by decide) rfl rfl ⟨by decide, by decide⟩ ⟨by decide, by decide⟩ (Nat.zero_le _) d_X13_fits_132 rfl (fun x κ1 hx => L_nox hx) (fun u7 h => ?_)
      refine L_iload_n (pc := 135) X d_X13_fits_135 rfl 1 rfl ?_
      refine L_iconst (pc := 136) (v := (-1)) X d_X13_fits_136 (by decide) ?_
      refine L_icmp_ne (pc := 137) (tgt := 145) X d_X13_fits_137 (by decide) (fun c137 => ?_) (fun c137 => ?_)
      · replace h := h.1 c137
        refine L_aload_n (pc := 145) X d_X13_fits_145 rfl 0 rfl ?_
        refine gf_X13_273 (pc := 146) X d_X13_fits_146 ?_
        refine L_if_le (pc := 149) (tgt := 166) X d_X13_fits_149 (by decide) (fun c149 => ?_) (fun c149 => ?_)
        · replace h := h.1 c149
          refine LW.sub [] rfl ?_
          exact T_X13_fits_166 hl X hr hex   _ h
        · replace h := h.2 c149
          refine L_iload_n (pc := 152) X d_X13_fits_152 rfl 1 rfl ?_
          refine L_iload_n (pc := 153) X d_X13_fits_153 rfl 2 rfl ?_
          refine L_icmp_ge (pc := 154) (tgt := 166) X d_X13_fits_154 (by decide) (fun c154 => ?_) (fun c154 => ?_)
          · replace h := h.1 c154
            refine LW.sub [] rfl ?_
            exact T_X13_fits_166 hl X hr hex   _ h
          · replace h := h.2 c154
            refine L_aload_n (pc := 157) X d_X13_fits_157 rfl 0 rfl ?_
            refine gf_X13_35 (pc := 158) X d_X13_fits_158 ?_
            refine L_iload_n (pc := 161) X d_X13_fits_161 rfl 1 rfl ?_
            obtain ⟨q8, h⟩ := h
            refine L_ialdM (pc := 162) (a := 8) X d_X13_fits_162 kd_711 q8 ?_
            refine L_goto (pc := 163) (tgt := 167) X d_X13_fits_163 (by decide) ?_
            refine LW.sub [] rfl ?_
            exact T_X13_fits_167 hl X hr hex _  _ h
      · replace h := h.2 c137
        refine L_aload_n (pc := 140) X d_X13_fits_140 rfl 0 rfl ?_
        refine gf_X13_273 (pc := 141) X d_X13_fits_141 ?_
        exact L_iret (pc := 144) X hr d_X13_fits_144 (by decide) (by decide) ⟨_, _, rfl, rfl, h⟩
    · replace h := h.2 c98
      refine L_aload_n (pc := 101) X d_X13_fits_101 rfl 0 rfl ?_
      refine gf_X13_29 (pc := 102) X d_X13_fits_102 ?_
      refine L_iload (pc := 105) X d_X13_fits_105 3 rfl ?_
      refine L_aload_n (pc := 107) X d_X13_fits_107 rfl 0 rfl ?_
      refine gf_X13_19 (pc := 108) X d_X13_fits_108 ?_
      refine L_iload (pc := 111) X d_X13_fits_111 3 rfl ?_
      obtain ⟨q9, h⟩ := h
      refine L_ialdM (pc := 113) (a := 4) X d_X13_fits_113 kd_707 q9 ?_
      refine L_bipush (pc := 114) (v := 48) X d_X13_fits_114 (by decide) ?_
      refine L_isub (pc := 116) X d_X13_fits_116 ?_
      obtain ⟨q10, h⟩ := h
      refine L_iastM (pc := 117) (a := 6) X d_X13_fits_117 kd_709 q10 ?_
      refine L_iinc (pc := 118) (v := v4 + 1) (lv2 := [(4, .int (v4 + 1)), (0, .ref 703), (1, .int v1), (2, .int v2)]) X d_X13_fits_118 3 rfl rfl (by decide) rfl ?_
      refine L_goto (pc := 121) (tgt := 95) X d_X13_fits_121 (by decide) ?_
      refine LW.sub [1, 2, 3, 0] rfl ?_
      exact ih _ _ _  _ h
set_option maxHeartbeats 4000000 in
set_option maxRecDepth 100000 in
theorem T_X13_fits_75 {post : Int32 → (Nat → Nat → Int32) → Prop} (hl : l.stackTraces = false) (X : MC p l s m args meth c cX13_fits 5 RX13 G ρ A) (hr : meth.sig.returnType = (some .int)) (hex : ∀ z ∈ c.exceptionTable.toList, False) : ∀ (v1 : Int32) (v2 : Int32) (s0 : Bool) (mm : (Nat → Nat → Int32)), B_X13_fits_75 post v1 v2 s0 mm → LW p l e rm_X13_fits s m args below meth c (Qm below G ρ A (PI (fun u => (cm, u, oo)) post) noX args s 0 0) G ρ A 5 0 0 75 [(0, .ref 703), (1, .int v1), (2, .int v2)] [.int (b2 s0), .ref 703] (cm, mm, oo) := by
  intro v1 v2 s0 mm h
  unfold B_X13_fits_75 at h
  refine pf_X13_47 (pc := 75) X d_X13_fits_75 ?_
  refine L_aload_n (pc := 78) X d_X13_fits_78 rfl 0 rfl ?_
  refine gf_X13_47 (pc := 79) X d_X13_fits_79 ?_
  refine L_if_le (pc := 82) (tgt := 87) X d_X13_fits_82 (by decide) (fun c82 => ?_) (fun c82 => ?_)
  · replace h := h.1 c82
    refine L_aload_n (pc := 87) X d_X13_fits_87 rfl 0 rfl ?_
    refine L_iload_n (pc := 88) X d_X13_fits_88 rfl 2 rfl ?_
    refine pf_X13_267 (pc := 89) X d_X13_fits_89 ?_
    refine L_iconst (pc := 92) (v := 0) X d_X13_fits_92 (by decide) ?_
    refine L_istore (pc := 93) (lv2 := [(4, .int 0), (0, .ref 703), (1, .int v1), (2, .int v2)]) X d_X13_fits_93 (by decide) rfl ?_
    obtain ⟨n95, h⟩ := h
    refine LW.sub [1, 2, 3, 0] rfl ?_
    exact T_X13_fits_95 hl X hr hex n95 _ _ _  _ h
  · replace h := h.2 c82
    refine L_iconst (pc := 85) (v := 0) X d_X13_fits_85 (by decide) ?_
    exact L_iret (pc := 86) X hr d_X13_fits_86 (by decide) (by decide) ⟨_, _, rfl, rfl, h⟩
set_option maxHeartbeats 4000000 in
set_option maxRecDepth 100000 in
theorem T_X13_fits_65 {post : Int32 → (Nat → Nat → Int32) → Prop} (hl : l.stackTraces = false) (X : MC p l s m args meth c cX13_fits 5 RX13 G ρ A) (hr : meth.sig.returnType = (some .int)) (hex : ∀ z ∈ c.exceptionTable.toList, False) : ∀ (v1 : Int32) (v2 : Int32) (v3 : Bool) (mm : (Nat → Nat → Int32)), B_X13_fits_65 post v1 v2 v3 mm → LW p l e rm_X13_fits s m args below meth c (Qm below G ρ A (PI (fun u => (cm, u, oo)) post) noX args s 0 0) G ρ A 5 0 0 65 [(0, .ref 703), (1, .int v1), (2, .int v2), (3, .int (b2 v3))] [] (cm, mm, oo) := by
  intro v1 v2 v3 mm h
  unfold B_X13_fits_65 at h
  refine L_aload_n (pc := 65) X d_X13_fits_65 rfl 0 rfl ?_
  refine L_iload_n (pc := 66) X d_X13_fits_66 rfl 3 rfl ?_
  refine L_if_ne (pc := 67) (tgt := 74) X d_X13_fits_67 (by decide) (fun c67 => ?_) (fun c67 => ?_)
  · replace h := h.1 (fun z => c67 ((b2_0 _).mpr z))
    refine L_iconst (pc := 74) (v := 0) X d_X13_fits_74 (by decide) ?_
    refine LW.sub [0, 1, 2] rfl ?_
    exact T_X13_fits_75 hl X hr hex _ _ _  _ h
  · replace h := h.2 ((b2_0 _).mp c67)
    refine L_iconst (pc := 70) (v := 1) X d_X13_fits_70 (by decide) ?_
    refine L_goto (pc := 71) (tgt := 75) X d_X13_fits_71 (by decide) ?_
    refine LW.sub [0, 1, 2] rfl ?_
    exact T_X13_fits_75 hl X hr hex _ _ _  _ h
set_option maxHeartbeats 4000000 in
set_option maxRecDepth 100000 in
theorem T_X13_fits_34 {post : Int32 → (Nat → Nat → Int32) → Prop} (hl : l.stackTraces = false) (X : MC p l s m args meth c cX13_fits 5 RX13 G ρ A) (hr : meth.sig.returnType = (some .int)) (hex : ∀ z ∈ c.exceptionTable.toList, False) (n : Nat) : ∀ (v1 : Int32) (v2 : Int32) (v3 : Bool) (v4 : Int32) (mm : (Nat → Nat → Int32)), B_X13_fits_34 post n v1 v2 v3 v4 mm → LW p l e rm_X13_fits s m args below meth c (Qm below G ρ A (PI (fun u => (cm, u, oo)) post) noX args s 0 0) G ρ A 5 0 0 34 [(0, .ref 703), (1, .int v1), (2, .int v2), (3, .int (b2 v3)), (4, .int v4)] [] (cm, mm, oo) := by
  induction n with
  | zero =>
    intro v1 v2 v3 v4 mm h
    exact False.elim h
  | succ n ih =>
    intro v1 v2 v3 v4 mm h
    unfold B_X13_fits_34 at h
    refine L_iload (pc := 34) X d_X13_fits_34 4 rfl ?_
    refine L_iload_n (pc := 36) X d_X13_fits_36 rfl 2 rfl ?_
    refine L_icmp_ge (pc := 37) (tgt := 65) X d_X13_fits_37 (by decide) (fun c37 => ?_) (fun c37 => ?_)
    · replace h := h.1 c37
      refine LW.sub [0, 1, 2, 3] rfl ?_
      exact T_X13_fits_65 hl X hr hex _ _ _  _ h
    · replace h := h.2 c37
      refine L_iload_n (pc := 40) X d_X13_fits_40 rfl 3 rfl ?_
      refine L_if_eq (pc := 41) (tgt := 65) X d_X13_fits_41 (by decide) (fun c41 => ?_) (fun c41 => ?_)
      · replace h := h.1 ((b2_0 _).mp c41)
        refine LW.sub [0, 1, 2, 3] rfl ?_
        exact T_X13_fits_65 hl X hr hex _ _ _  _ h
      · replace h := h.2 (fun z => c41 ((b2_0 _).mpr z))
        refine L_aload_n (pc := 44) X d_X13_fits_44 rfl 0 rfl ?_
        refine gf_X13_19 (pc := 45) X d_X13_fits_45 ?_
        refine L_iload (pc := 48) X d_X13_fits_48 4 rfl ?_
        obtain ⟨q3, h⟩ := h
        refine L_ialdM (pc := 50) (a := 4) X d_X13_fits_50 kd_707 q3 ?_
        refine L_bipush (pc := 51) (v := 49) X d_X13_fits_51 (by decide) ?_
        refine L_bipush (pc := 53) (v := 57) X d_X13_fits_53 (by decide) ?_
        refine L_callSZ (pc := 55) X lk_X13_50 (c_X13_isIn X.hst  h) rfl rfl rfl ⟨by decide, by decide⟩ ⟨by decide, by decide⟩ (Nat.zero_le _) d_X13_fits_55 rfl (fun x κ1 hx => L_nox hx) (fun r4 u5 h => ?_)
        refine L_istore_n (pc := 58) (lv2 := [(3, .int (b2 r4)), (0, .ref 703), (1, .int v1), (2, .int v2), (4, .int v4)]) X d_X13_fits_58 rfl (by decide) rfl ?_
        refine L_iinc (pc := 59) (v := v4 + 1) (lv2 := [(4, .int (v4 + 1)), (3, .int (b2 r4)), (0, .ref 703), (1, .int v1), (2, .int v2)]) X d_X13_fits_59 4 rfl rfl (by decide) rfl ?_
        refine L_goto (pc := 62) (tgt := 34) X d_X13_fits_62 (by decide) ?_
        refine LW.sub [2, 3, 4, 1, 0] rfl ?_
        exact ih _ _ _ _  _ h
set_option maxHeartbeats 4000000 in
set_option maxRecDepth 100000 in
theorem T_X13_fits_30 {post : Int32 → (Nat → Nat → Int32) → Prop} (hl : l.stackTraces = false) (X : MC p l s m args meth c cX13_fits 5 RX13 G ρ A) (hr : meth.sig.returnType = (some .int)) (hex : ∀ z ∈ c.exceptionTable.toList, False) : ∀ (v1 : Int32) (v2 : Int32) (s0 : Bool) (mm : (Nat → Nat → Int32)), B_X13_fits_30 post v1 v2 s0 mm → LW p l e rm_X13_fits s m args below meth c (Qm below G ρ A (PI (fun u => (cm, u, oo)) post) noX args s 0 0) G ρ A 5 0 0 30 [(0, .ref 703), (1, .int v1), (2, .int v2)] [.int (b2 s0)] (cm, mm, oo) := by
  intro v1 v2 s0 mm h
  unfold B_X13_fits_30 at h
  refine L_istore_n (pc := 30) (lv2 := [(3, .int (b2 s0)), (0, .ref 703), (1, .int v1), (2, .int v2)]) X d_X13_fits_30 rfl (by decide) rfl ?_
  refine L_iconst (pc := 31) (v := 0) X d_X13_fits_31 (by decide) ?_
  refine L_istore (pc := 32) (lv2 := [(4, .int 0), (3, .int (b2 s0)), (0, .ref 703), (1, .int v1), (2, .int v2)]) X d_X13_fits_32 (by decide) rfl ?_
  obtain ⟨n34, h⟩ := h
  refine LW.sub [2, 3, 4, 1, 0] rfl ?_
  exact T_X13_fits_34 hl X hr hex n34 _ _ _ _  _ h
set_option maxHeartbeats 4000000 in
set_option maxRecDepth 100000 in
theorem T_X13_fits_29 {post : Int32 → (Nat → Nat → Int32) → Prop} (hl : l.stackTraces = false) (X : MC p l s m args meth c cX13_fits 5 RX13 G ρ A) (hr : meth.sig.returnType = (some .int)) (hex : ∀ z ∈ c.exceptionTable.toList, False) : ∀ (v1 : Int32) (v2 : Int32) (mm : (Nat → Nat → Int32)), B_X13_fits_29 post v1 v2 mm → LW p l e rm_X13_fits s m args below meth c (Qm below G ρ A (PI (fun u => (cm, u, oo)) post) noX args s 0 0) G ρ A 5 0 0 29 [(0, .ref 703), (1, .int v1), (2, .int v2)] [] (cm, mm, oo) := by
  intro v1 v2 mm h
  unfold B_X13_fits_29 at h
  refine L_iconst (pc := 29) (v := 0) X d_X13_fits_29 (by decide) ?_
  refine LW.sub [0, 1, 2] rfl ?_
  exact T_X13_fits_30 hl X hr hex _ _ _  _ h
set_option maxHeartbeats 4000000 in
set_option maxRecDepth 100000 in
theorem c_X13_fits (hl : l.stackTraces = false) {x1 : Int32} {mm : (Nat → Nat → Int32)} {post : Int32 → (Nat → Nat → Int32) → Prop} (h : w_X13_fits post x1 mm) : CT l yX13_fits (.code yX13_fits cX13_fits 5 (some .int)) rm_X13_fits 0 0 G ρ [.ref 703, .int x1] (cm, mm, oo) (PI (fun u => (cm, u, oo)) post) noX := by
  refine CT_of hl (by decide +kernel) rfl (Nat.le_of_ble_eq_true rfl) (lv0 := [(0, .ref 703), (1, .int x1)]) rfl (fun p e s m args below meth c A X hr hex hnm => ?_)
  unfold w_X13_fits at h
  refine L_aload_n (pc := 0) X d_X13_fits_0 rfl 0 rfl ?_
  refine gf_X13_54 (pc := 1) X d_X13_fits_1 ?_
  refine L_istore_n (pc := 4) (lv2 := [(2, .int (mm 0 6)), (0, .ref 703), (1, .int x1)]) X d_X13_fits_4 rfl (by decide) rfl ?_
  refine L_aload_n (pc := 5) X d_X13_fits_5 rfl 1 rfl ?_
  refine L_iconst (pc := 6) (v := 0) X d_X13_fits_6 (by decide) ?_
  refine pf_X13_54 (pc := 7) X d_X13_fits_7 ?_
  refine L_iload_n (pc := 10) X d_X13_fits_10 rfl 0 rfl ?_
  refine L_iconst (pc := 11) (v := 1) X d_X13_fits_11 (by decide) ?_
  refine L_bipush (pc := 12) (v := 6) X d_X13_fits_12 (by decide) ?_
  refine L_callSZ (pc := 14) X lk_X13_50 (c_X13_isIn X.hst  h) rfl rfl rfl ⟨by decide, by decide⟩ ⟨by decide, by decide⟩ (Nat.zero_le _) d_X13_fits_14 rfl (fun x κ1 hx => L_nox hx) (fun r1 u2 h => ?_)
  refine L_if_eq (pc := 17) (tgt := 29) X d_X13_fits_17 (by decide) (fun c17 => ?_) (fun c17 => ?_)
  · replace h := h.1 ((b2_0 _).mp c17)
    refine LW.sub [1, 2, 0] rfl ?_
    exact T_X13_fits_29 hl X hr hex _ _  _ h
  · replace h := h.2 (fun z => c17 ((b2_0 _).mpr z))
    refine L_iload_n (pc := 20) X d_X13_fits_20 rfl 2 rfl ?_
    refine L_iconst (pc := 21) (v := (-1)) X d_X13_fits_21 (by decide) ?_
    refine L_icmp_lt (pc := 22) (tgt := 29) X d_X13_fits_22 (by decide) (fun c22 => ?_) (fun c22 => ?_)
    · replace h := h.1 c22
      refine LW.sub [1, 2, 0] rfl ?_
      exact T_X13_fits_29 hl X hr hex _ _  _ h
    · replace h := h.2 c22
      refine L_iconst (pc := 25) (v := 1) X d_X13_fits_25 (by decide) ?_
      refine L_goto (pc := 26) (tgt := 30) X d_X13_fits_26 (by decide) ?_
      refine LW.sub [1, 2, 0] rfl ?_
      exact T_X13_fits_30 hl X hr hex _ _ _  _ h
end G_X13_fits
theorem d_X13_test_0 : decode cX13_test 0 = .ok (.aload_n 0, 1) := by decide +kernel
theorem d_X13_test_1 : decode cX13_test 1 = .ok (.iconst 0, 1) := by decide +kernel
theorem d_X13_test_2 : decode cX13_test 2 = .ok (.putfield 47, 3) := by decide +kernel
theorem d_X13_test_5 : decode cX13_test 5 = .ok (.iconst 0, 1) := by decide +kernel
theorem d_X13_test_6 : decode cX13_test 6 = .ok (.istore_n 2, 1) := by decide +kernel
theorem d_X13_test_7 : decode cX13_test 7 = .ok (.iconst 0, 1) := by decide +kernel
theorem d_X13_test_8 : decode cX13_test 8 = .ok (.istore_n 3, 1) := by decide +kernel
theorem d_X13_test_9 : decode cX13_test 9 = .ok (.iload_n 3, 1) := by decide +kernel
theorem d_X13_test_10 : decode cX13_test 10 = .ok (.aload_n 0, 1) := by decide +kernel
theorem d_X13_test_11 : decode cX13_test 11 = .ok (.getfield 7, 3) := by decide +kernel
theorem d_X13_test_14 : decode cX13_test 14 = .ok (.iconst 1, 1) := by decide +kernel
theorem d_X13_test_15 : decode cX13_test 15 = .ok (.iaload, 1) := by decide +kernel
theorem d_X13_test_16 : decode cX13_test 16 = .ok (.if_icmp .gt 17, 3) := by decide +kernel
theorem d_X13_test_19 : decode cX13_test 19 = .ok (.iload_n 2, 1) := by decide +kernel
theorem d_X13_test_20 : decode cX13_test 20 = .ok (.iload_n 1, 1) := by decide +kernel
theorem d_X13_test_21 : decode cX13_test 21 = .ok (.iload_n 3, 1) := by decide +kernel
theorem d_X13_test_22 : decode cX13_test 22 = .ok (.ishr, 1) := by decide +kernel
theorem d_X13_test_23 : decode cX13_test 23 = .ok (.iconst 1, 1) := by decide +kernel
theorem d_X13_test_24 : decode cX13_test 24 = .ok (.iand, 1) := by decide +kernel
theorem d_X13_test_25 : decode cX13_test 25 = .ok (.iadd, 1) := by decide +kernel
theorem d_X13_test_26 : decode cX13_test 26 = .ok (.istore_n 2, 1) := by decide +kernel
theorem d_X13_test_27 : decode cX13_test 27 = .ok (.iinc 3 1, 3) := by decide +kernel
theorem d_X13_test_30 : decode cX13_test 30 = .ok (.goto (-21), 3) := by decide +kernel
theorem d_X13_test_33 : decode cX13_test 33 = .ok (.iload_n 2, 1) := by decide +kernel
theorem d_X13_test_34 : decode cX13_test 34 = .ok (.iconst 2, 1) := by decide +kernel
theorem d_X13_test_35 : decode cX13_test 35 = .ok (.if_icmp .ge 5, 3) := by decide +kernel
theorem d_X13_test_38 : decode cX13_test 38 = .ok (.iconst (-1), 1) := by decide +kernel
theorem d_X13_test_39 : decode cX13_test 39 = .ok (.ireturn, 1) := by decide +kernel
theorem d_X13_test_40 : decode cX13_test 40 = .ok (.iconst (-1), 1) := by decide +kernel
theorem d_X13_test_41 : decode cX13_test 41 = .ok (.istore_n 3, 1) := by decide +kernel
theorem d_X13_test_42 : decode cX13_test 42 = .ok (.iconst 0, 1) := by decide +kernel
theorem d_X13_test_43 : decode cX13_test 43 = .ok (.istore 4, 2) := by decide +kernel
theorem d_X13_test_45 : decode cX13_test 45 = .ok (.iconst 0, 1) := by decide +kernel
theorem d_X13_test_46 : decode cX13_test 46 = .ok (.istore 5, 2) := by decide +kernel
theorem d_X13_test_48 : decode cX13_test 48 = .ok (.iload 5, 2) := by decide +kernel
theorem d_X13_test_50 : decode cX13_test 50 = .ok (.aload_n 0, 1) := by decide +kernel
theorem d_X13_test_51 : decode cX13_test 51 = .ok (.getfield 7, 3) := by decide +kernel
theorem d_X13_test_54 : decode cX13_test 54 = .ok (.iconst 1, 1) := by decide +kernel
theorem d_X13_test_55 : decode cX13_test 55 = .ok (.iaload, 1) := by decide +kernel
theorem d_X13_test_56 : decode cX13_test 56 = .ok (.if_icmp .gt 98, 3) := by decide +kernel
theorem d_X13_test_59 : decode cX13_test 59 = .ok (.iconst 0, 1) := by decide +kernel
theorem d_X13_test_60 : decode cX13_test 60 = .ok (.istore 6, 2) := by decide +kernel
theorem d_X13_test_62 : decode cX13_test 62 = .ok (.iload 5, 2) := by decide +kernel
theorem d_X13_test_64 : decode cX13_test 64 = .ok (.iconst 1, 1) := by decide +kernel
theorem d_X13_test_65 : decode cX13_test 65 = .ok (.iadd, 1) := by decide +kernel
theorem d_X13_test_66 : decode cX13_test 66 = .ok (.istore 7, 2) := by decide +kernel
theorem d_X13_test_68 : decode cX13_test 68 = .ok (.iload 7, 2) := by decide +kernel
theorem d_X13_test_70 : decode cX13_test 70 = .ok (.aload_n 0, 1) := by decide +kernel
theorem d_X13_test_71 : decode cX13_test 71 = .ok (.getfield 7, 3) := by decide +kernel
theorem d_X13_test_74 : decode cX13_test 74 = .ok (.iconst 1, 1) := by decide +kernel
theorem d_X13_test_75 : decode cX13_test 75 = .ok (.iaload, 1) := by decide +kernel
theorem d_X13_test_76 : decode cX13_test 76 = .ok (.iconst 1, 1) := by decide +kernel
theorem d_X13_test_77 : decode cX13_test 77 = .ok (.iadd, 1) := by decide +kernel
theorem d_X13_test_78 : decode cX13_test 78 = .ok (.if_icmp .gt 70, 3) := by decide +kernel
theorem d_X13_test_81 : decode cX13_test 81 = .ok (.iload 6, 2) := by decide +kernel
theorem d_X13_test_83 : decode cX13_test 83 = .ok (.iload_n 1, 1) := by decide +kernel
theorem d_X13_test_84 : decode cX13_test 84 = .ok (.iload 7, 2) := by decide +kernel
theorem d_X13_test_86 : decode cX13_test 86 = .ok (.iconst 1, 1) := by decide +kernel
theorem d_X13_test_87 : decode cX13_test 87 = .ok (.isub, 1) := by decide +kernel
theorem d_X13_test_88 : decode cX13_test 88 = .ok (.ishr, 1) := by decide +kernel
theorem d_X13_test_89 : decode cX13_test 89 = .ok (.iconst 1, 1) := by decide +kernel
theorem d_X13_test_90 : decode cX13_test 90 = .ok (.iand, 1) := by decide +kernel
theorem d_X13_test_91 : decode cX13_test 91 = .ok (.iadd, 1) := by decide +kernel
theorem d_X13_test_92 : decode cX13_test 92 = .ok (.istore 6, 2) := by decide +kernel
theorem d_X13_test_94 : decode cX13_test 94 = .ok (.iload 6, 2) := by decide +kernel
theorem d_X13_test_96 : decode cX13_test 96 = .ok (.iload_n 2, 1) := by decide +kernel
theorem d_X13_test_97 : decode cX13_test 97 = .ok (.iload 6, 2) := by decide +kernel
theorem d_X13_test_99 : decode cX13_test 99 = .ok (.isub, 1) := by decide +kernel
theorem d_X13_test_100 : decode cX13_test 100 = .ok (.if_icmp .le 8, 3) := by decide +kernel
theorem d_X13_test_103 : decode cX13_test 103 = .ok (.iload 6, 2) := by decide +kernel
theorem d_X13_test_105 : decode cX13_test 105 = .ok (.goto 7, 3) := by decide +kernel
theorem d_X13_test_108 : decode cX13_test 108 = .ok (.iload_n 2, 1) := by decide +kernel
theorem d_X13_test_109 : decode cX13_test 109 = .ok (.iload 6, 2) := by decide +kernel
theorem d_X13_test_111 : decode cX13_test 111 = .ok (.isub, 1) := by decide +kernel
theorem d_X13_test_112 : decode cX13_test 112 = .ok (.istore 8, 2) := by decide +kernel
theorem d_X13_test_114 : decode cX13_test 114 = .ok (.iload_n 3, 1) := by decide +kernel
theorem d_X13_test_115 : decode cX13_test 115 = .ok (.iconst (-1), 1) := by decide +kernel
theorem d_X13_test_116 : decode cX13_test 116 = .ok (.if_icmp .eq 13, 3) := by decide +kernel
theorem d_X13_test_119 : decode cX13_test 119 = .ok (.iload 8, 2) := by decide +kernel
theorem d_X13_test_121 : decode cX13_test 121 = .ok (.iload 4, 2) := by decide +kernel
theorem d_X13_test_123 : decode cX13_test 123 = .ok (.if_icmp .lt 6, 3) := by decide +kernel
theorem d_X13_test_126 : decode cX13_test 126 = .ok (.goto 16, 3) := by decide +kernel
theorem d_X13_test_129 : decode cX13_test 129 = .ok (.bipush 16, 2) := by decide +kernel
theorem d_X13_test_131 : decode cX13_test 131 = .ok (.iload 5, 2) := by decide +kernel
theorem d_X13_test_133 : decode cX13_test 133 = .ok (.imul, 1) := by decide +kernel
theorem d_X13_test_134 : decode cX13_test 134 = .ok (.iload 7, 2) := by decide +kernel
theorem d_X13_test_136 : decode cX13_test 136 = .ok (.iadd, 1) := by decide +kernel
theorem d_X13_test_137 : decode cX13_test 137 = .ok (.istore_n 3, 1) := by decide +kernel
theorem d_X13_test_138 : decode cX13_test 138 = .ok (.iload 8, 2) := by decide +kernel
theorem d_X13_test_140 : decode cX13_test 140 = .ok (.istore 4, 2) := by decide +kernel
theorem d_X13_test_142 : decode cX13_test 142 = .ok (.iinc 7 1, 3) := by decide +kernel
theorem d_X13_test_145 : decode cX13_test 145 = .ok (.goto (-77), 3) := by decide +kernel
theorem d_X13_test_148 : decode cX13_test 148 = .ok (.iinc 5 1, 3) := by decide +kernel
theorem d_X13_test_151 : decode cX13_test 151 = .ok (.goto (-103), 3) := by decide +kernel
theorem d_X13_test_154 : decode cX13_test 154 = .ok (.iload_n 3, 1) := by decide +kernel
theorem d_X13_test_155 : decode cX13_test 155 = .ok (.ireturn, 1) := by decide +kernel
abbrev rm_X13_test : Room := { frames := 0, cells := 0, slots := 0, locals := 0 }
def B_X13_test_142 (post : Int32 → (Nat → Nat → Int32) → Prop) (k48 : Int32 → Int32 → Int32 → Int32 → Int32 → (Nat → Nat → Int32) → Prop) (k68 : Int32 → Int32 → Int32 → Int32 → Int32 → Int32 → Int32 → (Nat → Nat → Int32) → Prop) (v1 : Int32) (v2 : Int32) (v3 : Int32) (v4 : Int32) (v5 : Int32) (v6 : Int32) (v7 : Int32) (mm : (Nat → Nat → Int32)) : Prop := k68 v1 v2 v3 v4 v5 v6 (v7 + 1) mm
def B_X13_test_129 (post : Int32 → (Nat → Nat → Int32) → Prop) (k48 : Int32 → Int32 → Int32 → Int32 → Int32 → (Nat → Nat → Int32) → Prop) (k68 : Int32 → Int32 → Int32 → Int32 → Int32 → Int32 → Int32 → (Nat → Nat → Int32) → Prop) (v1 : Int32) (v2 : Int32) (v5 : Int32) (v6 : Int32) (v7 : Int32) (v8 : Int32) (mm : (Nat → Nat → Int32)) : Prop := B_X13_test_142 post k48 k68 v1 v2 ((16 * v5) + v7) v8 v5 v6 v7 mm
def B_X13_test_112 (post : Int32 → (Nat → Nat → Int32) → Prop) (k48 : Int32 → Int32 → Int32 → Int32 → Int32 → (Nat → Nat → Int32) → Prop) (k68 : Int32 → Int32 → Int32 → Int32 → Int32 → Int32 → Int32 → (Nat → Nat → Int32) → Prop) (v1 : Int32) (v2 : Int32) (v3 : Int32) (v4 : Int32) (v5 : Int32) (v6 : Int32) (v7 : Int32) (s0 : Int32) (mm : (Nat → Nat → Int32)) : Prop := (v3 = (-1) → (B_X13_test_129 post k48 k68 v1 v2 v5 v6 v7 s0 mm)) ∧ (¬ v3 = (-1) → ((s0 < v4 → (B_X13_test_129 post k48 k68 v1 v2 v5 v6 v7 s0 mm)) ∧ (¬ s0 < v4 → (B_X13_test_142 post k48 k68 v1 v2 v3 v4 v5 v6 v7 mm))))
def B_X13_test_68 (post : Int32 → (Nat → Nat → Int32) → Prop) (k48 : Int32 → Int32 → Int32 → Int32 → Int32 → (Nat → Nat → Int32) → Prop) : Nat → Int32 → Int32 → Int32 → Int32 → Int32 → Int32 → Int32 → (Nat → Nat → Int32) → Prop
  | 0 => fun _ _ _ _ _ _ _ _ => False
  | n + 1 => fun v1 v2 v3 v4 v5 v6 v7 mm => (((mm 1 (Int32.toNatClampNeg (1 : Int32))) + 1) < v7 → (k48 v1 v2 v3 v4 (v5 + 1) mm)) ∧ (¬ ((mm 1 (Int32.toNatClampNeg (1 : Int32))) + 1) < v7 → (((v6 + ((v1 >>> ((v7 - 1) &&& 31)) &&& 1)) ≤ (v2 - (v6 + ((v1 >>> ((v7 - 1) &&& 31)) &&& 1))) → (B_X13_test_112 post k48 (B_X13_test_68 post k48 n) v1 v2 v3 v4 v5 (v6 + ((v1 >>> ((v7 - 1) &&& 31)) &&& 1)) v7 (v2 - (v6 + ((v1 >>> ((v7 - 1) &&& 31)) &&& 1))) mm)) ∧ (¬ (v6 + ((v1 >>> ((v7 - 1) &&& 31)) &&& 1)) ≤ (v2 - (v6 + ((v1 >>> ((v7 - 1) &&& 31)) &&& 1))) → (B_X13_test_112 post k48 (B_X13_test_68 post k48 n) v1 v2 v3 v4 v5 (v6 + ((v1 >>> ((v7 - 1) &&& 31)) &&& 1)) v7 (v6 + ((v1 >>> ((v7 - 1) &&& 31)) &&& 1)) mm))))
def B_X13_test_48 (post : Int32 → (Nat → Nat → Int32) → Prop) : Nat → Int32 → Int32 → Int32 → Int32 → Int32 → (Nat → Nat → Int32) → Prop
  | 0 => fun _ _ _ _ _ _ => False
  | n + 1 => fun v1 v2 v3 v4 v5 mm => ((mm 1 (Int32.toNatClampNeg (1 : Int32))) < v5 → (post v3 mm)) ∧ (¬ (mm 1 (Int32.toNatClampNeg (1 : Int32))) < v5 → (∃ n68, B_X13_test_68 post (B_X13_test_48 post n) n68 v1 v2 v3 v4 v5 0 (v5 + 1) mm))
def B_X13_test_9 (post : Int32 → (Nat → Nat → Int32) → Prop) : Nat → Int32 → Int32 → Int32 → (Nat → Nat → Int32) → Prop
  | 0 => fun _ _ _ _ => False
  | n + 1 => fun v1 v2 v3 mm => ((mm 1 (Int32.toNatClampNeg (1 : Int32))) < v3 → ((2 ≤ v2 → (∃ n48, B_X13_test_48 post n48 v1 v2 (-1) 0 0 mm)) ∧ (¬ 2 ≤ v2 → (post (-1) mm)))) ∧ (¬ (mm 1 (Int32.toNatClampNeg (1 : Int32))) < v3 → (B_X13_test_9 post n v1 (v2 + ((v1 >>> (v3 &&& 31)) &&& 1)) (v3 + 1) mm))
def w_X13_test (post : Int32 → (Nat → Nat → Int32) → Prop) (x1 : Int32) (mm : (Nat → Nat → Int32)) : Prop := ∃ n9, B_X13_test_9 post n9 x1 0 0 (up2 mm 0 0 0)
section G_X13_test
variable {p : Program} {l : Launch} {e : Env} {s : State} {m : MethodId} {args : Array Value} {below : List Frame} {meth : Method} {c : Code} {G : Gd} {ρ : Nat → Nat} {A : Nat → Prop} {cm : CMu} {oo : Nat → Int64}
set_option maxHeartbeats 4000000 in
set_option maxRecDepth 100000 in
theorem T_X13_test_142 {post : Int32 → (Nat → Nat → Int32) → Prop} {k48 : Int32 → Int32 → Int32 → Int32 → Int32 → (Nat → Nat → Int32) → Prop} {k68 : Int32 → Int32 → Int32 → Int32 → Int32 → Int32 → Int32 → (Nat → Nat → Int32) → Prop} (hl : l.stackTraces = false) (X : MC p l s m args meth c cX13_test 9 RX13 G ρ A) (hr : meth.sig.returnType = (some .int)) (hex : ∀ z ∈ c.exceptionTable.toList, False)
    (hk48 : ∀ (v1 : Int32) (v2 : Int32) (v3 : Int32) (v4 : Int32) (v5 : Int32) (mm : (Nat → Nat → Int32)), k48 v1 v2 v3 v4 v5 mm → LW p l e rm_X13_test s m args below meth c (Qm below G ρ A (PI (fun u => (cm, u, oo)) post) noX args s 0 0) G ρ A 9 0 0 48 [(0, .ref 703), (1, .int v1), (2, .int v2), (3, .int v3), (4, .int v4), (5, .int v5)] [] (cm, mm, oo))
    (hk68 : ∀ (v1 : Int32) (v2 : Int32) (v3 : Int32) (v4 : Int32) (v5 : Int32) (v6 : Int32) (v7 : Int32) (mm : (Nat → Nat → Int32)), k68 v1 v2 v3 v4 v5 v6 v7 mm → LW p l e rm_X13_test s m args below meth c (Qm below G ρ A (PI (fun u => (cm, u, oo)) post) noX args s 0 0) G ρ A 9 0 0 68 [(0, .ref 703), (1, .int v1), (2, .int v2), (3, .int v3), (4, .int v4), (5, .int v5), (6, .int v6), (7, .int v7)] [] (cm, mm, oo)) : ∀ (v1 : Int32) (v2 : Int32) (v3 : Int32) (v4 : Int32) (v5 : Int32) (v6 : Int32) (v7 : Int32) (mm : (Nat → Nat → Int32)), B_X13_test_142 post k48 k68 v1 v2 v3 v4 v5 v6 v7 mm → LW p l e rm_X13_test s m args below meth c (Qm below G ρ A (PI (fun u => (cm, u, oo)) post) noX args s 0 0) G ρ A 9 0 0 142 [(0, .ref 703), (1, .int v1), (2, .int v2), (3, .int v3), (4, .int v4), (5, .int v5), (6, .int v6), (7, .int v7)] [] (cm, mm, oo) := by
  intro v1 v2 v3 v4 v5 v6 v7 mm h
  unfold B_X13_test_142 at h
  refine L_iinc (pc := 142) (v := v7 + 1) (lv2 := [(7, .int (v7 + 1)), (0, .ref 703), (1, .int v1), (2, .int v2), (3, .int v3), (4, .int v4), (5, .int v5), (6, .int v6)]) X d_X13_test_142 7 rfl rfl (by decide) rfl ?_
  refine L_goto (pc := 145) (tgt := 68) X d_X13_test_145 (by decide) ?_
  refine LW.sub [1, 2, 3, 4, 5, 6, 7, 0] rfl ?_
  exact hk68 _ _ _ _ _ _ _  _ h
set_option maxHeartbeats 4000000 in
set_option maxRecDepth 100000 in
theorem T_X13_test_129 {post : Int32 → (Nat → Nat → Int32) → Prop} {k48 : Int32 → Int32 → Int32 → Int32 → Int32 → (Nat → Nat → Int32) → Prop} {k68 : Int32 → Int32 → Int32 → Int32 → Int32 → Int32 → Int32 → (Nat → Nat → Int32) → Prop} (hl : l.stackTraces = false) (X : MC p l s m args meth c cX13_test 9 RX13 G ρ A) (hr : meth.sig.returnType = (some .int)) (hex : ∀ z ∈ c.exceptionTable.toList, False)
    (hk48 : ∀ (v1 : Int32) (v2 : Int32) (v3 : Int32) (v4 : Int32) (v5 : Int32) (mm : (Nat → Nat → Int32)), k48 v1 v2 v3 v4 v5 mm → LW p l e rm_X13_test s m args below meth c (Qm below G ρ A (PI (fun u => (cm, u, oo)) post) noX args s 0 0) G ρ A 9 0 0 48 [(0, .ref 703), (1, .int v1), (2, .int v2), (3, .int v3), (4, .int v4), (5, .int v5)] [] (cm, mm, oo))
    (hk68 : ∀ (v1 : Int32) (v2 : Int32) (v3 : Int32) (v4 : Int32) (v5 : Int32) (v6 : Int32) (v7 : Int32) (mm : (Nat → Nat → Int32)), k68 v1 v2 v3 v4 v5 v6 v7 mm → LW p l e rm_X13_test s m args below meth c (Qm below G ρ A (PI (fun u => (cm, u, oo)) post) noX args s 0 0) G ρ A 9 0 0 68 [(0, .ref 703), (1, .int v1), (2, .int v2), (3, .int v3), (4, .int v4), (5, .int v5), (6, .int v6), (7, .int v7)] [] (cm, mm, oo)) : ∀ (v1 : Int32) (v2 : Int32) (v5 : Int32) (v6 : Int32) (v7 : Int32) (v8 : Int32) (mm : (Nat → Nat → Int32)), B_X13_test_129 post k48 k68 v1 v2 v5 v6 v7 v8 mm → LW p l e rm_X13_test s m args below meth c (Qm below G ρ A (PI (fun u => (cm, u, oo)) post) noX args s 0 0) G ρ A 9 0 0 129 [(0, .ref 703), (1, .int v1), (2, .int v2), (5, .int v5), (6, .int v6), (7, .int v7), (8, .int v8)] [] (cm, mm, oo) := by
  intro v1 v2 v5 v6 v7 v8 mm h
  unfold B_X13_test_129 at h
  refine L_bipush (pc := 129) (v := 16) X d_X13_test_129 (by decide) ?_
  refine L_iload (pc := 131) X d_X13_test_131 3 rfl ?_
  refine L_imul (pc := 133) X d_X13_test_133 ?_
  refine L_iload (pc := 134) X d_X13_test_134 5 rfl ?_
  refine L_iadd (pc := 136) X d_X13_test_136 ?_
  refine L_istore_n (pc := 137) (lv2 := [(3, .int ((16 * v5) + v7)), (0, .ref 703), (1, .int v1), (2, .int v2), (5, .int v5), (6, .int v6), (7, .int v7), (8, .int v8)]) X d_X13_test_137 rfl (by decide) rfl ?_
  refine L_iload (pc := 138) X d_X13_test_138 7 rfl ?_
  refine L_istore (pc := 140) (lv2 := [(4, .int v8), (3, .int ((16 * v5) + v7)), (0, .ref 703), (1, .int v1), (2, .int v2), (5, .int v5), (6, .int v6), (7, .int v7), (8, .int v8)]) X d_X13_test_140 (by decide) rfl ?_
  refine LW.sub [2, 3, 4, 1, 0, 5, 6, 7] rfl ?_
  exact T_X13_test_142 hl X hr hex hk48 hk68 _ _ _ _ _ _ _  _ h
set_option maxHeartbeats 4000000 in
set_option maxRecDepth 100000 in
theorem T_X13_test_112 {post : Int32 → (Nat → Nat → Int32) → Prop} {k48 : Int32 → Int32 → Int32 → Int32 → Int32 → (Nat → Nat → Int32) → Prop} {k68 : Int32 → Int32 → Int32 → Int32 → Int32 → Int32 → Int32 → (Nat → Nat → Int32) → Prop} (hl : l.stackTraces = false) (X : MC p l s m args meth c cX13_test 9 RX13 G ρ A) (hr : meth.sig.returnType = (some .int)) (hex : ∀ z ∈ c.exceptionTable.toList, False)
    (hk48 : ∀ (v1 : Int32) (v2 : Int32) (v3 : Int32) (v4 : Int32) (v5 : Int32) (mm : (Nat → Nat → Int32)), k48 v1 v2 v3 v4 v5 mm → LW p l e rm_X13_test s m args below meth c (Qm below G ρ A (PI (fun u => (cm, u, oo)) post) noX args s 0 0) G ρ A 9 0 0 48 [(0, .ref 703), (1, .int v1), (2, .int v2), (3, .int v3), (4, .int v4), (5, .int v5)] [] (cm, mm, oo))
    (hk68 : ∀ (v1 : Int32) (v2 : Int32) (v3 : Int32) (v4 : Int32) (v5 : Int32) (v6 : Int32) (v7 : Int32) (mm : (Nat → Nat → Int32)), k68 v1 v2 v3 v4 v5 v6 v7 mm → LW p l e rm_X13_test s m args below meth c (Qm below G ρ A (PI (fun u => (cm, u, oo)) post) noX args s 0 0) G ρ A 9 0 0 68 [(0, .ref 703), (1, .int v1), (2, .int v2), (3, .int v3), (4, .int v4), (5, .int v5), (6, .int v6), (7, .int v7)] [] (cm, mm, oo)) : ∀ (v1 : Int32) (v2 : Int32) (v3 : Int32) (v4 : Int32) (v5 : Int32) (v6 : Int32) (v7 : Int32) (s0 : Int32) (mm : (Nat → Nat → Int32)), B_X13_test_112 post k48 k68 v1 v2 v3 v4 v5 v6 v7 s0 mm → LW p l e rm_X13_test s m args below meth c (Qm below G ρ A (PI (fun u => (cm, u, oo)) post) noX args s 0 0) G ρ A 9 0 0 112 [(0, .ref 703), (1, .int v1), (2, .int v2), (3, .int v3), (4, .int v4), (5, .int v5), (6, .int v6), (7, .int v7)] [.int s0] (cm, mm, oo) := by
  intro v1 v2 v3 v4 v5 v6 v7 s0 mm h
  unfold B_X13_test_112 at h
  refine L_istore (pc := 112) (lv2 := [(8, .int s0), (0, .ref 703), (1, .int v1), (2, .int v2), (3, .int v3), (4, .int v4), (5, .int v5), (6, .int v6), (7, .int v7)]) X d_X13_test_112 (by decide) rfl ?_
  refine L_iload_n (pc := 114) X d_X13_test_114 rfl 4 rfl ?_
  refine L_iconst (pc := 115) (v := (-1)) X d_X13_test_115 (by decide) ?_
  refine L_icmp_eq (pc := 116) (tgt := 129) X d_X13_test_116 (by decide) (fun c116 => ?_) (fun c116 => ?_)
  · replace h := h.1 c116
    refine LW.sub [1, 2, 3, 6, 7, 8, 0] rfl ?_
    exact T_X13_test_129 hl X hr hex hk48 hk68 _ _ _ _ _ _  _ h
  · replace h := h.2 c116
    refine L_iload (pc := 119) X d_X13_test_119 0 rfl ?_
    refine L_iload (pc := 121) X d_X13_test_121 5 rfl ?_
    refine L_icmp_lt (pc := 123) (tgt := 129) X d_X13_test_123 (by decide) (fun c123 => ?_) (fun c123 => ?_)
    · replace h := h.1 c123
      refine LW.sub [1, 2, 3, 6, 7, 8, 0] rfl ?_
      exact T_X13_test_129 hl X hr hex hk48 hk68 _ _ _ _ _ _  _ h
    · replace h := h.2 c123
      refine L_goto (pc := 126) (tgt := 142) X d_X13_test_126 (by decide) ?_
      refine LW.sub [1, 2, 3, 4, 5, 6, 7, 8] rfl ?_
      exact T_X13_test_142 hl X hr hex hk48 hk68 _ _ _ _ _ _ _  _ h
set_option maxHeartbeats 4000000 in
set_option maxRecDepth 100000 in
theorem T_X13_test_68 {post : Int32 → (Nat → Nat → Int32) → Prop} {k48 : Int32 → Int32 → Int32 → Int32 → Int32 → (Nat → Nat → Int32) → Prop} (hl : l.stackTraces = false) (X : MC p l s m args meth c cX13_test 9 RX13 G ρ A) (hr : meth.sig.returnType = (some .int)) (hex : ∀ z ∈ c.exceptionTable.toList, False)
    (hk48 : ∀ (v1 : Int32) (v2 : Int32) (v3 : Int32) (v4 : Int32) (v5 : Int32) (mm : (Nat → Nat → Int32)), k48 v1 v2 v3 v4 v5 mm → LW p l e rm_X13_test s m args below meth c (Qm below G ρ A (PI (fun u => (cm, u, oo)) post) noX args s 0 0) G ρ A 9 0 0 48 [(0, .ref 703), (1, .int v1), (2, .int v2), (3, .int v3), (4, .int v4), (5, .int v5)] [] (cm, mm, oo)) (n : Nat) : ∀ (v1 : Int32) (v2 : Int32) (v3 : Int32) (v4 : Int32) (v5 : Int32) (v6 : Int32) (v7 : Int32) (mm : (Nat → Nat → Int32)), B_X13_test_68 post k48 n v1 v2 v3 v4 v5 v6 v7 mm → LW p l e rm_X13_test s m args below meth c (Qm below G ρ A (PI (fun u => (cm, u, oo)) post) noX args s 0 0) G ρ A 9 0 0 68 [(0, .ref 703), (1, .int v1), (2, .int v2), (3, .int v3), (4, .int v4), (5, .int v5), (6, .int v6), (7, .int v7)] [] (cm, mm, oo) := by
  induction n with
  | zero =>
    intro v1 v2 v3 v4 v5 v6 v7 mm h
    exact False.elim h
  | succ n ih =>
    intro v1 v2 v3 v4 v5 v6 v7 mm h
    unfold B_X13_test_68 at h
    refine L_iload (pc := 68) X d_X13_test_68 7 rfl ?_
    refine L_aload_n (pc := 70) X d_X13_test_70 rfl 0 rfl ?_
    refine gf_X13_7 (pc := 71) X d_X13_test_71 ?_
    refine L_iconst (pc := 74) (v := 1) X d_X13_test_74 (by decide) ?_
    refine L_ialdM (pc := 75) (a := 1) X d_X13_test_75 kd_704 (by unfold vp_in; decide) ?_
    refine L_iconst (pc := 76) (v := 1) X d_X13_test_76 (by decide) ?_
    refine L_iadd (pc := 77) X d_X13_test_77 ?_
    refine L_icmp_gt (pc := 78) (tgt := 148) X d_X13_test_78 (by decide) (fun c78 => ?_) (fun c78 => ?_)
    · replace h := h.1 c78
      refine L_iinc (pc := 148) (v := v5 + 1) (lv2 := [(5, .int (v5 + 1)), (0, .ref 703), (1, .int v1), (2, .int v2), (3, .int v3), (4, .int v4), (6, .int v6), (7, .int v7)]) X d_X13_test_148 5 rfl rfl (by decide) rfl ?_
      refine L_goto (pc := 151) (tgt := 48) X d_X13_test_151 (by decide) ?_
      refine LW.sub [1, 2, 3, 4, 5, 0] rfl ?_
      exact hk48 _ _ _ _ _  _ h
    · replace h := h.2 c78
      refine L_iload (pc := 81) X d_X13_test_81 6 rfl ?_
      refine L_iload_n (pc := 83) X d_X13_test_83 rfl 1 rfl ?_
      refine L_iload (pc := 84) X d_X13_test_84 7 rfl ?_
      refine L_iconst (pc := 86) (v := 1) X d_X13_test_86 (by decide) ?_
      refine L_isub (pc := 87) X d_X13_test_87 ?_
      refine L_ishr (pc := 88) X d_X13_test_88 ?_
      refine L_iconst (pc := 89) (v := 1) X d_X13_test_89 (by decide) ?_
      refine L_iand (pc := 90) X d_X13_test_90 ?_
      refine L_iadd (pc := 91) X d_X13_test_91 ?_
      refine L_istore (pc := 92) (lv2 := [(6, .int (v6 + ((v1 >>> ((v7 - 1) &&& 31)) &&& 1))), (0, .ref 703), (1, .int v1), (2, .int v2), (3, .int v3), (4, .int v4), (5, .int v5), (7, .int v7)]) X d_X13_test_92 (by decide) rfl ?_
      refine L_iload (pc := 94) X d_X13_test_94 0 rfl ?_
      refine L_iload_n (pc := 96) X d_X13_test_96 rfl 3 rfl ?_
      refine L_iload (pc := 97) X d_X13_test_97 0 rfl ?_
      refine L_isub (pc := 99) X d_X13_test_99 ?_
      refine L_icmp_le (pc := 100) (tgt := 108) X d_X13_test_100 (by decide) (fun c100 => ?_) (fun c100 => ?_)
      · replace h := h.1 c100
        refine L_iload_n (pc := 108) X d_X13_test_108 rfl 3 rfl ?_
        refine L_iload (pc := 109) X d_X13_test_109 0 rfl ?_
        refine L_isub (pc := 111) X d_X13_test_111 ?_
        refine LW.sub [1, 2, 3, 4, 5, 6, 0, 7] rfl ?_
        exact T_X13_test_112 hl X hr hex hk48 ih _ _ _ _ _ _ _ _  _ h
      · replace h := h.2 c100
        refine L_iload (pc := 103) X d_X13_test_103 0 rfl ?_
        refine L_goto (pc := 105) (tgt := 112) X d_X13_test_105 (by decide) ?_
        refine LW.sub [1, 2, 3, 4, 5, 6, 0, 7] rfl ?_
        exact T_X13_test_112 hl X hr hex hk48 ih _ _ _ _ _ _ _ _  _ h
set_option maxHeartbeats 4000000 in
set_option maxRecDepth 100000 in
theorem T_X13_test_48 {post : Int32 → (Nat → Nat → Int32) → Prop} (hl : l.stackTraces = false) (X : MC p l s m args meth c cX13_test 9 RX13 G ρ A) (hr : meth.sig.returnType = (some .int)) (hex : ∀ z ∈ c.exceptionTable.toList, False) (n : Nat) : ∀ (v1 : Int32) (v2 : Int32) (v3 : Int32) (v4 : Int32) (v5 : Int32) (mm : (Nat → Nat → Int32)), B_X13_test_48 post n v1 v2 v3 v4 v5 mm → LW p l e rm_X13_test s m args below meth c (Qm below G ρ A (PI (fun u => (cm, u, oo)) post) noX args s 0 0) G ρ A 9 0 0 48 [(0, .ref 703), (1, .int v1), (2, .int v2), (3, .int v3), (4, .int v4), (5, .int v5)] [] (cm, mm, oo) := by
  induction n with
  | zero =>
    intro v1 v2 v3 v4 v5 mm h
    exact False.elim h
  | succ n ih =>
    intro v1 v2 v3 v4 v5 mm h
    unfold B_X13_test_48 at h
    refine L_iload (pc := 48) X d_X13_test_48 5 rfl ?_
    refine L_aload_n (pc := 50) X d_X13_test_50 rfl 0 rfl ?_
    refine gf_X13_7 (pc := 51) X d_X13_test_51 ?_
    refine L_iconst (pc := 54) (v := 1) X d_X13_test_54 (by decide) ?_
    refine L_ialdM (pc := 55) (a := 1) X d_X13_test_55 kd_704 (by unfold vp_in; decide) ?_
    refine L_icmp_gt (pc := 56) (tgt := 154) X d_X13_test_56 (by decide) (fun c56 => ?_) (fun c56 => ?_)
    · replace h := h.1 c56
      refine L_iload_n (pc := 154) X d_X13_test_154 rfl 3 rfl ?_
      exact L_iret (pc := 155) X hr d_X13_test_155 (by decide) (by decide) ⟨_, _, rfl, rfl, h⟩
    · replace h := h.2 c56
      refine L_iconst (pc := 59) (v := 0) X d_X13_test_59 (by decide) ?_
      refine L_istore (pc := 60) (lv2 := [(6, .int 0), (0, .ref 703), (1, .int v1), (2, .int v2), (3, .int v3), (4, .int v4), (5, .int v5)]) X d_X13_test_60 (by decide) rfl ?_
      refine L_iload (pc := 62) X d_X13_test_62 6 rfl ?_
      refine L_iconst (pc := 64) (v := 1) X d_X13_test_64 (by decide) ?_
      refine L_iadd (pc := 65) X d_X13_test_65 ?_
      refine L_istore (pc := 66) (lv2 := [(7, .int (v5 + 1)), (6, .int 0), (0, .ref 703), (1, .int v1), (2, .int v2), (3, .int v3), (4, .int v4), (5, .int v5)]) X d_X13_test_66 (by decide) rfl ?_
      obtain ⟨n68, h⟩ := h
      refine LW.sub [2, 3, 4, 5, 6, 7, 1, 0] rfl ?_
      exact T_X13_test_68 hl X hr hex ih n68 _ _ _ _ _ _ _  _ h
set_option maxHeartbeats 4000000 in
set_option maxRecDepth 100000 in
theorem T_X13_test_9 {post : Int32 → (Nat → Nat → Int32) → Prop} (hl : l.stackTraces = false) (X : MC p l s m args meth c cX13_test 9 RX13 G ρ A) (hr : meth.sig.returnType = (some .int)) (hex : ∀ z ∈ c.exceptionTable.toList, False) (n : Nat) : ∀ (v1 : Int32) (v2 : Int32) (v3 : Int32) (mm : (Nat → Nat → Int32)), B_X13_test_9 post n v1 v2 v3 mm → LW p l e rm_X13_test s m args below meth c (Qm below G ρ A (PI (fun u => (cm, u, oo)) post) noX args s 0 0) G ρ A 9 0 0 9 [(0, .ref 703), (1, .int v1), (2, .int v2), (3, .int v3)] [] (cm, mm, oo) := by
  induction n with
  | zero =>
    intro v1 v2 v3 mm h
    exact False.elim h
  | succ n ih =>
    intro v1 v2 v3 mm h
    unfold B_X13_test_9 at h
    refine L_iload_n (pc := 9) X d_X13_test_9 rfl 3 rfl ?_
    refine L_aload_n (pc := 10) X d_X13_test_10 rfl 0 rfl ?_
    refine gf_X13_7 (pc := 11) X d_X13_test_11 ?_
    refine L_iconst (pc := 14) (v := 1) X d_X13_test_14 (by decide) ?_
    refine L_ialdM (pc := 15) (a := 1) X d_X13_test_15 kd_704 (by unfold vp_in; decide) ?_
    refine L_icmp_gt (pc := 16) (tgt := 33) X d_X13_test_16 (by decide) (fun c16 => ?_) (fun c16 => ?_)
    · replace h := h.1 c16
      refine L_iload_n (pc := 33) X d_X13_test_33 rfl 2 rfl ?_
      refine L_iconst (pc := 34) (v := 2) X d_X13_test_34 (by decide) ?_
      refine L_icmp_ge (pc := 35) (tgt := 40) X d_X13_test_35 (by decide) (fun c35 => ?_) (fun c35 => ?_)
      · replace h := h.1 c35
        refine L_iconst (pc := 40) (v := (-1)) X d_X13_test_40 (by decide) ?_
        refine L_istore_n (pc := 41) (lv2 := [(3, .int (-1)), (0, .ref 703), (1, .int v1), (2, .int v2)]) X d_X13_test_41 rfl (by decide) rfl ?_
        refine L_iconst (pc := 42) (v := 0) X d_X13_test_42 (by decide) ?_
        refine L_istore (pc := 43) (lv2 := [(4, .int 0), (3, .int (-1)), (0, .ref 703), (1, .int v1), (2, .int v2)]) X d_X13_test_43 (by decide) rfl ?_
        refine L_iconst (pc := 45) (v := 0) X d_X13_test_45 (by decide) ?_
        refine L_istore (pc := 46) (lv2 := [(5, .int 0), (4, .int 0), (3, .int (-1)), (0, .ref 703), (1, .int v1), (2, .int v2)]) X d_X13_test_46 (by decide) rfl ?_
        obtain ⟨n48, h⟩ := h
        refine LW.sub [3, 4, 5, 2, 1, 0] rfl ?_
        exact T_X13_test_48 hl X hr hex n48 _ _ _ _ _  _ h
      · replace h := h.2 c35
        refine L_iconst (pc := 38) (v := (-1)) X d_X13_test_38 (by decide) ?_
        exact L_iret (pc := 39) X hr d_X13_test_39 (by decide) (by decide) ⟨_, _, rfl, rfl, h⟩
    · replace h := h.2 c16
      refine L_iload_n (pc := 19) X d_X13_test_19 rfl 2 rfl ?_
      refine L_iload_n (pc := 20) X d_X13_test_20 rfl 1 rfl ?_
      refine L_iload_n (pc := 21) X d_X13_test_21 rfl 3 rfl ?_
      refine L_ishr (pc := 22) X d_X13_test_22 ?_
      refine L_iconst (pc := 23) (v := 1) X d_X13_test_23 (by decide) ?_
      refine L_iand (pc := 24) X d_X13_test_24 ?_
      refine L_iadd (pc := 25) X d_X13_test_25 ?_
      refine L_istore_n (pc := 26) (lv2 := [(2, .int (v2 + ((v1 >>> (v3 &&& 31)) &&& 1))), (0, .ref 703), (1, .int v1), (3, .int v3)]) X d_X13_test_26 rfl (by decide) rfl ?_
      refine L_iinc (pc := 27) (v := v3 + 1) (lv2 := [(3, .int (v3 + 1)), (2, .int (v2 + ((v1 >>> (v3 &&& 31)) &&& 1))), (0, .ref 703), (1, .int v1)]) X d_X13_test_27 3 rfl rfl (by decide) rfl ?_
      refine L_goto (pc := 30) (tgt := 9) X d_X13_test_30 (by decide) ?_
      refine LW.sub [2, 3, 1, 0] rfl ?_
      exact ih _ _ _  _ h
set_option maxHeartbeats 4000000 in
set_option maxRecDepth 100000 in
theorem c_X13_test (hl : l.stackTraces = false) {x1 : Int32} {mm : (Nat → Nat → Int32)} {post : Int32 → (Nat → Nat → Int32) → Prop} (h : w_X13_test post x1 mm) : CT l yX13_test (.code yX13_test cX13_test 9 (some .int)) rm_X13_test 0 0 G ρ [.ref 703, .int x1] (cm, mm, oo) (PI (fun u => (cm, u, oo)) post) noX := by
  refine CT_of hl (by decide +kernel) rfl (Nat.le_of_ble_eq_true rfl) (lv0 := [(0, .ref 703), (1, .int x1)]) rfl (fun p e s m args below meth c A X hr hex hnm => ?_)
  unfold w_X13_test at h
  refine L_aload_n (pc := 0) X d_X13_test_0 rfl 0 rfl ?_
  refine L_iconst (pc := 1) (v := 0) X d_X13_test_1 (by decide) ?_
  refine pf_X13_47 (pc := 2) X d_X13_test_2 ?_
  refine L_iconst (pc := 5) (v := 0) X d_X13_test_5 (by decide) ?_
  refine L_istore_n (pc := 6) (lv2 := [(2, .int 0), (0, .ref 703), (1, .int x1)]) X d_X13_test_6 rfl (by decide) rfl ?_
  refine L_iconst (pc := 7) (v := 0) X d_X13_test_7 (by decide) ?_
  refine L_istore_n (pc := 8) (lv2 := [(3, .int 0), (2, .int 0), (0, .ref 703), (1, .int x1)]) X d_X13_test_8 rfl (by decide) rfl ?_
  obtain ⟨n9, h⟩ := h
  refine LW.sub [2, 3, 1, 0] rfl ?_
  exact T_X13_test_9 hl X hr hex n9 _ _ _  _ h
end G_X13_test
theorem d_X13_image_0 : decode cX13_image 0 = .ok (.aload_n 0, 1) := by decide +kernel
theorem d_X13_image_1 : decode cX13_image 1 = .ok (.iconst 0, 1) := by decide +kernel
theorem d_X13_image_2 : decode cX13_image 2 = .ok (.putfield 47, 3) := by decide +kernel
theorem d_X13_image_5 : decode cX13_image 5 = .ok (.iconst 0, 1) := by decide +kernel
theorem d_X13_image_6 : decode cX13_image 6 = .ok (.istore_n 1, 1) := by decide +kernel
theorem d_X13_image_7 : decode cX13_image 7 = .ok (.iload_n 1, 1) := by decide +kernel
theorem d_X13_image_8 : decode cX13_image 8 = .ok (.sipush 25530, 3) := by decide +kernel
theorem d_X13_image_11 : decode cX13_image 11 = .ok (.if_icmp .ge 21, 3) := by decide +kernel
theorem d_X13_image_14 : decode cX13_image 14 = .ok (.aload_n 0, 1) := by decide +kernel
theorem d_X13_image_15 : decode cX13_image 15 = .ok (.getfield 13, 3) := by decide +kernel
theorem d_X13_image_18 : decode cX13_image 18 = .ok (.iload_n 1, 1) := by decide +kernel
theorem d_X13_image_19 : decode cX13_image 19 = .ok (.aload_n 0, 1) := by decide +kernel
theorem d_X13_image_20 : decode cX13_image 20 = .ok (.getfield 7, 3) := by decide +kernel
theorem d_X13_image_23 : decode cX13_image 23 = .ok (.iload_n 1, 1) := by decide +kernel
theorem d_X13_image_24 : decode cX13_image 24 = .ok (.iaload, 1) := by decide +kernel
theorem d_X13_image_25 : decode cX13_image 25 = .ok (.iastore, 1) := by decide +kernel
theorem d_X13_image_26 : decode cX13_image 26 = .ok (.iinc 1 1, 3) := by decide +kernel
theorem d_X13_image_29 : decode cX13_image 29 = .ok (.goto (-22), 3) := by decide +kernel
theorem d_X13_image_32 : decode cX13_image 32 = .ok (.aload_n 0, 1) := by decide +kernel
theorem d_X13_image_33 : decode cX13_image 33 = .ok (.iconst 1, 1) := by decide +kernel
theorem d_X13_image_34 : decode cX13_image 34 = .ok (.putfield 279, 3) := by decide +kernel
theorem d_X13_image_37 : decode cX13_image 37 = .ok (.return_, 1) := by decide +kernel
abbrev rm_X13_image : Room := { frames := 0, cells := 0, slots := 0, locals := 0 }
def B_X13_image_7 (post : (Nat → Nat → Int32) → Prop) : Nat → Int32 → (Nat → Nat → Int32) → Prop
  | 0 => fun _ _ => False
  | n + 1 => fun v1 mm => (25530 ≤ v1 → (post (up2 mm 0 3 1))) ∧ (¬ 25530 ≤ v1 → ((vp_in v1 25530) ∧ (vp_in v1 25530) ∧ B_X13_image_7 post n (v1 + 1) (up2 mm 2 (Int32.toNatClampNeg v1) (mm 1 (Int32.toNatClampNeg v1)))))
def w_X13_image (post : (Nat → Nat → Int32) → Prop) (mm : (Nat → Nat → Int32)) : Prop := ∃ n7, B_X13_image_7 post n7 0 (up2 mm 0 0 0)
section G_X13_image
variable {p : Program} {l : Launch} {e : Env} {s : State} {m : MethodId} {args : Array Value} {below : List Frame} {meth : Method} {c : Code} {G : Gd} {ρ : Nat → Nat} {A : Nat → Prop} {cm : CMu} {oo : Nat → Int64}
set_option maxHeartbeats 4000000 in
set_option maxRecDepth 100000 in
theorem T_X13_image_7 {post : (Nat → Nat → Int32) → Prop} (hl : l.stackTraces = false) (X : MC p l s m args meth c cX13_image 2 RX13 G ρ A) (hr : meth.sig.returnType = none) (hex : ∀ z ∈ c.exceptionTable.toList, False) (n : Nat) : ∀ (v1 : Int32) (mm : (Nat → Nat → Int32)), B_X13_image_7 post n v1 mm → LW p l e rm_X13_image s m args below meth c (Qm below G ρ A (PV (fun u => (cm, u, oo)) post) noX args s 0 0) G ρ A 2 0 0 7 [(0, .ref 703), (1, .int v1)] [] (cm, mm, oo) := by
  induction n with
  | zero =>
    intro v1 mm h
    exact False.elim h
  | succ n ih =>
    intro v1 mm h
    unfold B_X13_image_7 at h
    refine L_iload_n (pc := 7) X d_X13_image_7 rfl 1 rfl ?_
    refine L_sipush (pc := 8) (v := 25530) X d_X13_image_8 (by decide) ?_
    refine L_icmp_ge (pc := 11) (tgt := 32) X d_X13_image_11 (by decide) (fun c11 => ?_) (fun c11 => ?_)
    · replace h := h.1 c11
      refine L_aload_n (pc := 32) X d_X13_image_32 rfl 0 rfl ?_
      refine L_iconst (pc := 33) (v := 1) X d_X13_image_33 (by decide) ?_
      refine pf_X13_279 (pc := 34) X d_X13_image_34 rfl rfl ?_
      exact L_vret (pc := 37) X hr d_X13_image_37 (by decide) (by decide) ⟨_, rfl, rfl, h⟩
    · replace h := h.2 c11
      refine L_aload_n (pc := 14) X d_X13_image_14 rfl 0 rfl ?_
      refine gf_X13_13 (pc := 15) X d_X13_image_15 ?_
      refine L_iload_n (pc := 18) X d_X13_image_18 rfl 1 rfl ?_
      refine L_aload_n (pc := 19) X d_X13_image_19 rfl 0 rfl ?_
      refine gf_X13_7 (pc := 20) X d_X13_image_20 ?_
      refine L_iload_n (pc := 23) X d_X13_image_23 rfl 1 rfl ?_
      obtain ⟨q1, h⟩ := h
      refine L_ialdM (pc := 24) (a := 1) X d_X13_image_24 kd_704 q1 ?_
      obtain ⟨q2, h⟩ := h
      refine L_iastM (pc := 25) (a := 2) X d_X13_image_25 kd_705 q2 ?_
      refine L_iinc (pc := 26) (v := v1 + 1) (lv2 := [(1, .int (v1 + 1)), (0, .ref 703)]) X d_X13_image_26 1 rfl rfl (by decide) rfl ?_
      refine L_goto (pc := 29) (tgt := 7) X d_X13_image_29 (by decide) ?_
      refine LW.sub [1, 0] rfl ?_
      exact ih _  _ h
set_option maxHeartbeats 4000000 in
set_option maxRecDepth 100000 in
theorem c_X13_image (hl : l.stackTraces = false) {mm : (Nat → Nat → Int32)} {post : (Nat → Nat → Int32) → Prop} (h : w_X13_image post mm) : CT l yX13_image (.code yX13_image cX13_image 2 none) rm_X13_image 0 0 G ρ [.ref 703] (cm, mm, oo) (PV (fun u => (cm, u, oo)) post) noX := by
  refine CT_of hl (by decide +kernel) rfl (Nat.le_of_ble_eq_true rfl) (lv0 := [(0, .ref 703)]) rfl (fun p e s m args below meth c A X hr hex hnm => ?_)
  unfold w_X13_image at h
  refine L_aload_n (pc := 0) X d_X13_image_0 rfl 0 rfl ?_
  refine L_iconst (pc := 1) (v := 0) X d_X13_image_1 (by decide) ?_
  refine pf_X13_47 (pc := 2) X d_X13_image_2 ?_
  refine L_iconst (pc := 5) (v := 0) X d_X13_image_5 (by decide) ?_
  refine L_istore_n (pc := 6) (lv2 := [(1, .int 0), (0, .ref 703)]) X d_X13_image_6 rfl (by decide) rfl ?_
  obtain ⟨n7, h⟩ := h
  refine LW.sub [1, 0] rfl ?_
  exact T_X13_image_7 hl X hr hex n7 _  _ h
end G_X13_image
theorem d_X13_back_0 : decode cX13_back 0 = .ok (.aload_n 0, 1) := by decide +kernel
theorem d_X13_back_1 : decode cX13_back 1 = .ok (.iconst 0, 1) := by decide +kernel
theorem d_X13_back_2 : decode cX13_back 2 = .ok (.putfield 47, 3) := by decide +kernel
theorem d_X13_back_5 : decode cX13_back 5 = .ok (.aload_n 0, 1) := by decide +kernel
theorem d_X13_back_6 : decode cX13_back 6 = .ok (.getfield 279, 3) := by decide +kernel
theorem d_X13_back_9 : decode cX13_back 9 = .ok (.ifCond .ne 5, 3) := by decide +kernel
theorem d_X13_back_12 : decode cX13_back 12 = .ok (.iconst 0, 1) := by decide +kernel
theorem d_X13_back_13 : decode cX13_back 13 = .ok (.ireturn, 1) := by decide +kernel
theorem d_X13_back_14 : decode cX13_back 14 = .ok (.iconst 0, 1) := by decide +kernel
theorem d_X13_back_15 : decode cX13_back 15 = .ok (.istore_n 1, 1) := by decide +kernel
theorem d_X13_back_16 : decode cX13_back 16 = .ok (.iload_n 1, 1) := by decide +kernel
theorem d_X13_back_17 : decode cX13_back 17 = .ok (.sipush 25530, 3) := by decide +kernel
theorem d_X13_back_20 : decode cX13_back 20 = .ok (.if_icmp .ge 21, 3) := by decide +kernel
theorem d_X13_back_23 : decode cX13_back 23 = .ok (.aload_n 0, 1) := by decide +kernel
theorem d_X13_back_24 : decode cX13_back 24 = .ok (.getfield 7, 3) := by decide +kernel
theorem d_X13_back_27 : decode cX13_back 27 = .ok (.iload_n 1, 1) := by decide +kernel
theorem d_X13_back_28 : decode cX13_back 28 = .ok (.aload_n 0, 1) := by decide +kernel
theorem d_X13_back_29 : decode cX13_back 29 = .ok (.getfield 13, 3) := by decide +kernel
theorem d_X13_back_32 : decode cX13_back 32 = .ok (.iload_n 1, 1) := by decide +kernel
theorem d_X13_back_33 : decode cX13_back 33 = .ok (.iaload, 1) := by decide +kernel
theorem d_X13_back_34 : decode cX13_back 34 = .ok (.iastore, 1) := by decide +kernel
theorem d_X13_back_35 : decode cX13_back 35 = .ok (.iinc 1 1, 3) := by decide +kernel
theorem d_X13_back_38 : decode cX13_back 38 = .ok (.goto (-22), 3) := by decide +kernel
theorem d_X13_back_41 : decode cX13_back 41 = .ok (.iconst 1, 1) := by decide +kernel
theorem d_X13_back_42 : decode cX13_back 42 = .ok (.ireturn, 1) := by decide +kernel
abbrev rm_X13_back : Room := { frames := 0, cells := 0, slots := 0, locals := 0 }
def B_X13_back_16 (post : Bool → (Nat → Nat → Int32) → Prop) : Nat → Int32 → (Nat → Nat → Int32) → Prop
  | 0 => fun _ _ => False
  | n + 1 => fun v1 mm => (25530 ≤ v1 → (post true mm)) ∧ (¬ 25530 ≤ v1 → ((vp_in v1 25530) ∧ (vp_in v1 25530) ∧ B_X13_back_16 post n (v1 + 1) (up2 mm 1 (Int32.toNatClampNeg v1) (mm 2 (Int32.toNatClampNeg v1)))))
def w_X13_back (post : Bool → (Nat → Nat → Int32) → Prop) (mm : (Nat → Nat → Int32)) : Prop := (¬ ((up2 mm 0 0 0) 0 3) = 0 → (∃ n16, B_X13_back_16 post n16 0 (up2 mm 0 0 0))) ∧ (((up2 mm 0 0 0) 0 3) = 0 → (post false (up2 mm 0 0 0)))
section G_X13_back
variable {p : Program} {l : Launch} {e : Env} {s : State} {m : MethodId} {args : Array Value} {below : List Frame} {meth : Method} {c : Code} {G : Gd} {ρ : Nat → Nat} {A : Nat → Prop} {cm : CMu} {oo : Nat → Int64}
set_option maxHeartbeats 4000000 in
set_option maxRecDepth 100000 in
theorem T_X13_back_16 {post : Bool → (Nat → Nat → Int32) → Prop} (hl : l.stackTraces = false) (X : MC p l s m args meth c cX13_back 2 RX13 G ρ A) (hr : meth.sig.returnType = (some .boolean)) (hex : ∀ z ∈ c.exceptionTable.toList, False) (n : Nat) : ∀ (v1 : Int32) (mm : (Nat → Nat → Int32)), B_X13_back_16 post n v1 mm → LW p l e rm_X13_back s m args below meth c (Qm below G ρ A (PZ (fun u => (cm, u, oo)) post) noX args s 0 0) G ρ A 2 0 0 16 [(0, .ref 703), (1, .int v1)] [] (cm, mm, oo) := by
  induction n with
  | zero =>
    intro v1 mm h
    exact False.elim h
  | succ n ih =>
    intro v1 mm h
    unfold B_X13_back_16 at h
    refine L_iload_n (pc := 16) X d_X13_back_16 rfl 1 rfl ?_
    refine L_sipush (pc := 17) (v := 25530) X d_X13_back_17 (by decide) ?_
    refine L_icmp_ge (pc := 20) (tgt := 41) X d_X13_back_20 (by decide) (fun c20 => ?_) (fun c20 => ?_)
    · replace h := h.1 c20
      refine L_iconst (pc := 41) (v := 1) X d_X13_back_41 (by decide) ?_
      exact L_zretB (pc := 42) X hr d_X13_back_42 true rfl (by decide) (by decide) ⟨_, _, rfl, rfl, h⟩
    · replace h := h.2 c20
      refine L_aload_n (pc := 23) X d_X13_back_23 rfl 0 rfl ?_
      refine gf_X13_7 (pc := 24) X d_X13_back_24 ?_
      refine L_iload_n (pc := 27) X d_X13_back_27 rfl 1 rfl ?_
      refine L_aload_n (pc := 28) X d_X13_back_28 rfl 0 rfl ?_
      refine gf_X13_13 (pc := 29) X d_X13_back_29 ?_
      refine L_iload_n (pc := 32) X d_X13_back_32 rfl 1 rfl ?_
      obtain ⟨q1, h⟩ := h
      refine L_ialdM (pc := 33) (a := 2) X d_X13_back_33 kd_705 q1 ?_
      obtain ⟨q2, h⟩ := h
      refine L_iastM (pc := 34) (a := 1) X d_X13_back_34 kd_704 q2 ?_
      refine L_iinc (pc := 35) (v := v1 + 1) (lv2 := [(1, .int (v1 + 1)), (0, .ref 703)]) X d_X13_back_35 1 rfl rfl (by decide) rfl ?_
      refine L_goto (pc := 38) (tgt := 16) X d_X13_back_38 (by decide) ?_
      refine LW.sub [1, 0] rfl ?_
      exact ih _  _ h
set_option maxHeartbeats 4000000 in
set_option maxRecDepth 100000 in
theorem c_X13_back (hl : l.stackTraces = false) {mm : (Nat → Nat → Int32)} {post : Bool → (Nat → Nat → Int32) → Prop} (h : w_X13_back post mm) : CT l yX13_back (.code yX13_back cX13_back 2 (some .boolean)) rm_X13_back 0 0 G ρ [.ref 703] (cm, mm, oo) (PZ (fun u => (cm, u, oo)) post) noX := by
  refine CT_of hl (by decide +kernel) rfl (Nat.le_of_ble_eq_true rfl) (lv0 := [(0, .ref 703)]) rfl (fun p e s m args below meth c A X hr hex hnm => ?_)
  unfold w_X13_back at h
  refine L_aload_n (pc := 0) X d_X13_back_0 rfl 0 rfl ?_
  refine L_iconst (pc := 1) (v := 0) X d_X13_back_1 (by decide) ?_
  refine pf_X13_47 (pc := 2) X d_X13_back_2 ?_
  refine L_aload_n (pc := 5) X d_X13_back_5 rfl 0 rfl ?_
  refine gf_X13_279 (pc := 6) X d_X13_back_6 ?_
  refine L_if_ne (pc := 9) (tgt := 14) X d_X13_back_9 (by decide) (fun c9 => ?_) (fun c9 => ?_)
  · replace h := h.1 c9
    refine L_iconst (pc := 14) (v := 0) X d_X13_back_14 (by decide) ?_
    refine L_istore_n (pc := 15) (lv2 := [(1, .int 0), (0, .ref 703)]) X d_X13_back_15 rfl (by decide) rfl ?_
    obtain ⟨n16, h⟩ := h
    refine LW.sub [1, 0] rfl ?_
    exact T_X13_back_16 hl X hr hex n16 _  _ h
  · replace h := h.2 c9
    refine L_iconst (pc := 12) (v := 0) X d_X13_back_12 (by decide) ?_
    exact L_zretB (pc := 13) X hr d_X13_back_13 false rfl (by decide) (by decide) ⟨_, _, rfl, rfl, h⟩
end G_X13_back
theorem yk_X13_isFrost : yX13_isFrost.cls = RX13 ∧ yX13_isFrost.cls ≠ "java/lang/invoke/MethodHandle" ∧ yX13_isFrost.cls ≠ "java/lang/invoke/VarHandle" ∧ (parseMethodDescriptor yX13_isFrost.desc).map (fun d => d.parameters.length) = some 0 := by decide +kernel
theorem lk_X13_148 : LinkV RX13 148 RX13 yX13_isFrost (.code yX13_isFrost cX13_isFrost 2 (some .boolean)) 0 := ⟨tw_1428, tw_1430, tw_51, tw_83, tw_1431, yk_X13_isFrost⟩
theorem d_X13_count_0 : decode cX13_count 0 = .ok (.aload_n 0, 1) := by decide +kernel
theorem d_X13_count_1 : decode cX13_count 1 = .ok (.iconst 0, 1) := by decide +kernel
theorem d_X13_count_2 : decode cX13_count 2 = .ok (.putfield 47, 3) := by decide +kernel
theorem d_X13_count_5 : decode cX13_count 5 = .ok (.iconst 0, 1) := by decide +kernel
theorem d_X13_count_6 : decode cX13_count 6 = .ok (.istore_n 2, 1) := by decide +kernel
theorem d_X13_count_7 : decode cX13_count 7 = .ok (.iconst 0, 1) := by decide +kernel
theorem d_X13_count_8 : decode cX13_count 8 = .ok (.istore_n 3, 1) := by decide +kernel
theorem d_X13_count_9 : decode cX13_count 9 = .ok (.iconst 1, 1) := by decide +kernel
theorem d_X13_count_10 : decode cX13_count 10 = .ok (.istore 4, 2) := by decide +kernel
theorem d_X13_count_12 : decode cX13_count 12 = .ok (.iload 4, 2) := by decide +kernel
theorem d_X13_count_14 : decode cX13_count 14 = .ok (.aload_n 0, 1) := by decide +kernel
theorem d_X13_count_15 : decode cX13_count 15 = .ok (.getfield 7, 3) := by decide +kernel
theorem d_X13_count_18 : decode cX13_count 18 = .ok (.iconst 1, 1) := by decide +kernel
theorem d_X13_count_19 : decode cX13_count 19 = .ok (.iaload, 1) := by decide +kernel
theorem d_X13_count_20 : decode cX13_count 20 = .ok (.if_icmp .gt 43, 3) := by decide +kernel
theorem d_X13_count_23 : decode cX13_count 23 = .ok (.iload_n 2, 1) := by decide +kernel
theorem d_X13_count_24 : decode cX13_count 24 = .ok (.aload_n 0, 1) := by decide +kernel
theorem d_X13_count_25 : decode cX13_count 25 = .ok (.getfield 7, 3) := by decide +kernel
theorem d_X13_count_28 : decode cX13_count 28 = .ok (.bipush 46, 2) := by decide +kernel
theorem d_X13_count_30 : decode cX13_count 30 = .ok (.iconst 4, 1) := by decide +kernel
theorem d_X13_count_31 : decode cX13_count 31 = .ok (.iload 4, 2) := by decide +kernel
theorem d_X13_count_33 : decode cX13_count 33 = .ok (.imul, 1) := by decide +kernel
theorem d_X13_count_34 : decode cX13_count 34 = .ok (.iadd, 1) := by decide +kernel
theorem d_X13_count_35 : decode cX13_count 35 = .ok (.iconst 3, 1) := by decide +kernel
theorem d_X13_count_36 : decode cX13_count 36 = .ok (.iadd, 1) := by decide +kernel
theorem d_X13_count_37 : decode cX13_count 37 = .ok (.iaload, 1) := by decide +kernel
theorem d_X13_count_38 : decode cX13_count 38 = .ok (.iadd, 1) := by decide +kernel
theorem d_X13_count_39 : decode cX13_count 39 = .ok (.istore_n 2, 1) := by decide +kernel
theorem d_X13_count_40 : decode cX13_count 40 = .ok (.iload_n 3, 1) := by decide +kernel
theorem d_X13_count_41 : decode cX13_count 41 = .ok (.aload_n 0, 1) := by decide +kernel
theorem d_X13_count_42 : decode cX13_count 42 = .ok (.getfield 7, 3) := by decide +kernel
theorem d_X13_count_45 : decode cX13_count 45 = .ok (.bipush 46, 2) := by decide +kernel
theorem d_X13_count_47 : decode cX13_count 47 = .ok (.iconst 4, 1) := by decide +kernel
theorem d_X13_count_48 : decode cX13_count 48 = .ok (.iload 4, 2) := by decide +kernel
theorem d_X13_count_50 : decode cX13_count 50 = .ok (.imul, 1) := by decide +kernel
theorem d_X13_count_51 : decode cX13_count 51 = .ok (.iadd, 1) := by decide +kernel
theorem d_X13_count_52 : decode cX13_count 52 = .ok (.iconst 2, 1) := by decide +kernel
theorem d_X13_count_53 : decode cX13_count 53 = .ok (.iadd, 1) := by decide +kernel
theorem d_X13_count_54 : decode cX13_count 54 = .ok (.iaload, 1) := by decide +kernel
theorem d_X13_count_55 : decode cX13_count 55 = .ok (.iadd, 1) := by decide +kernel
theorem d_X13_count_56 : decode cX13_count 56 = .ok (.istore_n 3, 1) := by decide +kernel
theorem d_X13_count_57 : decode cX13_count 57 = .ok (.iinc 4 1, 3) := by decide +kernel
theorem d_X13_count_60 : decode cX13_count 60 = .ok (.goto (-48), 3) := by decide +kernel
theorem d_X13_count_63 : decode cX13_count 63 = .ok (.iload_n 1, 1) := by decide +kernel
theorem d_X13_count_64 : decode cX13_count 64 = .ok (.ifCond .ne 12, 3) := by decide +kernel
theorem d_X13_count_67 : decode cX13_count 67 = .ok (.aload_n 0, 1) := by decide +kernel
theorem d_X13_count_68 : decode cX13_count 68 = .ok (.getfield 7, 3) := by decide +kernel
theorem d_X13_count_71 : decode cX13_count 71 = .ok (.iconst 1, 1) := by decide +kernel
theorem d_X13_count_72 : decode cX13_count 72 = .ok (.iaload, 1) := by decide +kernel
theorem d_X13_count_73 : decode cX13_count 73 = .ok (.goto 131, 3) := by decide +kernel
theorem d_X13_count_76 : decode cX13_count 76 = .ok (.iload_n 1, 1) := by decide +kernel
theorem d_X13_count_77 : decode cX13_count 77 = .ok (.iconst 1, 1) := by decide +kernel
theorem d_X13_count_78 : decode cX13_count 78 = .ok (.if_icmp .ne 12, 3) := by decide +kernel
theorem d_X13_count_81 : decode cX13_count 81 = .ok (.aload_n 0, 1) := by decide +kernel
theorem d_X13_count_82 : decode cX13_count 82 = .ok (.getfield 7, 3) := by decide +kernel
theorem d_X13_count_85 : decode cX13_count 85 = .ok (.iconst 0, 1) := by decide +kernel
theorem d_X13_count_86 : decode cX13_count 86 = .ok (.iaload, 1) := by decide +kernel
theorem d_X13_count_87 : decode cX13_count 87 = .ok (.goto 117, 3) := by decide +kernel
theorem d_X13_count_90 : decode cX13_count 90 = .ok (.iload_n 1, 1) := by decide +kernel
theorem d_X13_count_91 : decode cX13_count 91 = .ok (.iconst 2, 1) := by decide +kernel
theorem d_X13_count_92 : decode cX13_count 92 = .ok (.if_icmp .ne 12, 3) := by decide +kernel
theorem d_X13_count_95 : decode cX13_count 95 = .ok (.aload_n 0, 1) := by decide +kernel
theorem d_X13_count_96 : decode cX13_count 96 = .ok (.getfield 7, 3) := by decide +kernel
theorem d_X13_count_99 : decode cX13_count 99 = .ok (.iconst 2, 1) := by decide +kernel
theorem d_X13_count_100 : decode cX13_count 100 = .ok (.iaload, 1) := by decide +kernel
theorem d_X13_count_101 : decode cX13_count 101 = .ok (.goto 103, 3) := by decide +kernel
theorem d_X13_count_104 : decode cX13_count 104 = .ok (.iload_n 1, 1) := by decide +kernel
theorem d_X13_count_105 : decode cX13_count 105 = .ok (.iconst 3, 1) := by decide +kernel
theorem d_X13_count_106 : decode cX13_count 106 = .ok (.if_icmp .ne 12, 3) := by decide +kernel
theorem d_X13_count_109 : decode cX13_count 109 = .ok (.aload_n 0, 1) := by decide +kernel
theorem d_X13_count_110 : decode cX13_count 110 = .ok (.getfield 7, 3) := by decide +kernel
theorem d_X13_count_113 : decode cX13_count 113 = .ok (.iconst 3, 1) := by decide +kernel
theorem d_X13_count_114 : decode cX13_count 114 = .ok (.iaload, 1) := by decide +kernel
theorem d_X13_count_115 : decode cX13_count 115 = .ok (.goto 89, 3) := by decide +kernel
theorem d_X13_count_118 : decode cX13_count 118 = .ok (.iload_n 1, 1) := by decide +kernel
theorem d_X13_count_119 : decode cX13_count 119 = .ok (.iconst 4, 1) := by decide +kernel
theorem d_X13_count_120 : decode cX13_count 120 = .ok (.if_icmp .ne 12, 3) := by decide +kernel
theorem d_X13_count_123 : decode cX13_count 123 = .ok (.aload_n 0, 1) := by decide +kernel
theorem d_X13_count_124 : decode cX13_count 124 = .ok (.getfield 7, 3) := by decide +kernel
theorem d_X13_count_127 : decode cX13_count 127 = .ok (.iconst 4, 1) := by decide +kernel
theorem d_X13_count_128 : decode cX13_count 128 = .ok (.iaload, 1) := by decide +kernel
theorem d_X13_count_129 : decode cX13_count 129 = .ok (.goto 75, 3) := by decide +kernel
theorem d_X13_count_132 : decode cX13_count 132 = .ok (.iload_n 1, 1) := by decide +kernel
theorem d_X13_count_133 : decode cX13_count 133 = .ok (.iconst 5, 1) := by decide +kernel
theorem d_X13_count_134 : decode cX13_count 134 = .ok (.if_icmp .ne 12, 3) := by decide +kernel
theorem d_X13_count_137 : decode cX13_count 137 = .ok (.aload_n 0, 1) := by decide +kernel
theorem d_X13_count_138 : decode cX13_count 138 = .ok (.getfield 7, 3) := by decide +kernel
theorem d_X13_count_141 : decode cX13_count 141 = .ok (.iconst 5, 1) := by decide +kernel
theorem d_X13_count_142 : decode cX13_count 142 = .ok (.iaload, 1) := by decide +kernel
theorem d_X13_count_143 : decode cX13_count 143 = .ok (.goto 61, 3) := by decide +kernel
theorem d_X13_count_146 : decode cX13_count 146 = .ok (.iload_n 1, 1) := by decide +kernel
theorem d_X13_count_147 : decode cX13_count 147 = .ok (.bipush 6, 2) := by decide +kernel
theorem d_X13_count_149 : decode cX13_count 149 = .ok (.if_icmp .ne 13, 3) := by decide +kernel
theorem d_X13_count_152 : decode cX13_count 152 = .ok (.aload_n 0, 1) := by decide +kernel
theorem d_X13_count_153 : decode cX13_count 153 = .ok (.getfield 7, 3) := by decide +kernel
theorem d_X13_count_156 : decode cX13_count 156 = .ok (.bipush 9, 2) := by decide +kernel
theorem d_X13_count_158 : decode cX13_count 158 = .ok (.iaload, 1) := by decide +kernel
theorem d_X13_count_159 : decode cX13_count 159 = .ok (.goto 45, 3) := by decide +kernel
theorem d_X13_count_162 : decode cX13_count 162 = .ok (.iload_n 1, 1) := by decide +kernel
theorem d_X13_count_163 : decode cX13_count 163 = .ok (.bipush 7, 2) := by decide +kernel
theorem d_X13_count_165 : decode cX13_count 165 = .ok (.if_icmp .ne 7, 3) := by decide +kernel
theorem d_X13_count_168 : decode cX13_count 168 = .ok (.iload_n 2, 1) := by decide +kernel
theorem d_X13_count_169 : decode cX13_count 169 = .ok (.goto 35, 3) := by decide +kernel
theorem d_X13_count_172 : decode cX13_count 172 = .ok (.iload_n 1, 1) := by decide +kernel
theorem d_X13_count_173 : decode cX13_count 173 = .ok (.bipush 8, 2) := by decide +kernel
theorem d_X13_count_175 : decode cX13_count 175 = .ok (.if_icmp .ne 7, 3) := by decide +kernel
theorem d_X13_count_178 : decode cX13_count 178 = .ok (.iload_n 3, 1) := by decide +kernel
theorem d_X13_count_179 : decode cX13_count 179 = .ok (.goto 25, 3) := by decide +kernel
theorem d_X13_count_182 : decode cX13_count 182 = .ok (.iload_n 1, 1) := by decide +kernel
theorem d_X13_count_183 : decode cX13_count 183 = .ok (.bipush 9, 2) := by decide +kernel
theorem d_X13_count_185 : decode cX13_count 185 = .ok (.if_icmp .ne 18, 3) := by decide +kernel
theorem d_X13_count_188 : decode cX13_count 188 = .ok (.aload_n 0, 1) := by decide +kernel
theorem d_X13_count_189 : decode cX13_count 189 = .ok (.invokevirtual 148, 3) := by decide +kernel
theorem d_X13_count_192 : decode cX13_count 192 = .ok (.ifCond .eq 7, 3) := by decide +kernel
theorem d_X13_count_195 : decode cX13_count 195 = .ok (.iconst 1, 1) := by decide +kernel
theorem d_X13_count_196 : decode cX13_count 196 = .ok (.goto 8, 3) := by decide +kernel
theorem d_X13_count_199 : decode cX13_count 199 = .ok (.iconst 0, 1) := by decide +kernel
theorem d_X13_count_200 : decode cX13_count 200 = .ok (.goto 4, 3) := by decide +kernel
theorem d_X13_count_203 : decode cX13_count 203 = .ok (.iconst (-1), 1) := by decide +kernel
theorem d_X13_count_204 : decode cX13_count 204 = .ok (.ireturn, 1) := by decide +kernel
abbrev rm_X13_count : Room := { frames := 1, cells := 0, slots := 0, locals := 21 }
def B_X13_count_204 (post : Int32 → (Nat → Nat → Int32) → Prop) (s0 : Int32) (mm : (Nat → Nat → Int32)) : Prop := post s0 mm
def B_X13_count_12 (post : Int32 → (Nat → Nat → Int32) → Prop) : Nat → Int32 → Int32 → Int32 → Int32 → (Nat → Nat → Int32) → Prop
  | 0 => fun _ _ _ _ _ => False
  | n + 1 => fun v1 v2 v3 v4 mm => ((mm 1 (Int32.toNatClampNeg (1 : Int32))) < v4 → ((¬ v1 = 0 → ((¬ v1 = 1 → ((¬ v1 = 2 → ((¬ v1 = 3 → ((¬ v1 = 4 → ((¬ v1 = 5 → ((¬ v1 = 6 → ((¬ v1 = 7 → ((¬ v1 = 8 → ((¬ v1 = 9 → (B_X13_count_204 post (-1) mm)) ∧ (v1 = 9 → (w_X13_isFrost (fun (r1 : Bool) (u2 : (Nat → Nat → Int32)) => ((r1 = false) → (B_X13_count_204 post 0 u2)) ∧ (¬ (r1 = false) → (B_X13_count_204 post 1 u2)))  mm)))) ∧ (v1 = 8 → (B_X13_count_204 post v3 mm)))) ∧ (v1 = 7 → (B_X13_count_204 post v2 mm)))) ∧ (v1 = 6 → (B_X13_count_204 post (mm 1 (Int32.toNatClampNeg (9 : Int32))) mm)))) ∧ (v1 = 5 → (B_X13_count_204 post (mm 1 (Int32.toNatClampNeg (5 : Int32))) mm)))) ∧ (v1 = 4 → (B_X13_count_204 post (mm 1 (Int32.toNatClampNeg (4 : Int32))) mm)))) ∧ (v1 = 3 → (B_X13_count_204 post (mm 1 (Int32.toNatClampNeg (3 : Int32))) mm)))) ∧ (v1 = 2 → (B_X13_count_204 post (mm 1 (Int32.toNatClampNeg (2 : Int32))) mm)))) ∧ (v1 = 1 → (B_X13_count_204 post (mm 1 (Int32.toNatClampNeg (0 : Int32))) mm)))) ∧ (v1 = 0 → (B_X13_count_204 post (mm 1 (Int32.toNatClampNeg (1 : Int32))) mm)))) ∧ (¬ (mm 1 (Int32.toNatClampNeg (1 : Int32))) < v4 → ((vp_in ((46 + (4 * v4)) + 3) 25530) ∧ (vp_in ((46 + (4 * v4)) + 2) 25530) ∧ B_X13_count_12 post n v1 (v2 + (mm 1 (Int32.toNatClampNeg ((46 + (4 * v4)) + 3)))) (v3 + (mm 1 (Int32.toNatClampNeg ((46 + (4 * v4)) + 2)))) (v4 + 1) mm))
def w_X13_count (post : Int32 → (Nat → Nat → Int32) → Prop) (x1 : Int32) (mm : (Nat → Nat → Int32)) : Prop := ∃ n12, B_X13_count_12 post n12 x1 0 0 1 (up2 mm 0 0 0)
section G_X13_count
variable {p : Program} {l : Launch} {e : Env} {s : State} {m : MethodId} {args : Array Value} {below : List Frame} {meth : Method} {c : Code} {G : Gd} {ρ : Nat → Nat} {A : Nat → Prop} {cm : CMu} {oo : Nat → Int64}
set_option maxHeartbeats 4000000 in
set_option maxRecDepth 100000 in
theorem T_X13_count_204 {post : Int32 → (Nat → Nat → Int32) → Prop} (hl : l.stackTraces = false) (X : MC p l s m args meth c cX13_count 5 RX13 G ρ A) (hr : meth.sig.returnType = (some .int)) (hex : ∀ z ∈ c.exceptionTable.toList, False) : ∀ (s0 : Int32) (mm : (Nat → Nat → Int32)), B_X13_count_204 post s0 mm → LW p l e rm_X13_count s m args below meth c (Qm below G ρ A (PI (fun u => (cm, u, oo)) post) noX args s 0 0) G ρ A 5 0 0 204 [] [.int s0] (cm, mm, oo) := by
  intro s0 mm h
  unfold B_X13_count_204 at h
  exact L_iret (pc := 204) X hr d_X13_count_204 (by decide) (by decide) ⟨_, _, rfl, rfl, h⟩
set_option maxHeartbeats 4000000 in
set_option maxRecDepth 100000 in
theorem T_X13_count_12 {post : Int32 → (Nat → Nat → Int32) → Prop} (hl : l.stackTraces = false) (X : MC p l s m args meth c cX13_count 5 RX13 G ρ A) (hr : meth.sig.returnType = (some .int)) (hex : ∀ z ∈ c.exceptionTable.toList, False) (n : Nat) : ∀ (v1 : Int32) (v2 : Int32) (v3 : Int32) (v4 : Int32) (mm : (Nat → Nat → Int32)), B_X13_count_12 post n v1 v2 v3 v4 mm → LW p l e rm_X13_count s m args below meth c (Qm below G ρ A (PI (fun u => (cm, u, oo)) post) noX args s 0 0) G ρ A 5 0 0 12 [(0, .ref 703), (1, .int v1), (2, .int v2), (3, .int v3), (4, .int v4)] [] (cm, mm, oo) := by
  induction n with
  | zero =>
    intro v1 v2 v3 v4 mm h
    exact False.elim h
  | succ n ih =>
    intro v1 v2 v3 v4 mm h
    unfold B_X13_count_12 at h
    refine L_iload (pc := 12) X d_X13_count_12 4 rfl ?_
    refine L_aload_n (pc := 14) X d_X13_count_14 rfl 0 rfl ?_
    refine gf_X13_7 (pc := 15) X d_X13_count_15 ?_
    refine L_iconst (pc := 18) (v := 1) X d_X13_count_18 (by decide) ?_
    refine L_ialdM (pc := 19) (a := 1) X d_X13_count_19 kd_704 (by unfold vp_in; decide) ?_
    refine L_icmp_gt (pc := 20) (tgt := 63) X d_X13_count_20 (by decide) (fun c20 => ?_) (fun c20 => ?_)
    · replace h := h.1 c20
      refine L_iload_n (pc := 63) X d_X13_count_63 rfl 1 rfl ?_
      refine L_if_ne (pc := 64) (tgt := 76) X d_X13_count_64 (by decide) (fun c64 => ?_) (fun c64 => ?_)
      · replace h := h.1 c64
        refine L_iload_n (pc := 76) X d_X13_count_76 rfl 1 rfl ?_
        refine L_iconst (pc := 77) (v := 1) X d_X13_count_77 (by decide) ?_
        refine L_icmp_ne (pc := 78) (tgt := 90) X d_X13_count_78 (by decide) (fun c78 => ?_) (fun c78 => ?_)
        · replace h := h.1 c78
          refine L_iload_n (pc := 90) X d_X13_count_90 rfl 1 rfl ?_
          refine L_iconst (pc := 91) (v := 2) X d_X13_count_91 (by decide) ?_
          refine L_icmp_ne (pc := 92) (tgt := 104) X d_X13_count_92 (by decide) (fun c92 => ?_) (fun c92 => ?_)
          · replace h := h.1 c92
            refine L_iload_n (pc := 104) X d_X13_count_104 rfl 1 rfl ?_
            refine L_iconst (pc := 105) (v := 3) X d_X13_count_105 (by decide) ?_
            refine L_icmp_ne (pc := 106) (tgt := 118) X d_X13_count_106 (by decide) (fun c106 => ?_) (fun c106 => ?_)
            · replace h := h.1 c106
              refine L_iload_n (pc := 118) X d_X13_count_118 rfl 1 rfl ?_
              refine L_iconst (pc := 119) (v := 4) X d_X13_count_119 (by decide) ?_
              refine L_icmp_ne (pc := 120) (tgt := 132) X d_X13_count_120 (by decide) (fun c120 => ?_) (fun c120 => ?_)
              · replace h := h.1 c120
                refine L_iload_n (pc := 132) X d_X13_count_132 rfl 1 rfl ?_
                refine L_iconst (pc := 133) (v := 5) X d_X13_count_133 (by decide) ?_
                refine L_icmp_ne (pc := 134) (tgt := 146) X d_X13_count_134 (by decide) (fun c134 => ?_) (fun c134 => ?_)
                · replace h := h.1 c134
                  refine L_iload_n (pc := 146) X d_X13_count_146 rfl 1 rfl ?_
                  refine L_bipush (pc := 147) (v := 6) X d_X13_count_147 (by decide) ?_
                  refine L_icmp_ne (pc := 149) (tgt := 162) X d_X13_count_149 (by decide) (fun c149 => ?_) (fun c149 => ?_)
                  · replace h := h.1 c149
                    refine L_iload_n (pc := 162) X d_X13_count_162 rfl 1 rfl ?_
                    refine L_bipush (pc := 163) (v := 7) X d_X13_count_163 (by decide) ?_
                    refine L_icmp_ne (pc := 165) (tgt := 172) X d_X13_count_165 (by decide) (fun c165 => ?_) (fun c165 => ?_)
                    · replace h := h.1 c165
                      refine L_iload_n (pc := 172) X d_X13_count_172 rfl 1 rfl ?_
                      refine L_bipush (pc := 173) (v := 8) X d_X13_count_173 (by decide) ?_
                      refine L_icmp_ne (pc := 175) (tgt := 182) X d_X13_count_175 (by decide) (fun c175 => ?_) (fun c175 => ?_)
                      · replace h := h.1 c175
                        refine L_iload_n (pc := 182) X d_X13_count_182 rfl 1 rfl ?_
                        refine L_bipush (pc := 183) (v := 9) X d_X13_count_183 (by decide) ?_
                        refine L_icmp_ne (pc := 185) (tgt := 203) X d_X13_count_185 (by decide) (fun c185 => ?_) (fun c185 => ?_)
                        · replace h := h.1 c185
                          refine L_iconst (pc := 203) (v := (-1)) X d_X13_count_203 (by decide) ?_
                          refine LW.sub [] rfl ?_
                          exact T_X13_count_204 hl X hr hex _  _ h
                        · replace h := h.2 c185
                          refine L_aload_n (pc := 188) X d_X13_count_188 rfl 0 rfl ?_
                          refine L_callVZ (pc := 189) X lk_X13_148 (c_X13_isFrost X.hst  h) rfl rfl kd_703 (by decide) rfl rfl ⟨by decide, by decide⟩ ⟨by decide, by decide⟩ (Nat.zero_le _) d_X13_count_189 rfl (fun x κ1 hx => L_nox hx) (fun r1 u2 h => ?_)
                          refine L_if_eq (pc := 192) (tgt := 199) X d_X13_count_192 (by decide) (fun c192 => ?_) (fun c192 => ?_)
                          · replace h := h.1 ((b2_0 _).mp c192)
                            refine L_iconst (pc := 199) (v := 0) X d_X13_count_199 (by decide) ?_
                            refine L_goto (pc := 200) (tgt := 204) X d_X13_count_200 (by decide) ?_
                            refine LW.sub [] rfl ?_
                            exact T_X13_count_204 hl X hr hex _  _ h
                          · replace h := h.2 (fun z => c192 ((b2_0 _).mpr z))
                            refine L_iconst (pc := 195) (v := 1) X d_X13_count_195 (by decide) ?_
                            refine L_goto (pc := 196) (tgt := 204) X d_X13_count_196 (by decide) ?_
                            refine LW.sub [] rfl ?_
                            exact T_X13_count_204 hl X hr hex _  _ h
                      · replace h := h.2 c175
                        refine L_iload_n (pc := 178) X d_X13_count_178 rfl 3 rfl ?_
                        refine L_goto (pc := 179) (tgt := 204) X d_X13_count_179 (by decide) ?_
                        refine LW.sub [] rfl ?_
                        exact T_X13_count_204 hl X hr hex _  _ h
                    · replace h := h.2 c165
                      refine L_iload_n (pc := 168) X d_X13_count_168 rfl 2 rfl ?_
                      refine L_goto (pc := 169) (tgt := 204) X d_X13_count_169 (by decide) ?_
                      refine LW.sub [] rfl ?_
                      exact T_X13_count_204 hl X hr hex _  _ h
                  · replace h := h.2 c149
                    refine L_aload_n (pc := 152) X d_X13_count_152 rfl 0 rfl ?_
                    refine gf_X13_7 (pc := 153) X d_X13_count_153 ?_
                    refine L_bipush (pc := 156) (v := 9) X d_X13_count_156 (by decide) ?_
                    refine L_ialdM (pc := 158) (a := 1) X d_X13_count_158 kd_704 (by unfold vp_in; decide) ?_
                    refine L_goto (pc := 159) (tgt := 204) X d_X13_count_159 (by decide) ?_
                    refine LW.sub [] rfl ?_
                    exact T_X13_count_204 hl X hr hex _  _ h
                · replace h := h.2 c134
                  refine L_aload_n (pc := 137) X d_X13_count_137 rfl 0 rfl ?_
                  refine gf_X13_7 (pc := 138) X d_X13_count_138 ?_
                  refine L_iconst (pc := 141) (v := 5) X d_X13_count_141 (by decide) ?_
                  refine L_ialdM (pc := 142) (a := 1) X d_X13_count_142 kd_704 (by unfold vp_in; decide) ?_
                  refine L_goto (pc := 143) (tgt := 204) X d_X13_count_143 (by decide) ?_
                  refine LW.sub [] rfl ?_
                  exact T_X13_count_204 hl X hr hex _  _ h
              · replace h := h.2 c120
                refine L_aload_n (pc := 123) X d_X13_count_123 rfl 0 rfl ?_
                refine gf_X13_7 (pc := 124) X d_X13_count_124 ?_
                refine L_iconst (pc := 127) (v := 4) X d_X13_count_127 (by decide) ?_
                refine L_ialdM (pc := 128) (a := 1) X d_X13_count_128 kd_704 (by unfold vp_in; decide) ?_
                refine L_goto (pc := 129) (tgt := 204) X d_X13_count_129 (by decide) ?_
                refine LW.sub [] rfl ?_
                exact T_X13_count_204 hl X hr hex _  _ h
            · replace h := h.2 c106
              refine L_aload_n (pc := 109) X d_X13_count_109 rfl 0 rfl ?_
              refine gf_X13_7 (pc := 110) X d_X13_count_110 ?_
              refine L_iconst (pc := 113) (v := 3) X d_X13_count_113 (by decide) ?_
              refine L_ialdM (pc := 114) (a := 1) X d_X13_count_114 kd_704 (by unfold vp_in; decide) ?_
              refine L_goto (pc := 115) (tgt := 204) X d_X13_count_115 (by decide) ?_
              refine LW.sub [] rfl ?_
              exact T_X13_count_204 hl X hr hex _  _ h
          · replace h := h.2 c92
            refine L_aload_n (pc := 95) X d_X13_count_95 rfl 0 rfl ?_
            refine gf_X13_7 (pc := 96) X d_X13_count_96 ?_
            refine L_iconst (pc := 99) (v := 2) X d_X13_count_99 (by decide) ?_
            refine L_ialdM (pc := 100) (a := 1) X d_X13_count_100 kd_704 (by unfold vp_in; decide) ?_
            refine L_goto (pc := 101) (tgt := 204) X d_X13_count_101 (by decide) ?_
            refine LW.sub [] rfl ?_
            exact T_X13_count_204 hl X hr hex _  _ h
        · replace h := h.2 c78
          refine L_aload_n (pc := 81) X d_X13_count_81 rfl 0 rfl ?_
          refine gf_X13_7 (pc := 82) X d_X13_count_82 ?_
          refine L_iconst (pc := 85) (v := 0) X d_X13_count_85 (by decide) ?_
          refine L_ialdM (pc := 86) (a := 1) X d_X13_count_86 kd_704 (by unfold vp_in; decide) ?_
          refine L_goto (pc := 87) (tgt := 204) X d_X13_count_87 (by decide) ?_
          refine LW.sub [] rfl ?_
          exact T_X13_count_204 hl X hr hex _  _ h
      · replace h := h.2 c64
        refine L_aload_n (pc := 67) X d_X13_count_67 rfl 0 rfl ?_
        refine gf_X13_7 (pc := 68) X d_X13_count_68 ?_
        refine L_iconst (pc := 71) (v := 1) X d_X13_count_71 (by decide) ?_
        refine L_ialdM (pc := 72) (a := 1) X d_X13_count_72 kd_704 (by unfold vp_in; decide) ?_
        refine L_goto (pc := 73) (tgt := 204) X d_X13_count_73 (by decide) ?_
        refine LW.sub [] rfl ?_
        exact T_X13_count_204 hl X hr hex _  _ h
    · replace h := h.2 c20
      refine L_iload_n (pc := 23) X d_X13_count_23 rfl 2 rfl ?_
      refine L_aload_n (pc := 24) X d_X13_count_24 rfl 0 rfl ?_
      refine gf_X13_7 (pc := 25) X d_X13_count_25 ?_
      refine L_bipush (pc := 28) (v := 46) X d_X13_count_28 (by decide) ?_
      refine L_iconst (pc := 30) (v := 4) X d_X13_count_30 (by decide) ?_
      refine L_iload (pc := 31) X d_X13_count_31 4 rfl ?_
      refine L_imul (pc := 33) X d_X13_count_33 ?_
      refine L_iadd (pc := 34) X d_X13_count_34 ?_
      refine L_iconst (pc := 35) (v := 3) X d_X13_count_35 (by decide) ?_
      refine L_iadd (pc := 36) X d_X13_count_36 ?_
      obtain ⟨q3, h⟩ := h
      refine L_ialdM (pc := 37) (a := 1) X d_X13_count_37 kd_704 q3 ?_
      refine L_iadd (pc := 38) X d_X13_count_38 ?_
      refine L_istore_n (pc := 39) (lv2 := [(2, .int (v2 + (mm 1 (Int32.toNatClampNeg ((46 + (4 * v4)) + 3))))), (0, .ref 703), (1, .int v1), (3, .int v3), (4, .int v4)]) X d_X13_count_39 rfl (by decide) rfl ?_
      refine L_iload_n (pc := 40) X d_X13_count_40 rfl 3 rfl ?_
      refine L_aload_n (pc := 41) X d_X13_count_41 rfl 1 rfl ?_
      refine gf_X13_7 (pc := 42) X d_X13_count_42 ?_
      refine L_bipush (pc := 45) (v := 46) X d_X13_count_45 (by decide) ?_
      refine L_iconst (pc := 47) (v := 4) X d_X13_count_47 (by decide) ?_
      refine L_iload (pc := 48) X d_X13_count_48 4 rfl ?_
      refine L_imul (pc := 50) X d_X13_count_50 ?_
      refine L_iadd (pc := 51) X d_X13_count_51 ?_
      refine L_iconst (pc := 52) (v := 2) X d_X13_count_52 (by decide) ?_
      refine L_iadd (pc := 53) X d_X13_count_53 ?_
      obtain ⟨q4, h⟩ := h
      refine L_ialdM (pc := 54) (a := 1) X d_X13_count_54 kd_704 q4 ?_
      refine L_iadd (pc := 55) X d_X13_count_55 ?_
      refine L_istore_n (pc := 56) (lv2 := [(3, .int (v3 + (mm 1 (Int32.toNatClampNeg ((46 + (4 * v4)) + 2))))), (2, .int (v2 + (mm 1 (Int32.toNatClampNeg ((46 + (4 * v4)) + 3))))), (0, .ref 703), (1, .int v1), (4, .int v4)]) X d_X13_count_56 rfl (by decide) rfl ?_
      refine L_iinc (pc := 57) (v := v4 + 1) (lv2 := [(4, .int (v4 + 1)), (3, .int (v3 + (mm 1 (Int32.toNatClampNeg ((46 + (4 * v4)) + 2))))), (2, .int (v2 + (mm 1 (Int32.toNatClampNeg ((46 + (4 * v4)) + 3))))), (0, .ref 703), (1, .int v1)]) X d_X13_count_57 4 rfl rfl (by decide) rfl ?_
      refine L_goto (pc := 60) (tgt := 12) X d_X13_count_60 (by decide) ?_
      refine LW.sub [3, 4, 2, 1, 0] rfl ?_
      exact ih _ _ _ _  _ h
set_option maxHeartbeats 4000000 in
set_option maxRecDepth 100000 in
theorem c_X13_count (hl : l.stackTraces = false) {x1 : Int32} {mm : (Nat → Nat → Int32)} {post : Int32 → (Nat → Nat → Int32) → Prop} (h : w_X13_count post x1 mm) : CT l yX13_count (.code yX13_count cX13_count 5 (some .int)) rm_X13_count 0 0 G ρ [.ref 703, .int x1] (cm, mm, oo) (PI (fun u => (cm, u, oo)) post) noX := by
  refine CT_of hl (by decide +kernel) rfl (Nat.le_of_ble_eq_true rfl) (lv0 := [(0, .ref 703), (1, .int x1)]) rfl (fun p e s m args below meth c A X hr hex hnm => ?_)
  unfold w_X13_count at h
  refine L_aload_n (pc := 0) X d_X13_count_0 rfl 0 rfl ?_
  refine L_iconst (pc := 1) (v := 0) X d_X13_count_1 (by decide) ?_
  refine pf_X13_47 (pc := 2) X d_X13_count_2 ?_
  refine L_iconst (pc := 5) (v := 0) X d_X13_count_5 (by decide) ?_
  refine L_istore_n (pc := 6) (lv2 := [(2, .int 0), (0, .ref 703), (1, .int x1)]) X d_X13_count_6 rfl (by decide) rfl ?_
  refine L_iconst (pc := 7) (v := 0) X d_X13_count_7 (by decide) ?_
  refine L_istore_n (pc := 8) (lv2 := [(3, .int 0), (2, .int 0), (0, .ref 703), (1, .int x1)]) X d_X13_count_8 rfl (by decide) rfl ?_
  refine L_iconst (pc := 9) (v := 1) X d_X13_count_9 (by decide) ?_
  refine L_istore (pc := 10) (lv2 := [(4, .int 1), (3, .int 0), (2, .int 0), (0, .ref 703), (1, .int x1)]) X d_X13_count_10 (by decide) rfl ?_
  obtain ⟨n12, h⟩ := h
  refine LW.sub [3, 4, 2, 1, 0] rfl ?_
  exact T_X13_count_12 hl X hr hex n12 _ _ _ _  _ h
end G_X13_count
