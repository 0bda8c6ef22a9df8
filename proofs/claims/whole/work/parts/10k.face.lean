theorem lk_X6_33 : LinkV RX6 33 RX4 yX4_lengthBetween (.code yX4_lengthBetween cX4_lengthBetween 5 (some .int)) 2 := ⟨tw_1150, tw_1105, tw_1106, tw_78, tw_1107, yk_X4_lengthBetween⟩
theorem yk_X6_delaySome : yX6_delaySome.cls = RX6 ∧ yX6_delaySome.cls ≠ "java/lang/invoke/MethodHandle" ∧ yX6_delaySome.cls ≠ "java/lang/invoke/VarHandle" ∧ (parseMethodDescriptor yX6_delaySome.desc).map (fun d => d.parameters.length) = some 0 := by decide +kernel
theorem lk_X6_46 : LinkV RX6 46 RX6 yX6_delaySome (.code yX6_delaySome cX6_delaySome 5 (some .boolean)) 0 := ⟨tw_1152, tw_1154, tw_29, tw_79, tw_1155, yk_X6_delaySome⟩
theorem d_X6_settle_0 : decode cX6_settle 0 = .ok (.iconst 0, 1) := by decide +kernel
theorem d_X6_settle_1 : decode cX6_settle 1 = .ok (.istore_n 2, 1) := by decide +kernel
theorem d_X6_settle_2 : decode cX6_settle 2 = .ok (.iload_n 2, 1) := by decide +kernel
theorem d_X6_settle_3 : decode cX6_settle 3 = .ok (.aload_n 0, 1) := by decide +kernel
theorem d_X6_settle_4 : decode cX6_settle 4 = .ok (.getfield 29, 3) := by decide +kernel
theorem d_X6_settle_7 : decode cX6_settle 7 = .ok (.if_icmp .ge 46, 3) := by decide +kernel
theorem d_X6_settle_10 : decode cX6_settle 10 = .ok (.aload_n 0, 1) := by decide +kernel
theorem d_X6_settle_11 : decode cX6_settle 11 = .ok (.getfield 23, 3) := by decide +kernel
theorem d_X6_settle_14 : decode cX6_settle 14 = .ok (.iload_n 2, 1) := by decide +kernel
theorem d_X6_settle_15 : decode cX6_settle 15 = .ok (.iconst 0, 1) := by decide +kernel
theorem d_X6_settle_16 : decode cX6_settle 16 = .ok (.iastore, 1) := by decide +kernel
theorem d_X6_settle_17 : decode cX6_settle 17 = .ok (.aload_n 0, 1) := by decide +kernel
theorem d_X6_settle_18 : decode cX6_settle 18 = .ok (.getfield 26, 3) := by decide +kernel
theorem d_X6_settle_21 : decode cX6_settle 21 = .ok (.iload_n 2, 1) := by decide +kernel
theorem d_X6_settle_22 : decode cX6_settle 22 = .ok (.aload_n 1, 1) := by decide +kernel
theorem d_X6_settle_23 : decode cX6_settle 23 = .ok (.iconst 0, 1) := by decide +kernel
theorem d_X6_settle_24 : decode cX6_settle 24 = .ok (.aload_n 0, 1) := by decide +kernel
theorem d_X6_settle_25 : decode cX6_settle 25 = .ok (.getfield 9, 3) := by decide +kernel
theorem d_X6_settle_28 : decode cX6_settle 28 = .ok (.iload_n 2, 1) := by decide +kernel
theorem d_X6_settle_29 : decode cX6_settle 29 = .ok (.iaload, 1) := by decide +kernel
theorem d_X6_settle_30 : decode cX6_settle 30 = .ok (.invokevirtual 33, 3) := by decide +kernel
theorem d_X6_settle_33 : decode cX6_settle 33 = .ok (.aload_n 0, 1) := by decide +kernel
theorem d_X6_settle_34 : decode cX6_settle 34 = .ok (.getfield 15, 3) := by decide +kernel
theorem d_X6_settle_37 : decode cX6_settle 37 = .ok (.iload_n 2, 1) := by decide +kernel
theorem d_X6_settle_38 : decode cX6_settle 38 = .ok (.iaload, 1) := by decide +kernel
theorem d_X6_settle_39 : decode cX6_settle 39 = .ok (.aload_n 1, 1) := by decide +kernel
theorem d_X6_settle_40 : decode cX6_settle 40 = .ok (.getfield 39, 3) := by decide +kernel
theorem d_X6_settle_43 : decode cX6_settle 43 = .ok (.invokestatic 42, 3) := by decide +kernel
theorem d_X6_settle_46 : decode cX6_settle 46 = .ok (.iastore, 1) := by decide +kernel
theorem d_X6_settle_47 : decode cX6_settle 47 = .ok (.iinc 2 1, 3) := by decide +kernel
theorem d_X6_settle_50 : decode cX6_settle 50 = .ok (.goto (-48), 3) := by decide +kernel
theorem d_X6_settle_53 : decode cX6_settle 53 = .ok (.iconst 0, 1) := by decide +kernel
theorem d_X6_settle_54 : decode cX6_settle 54 = .ok (.istore_n 2, 1) := by decide +kernel
theorem d_X6_settle_55 : decode cX6_settle 55 = .ok (.iload_n 2, 1) := by decide +kernel
theorem d_X6_settle_56 : decode cX6_settle 56 = .ok (.aload_n 0, 1) := by decide +kernel
theorem d_X6_settle_57 : decode cX6_settle 57 = .ok (.getfield 29, 3) := by decide +kernel
theorem d_X6_settle_60 : decode cX6_settle 60 = .ok (.if_icmp .gt 18, 3) := by decide +kernel
theorem d_X6_settle_63 : decode cX6_settle 63 = .ok (.aload_n 0, 1) := by decide +kernel
theorem d_X6_settle_64 : decode cX6_settle 64 = .ok (.invokevirtual 46, 3) := by decide +kernel
theorem d_X6_settle_67 : decode cX6_settle 67 = .ok (.ifCond .ne 5, 3) := by decide +kernel
theorem d_X6_settle_70 : decode cX6_settle 70 = .ok (.iconst 1, 1) := by decide +kernel
theorem d_X6_settle_71 : decode cX6_settle 71 = .ok (.ireturn, 1) := by decide +kernel
theorem d_X6_settle_72 : decode cX6_settle 72 = .ok (.iinc 2 1, 3) := by decide +kernel
theorem d_X6_settle_75 : decode cX6_settle 75 = .ok (.goto (-20), 3) := by decide +kernel
theorem d_X6_settle_78 : decode cX6_settle 78 = .ok (.iconst 0, 1) := by decide +kernel
theorem d_X6_settle_79 : decode cX6_settle 79 = .ok (.ireturn, 1) := by decide +kernel
abbrev rm_X6_settle : Room := { frames := 5, cells := 0, slots := 0, locals := 84 }
def B_X6_settle_55 (post : Bool → CMu → Prop) : Nat → Nat → Int32 → CMu → Prop
  | 0 => fun _ _ _ => False
  | n + 1 => fun v0 v2 cm => ((gI cm v0 3) < v2 → (post false cm)) ∧ (¬ (gI cm v0 3) < v2 → (w_X6_delaySome (fun (r9 : Bool) (u10 : CMu) => (¬ (r9 = false) → (B_X6_settle_55 post n v0 (v2 + 1) u10)) ∧ ((r9 = false) → (post true u10))) v0 cm))
def B_X6_settle_2 (post : Bool → CMu → Prop) : Nat → Nat → Nat → Int32 → CMu → Prop
  | 0 => fun _ _ _ _ => False
  | n + 1 => fun v0 v1 v2 cm => ((gI cm v0 3) ≤ v2 → (∃ n55, B_X6_settle_55 post n55 v0 0 cm)) ∧ (¬ (gI cm v0 3) ≤ v2 → ((vp_in v2 12) ∧ (vp_in v2 12) ∧ w_X4_lengthBetween (fun (r3 : Int32) (u4 : CMu) => (vp_in v2 12) ∧ w_X12_minutesFor (fun (r6 : Int32) (u7 : CMu) => (vp_in v2 12) ∧ B_X6_settle_2 post n v0 v1 (v2 + 1) (uI u7 (v0 + 17) (Int32.toNatClampNeg v2) r6)) r3 (gI u4 (v0 + 2) (Int32.toNatClampNeg v2)) (gI u4 v1 9) u4) v1 0 (gI (uI cm (v0 + 16) (Int32.toNatClampNeg v2) 0) (v0 + 1) (Int32.toNatClampNeg v2)) (uI cm (v0 + 16) (Int32.toNatClampNeg v2) 0)))
def w_X6_settle (post : Bool → CMu → Prop) (a0 : Nat) (a1 : Nat) (cm : CMu) : Prop := ∃ n2, B_X6_settle_2 post n2 a0 a1 0 cm
section G_X6_settle
variable {p : Program} {l : Launch} {e : Env} {s : State} {m : MethodId} {args : Array Value} {below : List Frame} {meth : Method} {c : Code} {G : Gd} {ρ : Nat → Nat} {A : Nat → Prop} {mm : Nat → Nat → Int32} {oo : Nat → Int64}
set_option maxHeartbeats 4000000 in
set_option maxRecDepth 100000 in
theorem T_X6_settle_55 {post : Bool → CMu → Prop} (hl : l.stackTraces = false) (X : MC p l s m args meth c cX6_settle 3 RX6 G ρ A) (hr : meth.sig.returnType = (some .boolean)) (hex : ∀ z ∈ c.exceptionTable.toList, False) (n : Nat) : ∀ (v0 : Nat) (v2 : Int32) (h_v0 : (KD v0).1 = 5) (cm : CMu), B_X6_settle_55 post n v0 v2 cm → LW p l e rm_X6_settle s m args below meth c (Qm below G ρ A (PZ (fun u => (u, mm, oo)) post) noX args s 0 0) G ρ A 3 0 0 55 [(0, .ref v0), (2, .int v2)] [] (cm, mm, oo) := by
  induction n with
  | zero =>
    intro v0 v2 h_v0 cm h
    exact False.elim h
  | succ n ih =>
    intro v0 v2 h_v0 cm h
    unfold B_X6_settle_55 at h
    refine L_iload_n (pc := 55) X d_X6_settle_55 rfl 1 rfl ?_
    refine L_aload_n (pc := 56) X d_X6_settle_56 rfl 0 rfl ?_
    refine gf_X6_29 (pc := 57) X d_X6_settle_57 h_v0 ?_
    refine L_icmp_gt (pc := 60) (tgt := 78) X d_X6_settle_60 (by decide) (fun c60 => ?_) (fun c60 => ?_)
    · replace h := h.1 c60
      refine L_iconst (pc := 78) (v := 0) X d_X6_settle_78 (by decide) ?_
      exact L_zretB (pc := 79) X hr d_X6_settle_79 false rfl (by decide) (by decide) ⟨_, _, rfl, rfl, h⟩
    · replace h := h.2 c60
      refine L_aload_n (pc := 63) X d_X6_settle_63 rfl 0 rfl ?_
      refine L_callVZ (pc := 64) X lk_X6_46 (c_X6_delaySome X.hst h_v0 h) rfl rfl h_v0 (by decide) rfl rfl ⟨by decide, by decide⟩ ⟨by decide, by decide⟩ (Nat.zero_le _) d_X6_settle_64 rfl (fun x κ1 hx => L_nox hx) (fun r9 u10 h => ?_)
      refine L_if_ne (pc := 67) (tgt := 72) X d_X6_settle_67 (by decide) (fun c67 => ?_) (fun c67 => ?_)
      · replace h := h.1 (fun z => c67 ((b2_0 _).mpr z))
        refine L_iinc (pc := 72) (v := v2 + 1) (lv2 := [(2, .int (v2 + 1)), (0, .ref v0)]) X d_X6_settle_72 1 rfl rfl (by decide) rfl ?_
        refine L_goto (pc := 75) (tgt := 55) X d_X6_settle_75 (by decide) ?_
        refine LW.sub [1, 0] rfl ?_
        exact ih _ _ h_v0 _ h
      · replace h := h.2 ((b2_0 _).mp c67)
        refine L_iconst (pc := 70) (v := 1) X d_X6_settle_70 (by decide) ?_
        exact L_zretB (pc := 71) X hr d_X6_settle_71 true rfl (by decide) (by decide) ⟨_, _, rfl, rfl, h⟩
set_option maxHeartbeats 4000000 in
set_option maxRecDepth 100000 in
theorem T_X6_settle_2 {post : Bool → CMu → Prop} (hl : l.stackTraces = false) (X : MC p l s m args meth c cX6_settle 3 RX6 G ρ A) (hr : meth.sig.returnType = (some .boolean)) (hex : ∀ z ∈ c.exceptionTable.toList, False) (n : Nat) : ∀ (v0 : Nat) (v1 : Nat) (v2 : Int32) (h_v0 : (KD v0).1 = 5) (h_v1 : (KD v1).1 = 3) (cm : CMu), B_X6_settle_2 post n v0 v1 v2 cm → LW p l e rm_X6_settle s m args below meth c (Qm below G ρ A (PZ (fun u => (u, mm, oo)) post) noX args s 0 0) G ρ A 3 0 0 2 [(0, .ref v0), (1, .ref v1), (2, .int v2)] [] (cm, mm, oo) := by
  induction n with
  | zero =>
    intro v0 v1 v2 h_v0 h_v1 cm h
    exact False.elim h
  | succ n ih =>
    intro v0 v1 v2 h_v0 h_v1 cm h
    unfold B_X6_settle_2 at h
    refine L_iload_n (pc := 2) X d_X6_settle_2 rfl 2 rfl ?_
    refine L_aload_n (pc := 3) X d_X6_settle_3 rfl 0 rfl ?_
    refine gf_X6_29 (pc := 4) X d_X6_settle_4 h_v0 ?_
    refine L_icmp_ge (pc := 7) (tgt := 53) X d_X6_settle_7 (by decide) (fun c7 => ?_) (fun c7 => ?_)
    · replace h := h.1 c7
      refine L_iconst (pc := 53) (v := 0) X d_X6_settle_53 (by decide) ?_
      refine L_istore_n (pc := 54) (lv2 := [(2, .int 0), (0, .ref v0), (1, .ref v1)]) X d_X6_settle_54 rfl (by decide) rfl ?_
      obtain ⟨n55, h⟩ := h
      refine LW.sub [1, 0] rfl ?_
      exact T_X6_settle_55 hl X hr hex n55 _ _ h_v0 _ h
    · replace h := h.2 c7
      refine L_aload_n (pc := 10) X d_X6_settle_10 rfl 0 rfl ?_
      refine gf_X6_23 (pc := 11) (b := v0 + 16) X d_X6_settle_11 h_v0 rfl ?_
      refine L_iload_n (pc := 14) X d_X6_settle_14 rfl 2 rfl ?_
      refine L_iconst (pc := 15) (v := 0) X d_X6_settle_15 (by decide) ?_
      obtain ⟨q1, h⟩ := h
      refine L_iast (pc := 16) X d_X6_settle_16 (kf_5_4 h_v0) q1 ?_
      refine L_aload_n (pc := 17) X d_X6_settle_17 rfl 0 rfl ?_
      refine gf_X6_26 (pc := 18) (b := v0 + 17) X d_X6_settle_18 h_v0 rfl ?_
      refine L_iload_n (pc := 21) X d_X6_settle_21 rfl 2 rfl ?_
      refine L_aload_n (pc := 22) X d_X6_settle_22 rfl 1 rfl ?_
      refine L_iconst (pc := 23) (v := 0) X d_X6_settle_23 (by decide) ?_
      refine L_aload_n (pc := 24) X d_X6_settle_24 rfl 0 rfl ?_
      refine gf_X6_9 (pc := 25) (b := v0 + 1) X d_X6_settle_25 h_v0 rfl ?_
      refine L_iload_n (pc := 28) X d_X6_settle_28 rfl 2 rfl ?_
      obtain ⟨q2, h⟩ := h
      refine L_iald (pc := 29) X d_X6_settle_29 (kf_5_0 h_v0) q2 ?_
      refine L_callVI (pc := 30) X lk_X6_33 (c_X4_lengthBetween X.hst h_v1 h) rfl rfl h_v1 (by decide) rfl rfl ⟨by decide, by decide⟩ ⟨by decide, by decide⟩ (Nat.le_of_ble_eq_true rfl) d_X6_settle_30 rfl (fun x κ1 hx => L_nox hx) (fun r3 u4 h => ?_)
      refine L_aload_n (pc := 33) X d_X6_settle_33 rfl 0 rfl ?_
      refine gf_X6_15 (pc := 34) (b := v0 + 2) X d_X6_settle_34 h_v0 rfl ?_
      refine L_iload_n (pc := 37) X d_X6_settle_37 rfl 2 rfl ?_
      obtain ⟨q5, h⟩ := h
      refine L_iald (pc := 38) X d_X6_settle_38 (kf_5_1 h_v0) q5 ?_
      refine L_aload_n (pc := 39) X d_X6_settle_39 rfl 1 rfl ?_
      refine gf_X6_39 (pc := 40) X d_X6_settle_40 h_v1 ?_
      refine L_callSNI (pc := 43) X (host := RX12) (by decide) tw_1016 tw_72 tw_1017 yk_X12_minutesFor (c_X12_minutesFor X.hst  h) rfl rfl rfl ⟨by decide, by decide⟩ ⟨by decide, by decide⟩ (Nat.le_of_ble_eq_true rfl) d_X6_settle_43 rfl (fun r6 u7 h => ?_)
      obtain ⟨q8, h⟩ := h
      refine L_iast (pc := 46) X d_X6_settle_46 (kf_5_5 h_v0) q8 ?_
      refine L_iinc (pc := 47) (v := v2 + 1) (lv2 := [(2, .int (v2 + 1)), (0, .ref v0), (1, .ref v1)]) X d_X6_settle_47 2 rfl rfl (by decide) rfl ?_
      refine L_goto (pc := 50) (tgt := 2) X d_X6_settle_50 (by decide) ?_
      refine LW.sub [1, 2, 0] rfl ?_
      exact ih _ _ _ h_v0 h_v1 _ h
set_option maxHeartbeats 4000000 in
set_option maxRecDepth 100000 in
theorem c_X6_settle (hl : l.stackTraces = false) {a0 : Nat} {a1 : Nat} (h_a0 : (KD a0).1 = 5) (h_a1 : (KD a1).1 = 3) {cm : CMu} {post : Bool → CMu → Prop} (h : w_X6_settle post a0 a1 cm) : CT l yX6_settle (.code yX6_settle cX6_settle 3 (some .boolean)) rm_X6_settle 0 0 G ρ [.ref a0, .ref a1] (cm, mm, oo) (PZ (fun u => (u, mm, oo)) post) noX := by
  refine CT_of hl (by decide +kernel) rfl (Nat.le_of_ble_eq_true rfl) (lv0 := [(0, .ref a0), (1, .ref a1)]) rfl (fun p e s m args below meth c A X hr hex hnm => ?_)
  unfold w_X6_settle at h
  refine L_iconst (pc := 0) (v := 0) X d_X6_settle_0 (by decide) ?_
  refine L_istore_n (pc := 1) (lv2 := [(2, .int 0), (0, .ref a0), (1, .ref a1)]) X d_X6_settle_1 rfl (by decide) rfl ?_
  obtain ⟨n2, h⟩ := h
  refine LW.sub [1, 2, 0] rfl ?_
  exact T_X6_settle_2 hl X hr hex n2 _ _ _ h_a0 h_a1 _ h
end G_X6_settle
theorem d_X8_comesAsTold_0 : decode cX8_comesAsTold 0 = .ok (.iconst 0, 1) := by decide +kernel
theorem d_X8_comesAsTold_1 : decode cX8_comesAsTold 1 = .ok (.istore_n 3, 1) := by decide +kernel
theorem d_X8_comesAsTold_2 : decode cX8_comesAsTold 2 = .ok (.iload_n 3, 1) := by decide +kernel
theorem d_X8_comesAsTold_3 : decode cX8_comesAsTold 3 = .ok (.aload_n 0, 1) := by decide +kernel
theorem d_X8_comesAsTold_4 : decode cX8_comesAsTold 4 = .ok (.getfield 24, 3) := by decide +kernel
theorem d_X8_comesAsTold_7 : decode cX8_comesAsTold 7 = .ok (.if_icmp .ge 28, 3) := by decide +kernel
theorem d_X8_comesAsTold_10 : decode cX8_comesAsTold 10 = .ok (.aload_n 0, 1) := by decide +kernel
theorem d_X8_comesAsTold_11 : decode cX8_comesAsTold 11 = .ok (.getfield 18, 3) := by decide +kernel
theorem d_X8_comesAsTold_14 : decode cX8_comesAsTold 14 = .ok (.iload_n 3, 1) := by decide +kernel
theorem d_X8_comesAsTold_15 : decode cX8_comesAsTold 15 = .ok (.iload_n 3, 1) := by decide +kernel
theorem d_X8_comesAsTold_16 : decode cX8_comesAsTold 16 = .ok (.iload_n 1, 1) := by decide +kernel
theorem d_X8_comesAsTold_17 : decode cX8_comesAsTold 17 = .ok (.aload_n 0, 1) := by decide +kernel
theorem d_X8_comesAsTold_18 : decode cX8_comesAsTold 18 = .ok (.getfield 15, 3) := by decide +kernel
theorem d_X8_comesAsTold_21 : decode cX8_comesAsTold 21 = .ok (.iload_n 3, 1) := by decide +kernel
theorem d_X8_comesAsTold_22 : decode cX8_comesAsTold 22 = .ok (.iaload, 1) := by decide +kernel
theorem d_X8_comesAsTold_23 : decode cX8_comesAsTold 23 = .ok (.iload_n 2, 1) := by decide +kernel
theorem d_X8_comesAsTold_24 : decode cX8_comesAsTold 24 = .ok (.invokestatic 57, 3) := by decide +kernel
theorem d_X8_comesAsTold_27 : decode cX8_comesAsTold 27 = .ok (.iadd, 1) := by decide +kernel
theorem d_X8_comesAsTold_28 : decode cX8_comesAsTold 28 = .ok (.iastore, 1) := by decide +kernel
theorem d_X8_comesAsTold_29 : decode cX8_comesAsTold 29 = .ok (.iinc 3 1, 3) := by decide +kernel
theorem d_X8_comesAsTold_32 : decode cX8_comesAsTold 32 = .ok (.goto (-30), 3) := by decide +kernel
theorem d_X8_comesAsTold_35 : decode cX8_comesAsTold 35 = .ok (.iconst 0, 1) := by decide +kernel
theorem d_X8_comesAsTold_36 : decode cX8_comesAsTold 36 = .ok (.istore_n 3, 1) := by decide +kernel
theorem d_X8_comesAsTold_37 : decode cX8_comesAsTold 37 = .ok (.iconst 0, 1) := by decide +kernel
theorem d_X8_comesAsTold_38 : decode cX8_comesAsTold 38 = .ok (.istore 4, 2) := by decide +kernel
theorem d_X8_comesAsTold_40 : decode cX8_comesAsTold 40 = .ok (.iload 4, 2) := by decide +kernel
theorem d_X8_comesAsTold_42 : decode cX8_comesAsTold 42 = .ok (.aload_n 0, 1) := by decide +kernel
theorem d_X8_comesAsTold_43 : decode cX8_comesAsTold 43 = .ok (.getfield 24, 3) := by decide +kernel
theorem d_X8_comesAsTold_46 : decode cX8_comesAsTold 46 = .ok (.if_icmp .ge 98, 3) := by decide +kernel
theorem d_X8_comesAsTold_49 : decode cX8_comesAsTold 49 = .ok (.iconst (-1), 1) := by decide +kernel
theorem d_X8_comesAsTold_50 : decode cX8_comesAsTold 50 = .ok (.istore 5, 2) := by decide +kernel
theorem d_X8_comesAsTold_52 : decode cX8_comesAsTold 52 = .ok (.iconst 0, 1) := by decide +kernel
theorem d_X8_comesAsTold_53 : decode cX8_comesAsTold 53 = .ok (.istore 6, 2) := by decide +kernel
theorem d_X8_comesAsTold_55 : decode cX8_comesAsTold 55 = .ok (.iload 6, 2) := by decide +kernel
theorem d_X8_comesAsTold_57 : decode cX8_comesAsTold 57 = .ok (.aload_n 0, 1) := by decide +kernel
theorem d_X8_comesAsTold_58 : decode cX8_comesAsTold 58 = .ok (.getfield 24, 3) := by decide +kernel
theorem d_X8_comesAsTold_61 : decode cX8_comesAsTold 61 = .ok (.if_icmp .ge 45, 3) := by decide +kernel
theorem d_X8_comesAsTold_64 : decode cX8_comesAsTold 64 = .ok (.iload_n 3, 1) := by decide +kernel
theorem d_X8_comesAsTold_65 : decode cX8_comesAsTold 65 = .ok (.iconst 1, 1) := by decide +kernel
theorem d_X8_comesAsTold_66 : decode cX8_comesAsTold 66 = .ok (.iload 6, 2) := by decide +kernel
theorem d_X8_comesAsTold_68 : decode cX8_comesAsTold 68 = .ok (.ishl, 1) := by decide +kernel
theorem d_X8_comesAsTold_69 : decode cX8_comesAsTold 69 = .ok (.iand, 1) := by decide +kernel
theorem d_X8_comesAsTold_70 : decode cX8_comesAsTold 70 = .ok (.ifCond .ne 30, 3) := by decide +kernel
theorem d_X8_comesAsTold_73 : decode cX8_comesAsTold 73 = .ok (.iload 5, 2) := by decide +kernel
theorem d_X8_comesAsTold_75 : decode cX8_comesAsTold 75 = .ok (.iconst (-1), 1) := by decide +kernel
theorem d_X8_comesAsTold_76 : decode cX8_comesAsTold 76 = .ok (.if_icmp .eq 20, 3) := by decide +kernel
theorem d_X8_comesAsTold_79 : decode cX8_comesAsTold 79 = .ok (.aload_n 0, 1) := by decide +kernel
theorem d_X8_comesAsTold_80 : decode cX8_comesAsTold 80 = .ok (.getfield 18, 3) := by decide +kernel
theorem d_X8_comesAsTold_83 : decode cX8_comesAsTold 83 = .ok (.iload 6, 2) := by decide +kernel
theorem d_X8_comesAsTold_85 : decode cX8_comesAsTold 85 = .ok (.iaload, 1) := by decide +kernel
theorem d_X8_comesAsTold_86 : decode cX8_comesAsTold 86 = .ok (.aload_n 0, 1) := by decide +kernel
theorem d_X8_comesAsTold_87 : decode cX8_comesAsTold 87 = .ok (.getfield 18, 3) := by decide +kernel
theorem d_X8_comesAsTold_90 : decode cX8_comesAsTold 90 = .ok (.iload 5, 2) := by decide +kernel
theorem d_X8_comesAsTold_92 : decode cX8_comesAsTold 92 = .ok (.iaload, 1) := by decide +kernel
theorem d_X8_comesAsTold_93 : decode cX8_comesAsTold 93 = .ok (.if_icmp .ge 7, 3) := by decide +kernel
theorem d_X8_comesAsTold_96 : decode cX8_comesAsTold 96 = .ok (.iload 6, 2) := by decide +kernel
theorem d_X8_comesAsTold_98 : decode cX8_comesAsTold 98 = .ok (.istore 5, 2) := by decide +kernel
theorem d_X8_comesAsTold_100 : decode cX8_comesAsTold 100 = .ok (.iinc 6 1, 3) := by decide +kernel
theorem d_X8_comesAsTold_103 : decode cX8_comesAsTold 103 = .ok (.goto (-48), 3) := by decide +kernel
theorem d_X8_comesAsTold_106 : decode cX8_comesAsTold 106 = .ok (.iload 5, 2) := by decide +kernel
theorem d_X8_comesAsTold_108 : decode cX8_comesAsTold 108 = .ok (.iconst (-1), 1) := by decide +kernel
theorem d_X8_comesAsTold_109 : decode cX8_comesAsTold 109 = .ok (.if_icmp .eq 20, 3) := by decide +kernel
theorem d_X8_comesAsTold_112 : decode cX8_comesAsTold 112 = .ok (.aload_n 0, 1) := by decide +kernel
theorem d_X8_comesAsTold_113 : decode cX8_comesAsTold 113 = .ok (.getfield 15, 3) := by decide +kernel
theorem d_X8_comesAsTold_116 : decode cX8_comesAsTold 116 = .ok (.iload 5, 2) := by decide +kernel
theorem d_X8_comesAsTold_118 : decode cX8_comesAsTold 118 = .ok (.iaload, 1) := by decide +kernel
theorem d_X8_comesAsTold_119 : decode cX8_comesAsTold 119 = .ok (.aload_n 0, 1) := by decide +kernel
theorem d_X8_comesAsTold_120 : decode cX8_comesAsTold 120 = .ok (.getfield 9, 3) := by decide +kernel
theorem d_X8_comesAsTold_123 : decode cX8_comesAsTold 123 = .ok (.iload 4, 2) := by decide +kernel
theorem d_X8_comesAsTold_125 : decode cX8_comesAsTold 125 = .ok (.iaload, 1) := by decide +kernel
theorem d_X8_comesAsTold_126 : decode cX8_comesAsTold 126 = .ok (.if_icmp .eq 5, 3) := by decide +kernel
theorem d_X8_comesAsTold_129 : decode cX8_comesAsTold 129 = .ok (.iconst 0, 1) := by decide +kernel
theorem d_X8_comesAsTold_130 : decode cX8_comesAsTold 130 = .ok (.ireturn, 1) := by decide +kernel
theorem d_X8_comesAsTold_131 : decode cX8_comesAsTold 131 = .ok (.iload_n 3, 1) := by decide +kernel
theorem d_X8_comesAsTold_132 : decode cX8_comesAsTold 132 = .ok (.iconst 1, 1) := by decide +kernel
theorem d_X8_comesAsTold_133 : decode cX8_comesAsTold 133 = .ok (.iload 5, 2) := by decide +kernel
theorem d_X8_comesAsTold_135 : decode cX8_comesAsTold 135 = .ok (.ishl, 1) := by decide +kernel
theorem d_X8_comesAsTold_136 : decode cX8_comesAsTold 136 = .ok (.ior, 1) := by decide +kernel
theorem d_X8_comesAsTold_137 : decode cX8_comesAsTold 137 = .ok (.istore_n 3, 1) := by decide +kernel
theorem d_X8_comesAsTold_138 : decode cX8_comesAsTold 138 = .ok (.iinc 4 1, 3) := by decide +kernel
theorem d_X8_comesAsTold_141 : decode cX8_comesAsTold 141 = .ok (.goto (-101), 3) := by decide +kernel
theorem d_X8_comesAsTold_144 : decode cX8_comesAsTold 144 = .ok (.iconst 1, 1) := by decide +kernel
theorem d_X8_comesAsTold_145 : decode cX8_comesAsTold 145 = .ok (.ireturn, 1) := by decide +kernel
abbrev rm_X8_comesAsTold : Room := { frames := 1, cells := 0, slots := 0, locals := 22 }
def B_X8_comesAsTold_129 (post : Bool → CMu → Prop) (k40 : Int32 → Int32 → CMu → Prop) (cm : CMu) : Prop := post false cm
def B_X8_comesAsTold_100 (post : Bool → CMu → Prop) (k40 : Int32 → Int32 → CMu → Prop) (k55 : Int32 → Int32 → Int32 → Int32 → CMu → Prop) (v3 : Int32) (v4 : Int32) (v5 : Int32) (v6 : Int32) (cm : CMu) : Prop := k55 v3 v4 v5 (v6 + 1) cm
def B_X8_comesAsTold_96 (post : Bool → CMu → Prop) (k40 : Int32 → Int32 → CMu → Prop) (k55 : Int32 → Int32 → Int32 → Int32 → CMu → Prop) (v3 : Int32) (v4 : Int32) (v6 : Int32) (cm : CMu) : Prop := B_X8_comesAsTold_100 post k40 k55 v3 v4 v6 v6 cm
def B_X8_comesAsTold_55 (post : Bool → CMu → Prop) (k40 : Int32 → Int32 → CMu → Prop) : Nat → Int32 → Int32 → Int32 → Int32 → CMu → Prop
  | 0 => fun _ _ _ _ _ => False
  | n + 1 => fun v3 v4 v5 v6 cm => ((gI cm 377 4) ≤ v6 → ((v5 = (-1) → (B_X8_comesAsTold_129 post k40 cm)) ∧ (¬ v5 = (-1) → ((vp_in v5 6) ∧ (vp_in v4 6) ∧ ((gI cm 379 (Int32.toNatClampNeg v5)) = (gI cm 378 (Int32.toNatClampNeg v4)) → (k40 (v3 ||| (1 <<< (v5 &&& 31))) (v4 + 1) cm)) ∧ (¬ (gI cm 379 (Int32.toNatClampNeg v5)) = (gI cm 378 (Int32.toNatClampNeg v4)) → (B_X8_comesAsTold_129 post k40 cm)))))) ∧ (¬ (gI cm 377 4) ≤ v6 → ((¬ (v3 &&& (1 <<< (v6 &&& 31))) = 0 → (B_X8_comesAsTold_100 post k40 (B_X8_comesAsTold_55 post k40 n) v3 v4 v5 v6 cm)) ∧ ((v3 &&& (1 <<< (v6 &&& 31))) = 0 → ((v5 = (-1) → (B_X8_comesAsTold_96 post k40 (B_X8_comesAsTold_55 post k40 n) v3 v4 v6 cm)) ∧ (¬ v5 = (-1) → ((vp_in v6 6) ∧ (vp_in v5 6) ∧ ((gI cm 380 (Int32.toNatClampNeg v5)) ≤ (gI cm 380 (Int32.toNatClampNeg v6)) → (B_X8_comesAsTold_100 post k40 (B_X8_comesAsTold_55 post k40 n) v3 v4 v5 v6 cm)) ∧ (¬ (gI cm 380 (Int32.toNatClampNeg v5)) ≤ (gI cm 380 (Int32.toNatClampNeg v6)) → (B_X8_comesAsTold_96 post k40 (B_X8_comesAsTold_55 post k40 n) v3 v4 v6 cm))))))))
def B_X8_comesAsTold_40 (post : Bool → CMu → Prop) : Nat → Int32 → Int32 → CMu → Prop
  | 0 => fun _ _ _ => False
  | n + 1 => fun v3 v4 cm => ((gI cm 377 4) ≤ v4 → (post true cm)) ∧ (¬ (gI cm 377 4) ≤ v4 → (∃ n55, B_X8_comesAsTold_55 post (B_X8_comesAsTold_40 post n) n55 v3 v4 (-1) 0 cm))
def B_X8_comesAsTold_2 (post : Bool → CMu → Prop) : Nat → Int32 → Int32 → Int32 → CMu → Prop
  | 0 => fun _ _ _ _ => False
  | n + 1 => fun v1 v2 v3 cm => ((gI cm 377 4) ≤ v3 → (∃ n40, B_X8_comesAsTold_40 post n40 0 0 cm)) ∧ (¬ (gI cm 377 4) ≤ v3 → ((vp_in v3 6) ∧ w_X12_minutesFor (fun (r2 : Int32) (u3 : CMu) => (vp_in v3 6) ∧ B_X8_comesAsTold_2 post n v1 v2 (v3 + 1) (uI u3 380 (Int32.toNatClampNeg v3) (v3 + r2))) v1 (gI cm 379 (Int32.toNatClampNeg v3)) v2 cm))
def w_X8_comesAsTold (post : Bool → CMu → Prop) (x1 : Int32) (x2 : Int32) (cm : CMu) : Prop := ∃ n2, B_X8_comesAsTold_2 post n2 x1 x2 0 cm
section G_X8_comesAsTold
variable {p : Program} {l : Launch} {e : Env} {s : State} {m : MethodId} {args : Array Value} {below : List Frame} {meth : Method} {c : Code} {G : Gd} {ρ : Nat → Nat} {A : Nat → Prop} {mm : Nat → Nat → Int32} {oo : Nat → Int64}
set_option maxHeartbeats 4000000 in
set_option maxRecDepth 100000 in
theorem T_X8_comesAsTold_129 {post : Bool → CMu → Prop} {k40 : Int32 → Int32 → CMu → Prop} (hl : l.stackTraces = false) (X : MC p l s m args meth c cX8_comesAsTold 7 RX8 G ρ A) (hr : meth.sig.returnType = (some .boolean)) (hex : ∀ z ∈ c.exceptionTable.toList, False)
    (hk40 : ∀ (v3 : Int32) (v4 : Int32) (cm : CMu), k40 v3 v4 cm → LW p l e rm_X8_comesAsTold s m args below meth c (Qm below G ρ A (PZ (fun u => (u, mm, oo)) post) noX args s 0 0) G ρ A 7 0 0 40 [(0, .ref 377), (3, .int v3), (4, .int v4)] [] (cm, mm, oo)) : ∀ (cm : CMu), B_X8_comesAsTold_129 post k40 cm → LW p l e rm_X8_comesAsTold s m args below meth c (Qm below G ρ A (PZ (fun u => (u, mm, oo)) post) noX args s 0 0) G ρ A 7 0 0 129 [] [] (cm, mm, oo) := by
  intro cm h
  unfold B_X8_comesAsTold_129 at h
  refine L_iconst (pc := 129) (v := 0) X d_X8_comesAsTold_129 (by decide) ?_
  exact L_zretB (pc := 130) X hr d_X8_comesAsTold_130 false rfl (by decide) (by decide) ⟨_, _, rfl, rfl, h⟩
set_option maxHeartbeats 4000000 in
set_option maxRecDepth 100000 in
theorem T_X8_comesAsTold_100 {post : Bool → CMu → Prop} {k40 : Int32 → Int32 → CMu → Prop} {k55 : Int32 → Int32 → Int32 → Int32 → CMu → Prop} (hl : l.stackTraces = false) (X : MC p l s m args meth c cX8_comesAsTold 7 RX8 G ρ A) (hr : meth.sig.returnType = (some .boolean)) (hex : ∀ z ∈ c.exceptionTable.toList, False)
    (hk40 : ∀ (v3 : Int32) (v4 : Int32) (cm : CMu), k40 v3 v4 cm → LW p l e rm_X8_comesAsTold s m args below meth c (Qm below G ρ A (PZ (fun u => (u, mm, oo)) post) noX args s 0 0) G ρ A 7 0 0 40 [(0, .ref 377), (3, .int v3), (4, .int v4)] [] (cm, mm, oo))
    (hk55 : ∀ (v3 : Int32) (v4 : Int32) (v5 : Int32) (v6 : Int32) (cm : CMu), k55 v3 v4 v5 v6 cm → LW p l e rm_X8_comesAsTold s m args below meth c (Qm below G ρ A (PZ (fun u => (u, mm, oo)) post) noX args s 0 0) G ρ A 7 0 0 55 [(0, .ref 377), (3, .int v3), (4, .int v4), (5, .int v5), (6, .int v6)] [] (cm, mm, oo)) : ∀ (v3 : Int32) (v4 : Int32) (v5 : Int32) (v6 : Int32) (cm : CMu), B_X8_comesAsTold_100 post k40 k55 v3 v4 v5 v6 cm → LW p l e rm_X8_comesAsTold s m args below meth c (Qm below G ρ A (PZ (fun u => (u, mm, oo)) post) noX args s 0 0) G ρ A 7 0 0 100 [(0, .ref 377), (3, .int v3), (4, .int v4), (5, .int v5), (6, .int v6)] [] (cm, mm, oo) := by
  intro v3 v4 v5 v6 cm h
  unfold B_X8_comesAsTold_100 at h
  refine L_iinc (pc := 100) (v := v6 + 1) (lv2 := [(6, .int (v6 + 1)), (0, .ref 377), (3, .int v3), (4, .int v4), (5, .int v5)]) X d_X8_comesAsTold_100 4 rfl rfl (by decide) rfl ?_
  refine L_goto (pc := 103) (tgt := 55) X d_X8_comesAsTold_103 (by decide) ?_
  refine LW.sub [1, 2, 3, 4, 0] rfl ?_
  exact hk55 _ _ _ _  _ h
set_option maxHeartbeats 4000000 in
set_option maxRecDepth 100000 in
theorem T_X8_comesAsTold_96 {post : Bool → CMu → Prop} {k40 : Int32 → Int32 → CMu → Prop} {k55 : Int32 → Int32 → Int32 → Int32 → CMu → Prop} (hl : l.stackTraces = false) (X : MC p l s m args meth c cX8_comesAsTold 7 RX8 G ρ A) (hr : meth.sig.returnType = (some .boolean)) (hex : ∀ z ∈ c.exceptionTable.toList, False)
    (hk40 : ∀ (v3 : Int32) (v4 : Int32) (cm : CMu), k40 v3 v4 cm → LW p l e rm_X8_comesAsTold s m args below meth c (Qm below G ρ A (PZ (fun u => (u, mm, oo)) post) noX args s 0 0) G ρ A 7 0 0 40 [(0, .ref 377), (3, .int v3), (4, .int v4)] [] (cm, mm, oo))
    (hk55 : ∀ (v3 : Int32) (v4 : Int32) (v5 : Int32) (v6 : Int32) (cm : CMu), k55 v3 v4 v5 v6 cm → LW p l e rm_X8_comesAsTold s m args below meth c (Qm below G ρ A (PZ (fun u => (u, mm, oo)) post) noX args s 0 0) G ρ A 7 0 0 55 [(0, .ref 377), (3, .int v3), (4, .int v4), (5, .int v5), (6, .int v6)] [] (cm, mm, oo)) : ∀ (v3 : Int32) (v4 : Int32) (v6 : Int32) (cm : CMu), B_X8_comesAsTold_96 post k40 k55 v3 v4 v6 cm → LW p l e rm_X8_comesAsTold s m args below meth c (Qm below G ρ A (PZ (fun u => (u, mm, oo)) post) noX args s 0 0) G ρ A 7 0 0 96 [(0, .ref 377), (3, .int v3), (4, .int v4), (6, .int v6)] [] (cm, mm, oo) := by
  intro v3 v4 v6 cm h
  unfold B_X8_comesAsTold_96 at h
  refine L_iload (pc := 96) X d_X8_comesAsTold_96 3 rfl ?_
  refine L_istore (pc := 98) (lv2 := [(5, .int v6), (0, .ref 377), (3, .int v3), (4, .int v4), (6, .int v6)]) X d_X8_comesAsTold_98 (by decide) rfl ?_
  refine LW.sub [1, 2, 3, 0, 4] rfl ?_
  exact T_X8_comesAsTold_100 hl X hr hex hk40 hk55 _ _ _ _  _ h
set_option maxHeartbeats 4000000 in
set_option maxRecDepth 100000 in
theorem T_X8_comesAsTold_55 {post : Bool → CMu → Prop} {k40 : Int32 → Int32 → CMu → Prop} (hl : l.stackTraces = false) (X : MC p l s m args meth c cX8_comesAsTold 7 RX8 G ρ A) (hr : meth.sig.returnType = (some .boolean)) (hex : ∀ z ∈ c.exceptionTable.toList, False)
    (hk40 : ∀ (v3 : Int32) (v4 : Int32) (cm : CMu), k40 v3 v4 cm → LW p l e rm_X8_comesAsTold s m args below meth c (Qm below G ρ A (PZ (fun u => (u, mm, oo)) post) noX args s 0 0) G ρ A 7 0 0 40 [(0, .ref 377), (3, .int v3), (4, .int v4)] [] (cm, mm, oo)) (n : Nat) : ∀ (v3 : Int32) (v4 : Int32) (v5 : Int32) (v6 : Int32) (cm : CMu), B_X8_comesAsTold_55 post k40 n v3 v4 v5 v6 cm → LW p l e rm_X8_comesAsTold s m args below meth c (Qm below G ρ A (PZ (fun u => (u, mm, oo)) post) noX args s 0 0) G ρ A 7 0 0 55 [(0, .ref 377), (3, .int v3), (4, .int v4), (5, .int v5), (6, .int v6)] [] (cm, mm, oo) := by
  induction n with
  | zero =>
    intro v3 v4 v5 v6 cm h
    exact False.elim h
  | succ n ih =>
    intro v3 v4 v5 v6 cm h
    unfold B_X8_comesAsTold_55 at h
    refine L_iload (pc := 55) X d_X8_comesAsTold_55 4 rfl ?_
    refine L_aload_n (pc := 57) X d_X8_comesAsTold_57 rfl 0 rfl ?_
    refine gf_X8_24 (pc := 58) X d_X8_comesAsTold_58 kd_377 ?_
    refine L_icmp_ge (pc := 61) (tgt := 106) X d_X8_comesAsTold_61 (by decide) (fun c61 => ?_) (fun c61 => ?_)
    · replace h := h.1 c61
      refine L_iload (pc := 106) X d_X8_comesAsTold_106 3 rfl ?_
      refine L_iconst (pc := 108) (v := (-1)) X d_X8_comesAsTold_108 (by decide) ?_
      refine L_icmp_eq (pc := 109) (tgt := 129) X d_X8_comesAsTold_109 (by decide) (fun c109 => ?_) (fun c109 => ?_)
      · replace h := h.1 c109
        refine LW.sub [] rfl ?_
        exact T_X8_comesAsTold_129 hl X hr hex hk40   _ h
      · replace h := h.2 c109
        refine L_aload_n (pc := 112) X d_X8_comesAsTold_112 rfl 0 rfl ?_
        refine gf_X8_15 (pc := 113) (b := 379) X d_X8_comesAsTold_113 kd_377 rfl ?_
        refine L_iload (pc := 116) X d_X8_comesAsTold_116 3 rfl ?_
        obtain ⟨q5, h⟩ := h
        refine L_iald (pc := 118) X d_X8_comesAsTold_118 kd_379 q5 ?_
        refine L_aload_n (pc := 119) X d_X8_comesAsTold_119 rfl 0 rfl ?_
        refine gf_X8_9 (pc := 120) (b := 378) X d_X8_comesAsTold_120 kd_377 rfl ?_
        refine L_iload (pc := 123) X d_X8_comesAsTold_123 2 rfl ?_
        obtain ⟨q6, h⟩ := h
        refine L_iald (pc := 125) X d_X8_comesAsTold_125 kd_378 q6 ?_
        refine L_icmp_eq (pc := 126) (tgt := 131) X d_X8_comesAsTold_126 (by decide) (fun c126 => ?_) (fun c126 => ?_)
        · replace h := h.1 c126
          refine L_iload_n (pc := 131) X d_X8_comesAsTold_131 rfl 1 rfl ?_
          refine L_iconst (pc := 132) (v := 1) X d_X8_comesAsTold_132 (by decide) ?_
          refine L_iload (pc := 133) X d_X8_comesAsTold_133 3 rfl ?_
          refine L_ishl (pc := 135) X d_X8_comesAsTold_135 ?_
          refine L_ior (pc := 136) X d_X8_comesAsTold_136 ?_
          refine L_istore_n (pc := 137) (lv2 := [(3, .int (v3 ||| (1 <<< (v5 &&& 31)))), (0, .ref 377), (4, .int v4), (5, .int v5), (6, .int v6)]) X d_X8_comesAsTold_137 rfl (by decide) rfl ?_
          refine L_iinc (pc := 138) (v := v4 + 1) (lv2 := [(4, .int (v4 + 1)), (3, .int (v3 ||| (1 <<< (v5 &&& 31)))), (0, .ref 377), (5, .int v5), (6, .int v6)]) X d_X8_comesAsTold_138 2 rfl rfl (by decide) rfl ?_
          refine L_goto (pc := 141) (tgt := 40) X d_X8_comesAsTold_141 (by decide) ?_
          refine LW.sub [2, 1, 0] rfl ?_
          exact hk40 _ _  _ h
        · replace h := h.2 c126
          refine LW.sub [] rfl ?_
          exact T_X8_comesAsTold_129 hl X hr hex hk40   _ h
    · replace h := h.2 c61
      refine L_iload_n (pc := 64) X d_X8_comesAsTold_64 rfl 1 rfl ?_
      refine L_iconst (pc := 65) (v := 1) X d_X8_comesAsTold_65 (by decide) ?_
      refine L_iload (pc := 66) X d_X8_comesAsTold_66 4 rfl ?_
      refine L_ishl (pc := 68) X d_X8_comesAsTold_68 ?_
      refine L_iand (pc := 69) X d_X8_comesAsTold_69 ?_
      refine L_if_ne (pc := 70) (tgt := 100) X d_X8_comesAsTold_70 (by decide) (fun c70 => ?_) (fun c70 => ?_)
      · replace h := h.1 c70
        refine LW.sub [0, 1, 2, 3, 4] rfl ?_
        exact T_X8_comesAsTold_100 hl X hr hex hk40 ih _ _ _ _  _ h
      · replace h := h.2 c70
        refine L_iload (pc := 73) X d_X8_comesAsTold_73 3 rfl ?_
        refine L_iconst (pc := 75) (v := (-1)) X d_X8_comesAsTold_75 (by decide) ?_
        refine L_icmp_eq (pc := 76) (tgt := 96) X d_X8_comesAsTold_76 (by decide) (fun c76 => ?_) (fun c76 => ?_)
        · replace h := h.1 c76
          refine LW.sub [0, 1, 2, 4] rfl ?_
          exact T_X8_comesAsTold_96 hl X hr hex hk40 ih _ _ _  _ h
        · replace h := h.2 c76
          refine L_aload_n (pc := 79) X d_X8_comesAsTold_79 rfl 0 rfl ?_
          refine gf_X8_18 (pc := 80) (b := 380) X d_X8_comesAsTold_80 kd_377 rfl ?_
          refine L_iload (pc := 83) X d_X8_comesAsTold_83 4 rfl ?_
          obtain ⟨q7, h⟩ := h
          refine L_iald (pc := 85) X d_X8_comesAsTold_85 kd_380 q7 ?_
          refine L_aload_n (pc := 86) X d_X8_comesAsTold_86 rfl 0 rfl ?_
          refine gf_X8_18 (pc := 87) (b := 380) X d_X8_comesAsTold_87 kd_377 rfl ?_
          refine L_iload (pc := 90) X d_X8_comesAsTold_90 3 rfl ?_
          obtain ⟨q8, h⟩ := h
          refine L_iald (pc := 92) X d_X8_comesAsTold_92 kd_380 q8 ?_
          refine L_icmp_ge (pc := 93) (tgt := 100) X d_X8_comesAsTold_93 (by decide) (fun c93 => ?_) (fun c93 => ?_)
          · replace h := h.1 c93
            refine LW.sub [0, 1, 2, 3, 4] rfl ?_
            exact T_X8_comesAsTold_100 hl X hr hex hk40 ih _ _ _ _  _ h
          · replace h := h.2 c93
            refine LW.sub [0, 1, 2, 4] rfl ?_
            exact T_X8_comesAsTold_96 hl X hr hex hk40 ih _ _ _  _ h
set_option maxHeartbeats 4000000 in
set_option maxRecDepth 100000 in
theorem T_X8_comesAsTold_40 {post : Bool → CMu → Prop} (hl : l.stackTraces = false) (X : MC p l s m args meth c cX8_comesAsTold 7 RX8 G ρ A) (hr : meth.sig.returnType = (some .boolean)) (hex : ∀ z ∈ c.exceptionTable.toList, False) (n : Nat) : ∀ (v3 : Int32) (v4 : Int32) (cm : CMu), B_X8_comesAsTold_40 post n v3 v4 cm → LW p l e rm_X8_comesAsTold s m args below meth c (Qm below G ρ A (PZ (fun u => (u, mm, oo)) post) noX args s 0 0) G ρ A 7 0 0 40 [(0, .ref 377), (3, .int v3), (4, .int v4)] [] (cm, mm, oo) := by
  induction n with
  | zero =>
    intro v3 v4 cm h
    exact False.elim h
  | succ n ih =>
    intro v3 v4 cm h
    unfold B_X8_comesAsTold_40 at h
    refine L_iload (pc := 40) X d_X8_comesAsTold_40 2 rfl ?_
    refine L_aload_n (pc := 42) X d_X8_comesAsTold_42 rfl 0 rfl ?_
    refine gf_X8_24 (pc := 43) X d_X8_comesAsTold_43 kd_377 ?_
    refine L_icmp_ge (pc := 46) (tgt := 144) X d_X8_comesAsTold_46 (by decide) (fun c46 => ?_) (fun c46 => ?_)
    · replace h := h.1 c46
      refine L_iconst (pc := 144) (v := 1) X d_X8_comesAsTold_144 (by decide) ?_
      exact L_zretB (pc := 145) X hr d_X8_comesAsTold_145 true rfl (by decide) (by decide) ⟨_, _, rfl, rfl, h⟩
    · replace h := h.2 c46
      refine L_iconst (pc := 49) (v := (-1)) X d_X8_comesAsTold_49 (by decide) ?_
      refine L_istore (pc := 50) (lv2 := [(5, .int (-1)), (0, .ref 377), (3, .int v3), (4, .int v4)]) X d_X8_comesAsTold_50 (by decide) rfl ?_
      refine L_iconst (pc := 52) (v := 0) X d_X8_comesAsTold_52 (by decide) ?_
      refine L_istore (pc := 53) (lv2 := [(6, .int 0), (5, .int (-1)), (0, .ref 377), (3, .int v3), (4, .int v4)]) X d_X8_comesAsTold_53 (by decide) rfl ?_
      obtain ⟨n55, h⟩ := h
      refine LW.sub [2, 3, 4, 1, 0] rfl ?_
      exact T_X8_comesAsTold_55 hl X hr hex ih n55 _ _ _ _  _ h
set_option maxHeartbeats 4000000 in
set_option maxRecDepth 100000 in
theorem T_X8_comesAsTold_2 {post : Bool → CMu → Prop} (hl : l.stackTraces = false) (X : MC p l s m args meth c cX8_comesAsTold 7 RX8 G ρ A) (hr : meth.sig.returnType = (some .boolean)) (hex : ∀ z ∈ c.exceptionTable.toList, False) (n : Nat) : ∀ (v1 : Int32) (v2 : Int32) (v3 : Int32) (cm : CMu), B_X8_comesAsTold_2 post n v1 v2 v3 cm → LW p l e rm_X8_comesAsTold s m args below meth c (Qm below G ρ A (PZ (fun u => (u, mm, oo)) post) noX args s 0 0) G ρ A 7 0 0 2 [(0, .ref 377), (1, .int v1), (2, .int v2), (3, .int v3)] [] (cm, mm, oo) := by
  induction n with
  | zero =>
    intro v1 v2 v3 cm h
    exact False.elim h
  | succ n ih =>
    intro v1 v2 v3 cm h
    unfold B_X8_comesAsTold_2 at h
    refine L_iload_n (pc := 2) X d_X8_comesAsTold_2 rfl 3 rfl ?_
    refine L_aload_n (pc := 3) X d_X8_comesAsTold_3 rfl 0 rfl ?_
    refine gf_X8_24 (pc := 4) X d_X8_comesAsTold_4 kd_377 ?_
    refine L_icmp_ge (pc := 7) (tgt := 35) X d_X8_comesAsTold_7 (by decide) (fun c7 => ?_) (fun c7 => ?_)
    · replace h := h.1 c7
      refine L_iconst (pc := 35) (v := 0) X d_X8_comesAsTold_35 (by decide) ?_
      refine L_istore_n (pc := 36) (lv2 := [(3, .int 0), (0, .ref 377), (1, .int v1), (2, .int v2)]) X d_X8_comesAsTold_36 rfl (by decide) rfl ?_
      refine L_iconst (pc := 37) (v := 0) X d_X8_comesAsTold_37 (by decide) ?_
      refine L_istore (pc := 38) (lv2 := [(4, .int 0), (3, .int 0), (0, .ref 377), (1, .int v1), (2, .int v2)]) X d_X8_comesAsTold_38 (by decide) rfl ?_
      obtain ⟨n40, h⟩ := h
      refine LW.sub [2, 1, 0] rfl ?_
      exact T_X8_comesAsTold_40 hl X hr hex n40 _ _  _ h
    · replace h := h.2 c7
      refine L_aload_n (pc := 10) X d_X8_comesAsTold_10 rfl 0 rfl ?_
      refine gf_X8_18 (pc := 11) (b := 380) X d_X8_comesAsTold_11 kd_377 rfl ?_
      refine L_iload_n (pc := 14) X d_X8_comesAsTold_14 rfl 3 rfl ?_
      refine L_iload_n (pc := 15) X d_X8_comesAsTold_15 rfl 3 rfl ?_
      refine L_iload_n (pc := 16) X d_X8_comesAsTold_16 rfl 1 rfl ?_
      refine L_aload_n (pc := 17) X d_X8_comesAsTold_17 rfl 0 rfl ?_
      refine gf_X8_15 (pc := 18) (b := 379) X d_X8_comesAsTold_18 kd_377 rfl ?_
      refine L_iload_n (pc := 21) X d_X8_comesAsTold_21 rfl 3 rfl ?_
      obtain ⟨q1, h⟩ := h
      refine L_iald (pc := 22) X d_X8_comesAsTold_22 kd_379 q1 ?_
      refine L_iload_n (pc := 23) X d_X8_comesAsTold_23 rfl 2 rfl ?_
      refine L_callSNI (pc := 24) X (host := RX12) (by decide) tw_1016 tw_72 tw_1017 yk_X12_minutesFor (c_X12_minutesFor X.hst  h) rfl rfl rfl ⟨by decide, by decide⟩ ⟨by decide, by decide⟩ (Nat.le_of_ble_eq_true rfl) d_X8_comesAsTold_24 rfl (fun r2 u3 h => ?_)
      refine L_iadd (pc := 27) X d_X8_comesAsTold_27 ?_
      obtain ⟨q4, h⟩ := h
      refine L_iast (pc := 28) X d_X8_comesAsTold_28 kd_380 q4 ?_
      refine L_iinc (pc := 29) (v := v3 + 1) (lv2 := [(3, .int (v3 + 1)), (0, .ref 377), (1, .int v1), (2, .int v2)]) X d_X8_comesAsTold_29 3 rfl rfl (by decide) rfl ?_
      refine L_goto (pc := 32) (tgt := 2) X d_X8_comesAsTold_32 (by decide) ?_
      refine LW.sub [1, 2, 3, 0] rfl ?_
      exact ih _ _ _  _ h
set_option maxHeartbeats 4000000 in
set_option maxRecDepth 100000 in
theorem c_X8_comesAsTold (hl : l.stackTraces = false) {x1 : Int32} {x2 : Int32} {cm : CMu} {post : Bool → CMu → Prop} (h : w_X8_comesAsTold post x1 x2 cm) : CT l yX8_comesAsTold (.code yX8_comesAsTold cX8_comesAsTold 7 (some .boolean)) rm_X8_comesAsTold 0 0 G ρ [.ref 377, .int x1, .int x2] (cm, mm, oo) (PZ (fun u => (u, mm, oo)) post) noX := by
  refine CT_of hl (by decide +kernel) rfl (Nat.le_of_ble_eq_true rfl) (lv0 := [(0, .ref 377), (1, .int x1), (2, .int x2)]) rfl (fun p e s m args below meth c A X hr hex hnm => ?_)
  unfold w_X8_comesAsTold at h
  refine L_iconst (pc := 0) (v := 0) X d_X8_comesAsTold_0 (by decide) ?_
  refine L_istore_n (pc := 1) (lv2 := [(3, .int 0), (0, .ref 377), (1, .int x1), (2, .int x2)]) X d_X8_comesAsTold_1 rfl (by decide) rfl ?_
  obtain ⟨n2, h⟩ := h
  refine LW.sub [1, 2, 3, 0] rfl ?_
  exact T_X8_comesAsTold_2 hl X hr hex n2 _ _ _  _ h
end G_X8_comesAsTold
theorem yk_X8_sortTold : yX8_sortTold.cls = RX8 ∧ yX8_sortTold.cls ≠ "java/lang/invoke/MethodHandle" ∧ yX8_sortTold.cls ≠ "java/lang/invoke/VarHandle" ∧ (parseMethodDescriptor yX8_sortTold.desc).map (fun d => d.parameters.length) = some 0 := by decide +kernel
theorem lk_X8_40 : LinkV RX8 40 RX8 yX8_sortTold (.code yX8_sortTold cX8_sortTold 3 none) 0 := ⟨tw_1201, tw_1203, tw_30, tw_77, tw_1204, yk_X8_sortTold⟩
theorem yk_X8_comesAsTold : yX8_comesAsTold.cls = RX8 ∧ yX8_comesAsTold.cls ≠ "java/lang/invoke/MethodHandle" ∧ yX8_comesAsTold.cls ≠ "java/lang/invoke/VarHandle" ∧ (parseMethodDescriptor yX8_comesAsTold.desc).map (fun d => d.parameters.length) = some 2 := by decide +kernel
theorem lk_X8_43 : LinkV RX8 43 RX8 yX8_comesAsTold (.code yX8_comesAsTold cX8_comesAsTold 7 (some .boolean)) 2 := ⟨tw_1205, tw_1207, tw_31, tw_77, tw_1208, yk_X8_comesAsTold⟩
theorem yk_X8_goToNext : yX8_goToNext.cls = RX8 ∧ yX8_goToNext.cls ≠ "java/lang/invoke/MethodHandle" ∧ yX8_goToNext.cls ≠ "java/lang/invoke/VarHandle" ∧ (parseMethodDescriptor yX8_goToNext.desc).map (fun d => d.parameters.length) = some 0 := by decide +kernel
theorem lk_X8_53 : LinkV RX8 53 RX8 yX8_goToNext (.code yX8_goToNext cX8_goToNext 5 (some .boolean)) 0 := ⟨tw_1213, tw_1215, tw_32, tw_77, tw_1216, yk_X8_goToNext⟩
theorem d_X8_tryAll_0 : decode cX8_tryAll 0 = .ok (.aload_n 0, 1) := by decide +kernel
theorem d_X8_tryAll_1 : decode cX8_tryAll 1 = .ok (.iconst 0, 1) := by decide +kernel
theorem d_X8_tryAll_2 : decode cX8_tryAll 2 = .ok (.putfield 37, 3) := by decide +kernel
theorem d_X8_tryAll_5 : decode cX8_tryAll 5 = .ok (.aload_n 0, 1) := by decide +kernel
theorem d_X8_tryAll_6 : decode cX8_tryAll 6 = .ok (.invokevirtual 40, 3) := by decide +kernel
theorem d_X8_tryAll_9 : decode cX8_tryAll 9 = .ok (.iconst 1, 1) := by decide +kernel
theorem d_X8_tryAll_10 : decode cX8_tryAll 10 = .ok (.istore_n 3, 1) := by decide +kernel
theorem d_X8_tryAll_11 : decode cX8_tryAll 11 = .ok (.iconst 0, 1) := by decide +kernel
theorem d_X8_tryAll_12 : decode cX8_tryAll 12 = .ok (.istore 4, 2) := by decide +kernel
theorem d_X8_tryAll_14 : decode cX8_tryAll 14 = .ok (.iload 4, 2) := by decide +kernel
theorem d_X8_tryAll_16 : decode cX8_tryAll 16 = .ok (.sipush 720, 3) := by decide +kernel
theorem d_X8_tryAll_19 : decode cX8_tryAll 19 = .ok (.if_icmp .ge 61, 3) := by decide +kernel
theorem d_X8_tryAll_22 : decode cX8_tryAll 22 = .ok (.iload_n 3, 1) := by decide +kernel
theorem d_X8_tryAll_23 : decode cX8_tryAll 23 = .ok (.ifCond .eq 57, 3) := by decide +kernel
theorem d_X8_tryAll_26 : decode cX8_tryAll 26 = .ok (.aload_n 0, 1) := by decide +kernel
theorem d_X8_tryAll_27 : decode cX8_tryAll 27 = .ok (.iload_n 1, 1) := by decide +kernel
theorem d_X8_tryAll_28 : decode cX8_tryAll 28 = .ok (.iload_n 2, 1) := by decide +kernel
theorem d_X8_tryAll_29 : decode cX8_tryAll 29 = .ok (.invokevirtual 43, 3) := by decide +kernel
theorem d_X8_tryAll_32 : decode cX8_tryAll 32 = .ok (.ifCond .eq 37, 3) := by decide +kernel
theorem d_X8_tryAll_35 : decode cX8_tryAll 35 = .ok (.aload_n 0, 1) := by decide +kernel
theorem d_X8_tryAll_36 : decode cX8_tryAll 36 = .ok (.getfield 37, 3) := by decide +kernel
theorem d_X8_tryAll_39 : decode cX8_tryAll 39 = .ok (.ifCond .ne 20, 3) := by decide +kernel
theorem d_X8_tryAll_42 : decode cX8_tryAll 42 = .ok (.aload_n 0, 1) := by decide +kernel
theorem d_X8_tryAll_43 : decode cX8_tryAll 43 = .ok (.getfield 15, 3) := by decide +kernel
theorem d_X8_tryAll_46 : decode cX8_tryAll 46 = .ok (.iconst 0, 1) := by decide +kernel
theorem d_X8_tryAll_47 : decode cX8_tryAll 47 = .ok (.aload_n 0, 1) := by decide +kernel
theorem d_X8_tryAll_48 : decode cX8_tryAll 48 = .ok (.getfield 21, 3) := by decide +kernel
theorem d_X8_tryAll_51 : decode cX8_tryAll 51 = .ok (.iconst 0, 1) := by decide +kernel
theorem d_X8_tryAll_52 : decode cX8_tryAll 52 = .ok (.aload_n 0, 1) := by decide +kernel
theorem d_X8_tryAll_53 : decode cX8_tryAll 53 = .ok (.getfield 24, 3) := by decide +kernel
theorem d_X8_tryAll_56 : decode cX8_tryAll 56 = .ok (.invokestatic 47, 3) := by decide +kernel
theorem d_X8_tryAll_59 : decode cX8_tryAll 59 = .ok (.aload_n 0, 1) := by decide +kernel
theorem d_X8_tryAll_60 : decode cX8_tryAll 60 = .ok (.dup, 1) := by decide +kernel
theorem d_X8_tryAll_61 : decode cX8_tryAll 61 = .ok (.getfield 37, 3) := by decide +kernel
theorem d_X8_tryAll_64 : decode cX8_tryAll 64 = .ok (.iconst 1, 1) := by decide +kernel
theorem d_X8_tryAll_65 : decode cX8_tryAll 65 = .ok (.iadd, 1) := by decide +kernel
theorem d_X8_tryAll_66 : decode cX8_tryAll 66 = .ok (.putfield 37, 3) := by decide +kernel
theorem d_X8_tryAll_69 : decode cX8_tryAll 69 = .ok (.aload_n 0, 1) := by decide +kernel
theorem d_X8_tryAll_70 : decode cX8_tryAll 70 = .ok (.invokevirtual 53, 3) := by decide +kernel
theorem d_X8_tryAll_73 : decode cX8_tryAll 73 = .ok (.istore_n 3, 1) := by decide +kernel
theorem d_X8_tryAll_74 : decode cX8_tryAll 74 = .ok (.iinc 4 1, 3) := by decide +kernel
theorem d_X8_tryAll_77 : decode cX8_tryAll 77 = .ok (.goto (-63), 3) := by decide +kernel
theorem d_X8_tryAll_80 : decode cX8_tryAll 80 = .ok (.return_, 1) := by decide +kernel
abbrev rm_X8_tryAll : Room := { frames := 4, cells := 0, slots := 0, locals := 60 }
def B_X8_tryAll_80 (post : CMu → Prop) (cm : CMu) : Prop := post cm
def B_X8_tryAll_69 (post : CMu → Prop) (k14 : Int32 → Int32 → Int32 → Int32 → CMu → Prop) (v1 : Int32) (v2 : Int32) (v4 : Int32) (cm : CMu) : Prop := w_X8_goToNext (fun (r7 : Bool) (u8 : CMu) => k14 v1 v2 (b2 r7) (v4 + 1) u8)  cm
def B_X8_tryAll_59 (post : CMu → Prop) (k14 : Int32 → Int32 → Int32 → Int32 → CMu → Prop) (v1 : Int32) (v2 : Int32) (v4 : Int32) (cm : CMu) : Prop := B_X8_tryAll_69 post k14 v1 v2 v4 (uI cm 377 5 ((gI cm 377 5) + 1))
def B_X8_tryAll_14 (post : CMu → Prop) : Nat → Int32 → Int32 → Int32 → Int32 → CMu → Prop
  | 0 => fun _ _ _ _ _ => False
  | n + 1 => fun v1 v2 v3 v4 cm => (720 ≤ v4 → (B_X8_tryAll_80 post cm)) ∧ (¬ 720 ≤ v4 → ((v3 = 0 → (B_X8_tryAll_80 post cm)) ∧ (¬ v3 = 0 → (w_X8_comesAsTold (fun (r3 : Bool) (u4 : CMu) => ((r3 = false) → (B_X8_tryAll_69 post (B_X8_tryAll_14 post n) v1 v2 v4 u4)) ∧ (¬ (r3 = false) → ((¬ (gI u4 377 5) = 0 → (B_X8_tryAll_59 post (B_X8_tryAll_14 post n) v1 v2 v4 u4)) ∧ ((gI u4 377 5) = 0 → ((¬ (gI u4 377 4) < 0) ∧ (Int32.toNatClampNeg (gI u4 377 4) ≤ 6) ∧ B_X8_tryAll_59 post (B_X8_tryAll_14 post n) v1 v2 v4 (cpI u4 381 379 (Int32.toNatClampNeg (0 : Int32)) (Int32.toNatClampNeg (0 : Int32)) (Int32.toNatClampNeg (gI u4 377 4)))))))) v1 v2 cm))))
def w_X8_tryAll (post : CMu → Prop) (x1 : Int32) (x2 : Int32) (cm : CMu) : Prop := w_X8_sortTold (fun (u2 : CMu) => ∃ n14, B_X8_tryAll_14 post n14 x1 x2 1 0 u2)  (uI cm 377 5 0)
section G_X8_tryAll
variable {p : Program} {l : Launch} {e : Env} {s : State} {m : MethodId} {args : Array Value} {below : List Frame} {meth : Method} {c : Code} {G : Gd} {ρ : Nat → Nat} {A : Nat → Prop} {mm : Nat → Nat → Int32} {oo : Nat → Int64}
set_option maxHeartbeats 4000000 in
set_option maxRecDepth 100000 in
theorem T_X8_tryAll_80 {post : CMu → Prop} (hl : l.stackTraces = false) (X : MC p l s m args meth c cX8_tryAll 5 RX8 G ρ A) (hr : meth.sig.returnType = none) (hex : ∀ z ∈ c.exceptionTable.toList, False) : ∀ (cm : CMu), B_X8_tryAll_80 post cm → LW p l e rm_X8_tryAll s m args below meth c (Qm below G ρ A (PV (fun u => (u, mm, oo)) post) noX args s 0 0) G ρ A 5 0 0 80 [] [] (cm, mm, oo) := by
  intro cm h
  unfold B_X8_tryAll_80 at h
  exact L_vret (pc := 80) X hr d_X8_tryAll_80 (by decide) (by decide) ⟨_, rfl, rfl, h⟩
set_option maxHeartbeats 4000000 in
set_option maxRecDepth 100000 in
theorem T_X8_tryAll_69 {post : CMu → Prop} {k14 : Int32 → Int32 → Int32 → Int32 → CMu → Prop} (hl : l.stackTraces = false) (X : MC p l s m args meth c cX8_tryAll 5 RX8 G ρ A) (hr : meth.sig.returnType = none) (hex : ∀ z ∈ c.exceptionTable.toList, False)
    (hk14 : ∀ (v1 : Int32) (v2 : Int32) (v3 : Int32) (v4 : Int32) (cm : CMu), k14 v1 v2 v3 v4 cm → LW p l e rm_X8_tryAll s m args below meth c (Qm below G ρ A (PV (fun u => (u, mm, oo)) post) noX args s 0 0) G ρ A 5 0 0 14 [(0, .ref 377), (1, .int v1), (2, .int v2), (3, .int v3), (4, .int v4)] [] (cm, mm, oo)) : ∀ (v1 : Int32) (v2 : Int32) (v4 : Int32) (cm : CMu), B_X8_tryAll_69 post k14 v1 v2 v4 cm → LW p l e rm_X8_tryAll s m args below meth c (Qm below G ρ A (PV (fun u => (u, mm, oo)) post) noX args s 0 0) G ρ A 5 0 0 69 [(0, .ref 377), (1, .int v1), (2, .int v2), (4, .int v4)] [] (cm, mm, oo) := by
  intro v1 v2 v4 cm h
  unfold B_X8_tryAll_69 at h
  refine L_aload_n (pc := 69) X d_X8_tryAll_69 rfl 0 rfl ?_
  refine L_callVZ (pc := 70) X lk_X8_53 (c_X8_goToNext X.hst  h) rfl rfl kd_377 (by decide) rfl rfl ⟨by decide, by decide⟩ ⟨by decide, by decide⟩ (Nat.zero_le _) d_X8_tryAll_70 rfl (fun x κ1 hx => L_nox hx) (fun r7 u8 h => ?_)
  refine L_istore_n (pc := 73) (lv2 := [(3, .int (b2 r7)), (0, .ref 377), (1, .int v1), (2, .int v2), (4, .int v4)]) X d_X8_tryAll_73 rfl (by decide) rfl ?_
  refine L_iinc (pc := 74) (v := v4 + 1) (lv2 := [(4, .int (v4 + 1)), (3, .int (b2 r7)), (0, .ref 377), (1, .int v1), (2, .int v2)]) X d_X8_tryAll_74 4 rfl rfl (by decide) rfl ?_
  refine L_goto (pc := 77) (tgt := 14) X d_X8_tryAll_77 (by decide) ?_
  refine LW.sub [2, 3, 4, 1, 0] rfl ?_
  exact hk14 _ _ _ _  _ h
set_option maxHeartbeats 4000000 in
set_option maxRecDepth 100000 in
theorem T_X8_tryAll_59 {post : CMu → Prop} {k14 : Int32 → Int32 → Int32 → Int32 → CMu → Prop} (hl : l.stackTraces = false) (X : MC p l s m args meth c cX8_tryAll 5 RX8 G ρ A) (hr : meth.sig.returnType = none) (hex : ∀ z ∈ c.exceptionTable.toList, False)
    (hk14 : ∀ (v1 : Int32) (v2 : Int32) (v3 : Int32) (v4 : Int32) (cm : CMu), k14 v1 v2 v3 v4 cm → LW p l e rm_X8_tryAll s m args below meth c (Qm below G ρ A (PV (fun u => (u, mm, oo)) post) noX args s 0 0) G ρ A 5 0 0 14 [(0, .ref 377), (1, .int v1), (2, .int v2), (3, .int v3), (4, .int v4)] [] (cm, mm, oo)) : ∀ (v1 : Int32) (v2 : Int32) (v4 : Int32) (cm : CMu), B_X8_tryAll_59 post k14 v1 v2 v4 cm → LW p l e rm_X8_tryAll s m args below meth c (Qm below G ρ A (PV (fun u => (u, mm, oo)) post) noX args s 0 0) G ρ A 5 0 0 59 [(0, .ref 377), (1, .int v1), (2, .int v2), (4, .int v4)] [] (cm, mm, oo) := by
  intro v1 v2 v4 cm h
  unfold B_X8_tryAll_59 at h
  refine L_aload_n (pc := 59) X d_X8_tryAll_59 rfl 0 rfl ?_
  refine L_dup (pc := 60) X d_X8_tryAll_60 rfl ?_
  refine gf_X8_37 (pc := 61) X d_X8_tryAll_61 kd_377 ?_
  refine L_iconst (pc := 64) (v := 1) X d_X8_tryAll_64 (by decide) ?_
  refine L_iadd (pc := 65) X d_X8_tryAll_65 ?_
  refine pf_X8_37 (pc := 66) X d_X8_tryAll_66 kd_377 ?_
  refine LW.sub [0, 1, 2, 3] rfl ?_
  exact T_X8_tryAll_69 hl X hr hex hk14 _ _ _  _ h
set_option maxHeartbeats 4000000 in
set_option maxRecDepth 100000 in
theorem T_X8_tryAll_14 {post : CMu → Prop} (hl : l.stackTraces = false) (X : MC p l s m args meth c cX8_tryAll 5 RX8 G ρ A) (hr : meth.sig.returnType = none) (hex : ∀ z ∈ c.exceptionTable.toList, False) (n : Nat) : ∀ (v1 : Int32) (v2 : Int32) (v3 : Int32) (v4 : Int32) (cm : CMu), B_X8_tryAll_14 post n v1 v2 v3 v4 cm → LW p l e rm_X8_tryAll s m args below meth c (Qm below G ρ A (PV (fun u => (u, mm, oo)) post) noX args s 0 0) G ρ A 5 0 0 14 [(0, .ref 377), (1, .int v1), (2, .int v2), (3, .int v3), (4, .int v4)] [] (cm, mm, oo) := by
  induction n with
  | zero =>
    intro v1 v2 v3 v4 cm h
    exact False.elim h
  | succ n ih =>
    intro v1 v2 v3 v4 cm h
    unfold B_X8_tryAll_14 at h
    refine L_iload (pc := 14) X d_X8_tryAll_14 4 rfl ?_
    refine L_sipush (pc := 16) (v := 720) X d_X8_tryAll_16 (by decide) ?_
    refine L_icmp_ge (pc := 19) (tgt := 80) X d_X8_tryAll_19 (by decide) (fun c19 => ?_) (fun c19 => ?_)
    · replace h := h.1 c19
      refine LW.sub [] rfl ?_
      exact T_X8_tryAll_80 hl X hr hex   _ h
    · replace h := h.2 c19
      refine L_iload_n (pc := 22) X d_X8_tryAll_22 rfl 3 rfl ?_
      refine L_if_eq (pc := 23) (tgt := 80) X d_X8_tryAll_23 (by decide) (fun c23 => ?_) (fun c23 => ?_)
      · replace h := h.1 c23
        refine LW.sub [] rfl ?_
        exact T_X8_tryAll_80 hl X hr hex   _ h
      · replace h := h.2 c23
        refine L_aload_n (pc := 26) X d_X8_tryAll_26 rfl 0 rfl ?_
        refine L_iload_n (pc := 27) X d_X8_tryAll_27 rfl 1 rfl ?_
        refine L_iload_n (pc := 28) X d_X8_tryAll_28 rfl 2 rfl ?_
        refine L_callVZ (pc := 29) X lk_X8_43 (c_X8_comesAsTold X.hst  h) rfl rfl kd_377 (by decide) rfl rfl ⟨by decide, by decide⟩ ⟨by decide, by decide⟩ (Nat.zero_le _) d_X8_tryAll_29 rfl (fun x κ1 hx => L_nox hx) (fun r3 u4 h => ?_)
        refine L_if_eq (pc := 32) (tgt := 69) X d_X8_tryAll_32 (by decide) (fun c32 => ?_) (fun c32 => ?_)
        · replace h := h.1 ((b2_0 _).mp c32)
          refine LW.sub [0, 1, 2, 4] rfl ?_
          exact T_X8_tryAll_69 hl X hr hex ih _ _ _  _ h
        · replace h := h.2 (fun z => c32 ((b2_0 _).mpr z))
          refine L_aload_n (pc := 35) X d_X8_tryAll_35 rfl 0 rfl ?_
          refine gf_X8_37 (pc := 36) X d_X8_tryAll_36 kd_377 ?_
          refine L_if_ne (pc := 39) (tgt := 59) X d_X8_tryAll_39 (by decide) (fun c39 => ?_) (fun c39 => ?_)
          · replace h := h.1 c39
            refine LW.sub [0, 1, 2, 4] rfl ?_
            exact T_X8_tryAll_59 hl X hr hex ih _ _ _  _ h
          · replace h := h.2 c39
            refine L_aload_n (pc := 42) X d_X8_tryAll_42 rfl 0 rfl ?_
            refine gf_X8_15 (pc := 43) (b := 379) X d_X8_tryAll_43 kd_377 rfl ?_
            refine L_iconst (pc := 46) (v := 0) X d_X8_tryAll_46 (by decide) ?_
            refine L_aload_n (pc := 47) X d_X8_tryAll_47 rfl 0 rfl ?_
            refine gf_X8_21 (pc := 48) (b := 381) X d_X8_tryAll_48 kd_377 rfl ?_
            refine L_iconst (pc := 51) (v := 0) X d_X8_tryAll_51 (by decide) ?_
            refine L_aload_n (pc := 52) X d_X8_tryAll_52 rfl 0 rfl ?_
            refine gf_X8_24 (pc := 53) X d_X8_tryAll_53 kd_377 ?_
            obtain ⟨q5, h⟩ := h
            obtain ⟨q6, h⟩ := h
            refine L_copy (pc := 56) X kd_379 kd_381 (by decide) (by decide) q5 (by rw [show Int32.toNatClampNeg (0 : Int32) = 0 from by decide]; omega) (by rw [show Int32.toNatClampNeg (0 : Int32) = 0 from by decide]; omega) tw_1210 tw_1212 tw_1211 tw_99 ⟨by decide, by decide⟩ d_X8_tryAll_56 ?_
            refine LW.sub [0, 1, 2, 4] rfl ?_
            exact T_X8_tryAll_59 hl X hr hex ih _ _ _  _ h
set_option maxHeartbeats 4000000 in
set_option maxRecDepth 100000 in
theorem c_X8_tryAll (hl : l.stackTraces = false) {x1 : Int32} {x2 : Int32} {cm : CMu} {post : CMu → Prop} (h : w_X8_tryAll post x1 x2 cm) : CT l yX8_tryAll (.code yX8_tryAll cX8_tryAll 5 none) rm_X8_tryAll 0 0 G ρ [.ref 377, .int x1, .int x2] (cm, mm, oo) (PV (fun u => (u, mm, oo)) post) noX := by
  refine CT_of hl (by decide +kernel) rfl (Nat.le_of_ble_eq_true rfl) (lv0 := [(0, .ref 377), (1, .int x1), (2, .int x2)]) rfl (fun p e s m args below meth c A X hr hex hnm => ?_)
  unfold w_X8_tryAll at h
  refine L_aload_n (pc := 0) X d_X8_tryAll_0 rfl 0 rfl ?_
  refine L_iconst (pc := 1) (v := 0) X d_X8_tryAll_1 (by decide) ?_
  refine pf_X8_37 (pc := 2) X d_X8_tryAll_2 kd_377 ?_
  refine L_aload_n (pc := 5) X d_X8_tryAll_5 rfl 0 rfl ?_
  refine L_callVV (pc := 6) X lk_X8_40 (c_X8_sortTold X.hst  h) rfl rfl kd_377 (by decide) rfl rfl ⟨by decide, by decide⟩ ⟨by decide, by decide⟩ (Nat.zero_le _) d_X8_tryAll_6 rfl (fun x κ1 hx => L_nox hx) (fun u2 h => ?_)
  refine L_iconst (pc := 9) (v := 1) X d_X8_tryAll_9 (by decide) ?_
  refine L_istore_n (pc := 10) (lv2 := [(3, .int 1), (0, .ref 377), (1, .int x1), (2, .int x2)]) X d_X8_tryAll_10 rfl (by decide) rfl ?_
  refine L_iconst (pc := 11) (v := 0) X d_X8_tryAll_11 (by decide) ?_
  refine L_istore (pc := 12) (lv2 := [(4, .int 0), (3, .int 1), (0, .ref 377), (1, .int x1), (2, .int x2)]) X d_X8_tryAll_12 (by decide) rfl ?_
  obtain ⟨n14, h⟩ := h
  refine LW.sub [2, 3, 4, 1, 0] rfl ?_
  exact T_X8_tryAll_14 hl X hr hex n14 _ _ _ _  _ h
end G_X8_tryAll
theorem lk_X12_62 : LinkV RX12 62 RX9 yX9_useUp (.code yX9_useUp cX9_useUp 2 (some .int)) 0 := ⟨tw_579, tw_580, tw_581, tw_73, tw_582, yk_X9_useUp⟩
theorem yk_X10_open : yX10_open.cls = RX10 ∧ yX10_open.cls ≠ "java/lang/invoke/MethodHandle" ∧ yX10_open.cls ≠ "java/lang/invoke/VarHandle" ∧ (parseMethodDescriptor yX10_open.desc).map (fun d => d.parameters.length) = some 2 := by decide +kernel
theorem lk_X12_66 : LinkV RX12 66 RX10 yX10_open (.code yX10_open cX10_open 6 none) 2 := ⟨tw_583, tw_584, tw_585, tw_74, tw_586, yk_X10_open⟩
theorem yk_X4_read : yX4_read.cls = RX4 ∧ yX4_read.cls ≠ "java/lang/invoke/MethodHandle" ∧ yX4_read.cls ≠ "java/lang/invoke/VarHandle" ∧ (parseMethodDescriptor yX4_read.desc).map (fun d => d.parameters.length) = some 1 := by decide +kernel
theorem lk_X12_74 : LinkV RX12 74 RX4 yX4_read (.code yX4_read cX4_read 3 none) 1 := ⟨tw_670, tw_671, tw_672, tw_78, tw_673, yk_X4_read⟩
theorem lk_X12_78 : LinkV RX12 78 RX10 yX10_isWrong (.code yX10_isWrong cX10_isWrong 1 (some .boolean)) 0 := ⟨tw_739, tw_705, tw_706, tw_74, tw_707, yk_X10_isWrong⟩
theorem d_X12_forest_0 : decode cX12_forest 0 = .ok (.aload_n 0, 1) := by decide +kernel
theorem d_X12_forest_1 : decode cX12_forest 1 = .ok (.getfield 19, 3) := by decide +kernel
theorem d_X12_forest_4 : decode cX12_forest 4 = .ok (.aload_n 0, 1) := by decide +kernel
theorem d_X12_forest_5 : decode cX12_forest 5 = .ok (.getfield 10, 3) := by decide +kernel
theorem d_X12_forest_8 : decode cX12_forest 8 = .ok (.getfield 58, 3) := by decide +kernel
theorem d_X12_forest_11 : decode cX12_forest 11 = .ok (.aload_n 0, 1) := by decide +kernel
theorem d_X12_forest_12 : decode cX12_forest 12 = .ok (.getfield 10, 3) := by decide +kernel
theorem d_X12_forest_15 : decode cX12_forest 15 = .ok (.invokevirtual 62, 3) := by decide +kernel
theorem d_X12_forest_18 : decode cX12_forest 18 = .ok (.invokevirtual 66, 3) := by decide +kernel
theorem d_X12_forest_21 : decode cX12_forest 21 = .ok (.aload_n 0, 1) := by decide +kernel
theorem d_X12_forest_22 : decode cX12_forest 22 = .ok (.getfield 47, 3) := by decide +kernel
theorem d_X12_forest_25 : decode cX12_forest 25 = .ok (.aload_n 0, 1) := by decide +kernel
theorem d_X12_forest_26 : decode cX12_forest 26 = .ok (.getfield 40, 3) := by decide +kernel
theorem d_X12_forest_29 : decode cX12_forest 29 = .ok (.invokevirtual 70, 3) := by decide +kernel
theorem d_X12_forest_32 : decode cX12_forest 32 = .ok (.aload_n 0, 1) := by decide +kernel
theorem d_X12_forest_33 : decode cX12_forest 33 = .ok (.getfield 47, 3) := by decide +kernel
theorem d_X12_forest_36 : decode cX12_forest 36 = .ok (.aload_n 0, 1) := by decide +kernel
theorem d_X12_forest_37 : decode cX12_forest 37 = .ok (.getfield 19, 3) := by decide +kernel
theorem d_X12_forest_40 : decode cX12_forest 40 = .ok (.invokevirtual 74, 3) := by decide +kernel
theorem d_X12_forest_43 : decode cX12_forest 43 = .ok (.aload_n 0, 1) := by decide +kernel
theorem d_X12_forest_44 : decode cX12_forest 44 = .ok (.getfield 19, 3) := by decide +kernel
theorem d_X12_forest_47 : decode cX12_forest 47 = .ok (.invokevirtual 78, 3) := by decide +kernel
theorem d_X12_forest_50 : decode cX12_forest 50 = .ok (.ifCond .eq 11, 3) := by decide +kernel
theorem d_X12_forest_53 : decode cX12_forest 53 = .ok (.new 82, 3) := by decide +kernel
theorem d_X12_forest_56 : decode cX12_forest 56 = .ok (.dup, 1) := by decide +kernel
theorem d_X12_forest_57 : decode cX12_forest 57 = .ok (.invokespecial 84, 3) := by decide +kernel
theorem d_X12_forest_60 : decode cX12_forest 60 = .ok (.athrow, 1) := by decide +kernel
theorem d_X12_forest_61 : decode cX12_forest 61 = .ok (.aload_n 0, 1) := by decide +kernel
theorem d_X12_forest_62 : decode cX12_forest 62 = .ok (.getfield 40, 3) := by decide +kernel
theorem d_X12_forest_65 : decode cX12_forest 65 = .ok (.getfield 85, 3) := by decide +kernel
theorem d_X12_forest_68 : decode cX12_forest 68 = .ok (.bipush 10, 2) := by decide +kernel
theorem d_X12_forest_70 : decode cX12_forest 70 = .ok (.if_icmp .lt 11, 3) := by decide +kernel
theorem d_X12_forest_73 : decode cX12_forest 73 = .ok (.new 88, 3) := by decide +kernel
theorem d_X12_forest_76 : decode cX12_forest 76 = .ok (.dup, 1) := by decide +kernel
theorem d_X12_forest_77 : decode cX12_forest 77 = .ok (.invokespecial 90, 3) := by decide +kernel
theorem d_X12_forest_80 : decode cX12_forest 80 = .ok (.athrow, 1) := by decide +kernel
theorem d_X12_forest_81 : decode cX12_forest 81 = .ok (.aload_n 0, 1) := by decide +kernel
theorem d_X12_forest_82 : decode cX12_forest 82 = .ok (.getfield 47, 3) := by decide +kernel
theorem d_X12_forest_85 : decode cX12_forest 85 = .ok (.dup, 1) := by decide +kernel
theorem d_X12_forest_86 : decode cX12_forest 86 = .ok (.getfield 85, 3) := by decide +kernel
theorem d_X12_forest_89 : decode cX12_forest 89 = .ok (.iconst 1, 1) := by decide +kernel
theorem d_X12_forest_90 : decode cX12_forest 90 = .ok (.iadd, 1) := by decide +kernel
theorem d_X12_forest_91 : decode cX12_forest 91 = .ok (.putfield 85, 3) := by decide +kernel
theorem d_X12_forest_94 : decode cX12_forest 94 = .ok (.aload_n 0, 1) := by decide +kernel
theorem d_X12_forest_95 : decode cX12_forest 95 = .ok (.getfield 40, 3) := by decide +kernel
theorem d_X12_forest_98 : decode cX12_forest 98 = .ok (.aload_n 0, 1) := by decide +kernel
theorem d_X12_forest_99 : decode cX12_forest 99 = .ok (.getfield 47, 3) := by decide +kernel
theorem d_X12_forest_102 : decode cX12_forest 102 = .ok (.invokevirtual 70, 3) := by decide +kernel
theorem d_X12_forest_105 : decode cX12_forest 105 = .ok (.aload_n 0, 1) := by decide +kernel
theorem d_X12_forest_106 : decode cX12_forest 106 = .ok (.getfield 40, 3) := by decide +kernel
theorem d_X12_forest_109 : decode cX12_forest 109 = .ok (.getfield 85, 3) := by decide +kernel
theorem d_X12_forest_112 : decode cX12_forest 112 = .ok (.ireturn, 1) := by decide +kernel
abbrev rm_X12_forest : Room := { frames := 8, cells := 1, slots := 6, locals := 181 }
def w_X12_forest (post : Int32 → CMu → Prop) (px : Nat → CMu → Prop) (cm : CMu) : Prop := w_X9_useUp (fun (r1 : Int32) (u2 : CMu) => w_X10_open (fun (u4 : CMu) => w_X4_copyFrom (fun (u6 : CMu) => w_X4_read (fun (u8 : CMu) => w_X10_isWrong (fun (r9 : Bool) (u10 : CMu) => ((r9 = false) → (((gI u10 382 8) < 10 → (w_X4_copyFrom (fun (u12 : CMu) => post (gI u12 382 8) u12) 382 596 (uI u10 596 8 ((gI u10 596 8) + 1)))) ∧ (¬ (gI u10 382 8) < 10 → (px 2 u10)))) ∧ (¬ (r9 = false) → (px 0 u10)))  u8) 596 u6) 596 382 u4) r1 u2)  cm
section G_X12_forest
variable {p : Program} {l : Launch} {e : Env} {s : State} {m : MethodId} {args : Array Value} {below : List Frame} {meth : Method} {c : Code} {G : Gd} {ρ : Nat → Nat} {A : Nat → Prop} {mm : Nat → Nat → Int32} {oo : Nat → Int64}
set_option maxHeartbeats 4000000 in
set_option maxRecDepth 100000 in
theorem c_X12_forest (hl : l.stackTraces = false) {cm : CMu} {post : Int32 → CMu → Prop} {px : Nat → CMu → Prop} (h : w_X12_forest post px cm) : CT l yX12_forest (.code yX12_forest cX12_forest 1 (some .int)) rm_X12_forest 1 6 G ρ [.ref 1] (cm, mm, oo) (PI (fun u => (u, mm, oo)) post) (PE (fun u => (u, mm, oo)) px) := by
  refine CT_of hl (by decide +kernel) rfl (Nat.le_of_ble_eq_true rfl) (lv0 := [(0, .ref 1)]) rfl (fun p e s m args below meth c A X hr hex hnm => ?_)
  unfold w_X12_forest at h
  refine L_aload_n (pc := 0) X d_X12_forest_0 rfl 0 rfl ?_
  refine gf_X12_19 (pc := 1) (b := 4) X d_X12_forest_1 kd_1 rfl ?_
  refine L_aload_n (pc := 4) X d_X12_forest_4 rfl 0 rfl ?_
  refine gf_X12_10 (pc := 5) (b := 2) X d_X12_forest_5 kd_1 rfl ?_
  refine gf_X12_58 (pc := 8) (b := 3) X d_X12_forest_8 kd_2 rfl ?_
  refine L_aload_n (pc := 11) X d_X12_forest_11 rfl 0 rfl ?_
  refine gf_X12_10 (pc := 12) (b := 2) X d_X12_forest_12 kd_1 rfl ?_
  refine L_callVI (pc := 15) X lk_X12_62 (c_X9_useUp X.hst  h) rfl rfl kd_2 (by decide) rfl rfl ⟨by decide, by decide⟩ ⟨by decide, by decide⟩ (Nat.le_of_ble_eq_true rfl) d_X12_forest_15 rfl (fun x κ1 hx => L_nox hx) (fun r1 u2 h => ?_)
  refine L_callVV (pc := 18) X lk_X12_66 (c_X10_open X.hst  h) rfl rfl kd_4 (by decide) rfl rfl ⟨by decide, by decide⟩ ⟨by decide, by decide⟩ (Nat.zero_le _) d_X12_forest_18 rfl (fun x κ1 hx => L_nox hx) (fun u4 h => ?_)
  refine L_aload_n (pc := 21) X d_X12_forest_21 rfl 0 rfl ?_
  refine gf_X12_47 (pc := 22) (b := 596) X d_X12_forest_22 kd_1 rfl ?_
  refine L_aload_n (pc := 25) X d_X12_forest_25 rfl 0 rfl ?_
  refine gf_X12_40 (pc := 26) (b := 382) X d_X12_forest_26 kd_1 rfl ?_
  refine L_callVV (pc := 29) X lk_X12_70 (c_X4_copyFrom X.hst kd_596 kd_382 h) rfl rfl kd_596 (by decide) rfl rfl ⟨by decide, by decide⟩ ⟨by decide, by decide⟩ (Nat.zero_le _) d_X12_forest_29 rfl (fun x κ1 hx => L_nox hx) (fun u6 h => ?_)
  refine L_aload_n (pc := 32) X d_X12_forest_32 rfl 0 rfl ?_
  refine gf_X12_47 (pc := 33) (b := 596) X d_X12_forest_33 kd_1 rfl ?_
  refine L_aload_n (pc := 36) X d_X12_forest_36 rfl 0 rfl ?_
  refine gf_X12_19 (pc := 37) (b := 4) X d_X12_forest_37 kd_1 rfl ?_
  refine L_callVV (pc := 40) X lk_X12_74 (c_X4_read X.hst kd_596 h) rfl rfl kd_596 (by decide) rfl rfl ⟨by decide, by decide⟩ ⟨by decide, by decide⟩ (Nat.zero_le _) d_X12_forest_40 rfl (fun x κ1 hx => L_nox hx) (fun u8 h => ?_)
  refine L_aload_n (pc := 43) X d_X12_forest_43 rfl 0 rfl ?_
  refine gf_X12_19 (pc := 44) (b := 4) X d_X12_forest_44 kd_1 rfl ?_
  refine L_callVZ (pc := 47) X lk_X12_78 (c_X10_isWrong X.hst  h) rfl rfl kd_4 (by decide) rfl rfl ⟨by decide, by decide⟩ ⟨by decide, by decide⟩ (Nat.zero_le _) d_X12_forest_47 rfl (fun x κ1 hx => L_nox hx) (fun r9 u10 h => ?_)
  refine L_if_eq (pc := 50) (tgt := 61) X d_X12_forest_50 (by decide) (fun c50 => ?_) (fun c50 => ?_)
  · replace h := h.1 ((b2_0 _).mp c50)
    refine L_aload_n (pc := 61) X d_X12_forest_61 rfl 0 rfl ?_
    refine gf_X12_40 (pc := 62) (b := 382) X d_X12_forest_62 kd_1 rfl ?_
    refine gf_X12_85 (pc := 65) X d_X12_forest_65 kd_382 ?_
    refine L_bipush (pc := 68) (v := 10) X d_X12_forest_68 (by decide) ?_
    refine L_icmp_lt (pc := 70) (tgt := 81) X d_X12_forest_70 (by decide) (fun c70 => ?_) (fun c70 => ?_)
    · replace h := h.1 c70
      refine L_aload_n (pc := 81) X d_X12_forest_81 rfl 0 rfl ?_
      refine gf_X12_47 (pc := 82) (b := 596) X d_X12_forest_82 kd_1 rfl ?_
      refine L_dup (pc := 85) X d_X12_forest_85 rfl ?_
      refine gf_X12_85 (pc := 86) X d_X12_forest_86 kd_596 ?_
      refine L_iconst (pc := 89) (v := 1) X d_X12_forest_89 (by decide) ?_
      refine L_iadd (pc := 90) X d_X12_forest_90 ?_
      refine pf_X12_85 (pc := 91) X d_X12_forest_91 kd_596 ?_
      refine L_aload_n (pc := 94) X d_X12_forest_94 rfl 0 rfl ?_
      refine gf_X12_40 (pc := 95) (b := 382) X d_X12_forest_95 kd_1 rfl ?_
      refine L_aload_n (pc := 98) X d_X12_forest_98 rfl 0 rfl ?_
      refine gf_X12_47 (pc := 99) (b := 596) X d_X12_forest_99 kd_1 rfl ?_
      refine L_callVV (pc := 102) X lk_X12_70 (c_X4_copyFrom X.hst kd_382 kd_596 h) rfl rfl kd_382 (by decide) rfl rfl ⟨by decide, by decide⟩ ⟨by decide, by decide⟩ (Nat.zero_le _) d_X12_forest_102 rfl (fun x κ1 hx => L_nox hx) (fun u12 h => ?_)
      refine L_aload_n (pc := 105) X d_X12_forest_105 rfl 0 rfl ?_
      refine gf_X12_40 (pc := 106) (b := 382) X d_X12_forest_106 kd_1 rfl ?_
      refine gf_X12_85 (pc := 109) X d_X12_forest_109 kd_382 ?_
      exact L_iret (pc := 112) X hr d_X12_forest_112 (by decide) (by decide) ⟨_, _, rfl, rfl, h⟩
    · replace h := h.2 c70
      exact L_throw2 (pc := 73) X hex d_X12_forest_73 d_X12_forest_76 d_X12_forest_77 d_X12_forest_80 (by decide) (by decide) (by decide) (by decide) (by decide) (by decide) ⟨_, rfl, h⟩
  · replace h := h.2 (fun z => c50 ((b2_0 _).mpr z))
    exact L_throw0 (pc := 53) X hex d_X12_forest_53 d_X12_forest_56 d_X12_forest_57 d_X12_forest_60 (by decide) (by decide) (by decide) (by decide) (by decide) (by decide) ⟨_, rfl, h⟩
end G_X12_forest
theorem yk_X5_read : yX5_read.cls = RX5 ∧ yX5_read.cls ≠ "java/lang/invoke/MethodHandle" ∧ yX5_read.cls ≠ "java/lang/invoke/VarHandle" ∧ (parseMethodDescriptor yX5_read.desc).map (fun d => d.parameters.length) = some 1 := by decide +kernel
theorem lk_X12_107 : LinkV RX12 107 RX5 yX5_read (.code yX5_read cX5_read 3 none) 1 := ⟨tw_845, tw_846, tw_847, tw_76, tw_848, yk_X5_read⟩
theorem lk_X12_113 : LinkV RX12 113 RX4 yX4_throwChip (.code yX4_throwChip cX4_throwChip 6 (some .int)) 4 := ⟨tw_929, tw_930, tw_931, tw_78, tw_932, yk_X4_throwChip⟩
theorem d_X12_chip_0 : decode cX12_chip 0 = .ok (.aload_n 0, 1) := by decide +kernel
theorem d_X12_chip_1 : decode cX12_chip 1 = .ok (.getfield 10, 3) := by decide +kernel
theorem d_X12_chip_4 : decode cX12_chip 4 = .ok (.invokevirtual 62, 3) := by decide +kernel
theorem d_X12_chip_7 : decode cX12_chip 7 = .ok (.istore_n 3, 1) := by decide +kernel
theorem d_X12_chip_8 : decode cX12_chip 8 = .ok (.iload_n 1, 1) := by decide +kernel
theorem d_X12_chip_9 : decode cX12_chip 9 = .ok (.ifCond .lt 14, 3) := by decide +kernel
theorem d_X12_chip_12 : decode cX12_chip 12 = .ok (.iload_n 1, 1) := by decide +kernel
theorem d_X12_chip_13 : decode cX12_chip 13 = .ok (.aload_n 0, 1) := by decide +kernel
theorem d_X12_chip_14 : decode cX12_chip 14 = .ok (.getfield 40, 3) := by decide +kernel
theorem d_X12_chip_17 : decode cX12_chip 17 = .ok (.getfield 91, 3) := by decide +kernel
theorem d_X12_chip_20 : decode cX12_chip 20 = .ok (.if_icmp .le 11, 3) := by decide +kernel
theorem d_X12_chip_23 : decode cX12_chip 23 = .ok (.new 94, 3) := by decide +kernel
theorem d_X12_chip_26 : decode cX12_chip 26 = .ok (.dup, 1) := by decide +kernel
theorem d_X12_chip_27 : decode cX12_chip 27 = .ok (.invokespecial 96, 3) := by decide +kernel
theorem d_X12_chip_30 : decode cX12_chip 30 = .ok (.athrow, 1) := by decide +kernel
theorem d_X12_chip_31 : decode cX12_chip 31 = .ok (.iload_n 2, 1) := by decide +kernel
theorem d_X12_chip_32 : decode cX12_chip 32 = .ok (.invokestatic 97, 3) := by decide +kernel
theorem d_X12_chip_35 : decode cX12_chip 35 = .ok (.aload_n 0, 1) := by decide +kernel
theorem d_X12_chip_36 : decode cX12_chip 36 = .ok (.getfield 19, 3) := by decide +kernel
theorem d_X12_chip_39 : decode cX12_chip 39 = .ok (.aload_n 0, 1) := by decide +kernel
theorem d_X12_chip_40 : decode cX12_chip 40 = .ok (.getfield 10, 3) := by decide +kernel
theorem d_X12_chip_43 : decode cX12_chip 43 = .ok (.getfield 58, 3) := by decide +kernel
theorem d_X12_chip_46 : decode cX12_chip 46 = .ok (.iload_n 3, 1) := by decide +kernel
theorem d_X12_chip_47 : decode cX12_chip 47 = .ok (.invokevirtual 66, 3) := by decide +kernel
theorem d_X12_chip_50 : decode cX12_chip 50 = .ok (.aload_n 0, 1) := by decide +kernel
theorem d_X12_chip_51 : decode cX12_chip 51 = .ok (.getfield 26, 3) := by decide +kernel
theorem d_X12_chip_54 : decode cX12_chip 54 = .ok (.getfield 100, 3) := by decide +kernel
theorem d_X12_chip_57 : decode cX12_chip 57 = .ok (.aload_n 0, 1) := by decide +kernel
theorem d_X12_chip_58 : decode cX12_chip 58 = .ok (.getfield 40, 3) := by decide +kernel
theorem d_X12_chip_61 : decode cX12_chip 61 = .ok (.getfield 104, 3) := by decide +kernel
theorem d_X12_chip_64 : decode cX12_chip 64 = .ok (.aaload, 1) := by decide +kernel
theorem d_X12_chip_65 : decode cX12_chip 65 = .ok (.astore 4, 2) := by decide +kernel
theorem d_X12_chip_67 : decode cX12_chip 67 = .ok (.aload 4, 2) := by decide +kernel
theorem d_X12_chip_69 : decode cX12_chip 69 = .ok (.aload_n 0, 1) := by decide +kernel
theorem d_X12_chip_70 : decode cX12_chip 70 = .ok (.getfield 19, 3) := by decide +kernel
theorem d_X12_chip_73 : decode cX12_chip 73 = .ok (.invokevirtual 107, 3) := by decide +kernel
theorem d_X12_chip_76 : decode cX12_chip 76 = .ok (.aload_n 0, 1) := by decide +kernel
theorem d_X12_chip_77 : decode cX12_chip 77 = .ok (.getfield 19, 3) := by decide +kernel
theorem d_X12_chip_80 : decode cX12_chip 80 = .ok (.invokevirtual 78, 3) := by decide +kernel
theorem d_X12_chip_83 : decode cX12_chip 83 = .ok (.ifCond .eq 11, 3) := by decide +kernel
theorem d_X12_chip_86 : decode cX12_chip 86 = .ok (.new 82, 3) := by decide +kernel
theorem d_X12_chip_89 : decode cX12_chip 89 = .ok (.dup, 1) := by decide +kernel
theorem d_X12_chip_90 : decode cX12_chip 90 = .ok (.invokespecial 84, 3) := by decide +kernel
theorem d_X12_chip_93 : decode cX12_chip 93 = .ok (.athrow, 1) := by decide +kernel
theorem d_X12_chip_94 : decode cX12_chip 94 = .ok (.aload_n 0, 1) := by decide +kernel
theorem d_X12_chip_95 : decode cX12_chip 95 = .ok (.getfield 40, 3) := by decide +kernel
theorem d_X12_chip_98 : decode cX12_chip 98 = .ok (.getfield 104, 3) := by decide +kernel
theorem d_X12_chip_101 : decode cX12_chip 101 = .ok (.bipush 60, 2) := by decide +kernel
theorem d_X12_chip_103 : decode cX12_chip 103 = .ok (.if_icmp .lt 11, 3) := by decide +kernel
theorem d_X12_chip_106 : decode cX12_chip 106 = .ok (.new 88, 3) := by decide +kernel
theorem d_X12_chip_109 : decode cX12_chip 109 = .ok (.dup, 1) := by decide +kernel
theorem d_X12_chip_110 : decode cX12_chip 110 = .ok (.invokespecial 90, 3) := by decide +kernel
theorem d_X12_chip_113 : decode cX12_chip 113 = .ok (.athrow, 1) := by decide +kernel
theorem d_X12_chip_114 : decode cX12_chip 114 = .ok (.aload_n 0, 1) := by decide +kernel
theorem d_X12_chip_115 : decode cX12_chip 115 = .ok (.getfield 40, 3) := by decide +kernel
theorem d_X12_chip_118 : decode cX12_chip 118 = .ok (.iload_n 1, 1) := by decide +kernel
theorem d_X12_chip_119 : decode cX12_chip 119 = .ok (.iload_n 2, 1) := by decide +kernel
theorem d_X12_chip_120 : decode cX12_chip 120 = .ok (.aload 4, 2) := by decide +kernel
theorem d_X12_chip_122 : decode cX12_chip 122 = .ok (.getfield 110, 3) := by decide +kernel
theorem d_X12_chip_125 : decode cX12_chip 125 = .ok (.iconst (-1), 1) := by decide +kernel
theorem d_X12_chip_126 : decode cX12_chip 126 = .ok (.invokevirtual 113, 3) := by decide +kernel
theorem d_X12_chip_129 : decode cX12_chip 129 = .ok (.ireturn, 1) := by decide +kernel
abbrev rm_X12_chip : Room := { frames := 35, cells := 2, slots := 12, locals := 831 }
def B_X12_chip_23 (post : Int32 → CMu → Prop) (px : Nat → CMu → Prop) (cm : CMu) : Prop := px 1 cm
def w_X12_chip (post : Int32 → CMu → Prop) (px : Nat → CMu → Prop) (x1 : Int32) (x2 : Int32) (cm : CMu) : Prop := w_X9_useUp (fun (r1 : Int32) (u2 : CMu) => (x1 < 0 → (B_X12_chip_23 post px u2)) ∧ (¬ x1 < 0 → ((x1 ≤ (gI u2 382 5) → (w_X12_demandWeight (fun (u4 : CMu) => w_X10_open (fun (u6 : CMu) => (vp_in (gI u6 382 6) 61) ∧ w_X5_read (fun (u9 : CMu) => w_X10_isWrong (fun (r10 : Bool) (u11 : CMu) => ((r10 = false) → (((gI u11 382 6) < 60 → (w_X4_throwChip (fun (r12 : Int32) (u13 : CMu) => post r12 u13) 382 x1 x2 (gI u11 (11 + 6 * Int32.toNatClampNeg (gI u6 382 6)) 5) (-1) u11)) ∧ (¬ (gI u11 382 6) < 60 → (px 2 u11)))) ∧ (¬ (r10 = false) → (px 0 u11)))  u9) (11 + 6 * Int32.toNatClampNeg (gI u6 382 6)) u6) r1 u4) px x2 u2)) ∧ (¬ x1 ≤ (gI u2 382 5) → (B_X12_chip_23 post px u2)))))  cm
section G_X12_chip
variable {p : Program} {l : Launch} {e : Env} {s : State} {m : MethodId} {args : Array Value} {below : List Frame} {meth : Method} {c : Code} {G : Gd} {ρ : Nat → Nat} {A : Nat → Prop} {mm : Nat → Nat → Int32} {oo : Nat → Int64}
set_option maxHeartbeats 4000000 in
set_option maxRecDepth 100000 in
theorem T_X12_chip_23 {post : Int32 → CMu → Prop} {px : Nat → CMu → Prop} (hl : l.stackTraces = false) (X : MC p l s m args meth c cX12_chip 5 RX12 G ρ A) (hr : meth.sig.returnType = (some .int)) (hex : ∀ z ∈ c.exceptionTable.toList, False) : ∀ (cm : CMu), B_X12_chip_23 post px cm → LW p l e rm_X12_chip s m args below meth c (Qm below G ρ A (PI (fun u => (u, mm, oo)) post) (PE (fun u => (u, mm, oo)) px) args s 2 12) G ρ A 5 0 0 23 [] [] (cm, mm, oo) := by
  intro cm h
  unfold B_X12_chip_23 at h
  exact L_throw1 (pc := 23) X hex d_X12_chip_23 d_X12_chip_26 d_X12_chip_27 d_X12_chip_30 (by decide) (by decide) (by decide) (by decide) (by decide) (by decide) ⟨_, rfl, h⟩
set_option maxHeartbeats 4000000 in
set_option maxRecDepth 100000 in
theorem c_X12_chip (hl : l.stackTraces = false) {x1 : Int32} {x2 : Int32} {cm : CMu} {post : Int32 → CMu → Prop} {px : Nat → CMu → Prop} (h : w_X12_chip post px x1 x2 cm) : CT l yX12_chip (.code yX12_chip cX12_chip 5 (some .int)) rm_X12_chip 2 12 G ρ [.ref 1, .int x1, .int x2] (cm, mm, oo) (PI (fun u => (u, mm, oo)) post) (PE (fun u => (u, mm, oo)) px) := by
  refine CT_of hl (by decide +kernel) rfl (Nat.le_of_ble_eq_true rfl) (lv0 := [(0, .ref 1), (1, .int x1), (2, .int x2)]) rfl (fun p e s m args below meth c A X hr hex hnm => ?_)
  unfold w_X12_chip at h
  refine L_aload_n (pc := 0) X d_X12_chip_0 rfl 0 rfl ?_
  refine gf_X12_10 (pc := 1) (b := 2) X d_X12_chip_1 kd_1 rfl ?_
  refine L_callVI (pc := 4) X lk_X12_62 (c_X9_useUp X.hst  h) rfl rfl kd_2 (by decide) rfl rfl ⟨by decide, by decide⟩ ⟨by decide, by decide⟩ (Nat.zero_le _) d_X12_chip_4 rfl (fun x κ1 hx => L_nox hx) (fun r1 u2 h => ?_)
  refine L_istore_n (pc := 7) (lv2 := [(3, .int r1), (0, .ref 1), (1, .int x1), (2, .int x2)]) X d_X12_chip_7 rfl (by decide) rfl ?_
  refine L_iload_n (pc := 8) X d_X12_chip_8 rfl 2 rfl ?_
  refine L_if_lt (pc := 9) (tgt := 23) X d_X12_chip_9 (by decide) (fun c9 => ?_) (fun c9 => ?_)
  · replace h := h.1 c9
    refine LW.sub [] rfl ?_
    exact T_X12_chip_23 hl X hr hex   _ h
  · replace h := h.2 c9
    refine L_iload_n (pc := 12) X d_X12_chip_12 rfl 2 rfl ?_
    refine L_aload_n (pc := 13) X d_X12_chip_13 rfl 1 rfl ?_
    refine gf_X12_40 (pc := 14) (b := 382) X d_X12_chip_14 kd_1 rfl ?_
    refine gf_X12_91 (pc := 17) X d_X12_chip_17 kd_382 ?_
    refine L_icmp_le (pc := 20) (tgt := 31) X d_X12_chip_20 (by decide) (fun c20 => ?_) (fun c20 => ?_)
    · replace h := h.1 c20
      refine L_iload_n (pc := 31) X d_X12_chip_31 rfl 3 rfl ?_
      refine L_callSV (pc := 32) X lk_X12_97 (c_X12_demandWeight X.hst  h) rfl rfl rfl ⟨by decide, by decide⟩ ⟨by decide, by decide⟩ (Nat.zero_le _) d_X12_chip_32 rfl (fun x κ1 hx => L_pass X hex hx (by decide) (by decide)) (fun u4 h => ?_)
      refine L_aload_n (pc := 35) X d_X12_chip_35 rfl 1 rfl ?_
      refine gf_X12_19 (pc := 36) (b := 4) X d_X12_chip_36 kd_1 rfl ?_
      refine L_aload_n (pc := 39) X d_X12_chip_39 rfl 1 rfl ?_
      refine gf_X12_10 (pc := 40) (b := 2) X d_X12_chip_40 kd_1 rfl ?_
      refine gf_X12_58 (pc := 43) (b := 3) X d_X12_chip_43 kd_2 rfl ?_
      refine L_iload_n (pc := 46) X d_X12_chip_46 rfl 0 rfl ?_
      refine L_callVV (pc := 47) X lk_X12_66 (c_X10_open X.hst  h) rfl rfl kd_4 (by decide) rfl rfl ⟨by decide, by decide⟩ ⟨by decide, by decide⟩ (Nat.zero_le _) d_X12_chip_47 rfl (fun x κ1 hx => L_nox hx) (fun u6 h => ?_)
      refine L_aload_n (pc := 50) X d_X12_chip_50 rfl 1 rfl ?_
      refine gf_X12_26 (pc := 51) (b := 8) X d_X12_chip_51 kd_1 rfl ?_
      refine gf_X12_100 (pc := 54) (b := 9) X d_X12_chip_54 kd_8 rfl ?_
      refine L_aload_n (pc := 57) X d_X12_chip_57 rfl 1 rfl ?_
      refine gf_X12_40 (pc := 58) (b := 382) X d_X12_chip_58 kd_1 rfl ?_
      refine gf_X12_104 (pc := 61) X d_X12_chip_61 kd_382 ?_
      obtain ⟨q7, h⟩ := h
      refine L_aald27 (pc := 64) (b := 11 + 6 * Int32.toNatClampNeg (gI u6 382 6)) X d_X12_chip_64 kd_9 q7 rfl ?_
      refine L_astore (pc := 65) (lv2 := [(4, .ref (11 + 6 * Int32.toNatClampNeg (gI u6 382 6))), (3, .int r1), (0, .ref 1), (1, .int x1), (2, .int x2)]) X d_X12_chip_65 (by decide) rfl ?_
      refine L_aload (pc := 67) X d_X12_chip_67 0 rfl ?_
      refine L_aload_n (pc := 69) X d_X12_chip_69 rfl 2 rfl ?_
      refine gf_X12_19 (pc := 70) (b := 4) X d_X12_chip_70 kd_1 rfl ?_
      refine L_callVV (pc := 73) X lk_X12_107 (c_X5_read X.hst (ka_27 kd_9 (vin_lt q7)) h) rfl rfl (ka_27 kd_9 (vin_lt q7)) (by decide) rfl rfl ⟨by decide, by decide⟩ ⟨by decide, by decide⟩ (Nat.zero_le _) d_X12_chip_73 rfl (fun x κ1 hx => L_nox hx) (fun u9 h => ?_)
      refine L_aload_n (pc := 76) X d_X12_chip_76 rfl 2 rfl ?_
      refine gf_X12_19 (pc := 77) (b := 4) X d_X12_chip_77 kd_1 rfl ?_
      refine L_callVZ (pc := 80) X lk_X12_78 (c_X10_isWrong X.hst  h) rfl rfl kd_4 (by decide) rfl rfl ⟨by decide, by decide⟩ ⟨by decide, by decide⟩ (Nat.zero_le _) d_X12_chip_80 rfl (fun x κ1 hx => L_nox hx) (fun r10 u11 h => ?_)
      refine L_if_eq (pc := 83) (tgt := 94) X d_X12_chip_83 (by decide) (fun c83 => ?_) (fun c83 => ?_)
      · replace h := h.1 ((b2_0 _).mp c83)
        refine L_aload_n (pc := 94) X d_X12_chip_94 rfl 2 rfl ?_
        refine gf_X12_40 (pc := 95) (b := 382) X d_X12_chip_95 kd_1 rfl ?_
        refine gf_X12_104 (pc := 98) X d_X12_chip_98 kd_382 ?_
        refine L_bipush (pc := 101) (v := 60) X d_X12_chip_101 (by decide) ?_
        refine L_icmp_lt (pc := 103) (tgt := 114) X d_X12_chip_103 (by decide) (fun c103 => ?_) (fun c103 => ?_)
        · replace h := h.1 c103
          refine L_aload_n (pc := 114) X d_X12_chip_114 rfl 2 rfl ?_
          refine gf_X12_40 (pc := 115) (b := 382) X d_X12_chip_115 kd_1 rfl ?_
          refine L_iload_n (pc := 118) X d_X12_chip_118 rfl 3 rfl ?_
          refine L_iload_n (pc := 119) X d_X12_chip_119 rfl 4 rfl ?_
          refine L_aload (pc := 120) X d_X12_chip_120 0 rfl ?_
          refine gf_X12_110 (pc := 122) X d_X12_chip_122 (ka_27 kd_9 (vin_lt q7)) ?_
          refine L_iconst (pc := 125) (v := (-1)) X d_X12_chip_125 (by decide) ?_
          refine L_callVI (pc := 126) X lk_X12_113 (c_X4_throwChip X.hst kd_382 h) rfl rfl kd_382 (by decide) rfl rfl ⟨by decide, by decide⟩ ⟨by decide, by decide⟩ (Nat.zero_le _) d_X12_chip_126 rfl (fun x κ1 hx => L_nox hx) (fun r12 u13 h => ?_)
          exact L_iret (pc := 129) X hr d_X12_chip_129 (by decide) (by decide) ⟨_, _, rfl, rfl, h⟩
        · replace h := h.2 c103
          exact L_throw2 (pc := 106) X hex d_X12_chip_106 d_X12_chip_109 d_X12_chip_110 d_X12_chip_113 (by decide) (by decide) (by decide) (by decide) (by decide) (by decide) ⟨_, rfl, h⟩
      · replace h := h.2 (fun z => c83 ((b2_0 _).mpr z))
        exact L_throw0 (pc := 86) X hex d_X12_chip_86 d_X12_chip_89 d_X12_chip_90 d_X12_chip_93 (by decide) (by decide) (by decide) (by decide) (by decide) (by decide) ⟨_, rfl, h⟩
    · replace h := h.2 c20
      refine LW.sub [] rfl ?_
      exact T_X12_chip_23 hl X hr hex   _ h
end G_X12_chip
theorem yk_X3_pass : yX3_pass.cls = RX3 ∧ yX3_pass.cls ≠ "java/lang/invoke/MethodHandle" ∧ yX3_pass.cls ≠ "java/lang/invoke/VarHandle" ∧ (parseMethodDescriptor yX3_pass.desc).map (fun d => d.parameters.length) = some 2 := by decide +kernel
theorem lk_X12_123 : LinkV RX12 123 RX3 yX3_pass (.code yX3_pass cX3_pass 5 none) 2 := ⟨tw_940, tw_941, tw_942, tw_75, tw_943, yk_X3_pass⟩
theorem d_X12_run_0 : decode cX12_run 0 = .ok (.iload_n 1, 1) := by decide +kernel
theorem d_X12_run_1 : decode cX12_run 1 = .ok (.iconst 1, 1) := by decide +kernel
theorem d_X12_run_2 : decode cX12_run 2 = .ok (.if_icmp .lt 10, 3) := by decide +kernel
theorem d_X12_run_5 : decode cX12_run 5 = .ok (.iload_n 1, 1) := by decide +kernel
theorem d_X12_run_6 : decode cX12_run 6 = .ok (.sipush 2000, 3) := by decide +kernel
theorem d_X12_run_9 : decode cX12_run 9 = .ok (.if_icmp .le 11, 3) := by decide +kernel
theorem d_X12_run_12 : decode cX12_run 12 = .ok (.new 82, 3) := by decide +kernel
theorem d_X12_run_15 : decode cX12_run 15 = .ok (.dup, 1) := by decide +kernel
theorem d_X12_run_16 : decode cX12_run 16 = .ok (.invokespecial 84, 3) := by decide +kernel
theorem d_X12_run_19 : decode cX12_run 19 = .ok (.athrow, 1) := by decide +kernel
theorem d_X12_run_20 : decode cX12_run 20 = .ok (.aload_n 0, 1) := by decide +kernel
theorem d_X12_run_21 : decode cX12_run 21 = .ok (.getfield 40, 3) := by decide +kernel
theorem d_X12_run_24 : decode cX12_run 24 = .ok (.getfield 120, 3) := by decide +kernel
theorem d_X12_run_27 : decode cX12_run 27 = .ok (.istore_n 2, 1) := by decide +kernel
theorem d_X12_run_28 : decode cX12_run 28 = .ok (.aload_n 0, 1) := by decide +kernel
theorem d_X12_run_29 : decode cX12_run 29 = .ok (.getfield 26, 3) := by decide +kernel
theorem d_X12_run_32 : decode cX12_run 32 = .ok (.aload_n 0, 1) := by decide +kernel
theorem d_X12_run_33 : decode cX12_run 33 = .ok (.getfield 40, 3) := by decide +kernel
theorem d_X12_run_36 : decode cX12_run 36 = .ok (.iload_n 1, 1) := by decide +kernel
theorem d_X12_run_37 : decode cX12_run 37 = .ok (.invokevirtual 123, 3) := by decide +kernel
theorem d_X12_run_40 : decode cX12_run 40 = .ok (.aload_n 0, 1) := by decide +kernel
theorem d_X12_run_41 : decode cX12_run 41 = .ok (.getfield 40, 3) := by decide +kernel
theorem d_X12_run_44 : decode cX12_run 44 = .ok (.getfield 120, 3) := by decide +kernel
theorem d_X12_run_47 : decode cX12_run 47 = .ok (.iload_n 2, 1) := by decide +kernel
theorem d_X12_run_48 : decode cX12_run 48 = .ok (.isub, 1) := by decide +kernel
theorem d_X12_run_49 : decode cX12_run 49 = .ok (.ireturn, 1) := by decide +kernel
abbrev rm_X12_run : Room := { frames := 10, cells := 1, slots := 6, locals := 208 }
def B_X12_run_12 (post : Int32 → CMu → Prop) (px : Nat → CMu → Prop) (cm : CMu) : Prop := px 0 cm
def w_X12_run (post : Int32 → CMu → Prop) (px : Nat → CMu → Prop) (x1 : Int32) (cm : CMu) : Prop := (x1 < 1 → (B_X12_run_12 post px cm)) ∧ (¬ x1 < 1 → ((x1 ≤ 2000 → (w_X3_pass (fun (u2 : CMu) => post ((gI u2 382 7) - (gI cm 382 7)) u2) 382 x1 cm)) ∧ (¬ x1 ≤ 2000 → (B_X12_run_12 post px cm))))
section G_X12_run
variable {p : Program} {l : Launch} {e : Env} {s : State} {m : MethodId} {args : Array Value} {below : List Frame} {meth : Method} {c : Code} {G : Gd} {ρ : Nat → Nat} {A : Nat → Prop} {mm : Nat → Nat → Int32} {oo : Nat → Int64}
set_option maxHeartbeats 4000000 in
set_option maxRecDepth 100000 in
theorem T_X12_run_12 {post : Int32 → CMu → Prop} {px : Nat → CMu → Prop} (hl : l.stackTraces = false) (X : MC p l s m args meth c cX12_run 3 RX12 G ρ A) (hr : meth.sig.returnType = (some .int)) (hex : ∀ z ∈ c.exceptionTable.toList, False) : ∀ (cm : CMu), B_X12_run_12 post px cm → LW p l e rm_X12_run s m args below meth c (Qm below G ρ A (PI (fun u => (u, mm, oo)) post) (PE (fun u => (u, mm, oo)) px) args s 1 6) G ρ A 3 0 0 12 [] [] (cm, mm, oo) := by
  intro cm h
  unfold B_X12_run_12 at h
  exact L_throw0 (pc := 12) X hex d_X12_run_12 d_X12_run_15 d_X12_run_16 d_X12_run_19 (by decide) (by decide) (by decide) (by decide) (by decide) (by decide) ⟨_, rfl, h⟩
set_option maxHeartbeats 4000000 in
set_option maxRecDepth 100000 in
theorem c_X12_run (hl : l.stackTraces = false) {x1 : Int32} {cm : CMu} {post : Int32 → CMu → Prop} {px : Nat → CMu → Prop} (h : w_X12_run post px x1 cm) : CT l yX12_run (.code yX12_run cX12_run 3 (some .int)) rm_X12_run 1 6 G ρ [.ref 1, .int x1] (cm, mm, oo) (PI (fun u => (u, mm, oo)) post) (PE (fun u => (u, mm, oo)) px) := by
  refine CT_of hl (by decide +kernel) rfl (Nat.le_of_ble_eq_true rfl) (lv0 := [(0, .ref 1), (1, .int x1)]) rfl (fun p e s m args below meth c A X hr hex hnm => ?_)
  unfold w_X12_run at h
  refine L_iload_n (pc := 0) X d_X12_run_0 rfl 1 rfl ?_
  refine L_iconst (pc := 1) (v := 1) X d_X12_run_1 (by decide) ?_
  refine L_icmp_lt (pc := 2) (tgt := 12) X d_X12_run_2 (by decide) (fun c2 => ?_) (fun c2 => ?_)
  · replace h := h.1 c2
    refine LW.sub [] rfl ?_
    exact T_X12_run_12 hl X hr hex   _ h
  · replace h := h.2 c2
    refine L_iload_n (pc := 5) X d_X12_run_5 rfl 1 rfl ?_
    refine L_sipush (pc := 6) (v := 2000) X d_X12_run_6 (by decide) ?_
    refine L_icmp_le (pc := 9) (tgt := 20) X d_X12_run_9 (by decide) (fun c9 => ?_) (fun c9 => ?_)
    · replace h := h.1 c9
      refine L_aload_n (pc := 20) X d_X12_run_20 rfl 0 rfl ?_
      refine gf_X12_40 (pc := 21) (b := 382) X d_X12_run_21 kd_1 rfl ?_
      refine gf_X12_120 (pc := 24) X d_X12_run_24 kd_382 ?_
      refine L_istore_n (pc := 27) (lv2 := [(2, .int (gI cm 382 7)), (0, .ref 1), (1, .int x1)]) X d_X12_run_27 rfl (by decide) rfl ?_
      refine L_aload_n (pc := 28) X d_X12_run_28 rfl 1 rfl ?_
      refine gf_X12_26 (pc := 29) (b := 8) X d_X12_run_29 kd_1 rfl ?_
      refine L_aload_n (pc := 32) X d_X12_run_32 rfl 1 rfl ?_
      refine gf_X12_40 (pc := 33) (b := 382) X d_X12_run_33 kd_1 rfl ?_
      refine L_iload_n (pc := 36) X d_X12_run_36 rfl 2 rfl ?_
      refine L_callVV (pc := 37) X lk_X12_123 (c_X3_pass X.hst kd_382 h) rfl rfl kd_8 (by decide) rfl rfl ⟨by decide, by decide⟩ ⟨by decide, by decide⟩ (Nat.zero_le _) d_X12_run_37 rfl (fun x κ1 hx => L_nox hx) (fun u2 h => ?_)
      refine L_aload_n (pc := 40) X d_X12_run_40 rfl 1 rfl ?_
      refine gf_X12_40 (pc := 41) (b := 382) X d_X12_run_41 kd_1 rfl ?_
      refine gf_X12_120 (pc := 44) X d_X12_run_44 kd_382 ?_
      refine L_iload_n (pc := 47) X d_X12_run_47 rfl 0 rfl ?_
      refine L_isub (pc := 48) X d_X12_run_48 ?_
      exact L_iret (pc := 49) X hr d_X12_run_49 (by decide) (by decide) ⟨_, _, rfl, rfl, h⟩
    · replace h := h.2 c9
      refine LW.sub [] rfl ?_
      exact T_X12_run_12 hl X hr hex   _ h
end G_X12_run
theorem yk_X6_settle : yX6_settle.cls = RX6 ∧ yX6_settle.cls ≠ "java/lang/invoke/MethodHandle" ∧ yX6_settle.cls ≠ "java/lang/invoke/VarHandle" ∧ (parseMethodDescriptor yX6_settle.desc).map (fun d => d.parameters.length) = some 1 := by decide +kernel
theorem lk_X12_245 : LinkV RX12 245 RX6 yX6_settle (.code yX6_settle cX6_settle 3 (some .boolean)) 1 := ⟨tw_1146, tw_1147, tw_1148, tw_79, tw_1149, yk_X6_settle⟩
theorem yk_X6_span : yX6_span.cls = RX6 ∧ yX6_span.cls ≠ "java/lang/invoke/MethodHandle" ∧ yX6_span.cls ≠ "java/lang/invoke/VarHandle" ∧ (parseMethodDescriptor yX6_span.desc).map (fun d => d.parameters.length) = some 0 := by decide +kernel
theorem lk_X12_249 : LinkV RX12 249 RX6 yX6_span (.code yX6_span cX6_span 3 (some .int)) 0 := ⟨tw_1156, tw_1157, tw_1158, tw_79, tw_1159, yk_X6_span⟩
theorem d_X12_plan_0 : decode cX12_plan 0 = .ok (.iload_n 1, 1) := by decide +kernel
theorem d_X12_plan_1 : decode cX12_plan 1 = .ok (.iconst (-1), 1) := by decide +kernel
theorem d_X12_plan_2 : decode cX12_plan 2 = .ok (.if_icmp .eq 8, 3) := by decide +kernel
theorem d_X12_plan_5 : decode cX12_plan 5 = .ok (.aload_n 0, 1) := by decide +kernel
theorem d_X12_plan_6 : decode cX12_plan 6 = .ok (.iload_n 1, 1) := by decide +kernel
theorem d_X12_plan_7 : decode cX12_plan 7 = .ok (.invokevirtual 238, 3) := by decide +kernel
theorem d_X12_plan_10 : decode cX12_plan 10 = .ok (.aload_n 0, 1) := by decide +kernel
theorem d_X12_plan_11 : decode cX12_plan 11 = .ok (.getfield 40, 3) := by decide +kernel
theorem d_X12_plan_14 : decode cX12_plan 14 = .ok (.getfield 229, 3) := by decide +kernel
theorem d_X12_plan_17 : decode cX12_plan 17 = .ok (.aload_n 0, 1) := by decide +kernel
theorem d_X12_plan_18 : decode cX12_plan 18 = .ok (.getfield 40, 3) := by decide +kernel
theorem d_X12_plan_21 : decode cX12_plan 21 = .ok (.invokevirtual 245, 3) := by decide +kernel
theorem d_X12_plan_24 : decode cX12_plan 24 = .ok (.ifCond .ne 5, 3) := by decide +kernel
theorem d_X12_plan_27 : decode cX12_plan 27 = .ok (.iconst (-1), 1) := by decide +kernel
theorem d_X12_plan_28 : decode cX12_plan 28 = .ok (.ireturn, 1) := by decide +kernel
theorem d_X12_plan_29 : decode cX12_plan 29 = .ok (.iload_n 1, 1) := by decide +kernel
theorem d_X12_plan_30 : decode cX12_plan 30 = .ok (.iconst (-1), 1) := by decide +kernel
theorem d_X12_plan_31 : decode cX12_plan 31 = .ok (.if_icmp .ne 16, 3) := by decide +kernel
theorem d_X12_plan_34 : decode cX12_plan 34 = .ok (.aload_n 0, 1) := by decide +kernel
theorem d_X12_plan_35 : decode cX12_plan 35 = .ok (.getfield 40, 3) := by decide +kernel
theorem d_X12_plan_38 : decode cX12_plan 38 = .ok (.getfield 229, 3) := by decide +kernel
theorem d_X12_plan_41 : decode cX12_plan 41 = .ok (.invokevirtual 249, 3) := by decide +kernel
theorem d_X12_plan_44 : decode cX12_plan 44 = .ok (.goto 15, 3) := by decide +kernel
theorem d_X12_plan_47 : decode cX12_plan 47 = .ok (.aload_n 0, 1) := by decide +kernel
theorem d_X12_plan_48 : decode cX12_plan 48 = .ok (.getfield 40, 3) := by decide +kernel
theorem d_X12_plan_51 : decode cX12_plan 51 = .ok (.getfield 229, 3) := by decide +kernel
theorem d_X12_plan_54 : decode cX12_plan 54 = .ok (.getfield 252, 3) := by decide +kernel
theorem d_X12_plan_57 : decode cX12_plan 57 = .ok (.iload_n 1, 1) := by decide +kernel
theorem d_X12_plan_58 : decode cX12_plan 58 = .ok (.iaload, 1) := by decide +kernel
theorem d_X12_plan_59 : decode cX12_plan 59 = .ok (.ireturn, 1) := by decide +kernel
abbrev rm_X12_plan : Room := { frames := 7, cells := 1, slots := 6, locals := 121 }
def B_X12_plan_59 (post : Int32 → CMu → Prop) (px : Nat → CMu → Prop) (s0 : Int32) (cm : CMu) : Prop := post s0 cm
def B_X12_plan_10 (post : Int32 → CMu → Prop) (px : Nat → CMu → Prop) (v1 : Int32) (cm : CMu) : Prop := w_X6_settle (fun (r3 : Bool) (u4 : CMu) => (¬ (r3 = false) → ((¬ v1 = (-1) → ((vp_in v1 12) ∧ B_X12_plan_59 post px (gI u4 403 (Int32.toNatClampNeg v1)) u4)) ∧ (v1 = (-1) → (w_X6_span (fun (r6 : Int32) (u7 : CMu) => B_X12_plan_59 post px r6 u7) 387 u4)))) ∧ ((r3 = false) → (post (-1) u4))) 387 382 cm
def w_X12_plan (post : Int32 → CMu → Prop) (px : Nat → CMu → Prop) (x1 : Int32) (cm : CMu) : Prop := (x1 = (-1) → (B_X12_plan_10 post px x1 cm)) ∧ (¬ x1 = (-1) → (w_X12_demandOrder (fun (u2 : CMu) => B_X12_plan_10 post px x1 u2) px x1 cm))
section G_X12_plan
variable {p : Program} {l : Launch} {e : Env} {s : State} {m : MethodId} {args : Array Value} {below : List Frame} {meth : Method} {c : Code} {G : Gd} {ρ : Nat → Nat} {A : Nat → Prop} {mm : Nat → Nat → Int32} {oo : Nat → Int64}
set_option maxHeartbeats 4000000 in
set_option maxRecDepth 100000 in
theorem T_X12_plan_59 {post : Int32 → CMu → Prop} {px : Nat → CMu → Prop} (hl : l.stackTraces = false) (X : MC p l s m args meth c cX12_plan 2 RX12 G ρ A) (hr : meth.sig.returnType = (some .int)) (hex : ∀ z ∈ c.exceptionTable.toList, False) : ∀ (s0 : Int32) (cm : CMu), B_X12_plan_59 post px s0 cm → LW p l e rm_X12_plan s m args below meth c (Qm below G ρ A (PI (fun u => (u, mm, oo)) post) (PE (fun u => (u, mm, oo)) px) args s 1 6) G ρ A 2 1 6 59 [] [.int s0] (cm, mm, oo) := by
  intro s0 cm h
  unfold B_X12_plan_59 at h
  exact L_iret (pc := 59) X hr d_X12_plan_59 (by decide) (by decide) ⟨_, _, rfl, rfl, h⟩
set_option maxHeartbeats 4000000 in
set_option maxRecDepth 100000 in
theorem T_X12_plan_10 {post : Int32 → CMu → Prop} {px : Nat → CMu → Prop} (hl : l.stackTraces = false) (X : MC p l s m args meth c cX12_plan 2 RX12 G ρ A) (hr : meth.sig.returnType = (some .int)) (hex : ∀ z ∈ c.exceptionTable.toList, False) : ∀ (v1 : Int32) (cm : CMu), B_X12_plan_10 post px v1 cm → LW p l e rm_X12_plan s m args below meth c (Qm below G ρ A (PI (fun u => (u, mm, oo)) post) (PE (fun u => (u, mm, oo)) px) args s 1 6) G ρ A 2 1 6 10 [(0, .ref 1), (1, .int v1)] [] (cm, mm, oo) := by
  intro v1 cm h
  unfold B_X12_plan_10 at h
  refine L_aload_n (pc := 10) X d_X12_plan_10 rfl 0 rfl ?_
  refine gf_X12_40 (pc := 11) (b := 382) X d_X12_plan_11 kd_1 rfl ?_
  refine gf_X12_229 (pc := 14) (b := 387) X d_X12_plan_14 kd_382 rfl ?_
  refine L_aload_n (pc := 17) X d_X12_plan_17 rfl 0 rfl ?_
  refine gf_X12_40 (pc := 18) (b := 382) X d_X12_plan_18 kd_1 rfl ?_
  refine L_callVZ (pc := 21) X lk_X12_245 (c_X6_settle X.hst kd_387 kd_382 h) rfl rfl kd_387 (by decide) rfl rfl ⟨by decide, by decide⟩ ⟨by decide, by decide⟩ (Nat.zero_le _) d_X12_plan_21 rfl (fun x κ1 hx => L_nox hx) (fun r3 u4 h => ?_)
  refine L_if_ne (pc := 24) (tgt := 29) X d_X12_plan_24 (by decide) (fun c24 => ?_) (fun c24 => ?_)
  · replace h := h.1 (fun z => c24 ((b2_0 _).mpr z))
    refine L_iload_n (pc := 29) X d_X12_plan_29 rfl 1 rfl ?_
    refine L_iconst (pc := 30) (v := (-1)) X d_X12_plan_30 (by decide) ?_
    refine L_icmp_ne (pc := 31) (tgt := 47) X d_X12_plan_31 (by decide) (fun c31 => ?_) (fun c31 => ?_)
    · replace h := h.1 c31
      refine L_aload_n (pc := 47) X d_X12_plan_47 rfl 0 rfl ?_
      refine gf_X12_40 (pc := 48) (b := 382) X d_X12_plan_48 kd_1 rfl ?_
      refine gf_X12_229 (pc := 51) (b := 387) X d_X12_plan_51 kd_382 rfl ?_
      refine gf_X12_252 (pc := 54) (b := 403) X d_X12_plan_54 kd_387 rfl ?_
      refine L_iload_n (pc := 57) X d_X12_plan_57 rfl 1 rfl ?_
      obtain ⟨q5, h⟩ := h
      refine L_iald (pc := 58) X d_X12_plan_58 kd_403 q5 ?_
      refine LW.sub [] rfl ?_
      exact T_X12_plan_59 hl X hr hex _  _ h
    · replace h := h.2 c31
      refine L_aload_n (pc := 34) X d_X12_plan_34 rfl 0 rfl ?_
      refine gf_X12_40 (pc := 35) (b := 382) X d_X12_plan_35 kd_1 rfl ?_
      refine gf_X12_229 (pc := 38) (b := 387) X d_X12_plan_38 kd_382 rfl ?_
      refine L_callVI (pc := 41) X lk_X12_249 (c_X6_span X.hst kd_387 h) rfl rfl kd_387 (by decide) rfl rfl ⟨by decide, by decide⟩ ⟨by decide, by decide⟩ (Nat.zero_le _) d_X12_plan_41 rfl (fun x κ1 hx => L_nox hx) (fun r6 u7 h => ?_)
      refine L_goto (pc := 44) (tgt := 59) X d_X12_plan_44 (by decide) ?_
      refine LW.sub [] rfl ?_
      exact T_X12_plan_59 hl X hr hex _  _ h
  · replace h := h.2 ((b2_0 _).mp c24)
    refine L_iconst (pc := 27) (v := (-1)) X d_X12_plan_27 (by decide) ?_
    exact L_iret (pc := 28) X hr d_X12_plan_28 (by decide) (by decide) ⟨_, _, rfl, rfl, h⟩
set_option maxHeartbeats 4000000 in
set_option maxRecDepth 100000 in
theorem c_X12_plan (hl : l.stackTraces = false) {x1 : Int32} {cm : CMu} {post : Int32 → CMu → Prop} {px : Nat → CMu → Prop} (h : w_X12_plan post px x1 cm) : CT l yX12_plan (.code yX12_plan cX12_plan 2 (some .int)) rm_X12_plan 1 6 G ρ [.ref 1, .int x1] (cm, mm, oo) (PI (fun u => (u, mm, oo)) post) (PE (fun u => (u, mm, oo)) px) := by
  refine CT_of hl (by decide +kernel) rfl (Nat.le_of_ble_eq_true rfl) (lv0 := [(0, .ref 1), (1, .int x1)]) rfl (fun p e s m args below meth c A X hr hex hnm => ?_)
  unfold w_X12_plan at h
  refine L_iload_n (pc := 0) X d_X12_plan_0 rfl 1 rfl ?_
  refine L_iconst (pc := 1) (v := (-1)) X d_X12_plan_1 (by decide) ?_
  refine L_icmp_eq (pc := 2) (tgt := 10) X d_X12_plan_2 (by decide) (fun c2 => ?_) (fun c2 => ?_)
  · replace h := h.1 c2
    refine LW.widen (c2 := 1) (s2 := 6) (by decide) (by decide) ?_
    refine LW.sub [0, 1] rfl ?_
    exact T_X12_plan_10 hl X hr hex _  _ h
  · replace h := h.2 c2
    refine L_aload_n (pc := 5) X d_X12_plan_5 rfl 0 rfl ?_
    refine L_iload_n (pc := 6) X d_X12_plan_6 rfl 1 rfl ?_
    refine L_callVV (pc := 7) X lk_X12_238 (c_X12_demandOrder X.hst  h) rfl rfl kd_1 (by decide) rfl rfl ⟨by decide, by decide⟩ ⟨by decide, by decide⟩ (Nat.zero_le _) d_X12_plan_7 rfl (fun x κ1 hx => L_pass X hex hx (by decide) (by decide)) (fun u2 h => ?_)
    refine LW.sub [0, 1] rfl ?_
    exact T_X12_plan_10 hl X hr hex _  _ h
end G_X12_plan
theorem yk_X8_read : yX8_read.cls = RX8 ∧ yX8_read.cls ≠ "java/lang/invoke/MethodHandle" ∧ yX8_read.cls ≠ "java/lang/invoke/VarHandle" ∧ (parseMethodDescriptor yX8_read.desc).map (fun d => d.parameters.length) = some 1 := by decide +kernel
theorem lk_X12_264 : LinkV RX12 264 RX8 yX8_read (.code yX8_read cX8_read 4 (some .boolean)) 1 := ⟨tw_1192, tw_1193, tw_1194, tw_77, tw_1195, yk_X8_read⟩
theorem yk_X8_tryAll : yX8_tryAll.cls = RX8 ∧ yX8_tryAll.cls ≠ "java/lang/invoke/MethodHandle" ∧ yX8_tryAll.cls ≠ "java/lang/invoke/VarHandle" ∧ (parseMethodDescriptor yX8_tryAll.desc).map (fun d => d.parameters.length) = some 2 := by decide +kernel
theorem lk_X12_267 : LinkV RX12 267 RX8 yX8_tryAll (.code yX8_tryAll cX8_tryAll 5 none) 2 := ⟨tw_1197, tw_1198, tw_1199, tw_77, tw_1200, yk_X8_tryAll⟩
theorem d_X12_fits_0 : decode cX12_fits 0 = .ok (.aload_n 0, 1) := by decide +kernel
theorem d_X12_fits_1 : decode cX12_fits 1 = .ok (.getfield 33, 3) := by decide +kernel
theorem d_X12_fits_4 : decode cX12_fits 4 = .ok (.aload_n 0, 1) := by decide +kernel
theorem d_X12_fits_5 : decode cX12_fits 5 = .ok (.getfield 10, 3) := by decide +kernel
theorem d_X12_fits_8 : decode cX12_fits 8 = .ok (.invokevirtual 264, 3) := by decide +kernel
theorem d_X12_fits_11 : decode cX12_fits 11 = .ok (.istore_n 2, 1) := by decide +kernel
theorem d_X12_fits_12 : decode cX12_fits 12 = .ok (.iload_n 2, 1) := by decide +kernel
theorem d_X12_fits_13 : decode cX12_fits 13 = .ok (.ifCond .eq 8, 3) := by decide +kernel
theorem d_X12_fits_16 : decode cX12_fits 16 = .ok (.iload_n 1, 1) := by decide +kernel
theorem d_X12_fits_17 : decode cX12_fits 17 = .ok (.iconst (-1), 1) := by decide +kernel
theorem d_X12_fits_18 : decode cX12_fits 18 = .ok (.if_icmp .ge 11, 3) := by decide +kernel
theorem d_X12_fits_21 : decode cX12_fits 21 = .ok (.new 82, 3) := by decide +kernel
theorem d_X12_fits_24 : decode cX12_fits 24 = .ok (.dup, 1) := by decide +kernel
theorem d_X12_fits_25 : decode cX12_fits 25 = .ok (.invokespecial 84, 3) := by decide +kernel
theorem d_X12_fits_28 : decode cX12_fits 28 = .ok (.athrow, 1) := by decide +kernel
theorem d_X12_fits_29 : decode cX12_fits 29 = .ok (.aload_n 0, 1) := by decide +kernel
theorem d_X12_fits_30 : decode cX12_fits 30 = .ok (.getfield 33, 3) := by decide +kernel
theorem d_X12_fits_33 : decode cX12_fits 33 = .ok (.aload_n 0, 1) := by decide +kernel
theorem d_X12_fits_34 : decode cX12_fits 34 = .ok (.getfield 40, 3) := by decide +kernel
theorem d_X12_fits_37 : decode cX12_fits 37 = .ok (.iconst 0, 1) := by decide +kernel
theorem d_X12_fits_38 : decode cX12_fits 38 = .ok (.aload_n 0, 1) := by decide +kernel
theorem d_X12_fits_39 : decode cX12_fits 39 = .ok (.getfield 40, 3) := by decide +kernel
theorem d_X12_fits_42 : decode cX12_fits 42 = .ok (.getfield 91, 3) := by decide +kernel
theorem d_X12_fits_45 : decode cX12_fits 45 = .ok (.iconst 1, 1) := by decide +kernel
theorem d_X12_fits_46 : decode cX12_fits 46 = .ok (.iadd, 1) := by decide +kernel
theorem d_X12_fits_47 : decode cX12_fits 47 = .ok (.invokevirtual 213, 3) := by decide +kernel
theorem d_X12_fits_50 : decode cX12_fits 50 = .ok (.aload_n 0, 1) := by decide +kernel
theorem d_X12_fits_51 : decode cX12_fits 51 = .ok (.getfield 40, 3) := by decide +kernel
theorem d_X12_fits_54 : decode cX12_fits 54 = .ok (.getfield 137, 3) := by decide +kernel
theorem d_X12_fits_57 : decode cX12_fits 57 = .ok (.invokevirtual 267, 3) := by decide +kernel
theorem d_X12_fits_60 : decode cX12_fits 60 = .ok (.iload_n 1, 1) := by decide +kernel
theorem d_X12_fits_61 : decode cX12_fits 61 = .ok (.iconst (-1), 1) := by decide +kernel
theorem d_X12_fits_62 : decode cX12_fits 62 = .ok (.if_icmp .ne 11, 3) := by decide +kernel
theorem d_X12_fits_65 : decode cX12_fits 65 = .ok (.aload_n 0, 1) := by decide +kernel
theorem d_X12_fits_66 : decode cX12_fits 66 = .ok (.getfield 33, 3) := by decide +kernel
theorem d_X12_fits_69 : decode cX12_fits 69 = .ok (.getfield 270, 3) := by decide +kernel
theorem d_X12_fits_72 : decode cX12_fits 72 = .ok (.ireturn, 1) := by decide +kernel
theorem d_X12_fits_73 : decode cX12_fits 73 = .ok (.aload_n 0, 1) := by decide +kernel
theorem d_X12_fits_74 : decode cX12_fits 74 = .ok (.getfield 33, 3) := by decide +kernel
theorem d_X12_fits_77 : decode cX12_fits 77 = .ok (.getfield 270, 3) := by decide +kernel
theorem d_X12_fits_80 : decode cX12_fits 80 = .ok (.ifCond .le 26, 3) := by decide +kernel
theorem d_X12_fits_83 : decode cX12_fits 83 = .ok (.iload_n 1, 1) := by decide +kernel
theorem d_X12_fits_84 : decode cX12_fits 84 = .ok (.aload_n 0, 1) := by decide +kernel
theorem d_X12_fits_85 : decode cX12_fits 85 = .ok (.getfield 33, 3) := by decide +kernel
theorem d_X12_fits_88 : decode cX12_fits 88 = .ok (.getfield 273, 3) := by decide +kernel
theorem d_X12_fits_91 : decode cX12_fits 91 = .ok (.if_icmp .ge 15, 3) := by decide +kernel
theorem d_X12_fits_94 : decode cX12_fits 94 = .ok (.aload_n 0, 1) := by decide +kernel
theorem d_X12_fits_95 : decode cX12_fits 95 = .ok (.getfield 33, 3) := by decide +kernel
theorem d_X12_fits_98 : decode cX12_fits 98 = .ok (.getfield 274, 3) := by decide +kernel
theorem d_X12_fits_101 : decode cX12_fits 101 = .ok (.iload_n 1, 1) := by decide +kernel
theorem d_X12_fits_102 : decode cX12_fits 102 = .ok (.iaload, 1) := by decide +kernel
theorem d_X12_fits_103 : decode cX12_fits 103 = .ok (.goto 4, 3) := by decide +kernel
theorem d_X12_fits_106 : decode cX12_fits 106 = .ok (.iconst (-1), 1) := by decide +kernel
theorem d_X12_fits_107 : decode cX12_fits 107 = .ok (.ireturn, 1) := by decide +kernel
abbrev rm_X12_fits : Room := { frames := 6, cells := 1, slots := 6, locals := 100 }
def B_X12_fits_107 (post : Int32 → CMu → Prop) (px : Nat → CMu → Prop) (s0 : Int32) (cm : CMu) : Prop := post s0 cm
def B_X12_fits_106 (post : Int32 → CMu → Prop) (px : Nat → CMu → Prop) (cm : CMu) : Prop := B_X12_fits_107 post px (-1) cm
def B_X12_fits_21 (post : Int32 → CMu → Prop) (px : Nat → CMu → Prop) (cm : CMu) : Prop := px 0 cm
def w_X12_fits (post : Int32 → CMu → Prop) (px : Nat → CMu → Prop) (x1 : Int32) (cm : CMu) : Prop := w_X8_read (fun (r1 : Bool) (u2 : CMu) => ((r1 = false) → (B_X12_fits_21 post px u2)) ∧ (¬ (r1 = false) → (((-1) ≤ x1 → (w_X4_lengthBetween (fun (r3 : Int32) (u4 : CMu) => w_X8_tryAll (fun (u6 : CMu) => (¬ x1 = (-1) → (((gI u6 377 5) ≤ 0 → (B_X12_fits_106 post px u6)) ∧ (¬ (gI u6 377 5) ≤ 0 → (((gI u6 377 4) ≤ x1 → (B_X12_fits_106 post px u6)) ∧ (¬ (gI u6 377 4) ≤ x1 → ((vp_in x1 6) ∧ B_X12_fits_107 post px (gI u6 381 (Int32.toNatClampNeg x1)) u6)))))) ∧ (x1 = (-1) → (post (gI u6 377 5) u6))) r3 (gI u4 382 9) u4) 382 0 ((gI u2 382 5) + 1) u2)) ∧ (¬ (-1) ≤ x1 → (B_X12_fits_21 post px u2)))))  cm
section G_X12_fits
variable {p : Program} {l : Launch} {e : Env} {s : State} {m : MethodId} {args : Array Value} {below : List Frame} {meth : Method} {c : Code} {G : Gd} {ρ : Nat → Nat} {A : Nat → Prop} {mm : Nat → Nat → Int32} {oo : Nat → Int64}
set_option maxHeartbeats 4000000 in
set_option maxRecDepth 100000 in
theorem T_X12_fits_107 {post : Int32 → CMu → Prop} {px : Nat → CMu → Prop} (hl : l.stackTraces = false) (X : MC p l s m args meth c cX12_fits 3 RX12 G ρ A) (hr : meth.sig.returnType = (some .int)) (hex : ∀ z ∈ c.exceptionTable.toList, False) : ∀ (s0 : Int32) (cm : CMu), B_X12_fits_107 post px s0 cm → LW p l e rm_X12_fits s m args below meth c (Qm below G ρ A (PI (fun u => (u, mm, oo)) post) (PE (fun u => (u, mm, oo)) px) args s 1 6) G ρ A 3 0 0 107 [] [.int s0] (cm, mm, oo) := by
  intro s0 cm h
  unfold B_X12_fits_107 at h
  exact L_iret (pc := 107) X hr d_X12_fits_107 (by decide) (by decide) ⟨_, _, rfl, rfl, h⟩
set_option maxHeartbeats 4000000 in
set_option maxRecDepth 100000 in
theorem T_X12_fits_106 {post : Int32 → CMu → Prop} {px : Nat → CMu → Prop} (hl : l.stackTraces = false) (X : MC p l s m args meth c cX12_fits 3 RX12 G ρ A) (hr : meth.sig.returnType = (some .int)) (hex : ∀ z ∈ c.exceptionTable.toList, False) : ∀ (cm : CMu), B_X12_fits_106 post px cm → LW p l e rm_X12_fits s m args below meth c (Qm below G ρ A (PI (fun u => (u, mm, oo)) post) (PE (fun u => (u, mm, oo)) px) args s 1 6) G ρ A 3 0 0 106 [] [] (cm, mm, oo) := by
  intro cm h
  unfold B_X12_fits_106 at h
  refine L_iconst (pc := 106) (v := (-1)) X d_X12_fits_106 (by decide) ?_
  refine LW.sub [] rfl ?_
  exact T_X12_fits_107 hl X hr hex _  _ h
set_option maxHeartbeats 4000000 in
set_option maxRecDepth 100000 in
theorem T_X12_fits_21 {post : Int32 → CMu → Prop} {px : Nat → CMu → Prop} (hl : l.stackTraces = false) (X : MC p l s m args meth c cX12_fits 3 RX12 G ρ A) (hr : meth.sig.returnType = (some .int)) (hex : ∀ z ∈ c.exceptionTable.toList, False) : ∀ (cm : CMu), B_X12_fits_21 post px cm → LW p l e rm_X12_fits s m args below meth c (Qm below G ρ A (PI (fun u => (u, mm, oo)) post) (PE (fun u => (u, mm, oo)) px) args s 1 6) G ρ A 3 0 0 21 [] [] (cm, mm, oo) := by
  intro cm h
  unfold B_X12_fits_21 at h
  exact L_throw0 (pc := 21) X hex d_X12_fits_21 d_X12_fits_24 d_X12_fits_25 d_X12_fits_28 (by decide) (by decide) (by decide) (by decide) (by decide) (by decide) ⟨_, rfl, h⟩
set_option maxHeartbeats 4000000 in
set_option maxRecDepth 100000 in
theorem c_X12_fits (hl : l.stackTraces = false) {x1 : Int32} {cm : CMu} {post : Int32 → CMu → Prop} {px : Nat → CMu → Prop} (h : w_X12_fits post px x1 cm) : CT l yX12_fits (.code yX12_fits cX12_fits 3 (some .int)) rm_X12_fits 1 6 G ρ [.ref 1, .int x1] (cm, mm, oo) (PI (fun u => (u, mm, oo)) post) (PE (fun u => (u, mm, oo)) px) := by
  refine CT_of hl (by decide +kernel) rfl (Nat.le_of_ble_eq_true rfl) (lv0 := [(0, .ref 1), (1, .int x1)]) rfl (fun p e s m args below meth c A X hr hex hnm => ?_)
  unfold w_X12_fits at h
  refine L_aload_n (pc := 0) X d_X12_fits_0 rfl 0 rfl ?_
  refine gf_X12_33 (pc := 1) (b := 377) X d_X12_fits_1 kd_1 rfl ?_
  refine L_aload_n (pc := 4) X d_X12_fits_4 rfl 0 rfl ?_
  refine gf_X12_10 (pc := 5) (b := 2) X d_X12_fits_5 kd_1 rfl ?_
  refine L_callVZ (pc := 8) X lk_X12_264 (c_X8_read X.hst  h) rfl rfl kd_377 (by decide) rfl rfl ⟨by decide, by decide⟩ ⟨by decide, by decide⟩ (Nat.zero_le _) d_X12_fits_8 rfl (fun x κ1 hx => L_nox hx) (fun r1 u2 h => ?_)
  refine L_istore_n (pc := 11) (lv2 := [(2, .int (b2 r1)), (0, .ref 1), (1, .int x1)]) X d_X12_fits_11 rfl (by decide) rfl ?_
  refine L_iload_n (pc := 12) X d_X12_fits_12 rfl 0 rfl ?_
  refine L_if_eq (pc := 13) (tgt := 21) X d_X12_fits_13 (by decide) (fun c13 => ?_) (fun c13 => ?_)
  · replace h := h.1 ((b2_0 _).mp c13)
    refine LW.sub [] rfl ?_
    exact T_X12_fits_21 hl X hr hex   _ h
  · replace h := h.2 (fun z => c13 ((b2_0 _).mpr z))
    refine L_iload_n (pc := 16) X d_X12_fits_16 rfl 2 rfl ?_
    refine L_iconst (pc := 17) (v := (-1)) X d_X12_fits_17 (by decide) ?_
    refine L_icmp_ge (pc := 18) (tgt := 29) X d_X12_fits_18 (by decide) (fun c18 => ?_) (fun c18 => ?_)
    · replace h := h.1 c18
      refine L_aload_n (pc := 29) X d_X12_fits_29 rfl 1 rfl ?_
      refine gf_X12_33 (pc := 30) (b := 377) X d_X12_fits_30 kd_1 rfl ?_
      refine L_aload_n (pc := 33) X d_X12_fits_33 rfl 1 rfl ?_
      refine gf_X12_40 (pc := 34) (b := 382) X d_X12_fits_34 kd_1 rfl ?_
      refine L_iconst (pc := 37) (v := 0) X d_X12_fits_37 (by decide) ?_
      refine L_aload_n (pc := 38) X d_X12_fits_38 rfl 1 rfl ?_
      refine gf_X12_40 (pc := 39) (b := 382) X d_X12_fits_39 kd_1 rfl ?_
      refine gf_X12_91 (pc := 42) X d_X12_fits_42 kd_382 ?_
      refine L_iconst (pc := 45) (v := 1) X d_X12_fits_45 (by decide) ?_
      refine L_iadd (pc := 46) X d_X12_fits_46 ?_
      refine L_callVI (pc := 47) X lk_X12_213 (c_X4_lengthBetween X.hst kd_382 h) rfl rfl kd_382 (by decide) rfl rfl ⟨by decide, by decide⟩ ⟨by decide, by decide⟩ (Nat.le_of_ble_eq_true rfl) d_X12_fits_47 rfl (fun x κ1 hx => L_nox hx) (fun r3 u4 h => ?_)
      refine L_aload_n (pc := 50) X d_X12_fits_50 rfl 1 rfl ?_
      refine gf_X12_40 (pc := 51) (b := 382) X d_X12_fits_51 kd_1 rfl ?_
      refine gf_X12_137 (pc := 54) X d_X12_fits_54 kd_382 ?_
      refine L_callVV (pc := 57) X lk_X12_267 (c_X8_tryAll X.hst  h) rfl rfl kd_377 (by decide) rfl rfl ⟨by decide, by decide⟩ ⟨by decide, by decide⟩ (Nat.zero_le _) d_X12_fits_57 rfl (fun x κ1 hx => L_nox hx) (fun u6 h => ?_)
      refine L_iload_n (pc := 60) X d_X12_fits_60 rfl 2 rfl ?_
      refine L_iconst (pc := 61) (v := (-1)) X d_X12_fits_61 (by decide) ?_
      refine L_icmp_ne (pc := 62) (tgt := 73) X d_X12_fits_62 (by decide) (fun c62 => ?_) (fun c62 => ?_)
      · replace h := h.1 c62
        refine L_aload_n (pc := 73) X d_X12_fits_73 rfl 1 rfl ?_
        refine gf_X12_33 (pc := 74) (b := 377) X d_X12_fits_74 kd_1 rfl ?_
        refine gf_X12_270 (pc := 77) X d_X12_fits_77 kd_377 ?_
        refine L_if_le (pc := 80) (tgt := 106) X d_X12_fits_80 (by decide) (fun c80 => ?_) (fun c80 => ?_)
        · replace h := h.1 c80
          refine LW.sub [] rfl ?_
          exact T_X12_fits_106 hl X hr hex   _ h
        · replace h := h.2 c80
          refine L_iload_n (pc := 83) X d_X12_fits_83 rfl 2 rfl ?_
          refine L_aload_n (pc := 84) X d_X12_fits_84 rfl 1 rfl ?_
          refine gf_X12_33 (pc := 85) (b := 377) X d_X12_fits_85 kd_1 rfl ?_
          refine gf_X12_273 (pc := 88) X d_X12_fits_88 kd_377 ?_
          refine L_icmp_ge (pc := 91) (tgt := 106) X d_X12_fits_91 (by decide) (fun c91 => ?_) (fun c91 => ?_)
          · replace h := h.1 c91
            refine LW.sub [] rfl ?_
            exact T_X12_fits_106 hl X hr hex   _ h
          · replace h := h.2 c91
            refine L_aload_n (pc := 94) X d_X12_fits_94 rfl 1 rfl ?_
            refine gf_X12_33 (pc := 95) (b := 377) X d_X12_fits_95 kd_1 rfl ?_
            refine gf_X12_274 (pc := 98) (b := 381) X d_X12_fits_98 kd_377 rfl ?_
            refine L_iload_n (pc := 101) X d_X12_fits_101 rfl 2 rfl ?_
            obtain ⟨q7, h⟩ := h
            refine L_iald (pc := 102) X d_X12_fits_102 kd_381 q7 ?_
            refine L_goto (pc := 103) (tgt := 107) X d_X12_fits_103 (by decide) ?_
            refine LW.sub [] rfl ?_
            exact T_X12_fits_107 hl X hr hex _  _ h
      · replace h := h.2 c62
        refine L_aload_n (pc := 65) X d_X12_fits_65 rfl 1 rfl ?_
        refine gf_X12_33 (pc := 66) (b := 377) X d_X12_fits_66 kd_1 rfl ?_
        refine gf_X12_270 (pc := 69) X d_X12_fits_69 kd_377 ?_
        exact L_iret (pc := 72) X hr d_X12_fits_72 (by decide) (by decide) ⟨_, _, rfl, rfl, h⟩
    · replace h := h.2 c18
      refine LW.sub [] rfl ?_
      exact T_X12_fits_21 hl X hr hex   _ h
end G_X12_fits
theorem yk_J6_bitCount_0f7a4 : yJ6_bitCount_0f7a4.cls ≠ "java/lang/invoke/MethodHandle" ∧ yJ6_bitCount_0f7a4.cls ≠ "java/lang/invoke/VarHandle" ∧ (parseMethodDescriptor yJ6_bitCount_0f7a4.desc).map (fun d => d.parameters.length) = some 1 := by decide +kernel
theorem lk_X12_277 : LinkS RX12 277 yJ6_bitCount_0f7a4 (.code yJ6_bitCount_0f7a4 cJ6_bitCount_0f7a4 1 (some .int)) 1 := ⟨tw_509, tw_510, tw_100, tw_511, yk_J6_bitCount_0f7a4⟩
theorem d_X12_test_0 : decode cX12_test 0 = .ok (.iload_n 1, 1) := by decide +kernel
theorem d_X12_test_1 : decode cX12_test 1 = .ok (.iconst 1, 1) := by decide +kernel
theorem d_X12_test_2 : decode cX12_test 2 = .ok (.aload_n 0, 1) := by decide +kernel
theorem d_X12_test_3 : decode cX12_test 3 = .ok (.getfield 40, 3) := by decide +kernel
theorem d_X12_test_6 : decode cX12_test 6 = .ok (.getfield 91, 3) := by decide +kernel
theorem d_X12_test_9 : decode cX12_test 9 = .ok (.iconst 1, 1) := by decide +kernel
theorem d_X12_test_10 : decode cX12_test 10 = .ok (.iadd, 1) := by decide +kernel
theorem d_X12_test_11 : decode cX12_test 11 = .ok (.ishl, 1) := by decide +kernel
theorem d_X12_test_12 : decode cX12_test 12 = .ok (.iconst 1, 1) := by decide +kernel
theorem d_X12_test_13 : decode cX12_test 13 = .ok (.isub, 1) := by decide +kernel
theorem d_X12_test_14 : decode cX12_test 14 = .ok (.iand, 1) := by decide +kernel
theorem d_X12_test_15 : decode cX12_test 15 = .ok (.istore_n 2, 1) := by decide +kernel
theorem d_X12_test_16 : decode cX12_test 16 = .ok (.iload_n 2, 1) := by decide +kernel
theorem d_X12_test_17 : decode cX12_test 17 = .ok (.invokestatic 277, 3) := by decide +kernel
theorem d_X12_test_20 : decode cX12_test 20 = .ok (.istore_n 3, 1) := by decide +kernel
theorem d_X12_test_21 : decode cX12_test 21 = .ok (.iload_n 3, 1) := by decide +kernel
theorem d_X12_test_22 : decode cX12_test 22 = .ok (.iconst 2, 1) := by decide +kernel
theorem d_X12_test_23 : decode cX12_test 23 = .ok (.if_icmp .ge 5, 3) := by decide +kernel
theorem d_X12_test_26 : decode cX12_test 26 = .ok (.iconst (-1), 1) := by decide +kernel
theorem d_X12_test_27 : decode cX12_test 27 = .ok (.ireturn, 1) := by decide +kernel
theorem d_X12_test_28 : decode cX12_test 28 = .ok (.iconst (-1), 1) := by decide +kernel
theorem d_X12_test_29 : decode cX12_test 29 = .ok (.istore 4, 2) := by decide +kernel
theorem d_X12_test_31 : decode cX12_test 31 = .ok (.iload_n 3, 1) := by decide +kernel
theorem d_X12_test_32 : decode cX12_test 32 = .ok (.istore 5, 2) := by decide +kernel
theorem d_X12_test_34 : decode cX12_test 34 = .ok (.iconst 0, 1) := by decide +kernel
theorem d_X12_test_35 : decode cX12_test 35 = .ok (.istore 6, 2) := by decide +kernel
theorem d_X12_test_37 : decode cX12_test 37 = .ok (.iload 6, 2) := by decide +kernel
theorem d_X12_test_39 : decode cX12_test 39 = .ok (.aload_n 0, 1) := by decide +kernel
theorem d_X12_test_40 : decode cX12_test 40 = .ok (.getfield 40, 3) := by decide +kernel
theorem d_X12_test_43 : decode cX12_test 43 = .ok (.getfield 91, 3) := by decide +kernel
theorem d_X12_test_46 : decode cX12_test 46 = .ok (.if_icmp .gt 83, 3) := by decide +kernel
theorem d_X12_test_49 : decode cX12_test 49 = .ok (.iload 6, 2) := by decide +kernel
theorem d_X12_test_51 : decode cX12_test 51 = .ok (.iconst 1, 1) := by decide +kernel
theorem d_X12_test_52 : decode cX12_test 52 = .ok (.iadd, 1) := by decide +kernel
theorem d_X12_test_53 : decode cX12_test 53 = .ok (.istore 7, 2) := by decide +kernel
theorem d_X12_test_55 : decode cX12_test 55 = .ok (.iload 7, 2) := by decide +kernel
theorem d_X12_test_57 : decode cX12_test 57 = .ok (.aload_n 0, 1) := by decide +kernel
theorem d_X12_test_58 : decode cX12_test 58 = .ok (.getfield 40, 3) := by decide +kernel
theorem d_X12_test_61 : decode cX12_test 61 = .ok (.getfield 91, 3) := by decide +kernel
theorem d_X12_test_64 : decode cX12_test 64 = .ok (.iconst 1, 1) := by decide +kernel
theorem d_X12_test_65 : decode cX12_test 65 = .ok (.iadd, 1) := by decide +kernel
theorem d_X12_test_66 : decode cX12_test 66 = .ok (.if_icmp .gt 57, 3) := by decide +kernel
theorem d_X12_test_69 : decode cX12_test 69 = .ok (.iload_n 2, 1) := by decide +kernel
theorem d_X12_test_70 : decode cX12_test 70 = .ok (.iconst 1, 1) := by decide +kernel
theorem d_X12_test_71 : decode cX12_test 71 = .ok (.iload 7, 2) := by decide +kernel
theorem d_X12_test_73 : decode cX12_test 73 = .ok (.ishl, 1) := by decide +kernel
theorem d_X12_test_74 : decode cX12_test 74 = .ok (.iconst 1, 1) := by decide +kernel
theorem d_X12_test_75 : decode cX12_test 75 = .ok (.iload 6, 2) := by decide +kernel
theorem d_X12_test_77 : decode cX12_test 77 = .ok (.ishl, 1) := by decide +kernel
theorem d_X12_test_78 : decode cX12_test 78 = .ok (.isub, 1) := by decide +kernel
theorem d_X12_test_79 : decode cX12_test 79 = .ok (.iand, 1) := by decide +kernel
theorem d_X12_test_80 : decode cX12_test 80 = .ok (.invokestatic 277, 3) := by decide +kernel
theorem d_X12_test_83 : decode cX12_test 83 = .ok (.istore 8, 2) := by decide +kernel
theorem d_X12_test_85 : decode cX12_test 85 = .ok (.iload 8, 2) := by decide +kernel
theorem d_X12_test_87 : decode cX12_test 87 = .ok (.iload_n 3, 1) := by decide +kernel
theorem d_X12_test_88 : decode cX12_test 88 = .ok (.iload 8, 2) := by decide +kernel
theorem d_X12_test_90 : decode cX12_test 90 = .ok (.isub, 1) := by decide +kernel
theorem d_X12_test_91 : decode cX12_test 91 = .ok (.invokestatic 224, 3) := by decide +kernel
theorem d_X12_test_94 : decode cX12_test 94 = .ok (.istore 9, 2) := by decide +kernel
theorem d_X12_test_96 : decode cX12_test 96 = .ok (.iload 9, 2) := by decide +kernel
theorem d_X12_test_98 : decode cX12_test 98 = .ok (.iload 5, 2) := by decide +kernel
theorem d_X12_test_100 : decode cX12_test 100 = .ok (.if_icmp .ge 17, 3) := by decide +kernel
theorem d_X12_test_103 : decode cX12_test 103 = .ok (.iload 9, 2) := by decide +kernel
theorem d_X12_test_105 : decode cX12_test 105 = .ok (.istore 5, 2) := by decide +kernel
theorem d_X12_test_107 : decode cX12_test 107 = .ok (.bipush 16, 2) := by decide +kernel
theorem d_X12_test_109 : decode cX12_test 109 = .ok (.iload 6, 2) := by decide +kernel
theorem d_X12_test_111 : decode cX12_test 111 = .ok (.imul, 1) := by decide +kernel
theorem d_X12_test_112 : decode cX12_test 112 = .ok (.iload 7, 2) := by decide +kernel
theorem d_X12_test_114 : decode cX12_test 114 = .ok (.iadd, 1) := by decide +kernel
theorem d_X12_test_115 : decode cX12_test 115 = .ok (.istore 4, 2) := by decide +kernel
theorem d_X12_test_117 : decode cX12_test 117 = .ok (.iinc 7 1, 3) := by decide +kernel
theorem d_X12_test_120 : decode cX12_test 120 = .ok (.goto (-65), 3) := by decide +kernel
theorem d_X12_test_123 : decode cX12_test 123 = .ok (.iinc 6 1, 3) := by decide +kernel
theorem d_X12_test_126 : decode cX12_test 126 = .ok (.goto (-89), 3) := by decide +kernel
theorem d_X12_test_129 : decode cX12_test 129 = .ok (.iload 4, 2) := by decide +kernel
theorem d_X12_test_131 : decode cX12_test 131 = .ok (.ireturn, 1) := by decide +kernel
abbrev rm_X12_test : Room := { frames := 4, cells := 0, slots := 0, locals := 60 }
def B_X12_test_117 (post : Int32 → CMu → Prop) (k37 : Int32 → Int32 → Int32 → Int32 → Int32 → CMu → Prop) (k55 : Int32 → Int32 → Int32 → Int32 → Int32 → Int32 → CMu → Prop) (v2 : Int32) (v3 : Int32) (v4 : Int32) (v5 : Int32) (v6 : Int32) (v7 : Int32) (cm : CMu) : Prop := k55 v2 v3 v4 v5 v6 (v7 + 1) cm
def B_X12_test_55 (post : Int32 → CMu → Prop) (k37 : Int32 → Int32 → Int32 → Int32 → Int32 → CMu → Prop) : Nat → Int32 → Int32 → Int32 → Int32 → Int32 → Int32 → CMu → Prop
  | 0 => fun _ _ _ _ _ _ _ => False
  | n + 1 => fun v2 v3 v4 v5 v6 v7 cm => (((gI cm 382 5) + 1) < v7 → (k37 v2 v3 v4 v5 (v6 + 1) cm)) ∧ (¬ ((gI cm 382 5) + 1) < v7 → (w_J6_bitCount_0f7a4 (fun (r3 : Int32) (u4 : CMu) => (v5 ≤ (jmax r3 (v3 - r3)) → (B_X12_test_117 post k37 (B_X12_test_55 post k37 n) v2 v3 v4 v5 v6 v7 u4)) ∧ (¬ v5 ≤ (jmax r3 (v3 - r3)) → (B_X12_test_117 post k37 (B_X12_test_55 post k37 n) v2 v3 ((16 * v6) + v7) (jmax r3 (v3 - r3)) v6 v7 u4))) (v2 &&& ((1 <<< (v7 &&& 31)) - (1 <<< (v6 &&& 31)))) cm))
def B_X12_test_37 (post : Int32 → CMu → Prop) : Nat → Int32 → Int32 → Int32 → Int32 → Int32 → CMu → Prop
  | 0 => fun _ _ _ _ _ _ => False
  | n + 1 => fun v2 v3 v4 v5 v6 cm => ((gI cm 382 5) < v6 → (post v4 cm)) ∧ (¬ (gI cm 382 5) < v6 → (∃ n55, B_X12_test_55 post (B_X12_test_37 post n) n55 v2 v3 v4 v5 v6 (v6 + 1) cm))
def w_X12_test (post : Int32 → CMu → Prop) (x1 : Int32) (cm : CMu) : Prop := w_J6_bitCount_0f7a4 (fun (r1 : Int32) (u2 : CMu) => (2 ≤ r1 → (∃ n37, B_X12_test_37 post n37 (x1 &&& ((1 <<< (((gI cm 382 5) + 1) &&& 31)) - 1)) r1 (-1) r1 0 u2)) ∧ (¬ 2 ≤ r1 → (post (-1) u2))) (x1 &&& ((1 <<< (((gI cm 382 5) + 1) &&& 31)) - 1)) cm
section G_X12_test
variable {p : Program} {l : Launch} {e : Env} {s : State} {m : MethodId} {args : Array Value} {below : List Frame} {meth : Method} {c : Code} {G : Gd} {ρ : Nat → Nat} {A : Nat → Prop} {mm : Nat → Nat → Int32} {oo : Nat → Int64}
set_option maxHeartbeats 4000000 in
set_option maxRecDepth 100000 in
theorem T_X12_test_117 {post : Int32 → CMu → Prop} {k37 : Int32 → Int32 → Int32 → Int32 → Int32 → CMu → Prop} {k55 : Int32 → Int32 → Int32 → Int32 → Int32 → Int32 → CMu → Prop} (hl : l.stackTraces = false) (X : MC p l s m args meth c cX12_test 10 RX12 G ρ A) (hr : meth.sig.returnType = (some .int)) (hex : ∀ z ∈ c.exceptionTable.toList, False)
    (hk37 : ∀ (v2 : Int32) (v3 : Int32) (v4 : Int32) (v5 : Int32) (v6 : Int32) (cm : CMu), k37 v2 v3 v4 v5 v6 cm → LW p l e rm_X12_test s m args below meth c (Qm below G ρ A (PI (fun u => (u, mm, oo)) post) noX args s 0 0) G ρ A 10 0 0 37 [(0, .ref 1), (2, .int v2), (3, .int v3), (4, .int v4), (5, .int v5), (6, .int v6)] [] (cm, mm, oo))
    (hk55 : ∀ (v2 : Int32) (v3 : Int32) (v4 : Int32) (v5 : Int32) (v6 : Int32) (v7 : Int32) (cm : CMu), k55 v2 v3 v4 v5 v6 v7 cm → LW p l e rm_X12_test s m args below meth c (Qm below G ρ A (PI (fun u => (u, mm, oo)) post) noX args s 0 0) G ρ A 10 0 0 55 [(0, .ref 1), (2, .int v2), (3, .int v3), (4, .int v4), (5, .int v5), (6, .int v6), (7, .int v7)] [] (cm, mm, oo)) : ∀ (v2 : Int32) (v3 : Int32) (v4 : Int32) (v5 : Int32) (v6 : Int32) (v7 : Int32) (cm : CMu), B_X12_test_117 post k37 k55 v2 v3 v4 v5 v6 v7 cm → LW p l e rm_X12_test s m args below meth c (Qm below G ρ A (PI (fun u => (u, mm, oo)) post) noX args s 0 0) G ρ A 10 0 0 117 [(0, .ref 1), (2, .int v2), (3, .int v3), (4, .int v4), (5, .int v5), (6, .int v6), (7, .int v7)] [] (cm, mm, oo) := by
  intro v2 v3 v4 v5 v6 v7 cm h
  unfold B_X12_test_117 at h
  refine L_iinc (pc := 117) (v := v7 + 1) (lv2 := [(7, .int (v7 + 1)), (0, .ref 1), (2, .int v2), (3, .int v3), (4, .int v4), (5, .int v5), (6, .int v6)]) X d_X12_test_117 6 rfl rfl (by decide) rfl ?_
  refine L_goto (pc := 120) (tgt := 55) X d_X12_test_120 (by decide) ?_
  refine LW.sub [1, 2, 3, 4, 5, 6, 0] rfl ?_
  exact hk55 _ _ _ _ _ _  _ h
set_option maxHeartbeats 4000000 in
set_option maxRecDepth 100000 in
theorem T_X12_test_55 {post : Int32 → CMu → Prop} {k37 : Int32 → Int32 → Int32 → Int32 → Int32 → CMu → Prop} (hl : l.stackTraces = false) (X : MC p l s m args meth c cX12_test 10 RX12 G ρ A) (hr : meth.sig.returnType = (some .int)) (hex : ∀ z ∈ c.exceptionTable.toList, False)
    (hk37 : ∀ (v2 : Int32) (v3 : Int32) (v4 : Int32) (v5 : Int32) (v6 : Int32) (cm : CMu), k37 v2 v3 v4 v5 v6 cm → LW p l e rm_X12_test s m args below meth c (Qm below G ρ A (PI (fun u => (u, mm, oo)) post) noX args s 0 0) G ρ A 10 0 0 37 [(0, .ref 1), (2, .int v2), (3, .int v3), (4, .int v4), (5, .int v5), (6, .int v6)] [] (cm, mm, oo)) (n : Nat) : ∀ (v2 : Int32) (v3 : Int32) (v4 : Int32) (v5 : Int32) (v6 : Int32) (v7 : Int32) (cm : CMu), B_X12_test_55 post k37 n v2 v3 v4 v5 v6 v7 cm → LW p l e rm_X12_test s m args below meth c (Qm below G ρ A (PI (fun u => (u, mm, oo)) post) noX args s 0 0) G ρ A 10 0 0 55 [(0, .ref 1), (2, .int v2), (3, .int v3), (4, .int v4), (5, .int v5), (6, .int v6), (7, .int v7)] [] (cm, mm, oo) := by
  induction n with
  | zero =>
    intro v2 v3 v4 v5 v6 v7 cm h
    exact False.elim h
  | succ n ih =>
    intro v2 v3 v4 v5 v6 v7 cm h
    unfold B_X12_test_55 at h
    refine L_iload (pc := 55) X d_X12_test_55 6 rfl ?_
    refine L_aload_n (pc := 57) X d_X12_test_57 rfl 0 rfl ?_
    refine gf_X12_40 (pc := 58) (b := 382) X d_X12_test_58 kd_1 rfl ?_
    refine gf_X12_91 (pc := 61) X d_X12_test_61 kd_382 ?_
    refine L_iconst (pc := 64) (v := 1) X d_X12_test_64 (by decide) ?_
    refine L_iadd (pc := 65) X d_X12_test_65 ?_
    refine L_icmp_gt (pc := 66) (tgt := 123) X d_X12_test_66 (by decide) (fun c66 => ?_) (fun c66 => ?_)
    · replace h := h.1 c66
      refine L_iinc (pc := 123) (v := v6 + 1) (lv2 := [(6, .int (v6 + 1)), (0, .ref 1), (2, .int v2), (3, .int v3), (4, .int v4), (5, .int v5), (7, .int v7)]) X d_X12_test_123 5 rfl rfl (by decide) rfl ?_
      refine L_goto (pc := 126) (tgt := 37) X d_X12_test_126 (by decide) ?_
      refine LW.sub [1, 2, 3, 4, 5, 0] rfl ?_
      exact hk37 _ _ _ _ _  _ h
    · replace h := h.2 c66
      refine L_iload_n (pc := 69) X d_X12_test_69 rfl 1 rfl ?_
      refine L_iconst (pc := 70) (v := 1) X d_X12_test_70 (by decide) ?_
      refine L_iload (pc := 71) X d_X12_test_71 6 rfl ?_
      refine L_ishl (pc := 73) X d_X12_test_73 ?_
      refine L_iconst (pc := 74) (v := 1) X d_X12_test_74 (by decide) ?_
      refine L_iload (pc := 75) X d_X12_test_75 5 rfl ?_
      refine L_ishl (pc := 77) X d_X12_test_77 ?_
      refine L_isub (pc := 78) X d_X12_test_78 ?_
      refine L_iand (pc := 79) X d_X12_test_79 ?_
      refine L_callSI (pc := 80) X lk_X12_277 (c_J6_bitCount_0f7a4 X.hst  h) rfl rfl rfl ⟨by decide, by decide⟩ ⟨by decide, by decide⟩ (Nat.zero_le _) d_X12_test_80 rfl (fun x κ1 hx => L_nox hx) (fun r3 u4 h => ?_)
      refine L_istore (pc := 83) (lv2 := [(8, .int r3), (0, .ref 1), (2, .int v2), (3, .int v3), (4, .int v4), (5, .int v5), (6, .int v6), (7, .int v7)]) X d_X12_test_83 (by decide) rfl ?_
      refine L_iload (pc := 85) X d_X12_test_85 0 rfl ?_
      refine L_iload_n (pc := 87) X d_X12_test_87 rfl 3 rfl ?_
      refine L_iload (pc := 88) X d_X12_test_88 0 rfl ?_
      refine L_isub (pc := 90) X d_X12_test_90 ?_
      refine L_max (pc := 91) X d_X12_test_91 tw_515 tw_516 tw_84 tw_517 (by decide) (by decide) (by decide) (by decide) ?_
      refine L_istore (pc := 94) (lv2 := [(9, .int (jmax r3 (v3 - r3))), (8, .int r3), (0, .ref 1), (2, .int v2), (3, .int v3), (4, .int v4), (5, .int v5), (6, .int v6), (7, .int v7)]) X d_X12_test_94 (by decide) rfl ?_
      refine L_iload (pc := 96) X d_X12_test_96 0 rfl ?_
      refine L_iload (pc := 98) X d_X12_test_98 6 rfl ?_
      refine L_icmp_ge (pc := 100) (tgt := 117) X d_X12_test_100 (by decide) (fun c100 => ?_) (fun c100 => ?_)
      · replace h := h.1 c100
        refine LW.sub [2, 3, 4, 5, 6, 7, 8] rfl ?_
        exact T_X12_test_117 hl X hr hex hk37 ih _ _ _ _ _ _  _ h
      · replace h := h.2 c100
        refine L_iload (pc := 103) X d_X12_test_103 0 rfl ?_
        refine L_istore (pc := 105) (lv2 := [(5, .int (jmax r3 (v3 - r3))), (9, .int (jmax r3 (v3 - r3))), (8, .int r3), (0, .ref 1), (2, .int v2), (3, .int v3), (4, .int v4), (6, .int v6), (7, .int v7)]) X d_X12_test_105 (by decide) rfl ?_
        refine L_bipush (pc := 107) (v := 16) X d_X12_test_107 (by decide) ?_
        refine L_iload (pc := 109) X d_X12_test_109 7 rfl ?_
        refine L_imul (pc := 111) X d_X12_test_111 ?_
        refine L_iload (pc := 112) X d_X12_test_112 8 rfl ?_
        refine L_iadd (pc := 114) X d_X12_test_114 ?_
        refine L_istore (pc := 115) (lv2 := [(4, .int ((16 * v6) + v7)), (5, .int (jmax r3 (v3 - r3))), (9, .int (jmax r3 (v3 - r3))), (8, .int r3), (0, .ref 1), (2, .int v2), (3, .int v3), (6, .int v6), (7, .int v7)]) X d_X12_test_115 (by decide) rfl ?_
        refine LW.sub [4, 5, 6, 0, 1, 7, 8] rfl ?_
        exact T_X12_test_117 hl X hr hex hk37 ih _ _ _ _ _ _  _ h
set_option maxHeartbeats 4000000 in
set_option maxRecDepth 100000 in
theorem T_X12_test_37 {post : Int32 → CMu → Prop} (hl : l.stackTraces = false) (X : MC p l s m args meth c cX12_test 10 RX12 G ρ A) (hr : meth.sig.returnType = (some .int)) (hex : ∀ z ∈ c.exceptionTable.toList, False) (n : Nat) : ∀ (v2 : Int32) (v3 : Int32) (v4 : Int32) (v5 : Int32) (v6 : Int32) (cm : CMu), B_X12_test_37 post n v2 v3 v4 v5 v6 cm → LW p l e rm_X12_test s m args below meth c (Qm below G ρ A (PI (fun u => (u, mm, oo)) post) noX args s 0 0) G ρ A 10 0 0 37 [(0, .ref 1), (2, .int v2), (3, .int v3), (4, .int v4), (5, .int v5), (6, .int v6)] [] (cm, mm, oo) := by
  induction n with
  | zero =>
    intro v2 v3 v4 v5 v6 cm h
    exact False.elim h
  | succ n ih =>
    intro v2 v3 v4 v5 v6 cm h
    unfold B_X12_test_37 at h
    refine L_iload (pc := 37) X d_X12_test_37 5 rfl ?_
    refine L_aload_n (pc := 39) X d_X12_test_39 rfl 0 rfl ?_
    refine gf_X12_40 (pc := 40) (b := 382) X d_X12_test_40 kd_1 rfl ?_
    refine gf_X12_91 (pc := 43) X d_X12_test_43 kd_382 ?_
    refine L_icmp_gt (pc := 46) (tgt := 129) X d_X12_test_46 (by decide) (fun c46 => ?_) (fun c46 => ?_)
    · replace h := h.1 c46
      refine L_iload (pc := 129) X d_X12_test_129 3 rfl ?_
      exact L_iret (pc := 131) X hr d_X12_test_131 (by decide) (by decide) ⟨_, _, rfl, rfl, h⟩
    · replace h := h.2 c46
      refine L_iload (pc := 49) X d_X12_test_49 5 rfl ?_
      refine L_iconst (pc := 51) (v := 1) X d_X12_test_51 (by decide) ?_
      refine L_iadd (pc := 52) X d_X12_test_52 ?_
      refine L_istore (pc := 53) (lv2 := [(7, .int (v6 + 1)), (0, .ref 1), (2, .int v2), (3, .int v3), (4, .int v4), (5, .int v5), (6, .int v6)]) X d_X12_test_53 (by decide) rfl ?_
      obtain ⟨n55, h⟩ := h
      refine LW.sub [1, 2, 3, 4, 5, 6, 0] rfl ?_
      exact T_X12_test_55 hl X hr hex ih n55 _ _ _ _ _ _  _ h
set_option maxHeartbeats 4000000 in
set_option maxRecDepth 100000 in
theorem c_X12_test (hl : l.stackTraces = false) {x1 : Int32} {cm : CMu} {post : Int32 → CMu → Prop} (h : w_X12_test post x1 cm) : CT l yX12_test (.code yX12_test cX12_test 10 (some .int)) rm_X12_test 0 0 G ρ [.ref 1, .int x1] (cm, mm, oo) (PI (fun u => (u, mm, oo)) post) noX := by
  refine CT_of hl (by decide +kernel) rfl (Nat.le_of_ble_eq_true rfl) (lv0 := [(0, .ref 1), (1, .int x1)]) rfl (fun p e s m args below meth c A X hr hex hnm => ?_)
  unfold w_X12_test at h
  refine L_iload_n (pc := 0) X d_X12_test_0 rfl 1 rfl ?_
  refine L_iconst (pc := 1) (v := 1) X d_X12_test_1 (by decide) ?_
  refine L_aload_n (pc := 2) X d_X12_test_2 rfl 0 rfl ?_
  refine gf_X12_40 (pc := 3) (b := 382) X d_X12_test_3 kd_1 rfl ?_
  refine gf_X12_91 (pc := 6) X d_X12_test_6 kd_382 ?_
  refine L_iconst (pc := 9) (v := 1) X d_X12_test_9 (by decide) ?_
  refine L_iadd (pc := 10) X d_X12_test_10 ?_
  refine L_ishl (pc := 11) X d_X12_test_11 ?_
  refine L_iconst (pc := 12) (v := 1) X d_X12_test_12 (by decide) ?_
  refine L_isub (pc := 13) X d_X12_test_13 ?_
  refine L_iand (pc := 14) X d_X12_test_14 ?_
  refine L_istore_n (pc := 15) (lv2 := [(2, .int (x1 &&& ((1 <<< (((gI cm 382 5) + 1) &&& 31)) - 1))), (0, .ref 1), (1, .int x1)]) X d_X12_test_15 rfl (by decide) rfl ?_
  refine L_iload_n (pc := 16) X d_X12_test_16 rfl 0 rfl ?_
  refine L_callSI (pc := 17) X lk_X12_277 (c_J6_bitCount_0f7a4 X.hst  h) rfl rfl rfl ⟨by decide, by decide⟩ ⟨by decide, by decide⟩ (Nat.zero_le _) d_X12_test_17 rfl (fun x κ1 hx => L_nox hx) (fun r1 u2 h => ?_)
  refine L_istore_n (pc := 20) (lv2 := [(3, .int r1), (2, .int (x1 &&& ((1 <<< (((gI cm 382 5) + 1) &&& 31)) - 1))), (0, .ref 1), (1, .int x1)]) X d_X12_test_20 rfl (by decide) rfl ?_
  refine L_iload_n (pc := 21) X d_X12_test_21 rfl 0 rfl ?_
  refine L_iconst (pc := 22) (v := 2) X d_X12_test_22 (by decide) ?_
  refine L_icmp_ge (pc := 23) (tgt := 28) X d_X12_test_23 (by decide) (fun c23 => ?_) (fun c23 => ?_)
  · replace h := h.1 c23
    refine L_iconst (pc := 28) (v := (-1)) X d_X12_test_28 (by decide) ?_
    refine L_istore (pc := 29) (lv2 := [(4, .int (-1)), (3, .int r1), (2, .int (x1 &&& ((1 <<< (((gI cm 382 5) + 1) &&& 31)) - 1))), (0, .ref 1), (1, .int x1)]) X d_X12_test_29 (by decide) rfl ?_
    refine L_iload_n (pc := 31) X d_X12_test_31 rfl 1 rfl ?_
    refine L_istore (pc := 32) (lv2 := [(5, .int r1), (4, .int (-1)), (3, .int r1), (2, .int (x1 &&& ((1 <<< (((gI cm 382 5) + 1) &&& 31)) - 1))), (0, .ref 1), (1, .int x1)]) X d_X12_test_32 (by decide) rfl ?_
    refine L_iconst (pc := 34) (v := 0) X d_X12_test_34 (by decide) ?_
    refine L_istore (pc := 35) (lv2 := [(6, .int 0), (5, .int r1), (4, .int (-1)), (3, .int r1), (2, .int (x1 &&& ((1 <<< (((gI cm 382 5) + 1) &&& 31)) - 1))), (0, .ref 1), (1, .int x1)]) X d_X12_test_35 (by decide) rfl ?_
    obtain ⟨n37, h⟩ := h
    refine LW.sub [5, 4, 3, 2, 1, 0] rfl ?_
    exact T_X12_test_37 hl X hr hex n37 _ _ _ _ _  _ h
  · replace h := h.2 c23
    refine L_iconst (pc := 26) (v := (-1)) X d_X12_test_26 (by decide) ?_
    exact L_iret (pc := 27) X hr d_X12_test_27 (by decide) (by decide) ⟨_, _, rfl, rfl, h⟩
end G_X12_test
theorem yk_X4_chipsThat : yX4_chipsThat.cls = RX4 ∧ yX4_chipsThat.cls ≠ "java/lang/invoke/MethodHandle" ∧ yX4_chipsThat.cls ≠ "java/lang/invoke/VarHandle" ∧ (parseMethodDescriptor yX4_chipsThat.desc).map (fun d => d.parameters.length) = some 1 := by decide +kernel
theorem lk_X12_282 : LinkV RX12 282 RX4 yX4_chipsThat (.code yX4_chipsThat cX4_chipsThat 4 (some .int)) 1 := ⟨tw_1228, tw_1229, tw_1230, tw_78, tw_1231, yk_X4_chipsThat⟩
theorem d_X12_later_0 : decode cX12_later 0 = .ok (.iload_n 1, 1) := by decide +kernel
theorem d_X12_later_1 : decode cX12_later 1 = .ok (.ifCond .lt 10, 3) := by decide +kernel
theorem d_X12_later_4 : decode cX12_later 4 = .ok (.iload_n 1, 1) := by decide +kernel
theorem d_X12_later_5 : decode cX12_later 5 = .ok (.sipush 2000, 3) := by decide +kernel
theorem d_X12_later_8 : decode cX12_later 8 = .ok (.if_icmp .le 11, 3) := by decide +kernel
theorem d_X12_later_11 : decode cX12_later 11 = .ok (.new 82, 3) := by decide +kernel
theorem d_X12_later_14 : decode cX12_later 14 = .ok (.dup, 1) := by decide +kernel
theorem d_X12_later_15 : decode cX12_later 15 = .ok (.invokespecial 84, 3) := by decide +kernel
theorem d_X12_later_18 : decode cX12_later 18 = .ok (.athrow, 1) := by decide +kernel
theorem d_X12_later_19 : decode cX12_later 19 = .ok (.iload_n 2, 1) := by decide +kernel
theorem d_X12_later_20 : decode cX12_later 20 = .ok (.ifCond .lt 8, 3) := by decide +kernel
theorem d_X12_later_23 : decode cX12_later 23 = .ok (.iload_n 2, 1) := by decide +kernel
theorem d_X12_later_24 : decode cX12_later 24 = .ok (.iconst 5, 1) := by decide +kernel
theorem d_X12_later_25 : decode cX12_later 25 = .ok (.if_icmp .le 11, 3) := by decide +kernel
theorem d_X12_later_28 : decode cX12_later 28 = .ok (.new 164, 3) := by decide +kernel
theorem d_X12_later_31 : decode cX12_later 31 = .ok (.dup, 1) := by decide +kernel
theorem d_X12_later_32 : decode cX12_later 32 = .ok (.invokespecial 166, 3) := by decide +kernel
theorem d_X12_later_35 : decode cX12_later 35 = .ok (.athrow, 1) := by decide +kernel
theorem d_X12_later_36 : decode cX12_later 36 = .ok (.aload_n 0, 1) := by decide +kernel
theorem d_X12_later_37 : decode cX12_later 37 = .ok (.getfield 47, 3) := by decide +kernel
theorem d_X12_later_40 : decode cX12_later 40 = .ok (.aload_n 0, 1) := by decide +kernel
theorem d_X12_later_41 : decode cX12_later 41 = .ok (.getfield 40, 3) := by decide +kernel
theorem d_X12_later_44 : decode cX12_later 44 = .ok (.invokevirtual 70, 3) := by decide +kernel
theorem d_X12_later_47 : decode cX12_later 47 = .ok (.aload_n 0, 1) := by decide +kernel
theorem d_X12_later_48 : decode cX12_later 48 = .ok (.getfield 26, 3) := by decide +kernel
theorem d_X12_later_51 : decode cX12_later 51 = .ok (.aload_n 0, 1) := by decide +kernel
theorem d_X12_later_52 : decode cX12_later 52 = .ok (.getfield 47, 3) := by decide +kernel
theorem d_X12_later_55 : decode cX12_later 55 = .ok (.iload_n 1, 1) := by decide +kernel
theorem d_X12_later_56 : decode cX12_later 56 = .ok (.invokevirtual 123, 3) := by decide +kernel
theorem d_X12_later_59 : decode cX12_later 59 = .ok (.iload_n 2, 1) := by decide +kernel
theorem d_X12_later_60 : decode cX12_later 60 = .ok (.tableswitch 79 0 4 #[36, 44, 53, 62, 70], 36) := by decide +kernel
theorem d_X12_later_96 : decode cX12_later 96 = .ok (.aload_n 0, 1) := by decide +kernel
theorem d_X12_later_97 : decode cX12_later 97 = .ok (.getfield 47, 3) := by decide +kernel
theorem d_X12_later_100 : decode cX12_later 100 = .ok (.getfield 120, 3) := by decide +kernel
theorem d_X12_later_103 : decode cX12_later 103 = .ok (.ireturn, 1) := by decide +kernel
theorem d_X12_later_104 : decode cX12_later 104 = .ok (.aload_n 0, 1) := by decide +kernel
theorem d_X12_later_105 : decode cX12_later 105 = .ok (.getfield 47, 3) := by decide +kernel
theorem d_X12_later_108 : decode cX12_later 108 = .ok (.iconst 3, 1) := by decide +kernel
theorem d_X12_later_109 : decode cX12_later 109 = .ok (.invokevirtual 282, 3) := by decide +kernel
theorem d_X12_later_112 : decode cX12_later 112 = .ok (.ireturn, 1) := by decide +kernel
theorem d_X12_later_113 : decode cX12_later 113 = .ok (.aload_n 0, 1) := by decide +kernel
theorem d_X12_later_114 : decode cX12_later 114 = .ok (.getfield 47, 3) := by decide +kernel
theorem d_X12_later_117 : decode cX12_later 117 = .ok (.iconst 2, 1) := by decide +kernel
theorem d_X12_later_118 : decode cX12_later 118 = .ok (.invokevirtual 282, 3) := by decide +kernel
theorem d_X12_later_121 : decode cX12_later 121 = .ok (.ireturn, 1) := by decide +kernel
theorem d_X12_later_122 : decode cX12_later 122 = .ok (.aload_n 0, 1) := by decide +kernel
theorem d_X12_later_123 : decode cX12_later 123 = .ok (.getfield 47, 3) := by decide +kernel
theorem d_X12_later_126 : decode cX12_later 126 = .ok (.invokevirtual 285, 3) := by decide +kernel
theorem d_X12_later_129 : decode cX12_later 129 = .ok (.ireturn, 1) := by decide +kernel
theorem d_X12_later_130 : decode cX12_later 130 = .ok (.aload_n 0, 1) := by decide +kernel
theorem d_X12_later_131 : decode cX12_later 131 = .ok (.getfield 47, 3) := by decide +kernel
theorem d_X12_later_134 : decode cX12_later 134 = .ok (.iconst 0, 1) := by decide +kernel
theorem d_X12_later_135 : decode cX12_later 135 = .ok (.invokevirtual 282, 3) := by decide +kernel
theorem d_X12_later_138 : decode cX12_later 138 = .ok (.ireturn, 1) := by decide +kernel
theorem d_X12_later_139 : decode cX12_later 139 = .ok (.aload_n 0, 1) := by decide +kernel
theorem d_X12_later_140 : decode cX12_later 140 = .ok (.getfield 47, 3) := by decide +kernel
theorem d_X12_later_143 : decode cX12_later 143 = .ok (.iconst 1, 1) := by decide +kernel
theorem d_X12_later_144 : decode cX12_later 144 = .ok (.invokevirtual 282, 3) := by decide +kernel
theorem d_X12_later_147 : decode cX12_later 147 = .ok (.ireturn, 1) := by decide +kernel
abbrev rm_X12_later : Room := { frames := 10, cells := 1, slots := 6, locals := 208 }
def B_X12_later_28 (post : Int32 → CMu → Prop) (px : Nat → CMu → Prop) (cm : CMu) : Prop := px 3 cm
def B_X12_later_11 (post : Int32 → CMu → Prop) (px : Nat → CMu → Prop) (cm : CMu) : Prop := px 0 cm
def w_X12_later (post : Int32 → CMu → Prop) (px : Nat → CMu → Prop) (x1 : Int32) (x2 : Int32) (cm : CMu) : Prop := (x1 < 0 → (B_X12_later_11 post px cm)) ∧ (¬ x1 < 0 → ((x1 ≤ 2000 → ((x2 < 0 → (B_X12_later_28 post px cm)) ∧ (¬ x2 < 0 → ((x2 ≤ 5 → (w_X4_copyFrom (fun (u2 : CMu) => w_X3_pass (fun (u4 : CMu) => ((Int32.toInt x2 < 0 ∨ 4 < Int32.toInt x2) → (w_X4_chipsThat (fun (r7 : Int32) (u8 : CMu) => post r7 u8) 596 1 u4)) ∧ (Int32.toInt x2 = 0 → (post (gI u4 596 7) u4)) ∧ (Int32.toInt x2 = 1 → (w_X4_chipsThat (fun (r9 : Int32) (u10 : CMu) => post r9 u10) 596 3 u4)) ∧ (Int32.toInt x2 = 2 → (w_X4_chipsThat (fun (r11 : Int32) (u12 : CMu) => post r11 u12) 596 2 u4)) ∧ (Int32.toInt x2 = 3 → (w_X4_allSent (fun (r13 : Int32) (u14 : CMu) => post r13 u14) 596 u4)) ∧ (Int32.toInt x2 = 4 → (w_X4_chipsThat (fun (r15 : Int32) (u16 : CMu) => post r15 u16) 596 0 u4))) 596 x1 u2) 596 382 cm)) ∧ (¬ x2 ≤ 5 → (B_X12_later_28 post px cm)))))) ∧ (¬ x1 ≤ 2000 → (B_X12_later_11 post px cm))))
section G_X12_later
variable {p : Program} {l : Launch} {e : Env} {s : State} {m : MethodId} {args : Array Value} {below : List Frame} {meth : Method} {c : Code} {G : Gd} {ρ : Nat → Nat} {A : Nat → Prop} {mm : Nat → Nat → Int32} {oo : Nat → Int64}
set_option maxHeartbeats 4000000 in
set_option maxRecDepth 100000 in
theorem T_X12_later_28 {post : Int32 → CMu → Prop} {px : Nat → CMu → Prop} (hl : l.stackTraces = false) (X : MC p l s m args meth c cX12_later 3 RX12 G ρ A) (hr : meth.sig.returnType = (some .int)) (hex : ∀ z ∈ c.exceptionTable.toList, False) : ∀ (cm : CMu), B_X12_later_28 post px cm → LW p l e rm_X12_later s m args below meth c (Qm below G ρ A (PI (fun u => (u, mm, oo)) post) (PE (fun u => (u, mm, oo)) px) args s 1 6) G ρ A 3 0 0 28 [] [] (cm, mm, oo) := by
  intro cm h
  unfold B_X12_later_28 at h
  exact L_throw3 (pc := 28) X hex d_X12_later_28 d_X12_later_31 d_X12_later_32 d_X12_later_35 (by decide) (by decide) (by decide) (by decide) (by decide) (by decide) ⟨_, rfl, h⟩
set_option maxHeartbeats 4000000 in
set_option maxRecDepth 100000 in
theorem T_X12_later_11 {post : Int32 → CMu → Prop} {px : Nat → CMu → Prop} (hl : l.stackTraces = false) (X : MC p l s m args meth c cX12_later 3 RX12 G ρ A) (hr : meth.sig.returnType = (some .int)) (hex : ∀ z ∈ c.exceptionTable.toList, False) : ∀ (cm : CMu), B_X12_later_11 post px cm → LW p l e rm_X12_later s m args below meth c (Qm below G ρ A (PI (fun u => (u, mm, oo)) post) (PE (fun u => (u, mm, oo)) px) args s 1 6) G ρ A 3 0 0 11 [] [] (cm, mm, oo) := by
  intro cm h
  unfold B_X12_later_11 at h
  exact L_throw0 (pc := 11) X hex d_X12_later_11 d_X12_later_14 d_X12_later_15 d_X12_later_18 (by decide) (by decide) (by decide) (by decide) (by decide) (by decide) ⟨_, rfl, h⟩
set_option maxHeartbeats 4000000 in
set_option maxRecDepth 100000 in
theorem c_X12_later (hl : l.stackTraces = false) {x1 : Int32} {x2 : Int32} {cm : CMu} {post : Int32 → CMu → Prop} {px : Nat → CMu → Prop} (h : w_X12_later post px x1 x2 cm) : CT l yX12_later (.code yX12_later cX12_later 3 (some .int)) rm_X12_later 1 6 G ρ [.ref 1, .int x1, .int x2] (cm, mm, oo) (PI (fun u => (u, mm, oo)) post) (PE (fun u => (u, mm, oo)) px) := by
  refine CT_of hl (by decide +kernel) rfl (Nat.le_of_ble_eq_true rfl) (lv0 := [(0, .ref 1), (1, .int x1), (2, .int x2)]) rfl (fun p e s m args below meth c A X hr hex hnm => ?_)
  unfold w_X12_later at h
  refine L_iload_n (pc := 0) X d_X12_later_0 rfl 1 rfl ?_
  refine L_if_lt (pc := 1) (tgt := 11) X d_X12_later_1 (by decide) (fun c1 => ?_) (fun c1 => ?_)
  · replace h := h.1 c1
    refine LW.sub [] rfl ?_
    exact T_X12_later_11 hl X hr hex   _ h
  · replace h := h.2 c1
    refine L_iload_n (pc := 4) X d_X12_later_4 rfl 1 rfl ?_
    refine L_sipush (pc := 5) (v := 2000) X d_X12_later_5 (by decide) ?_
    refine L_icmp_le (pc := 8) (tgt := 19) X d_X12_later_8 (by decide) (fun c8 => ?_) (fun c8 => ?_)
    · replace h := h.1 c8
      refine L_iload_n (pc := 19) X d_X12_later_19 rfl 2 rfl ?_
      refine L_if_lt (pc := 20) (tgt := 28) X d_X12_later_20 (by decide) (fun c20 => ?_) (fun c20 => ?_)
      · replace h := h.1 c20
        refine LW.sub [] rfl ?_
        exact T_X12_later_28 hl X hr hex   _ h
      · replace h := h.2 c20
        refine L_iload_n (pc := 23) X d_X12_later_23 rfl 2 rfl ?_
        refine L_iconst (pc := 24) (v := 5) X d_X12_later_24 (by decide) ?_
        refine L_icmp_le (pc := 25) (tgt := 36) X d_X12_later_25 (by decide) (fun c25 => ?_) (fun c25 => ?_)
        · replace h := h.1 c25
          refine L_aload_n (pc := 36) X d_X12_later_36 rfl 0 rfl ?_
          refine gf_X12_47 (pc := 37) (b := 596) X d_X12_later_37 kd_1 rfl ?_
          refine L_aload_n (pc := 40) X d_X12_later_40 rfl 0 rfl ?_
          refine gf_X12_40 (pc := 41) (b := 382) X d_X12_later_41 kd_1 rfl ?_
          refine L_callVV (pc := 44) X lk_X12_70 (c_X4_copyFrom X.hst kd_596 kd_382 h) rfl rfl kd_596 (by decide) rfl rfl ⟨by decide, by decide⟩ ⟨by decide, by decide⟩ (Nat.zero_le _) d_X12_later_44 rfl (fun x κ1 hx => L_nox hx) (fun u2 h => ?_)
          refine L_aload_n (pc := 47) X d_X12_later_47 rfl 0 rfl ?_
          refine gf_X12_26 (pc := 48) (b := 8) X d_X12_later_48 kd_1 rfl ?_
          refine L_aload_n (pc := 51) X d_X12_later_51 rfl 0 rfl ?_
          refine gf_X12_47 (pc := 52) (b := 596) X d_X12_later_52 kd_1 rfl ?_
          refine L_iload_n (pc := 55) X d_X12_later_55 rfl 1 rfl ?_
          refine L_callVV (pc := 56) X lk_X12_123 (c_X3_pass X.hst kd_596 h) rfl rfl kd_8 (by decide) rfl rfl ⟨by decide, by decide⟩ ⟨by decide, by decide⟩ (Nat.zero_le _) d_X12_later_56 rfl (fun x κ1 hx => L_nox hx) (fun u4 h => ?_)
          refine L_iload_n (pc := 59) X d_X12_later_59 rfl 2 rfl ?_
          by_cases ct1 : Int32.toInt x2 < 0
          · refine L_tableOut (pc := 60) (tgt := 139) X d_X12_later_60 (Or.inl ct1) (by decide) ?_
            replace h := h.1 (Or.inl ct1)
            refine L_aload_n (pc := 139) X d_X12_later_139 rfl 0 rfl ?_
            refine gf_X12_47 (pc := 140) (b := 596) X d_X12_later_140 kd_1 rfl ?_
            refine L_iconst (pc := 143) (v := 1) X d_X12_later_143 (by decide) ?_
            refine L_callVI (pc := 144) X lk_X12_282 (c_X4_chipsThat X.hst kd_596 h) rfl rfl kd_596 (by decide) rfl rfl ⟨by decide, by decide⟩ ⟨by decide, by decide⟩ (Nat.zero_le _) d_X12_later_144 rfl (fun x κ1 hx => L_nox hx) (fun r5 u6 h => ?_)
            exact L_iret (pc := 147) X hr d_X12_later_147 (by decide) (by decide) ⟨_, _, rfl, rfl, h⟩
          by_cases ct2 : 4 < Int32.toInt x2
          · refine L_tableOut (pc := 60) (tgt := 139) X d_X12_later_60 (Or.inr ct2) (by decide) ?_
            replace h := h.1 (Or.inr ct2)
            refine L_aload_n (pc := 139) X d_X12_later_139 rfl 0 rfl ?_
            refine gf_X12_47 (pc := 140) (b := 596) X d_X12_later_140 kd_1 rfl ?_
            refine L_iconst (pc := 143) (v := 1) X d_X12_later_143 (by decide) ?_
            refine L_callVI (pc := 144) X lk_X12_282 (c_X4_chipsThat X.hst kd_596 h) rfl rfl kd_596 (by decide) rfl rfl ⟨by decide, by decide⟩ ⟨by decide, by decide⟩ (Nat.zero_le _) d_X12_later_144 rfl (fun x κ1 hx => L_nox hx) (fun r7 u8 h => ?_)
            exact L_iret (pc := 147) X hr d_X12_later_147 (by decide) (by decide) ⟨_, _, rfl, rfl, h⟩
          have ct3 : Int32.toInt x2 = 0 ∨ Int32.toInt x2 = 1 ∨ Int32.toInt x2 = 2 ∨ Int32.toInt x2 = 3 ∨ Int32.toInt x2 = 4 := by omega
          rcases ct3 with ct3 | ct3 | ct3 | ct3 | ct3
          · refine L_tableIn (pc := 60) (tgt := 96) (off := 36) X d_X12_later_60 ct1 ct2 (by rw [ct3]; rfl) (by decide) ?_
            replace h := h.2.1 ct3
            refine L_aload_n (pc := 96) X d_X12_later_96 rfl 0 rfl ?_
            refine gf_X12_47 (pc := 97) (b := 596) X d_X12_later_97 kd_1 rfl ?_
            refine gf_X12_120 (pc := 100) X d_X12_later_100 kd_596 ?_
            exact L_iret (pc := 103) X hr d_X12_later_103 (by decide) (by decide) ⟨_, _, rfl, rfl, h⟩
          · refine L_tableIn (pc := 60) (tgt := 104) (off := 44) X d_X12_later_60 ct1 ct2 (by rw [ct3]; rfl) (by decide) ?_
            replace h := h.2.2.1 ct3
            refine L_aload_n (pc := 104) X d_X12_later_104 rfl 0 rfl ?_
            refine gf_X12_47 (pc := 105) (b := 596) X d_X12_later_105 kd_1 rfl ?_
            refine L_iconst (pc := 108) (v := 3) X d_X12_later_108 (by decide) ?_
            refine L_callVI (pc := 109) X lk_X12_282 (c_X4_chipsThat X.hst kd_596 h) rfl rfl kd_596 (by decide) rfl rfl ⟨by decide, by decide⟩ ⟨by decide, by decide⟩ (Nat.zero_le _) d_X12_later_109 rfl (fun x κ1 hx => L_nox hx) (fun r9 u10 h => ?_)
            exact L_iret (pc := 112) X hr d_X12_later_112 (by decide) (by decide) ⟨_, _, rfl, rfl, h⟩
          · refine L_tableIn (pc := 60) (tgt := 113) (off := 53) X d_X12_later_60 ct1 ct2 (by rw [ct3]; rfl) (by decide) ?_
            replace h := h.2.2.2.1 ct3
            refine L_aload_n (pc := 113) X d_X12_later_113 rfl 0 rfl ?_
            refine gf_X12_47 (pc := 114) (b := 596) X d_X12_later_114 kd_1 rfl ?_
            refine L_iconst (pc := 117) (v := 2) X d_X12_later_117 (by decide) ?_
            refine L_callVI (pc := 118) X lk_X12_282 (c_X4_chipsThat X.hst kd_596 h) rfl rfl kd_596 (by decide) rfl rfl ⟨by decide, by decide⟩ ⟨by decide, by decide⟩ (Nat.zero_le _) d_X12_later_118 rfl (fun x κ1 hx => L_nox hx) (fun r11 u12 h => ?_)
            exact L_iret (pc := 121) X hr d_X12_later_121 (by decide) (by decide) ⟨_, _, rfl, rfl, h⟩
          · refine L_tableIn (pc := 60) (tgt := 122) (off := 62) X d_X12_later_60 ct1 ct2 (by rw [ct3]; rfl) (by decide) ?_
            replace h := h.2.2.2.2.1 ct3
            refine L_aload_n (pc := 122) X d_X12_later_122 rfl 0 rfl ?_
            refine gf_X12_47 (pc := 123) (b := 596) X d_X12_later_123 kd_1 rfl ?_
            refine L_callVI (pc := 126) X lk_X12_285 (c_X4_allSent X.hst kd_596 h) rfl rfl kd_596 (by decide) rfl rfl ⟨by decide, by decide⟩ ⟨by decide, by decide⟩ (Nat.zero_le _) d_X12_later_126 rfl (fun x κ1 hx => L_nox hx) (fun r13 u14 h => ?_)
            exact L_iret (pc := 129) X hr d_X12_later_129 (by decide) (by decide) ⟨_, _, rfl, rfl, h⟩
          · refine L_tableIn (pc := 60) (tgt := 130) (off := 70) X d_X12_later_60 ct1 ct2 (by rw [ct3]; rfl) (by decide) ?_
            replace h := h.2.2.2.2.2 ct3
            refine L_aload_n (pc := 130) X d_X12_later_130 rfl 0 rfl ?_
            refine gf_X12_47 (pc := 131) (b := 596) X d_X12_later_131 kd_1 rfl ?_
            refine L_iconst (pc := 134) (v := 0) X d_X12_later_134 (by decide) ?_
            refine L_callVI (pc := 135) X lk_X12_282 (c_X4_chipsThat X.hst kd_596 h) rfl rfl kd_596 (by decide) rfl rfl ⟨by decide, by decide⟩ ⟨by decide, by decide⟩ (Nat.zero_le _) d_X12_later_135 rfl (fun x κ1 hx => L_nox hx) (fun r15 u16 h => ?_)
            exact L_iret (pc := 138) X hr d_X12_later_138 (by decide) (by decide) ⟨_, _, rfl, rfl, h⟩
        · replace h := h.2 c25
          refine LW.sub [] rfl ?_
          exact T_X12_later_28 hl X hr hex   _ h
    · replace h := h.2 c8
      refine LW.sub [] rfl ?_
      exact T_X12_later_11 hl X hr hex   _ h
end G_X12_later
