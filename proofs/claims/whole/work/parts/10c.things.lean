theorem d_X10_isLetter_0 : decode cX10_isLetter 0 = .ok (.iload_n 0, 1) := by decide +kernel
theorem d_X10_isLetter_1 : decode cX10_isLetter 1 = .ok (.bipush 97, 2) := by decide +kernel
theorem d_X10_isLetter_3 : decode cX10_isLetter 3 = .ok (.if_icmp .lt 13, 3) := by decide +kernel
theorem d_X10_isLetter_6 : decode cX10_isLetter 6 = .ok (.iload_n 0, 1) := by decide +kernel
theorem d_X10_isLetter_7 : decode cX10_isLetter 7 = .ok (.bipush 122, 2) := by decide +kernel
theorem d_X10_isLetter_9 : decode cX10_isLetter 9 = .ok (.if_icmp .gt 7, 3) := by decide +kernel
theorem d_X10_isLetter_12 : decode cX10_isLetter 12 = .ok (.iconst 1, 1) := by decide +kernel
theorem d_X10_isLetter_13 : decode cX10_isLetter 13 = .ok (.goto 4, 3) := by decide +kernel
theorem d_X10_isLetter_16 : decode cX10_isLetter 16 = .ok (.iconst 0, 1) := by decide +kernel
theorem d_X10_isLetter_17 : decode cX10_isLetter 17 = .ok (.ireturn, 1) := by decide +kernel
abbrev rm_X10_isLetter : Room := { frames := 0, cells := 0, slots := 0, locals := 0 }
def w_X10_isLetter (post : Bool → CMu → Prop) (x0 : Int32) (cm : CMu) : Prop := (x0 < 97 → (post false cm)) ∧ (¬ x0 < 97 → ((122 < x0 → (post false cm)) ∧ (¬ 122 < x0 → (post true cm))))
section G_X10_isLetter
variable {p : Program} {l : Launch} {e : Env} {s : State} {m : MethodId} {args : Array Value} {below : List Frame} {meth : Method} {c : Code} {G : Gd} {ρ : Nat → Nat} {A : Nat → Prop} {mm : Nat → Nat → Int32} {oo : Nat → Int64}
set_option maxHeartbeats 4000000 in
set_option maxRecDepth 100000 in
theorem c_X10_isLetter (hl : l.stackTraces = false) {x0 : Int32} {cm : CMu} {post : Bool → CMu → Prop} (h : w_X10_isLetter post x0 cm) : CT l yX10_isLetter (.code yX10_isLetter cX10_isLetter 1 (some .boolean)) rm_X10_isLetter 0 0 G ρ [.int x0] (cm, mm, oo) (PZ (fun u => (u, mm, oo)) post) noX := by
  refine CT_of hl (by decide +kernel) rfl (Nat.le_of_ble_eq_true rfl) (lv0 := [(0, .int x0)]) rfl (fun p e s m args below meth c A X hr hex hnm => ?_)
  unfold w_X10_isLetter at h
  refine L_iload_n (pc := 0) X d_X10_isLetter_0 rfl 0 rfl ?_
  refine L_bipush (pc := 1) (v := 97) X d_X10_isLetter_1 (by decide) ?_
  refine L_icmp_lt (pc := 3) (tgt := 16) X d_X10_isLetter_3 (by decide) (fun c3 => ?_) (fun c3 => ?_)
  · replace h := h.1 c3
    refine L_iconst (pc := 16) (v := 0) X d_X10_isLetter_16 (by decide) ?_
    exact L_zretB (pc := 17) X hr d_X10_isLetter_17 false rfl (by decide) (by decide) ⟨_, _, rfl, rfl, h⟩
  · replace h := h.2 c3
    refine L_iload_n (pc := 6) X d_X10_isLetter_6 rfl 0 rfl ?_
    refine L_bipush (pc := 7) (v := 122) X d_X10_isLetter_7 (by decide) ?_
    refine L_icmp_gt (pc := 9) (tgt := 16) X d_X10_isLetter_9 (by decide) (fun c9 => ?_) (fun c9 => ?_)
    · replace h := h.1 c9
      refine L_iconst (pc := 16) (v := 0) X d_X10_isLetter_16 (by decide) ?_
      exact L_zretB (pc := 17) X hr d_X10_isLetter_17 false rfl (by decide) (by decide) ⟨_, _, rfl, rfl, h⟩
    · replace h := h.2 c9
      refine L_iconst (pc := 12) (v := 1) X d_X10_isLetter_12 (by decide) ?_
      refine L_goto (pc := 13) (tgt := 17) X d_X10_isLetter_13 (by decide) ?_
      exact L_zretB (pc := 17) X hr d_X10_isLetter_17 true rfl (by decide) (by decide) ⟨_, _, rfl, rfl, h⟩
end G_X10_isLetter
theorem d_X10_isDigit_0 : decode cX10_isDigit 0 = .ok (.iload_n 0, 1) := by decide +kernel
theorem d_X10_isDigit_1 : decode cX10_isDigit 1 = .ok (.bipush 48, 2) := by decide +kernel
theorem d_X10_isDigit_3 : decode cX10_isDigit 3 = .ok (.if_icmp .lt 13, 3) := by decide +kernel
theorem d_X10_isDigit_6 : decode cX10_isDigit 6 = .ok (.iload_n 0, 1) := by decide +kernel
theorem d_X10_isDigit_7 : decode cX10_isDigit 7 = .ok (.bipush 57, 2) := by decide +kernel
theorem d_X10_isDigit_9 : decode cX10_isDigit 9 = .ok (.if_icmp .gt 7, 3) := by decide +kernel
theorem d_X10_isDigit_12 : decode cX10_isDigit 12 = .ok (.iconst 1, 1) := by decide +kernel
theorem d_X10_isDigit_13 : decode cX10_isDigit 13 = .ok (.goto 4, 3) := by decide +kernel
theorem d_X10_isDigit_16 : decode cX10_isDigit 16 = .ok (.iconst 0, 1) := by decide +kernel
theorem d_X10_isDigit_17 : decode cX10_isDigit 17 = .ok (.ireturn, 1) := by decide +kernel
abbrev rm_X10_isDigit : Room := { frames := 0, cells := 0, slots := 0, locals := 0 }
def w_X10_isDigit (post : Bool → CMu → Prop) (x0 : Int32) (cm : CMu) : Prop := (x0 < 48 → (post false cm)) ∧ (¬ x0 < 48 → ((57 < x0 → (post false cm)) ∧ (¬ 57 < x0 → (post true cm))))
section G_X10_isDigit
variable {p : Program} {l : Launch} {e : Env} {s : State} {m : MethodId} {args : Array Value} {below : List Frame} {meth : Method} {c : Code} {G : Gd} {ρ : Nat → Nat} {A : Nat → Prop} {mm : Nat → Nat → Int32} {oo : Nat → Int64}
set_option maxHeartbeats 4000000 in
set_option maxRecDepth 100000 in
theorem c_X10_isDigit (hl : l.stackTraces = false) {x0 : Int32} {cm : CMu} {post : Bool → CMu → Prop} (h : w_X10_isDigit post x0 cm) : CT l yX10_isDigit (.code yX10_isDigit cX10_isDigit 1 (some .boolean)) rm_X10_isDigit 0 0 G ρ [.int x0] (cm, mm, oo) (PZ (fun u => (u, mm, oo)) post) noX := by
  refine CT_of hl (by decide +kernel) rfl (Nat.le_of_ble_eq_true rfl) (lv0 := [(0, .int x0)]) rfl (fun p e s m args below meth c A X hr hex hnm => ?_)
  unfold w_X10_isDigit at h
  refine L_iload_n (pc := 0) X d_X10_isDigit_0 rfl 0 rfl ?_
  refine L_bipush (pc := 1) (v := 48) X d_X10_isDigit_1 (by decide) ?_
  refine L_icmp_lt (pc := 3) (tgt := 16) X d_X10_isDigit_3 (by decide) (fun c3 => ?_) (fun c3 => ?_)
  · replace h := h.1 c3
    refine L_iconst (pc := 16) (v := 0) X d_X10_isDigit_16 (by decide) ?_
    exact L_zretB (pc := 17) X hr d_X10_isDigit_17 false rfl (by decide) (by decide) ⟨_, _, rfl, rfl, h⟩
  · replace h := h.2 c3
    refine L_iload_n (pc := 6) X d_X10_isDigit_6 rfl 0 rfl ?_
    refine L_bipush (pc := 7) (v := 57) X d_X10_isDigit_7 (by decide) ?_
    refine L_icmp_gt (pc := 9) (tgt := 16) X d_X10_isDigit_9 (by decide) (fun c9 => ?_) (fun c9 => ?_)
    · replace h := h.1 c9
      refine L_iconst (pc := 16) (v := 0) X d_X10_isDigit_16 (by decide) ?_
      exact L_zretB (pc := 17) X hr d_X10_isDigit_17 false rfl (by decide) (by decide) ⟨_, _, rfl, rfl, h⟩
    · replace h := h.2 c9
      refine L_iconst (pc := 12) (v := 1) X d_X10_isDigit_12 (by decide) ?_
      refine L_goto (pc := 13) (tgt := 17) X d_X10_isDigit_13 (by decide) ?_
      exact L_zretB (pc := 17) X hr d_X10_isDigit_17 true rfl (by decide) (by decide) ⟨_, _, rfl, rfl, h⟩
end G_X10_isDigit
theorem d_X10_valueOf_0 : decode cX10_valueOf 0 = .ok (.iconst 0, 1) := by decide +kernel
theorem d_X10_valueOf_1 : decode cX10_valueOf 1 = .ok (.istore_n 3, 1) := by decide +kernel
theorem d_X10_valueOf_2 : decode cX10_valueOf 2 = .ok (.iload_n 1, 1) := by decide +kernel
theorem d_X10_valueOf_3 : decode cX10_valueOf 3 = .ok (.istore 4, 2) := by decide +kernel
theorem d_X10_valueOf_5 : decode cX10_valueOf 5 = .ok (.iload 4, 2) := by decide +kernel
theorem d_X10_valueOf_7 : decode cX10_valueOf 7 = .ok (.iload_n 2, 1) := by decide +kernel
theorem d_X10_valueOf_8 : decode cX10_valueOf 8 = .ok (.if_icmp .ge 22, 3) := by decide +kernel
theorem d_X10_valueOf_11 : decode cX10_valueOf 11 = .ok (.bipush 10, 2) := by decide +kernel
theorem d_X10_valueOf_13 : decode cX10_valueOf 13 = .ok (.iload_n 3, 1) := by decide +kernel
theorem d_X10_valueOf_14 : decode cX10_valueOf 14 = .ok (.imul, 1) := by decide +kernel
theorem d_X10_valueOf_15 : decode cX10_valueOf 15 = .ok (.aload_n 0, 1) := by decide +kernel
theorem d_X10_valueOf_16 : decode cX10_valueOf 16 = .ok (.iload 4, 2) := by decide +kernel
theorem d_X10_valueOf_18 : decode cX10_valueOf 18 = .ok (.iaload, 1) := by decide +kernel
theorem d_X10_valueOf_19 : decode cX10_valueOf 19 = .ok (.iadd, 1) := by decide +kernel
theorem d_X10_valueOf_20 : decode cX10_valueOf 20 = .ok (.bipush 48, 2) := by decide +kernel
theorem d_X10_valueOf_22 : decode cX10_valueOf 22 = .ok (.isub, 1) := by decide +kernel
theorem d_X10_valueOf_23 : decode cX10_valueOf 23 = .ok (.istore_n 3, 1) := by decide +kernel
theorem d_X10_valueOf_24 : decode cX10_valueOf 24 = .ok (.iinc 4 1, 3) := by decide +kernel
theorem d_X10_valueOf_27 : decode cX10_valueOf 27 = .ok (.goto (-22), 3) := by decide +kernel
theorem d_X10_valueOf_30 : decode cX10_valueOf 30 = .ok (.iload_n 3, 1) := by decide +kernel
theorem d_X10_valueOf_31 : decode cX10_valueOf 31 = .ok (.ireturn, 1) := by decide +kernel
abbrev rm_X10_valueOf : Room := { frames := 0, cells := 0, slots := 0, locals := 0 }
def B_X10_valueOf_5 (post : Int32 → CMu → Prop) : Nat → Int32 → Int32 → Int32 → CMu → Prop
  | 0 => fun _ _ _ _ => False
  | n + 1 => fun v2 v3 v4 cm => (v2 ≤ v4 → (post v3 cm)) ∧ (¬ v2 ≤ v4 → ((vp_in v4 400) ∧ B_X10_valueOf_5 post n v2 (((10 * v3) + (gI cm 3 (Int32.toNatClampNeg v4))) - 48) (v4 + 1) cm))
def w_X10_valueOf (post : Int32 → CMu → Prop) (x1 : Int32) (x2 : Int32) (cm : CMu) : Prop := ∃ n5, B_X10_valueOf_5 post n5 x2 0 x1 cm
section G_X10_valueOf
variable {p : Program} {l : Launch} {e : Env} {s : State} {m : MethodId} {args : Array Value} {below : List Frame} {meth : Method} {c : Code} {G : Gd} {ρ : Nat → Nat} {A : Nat → Prop} {mm : Nat → Nat → Int32} {oo : Nat → Int64}
set_option maxHeartbeats 4000000 in
set_option maxRecDepth 100000 in
theorem T_X10_valueOf_5 {post : Int32 → CMu → Prop} (hl : l.stackTraces = false) (X : MC p l s m args meth c cX10_valueOf 5 RX10 G ρ A) (hr : meth.sig.returnType = (some .int)) (hex : ∀ z ∈ c.exceptionTable.toList, False) (n : Nat) : ∀ (v2 : Int32) (v3 : Int32) (v4 : Int32) (cm : CMu), B_X10_valueOf_5 post n v2 v3 v4 cm → LW p l e rm_X10_valueOf s m args below meth c (Qm below G ρ A (PI (fun u => (u, mm, oo)) post) noX args s 0 0) G ρ A 5 0 0 5 [(0, .ref 3), (2, .int v2), (3, .int v3), (4, .int v4)] [] (cm, mm, oo) := by
  induction n with
  | zero =>
    intro v2 v3 v4 cm h
    exact False.elim h
  | succ n ih =>
    intro v2 v3 v4 cm h
    unfold B_X10_valueOf_5 at h
    refine L_iload (pc := 5) X d_X10_valueOf_5 3 rfl ?_
    refine L_iload_n (pc := 7) X d_X10_valueOf_7 rfl 1 rfl ?_
    refine L_icmp_ge (pc := 8) (tgt := 30) X d_X10_valueOf_8 (by decide) (fun c8 => ?_) (fun c8 => ?_)
    · replace h := h.1 c8
      refine L_iload_n (pc := 30) X d_X10_valueOf_30 rfl 2 rfl ?_
      exact L_iret (pc := 31) X hr d_X10_valueOf_31 (by decide) (by decide) ⟨_, _, rfl, rfl, h⟩
    · replace h := h.2 c8
      refine L_bipush (pc := 11) (v := 10) X d_X10_valueOf_11 (by decide) ?_
      refine L_iload_n (pc := 13) X d_X10_valueOf_13 rfl 2 rfl ?_
      refine L_imul (pc := 14) X d_X10_valueOf_14 ?_
      refine L_aload_n (pc := 15) X d_X10_valueOf_15 rfl 0 rfl ?_
      refine L_iload (pc := 16) X d_X10_valueOf_16 3 rfl ?_
      obtain ⟨q1, h⟩ := h
      refine L_iald (pc := 18) X d_X10_valueOf_18 kd_3 q1 ?_
      refine L_iadd (pc := 19) X d_X10_valueOf_19 ?_
      refine L_bipush (pc := 20) (v := 48) X d_X10_valueOf_20 (by decide) ?_
      refine L_isub (pc := 22) X d_X10_valueOf_22 ?_
      refine L_istore_n (pc := 23) (lv2 := [(3, .int (((10 * v3) + (gI cm 3 (Int32.toNatClampNeg v4))) - 48)), (0, .ref 3), (2, .int v2), (4, .int v4)]) X d_X10_valueOf_23 rfl (by decide) rfl ?_
      refine L_iinc (pc := 24) (v := v4 + 1) (lv2 := [(4, .int (v4 + 1)), (3, .int (((10 * v3) + (gI cm 3 (Int32.toNatClampNeg v4))) - 48)), (0, .ref 3), (2, .int v2)]) X d_X10_valueOf_24 3 rfl rfl (by decide) rfl ?_
      refine L_goto (pc := 27) (tgt := 5) X d_X10_valueOf_27 (by decide) ?_
      refine LW.sub [2, 3, 1, 0] rfl ?_
      exact ih _ _ _  _ h
set_option maxHeartbeats 4000000 in
set_option maxRecDepth 100000 in
theorem c_X10_valueOf (hl : l.stackTraces = false) {x1 : Int32} {x2 : Int32} {cm : CMu} {post : Int32 → CMu → Prop} (h : w_X10_valueOf post x1 x2 cm) : CT l yX10_valueOf (.code yX10_valueOf cX10_valueOf 5 (some .int)) rm_X10_valueOf 0 0 G ρ [.ref 3, .int x1, .int x2] (cm, mm, oo) (PI (fun u => (u, mm, oo)) post) noX := by
  refine CT_of hl (by decide +kernel) rfl (Nat.le_of_ble_eq_true rfl) (lv0 := [(0, .ref 3), (1, .int x1), (2, .int x2)]) rfl (fun p e s m args below meth c A X hr hex hnm => ?_)
  unfold w_X10_valueOf at h
  refine L_iconst (pc := 0) (v := 0) X d_X10_valueOf_0 (by decide) ?_
  refine L_istore_n (pc := 1) (lv2 := [(3, .int 0), (0, .ref 3), (1, .int x1), (2, .int x2)]) X d_X10_valueOf_1 rfl (by decide) rfl ?_
  refine L_iload_n (pc := 2) X d_X10_valueOf_2 rfl 2 rfl ?_
  refine L_istore (pc := 3) (lv2 := [(4, .int x1), (3, .int 0), (0, .ref 3), (1, .int x1), (2, .int x2)]) X d_X10_valueOf_3 (by decide) rfl ?_
  obtain ⟨n5, h⟩ := h
  refine LW.sub [2, 4, 1, 0] rfl ?_
  exact T_X10_valueOf_5 hl X hr hex n5 _ _ _  _ h
end G_X10_valueOf
theorem yk_X10_isDigit : yX10_isDigit.cls ≠ "java/lang/invoke/MethodHandle" ∧ yX10_isDigit.cls ≠ "java/lang/invoke/VarHandle" ∧ (parseMethodDescriptor yX10_isDigit.desc).map (fun d => d.parameters.length) = some 1 := by decide +kernel
theorem lk_X10_51 : LinkS RX10 51 yX10_isDigit (.code yX10_isDigit cX10_isDigit 1 (some .boolean)) 1 := ⟨tw_597, tw_598, tw_74, tw_599, yk_X10_isDigit⟩
theorem yk_X10_isLetter : yX10_isLetter.cls ≠ "java/lang/invoke/MethodHandle" ∧ yX10_isLetter.cls ≠ "java/lang/invoke/VarHandle" ∧ (parseMethodDescriptor yX10_isLetter.desc).map (fun d => d.parameters.length) = some 1 := by decide +kernel
theorem lk_X10_70 : LinkS RX10 70 yX10_isLetter (.code yX10_isLetter cX10_isLetter 1 (some .boolean)) 1 := ⟨tw_594, tw_595, tw_74, tw_596, yk_X10_isLetter⟩
theorem d_X10_behindRun_0 : decode cX10_behindRun 0 = .ok (.iload_n 2, 1) := by decide +kernel
theorem d_X10_behindRun_1 : decode cX10_behindRun 1 = .ok (.iconst 1, 1) := by decide +kernel
theorem d_X10_behindRun_2 : decode cX10_behindRun 2 = .ok (.iadd, 1) := by decide +kernel
theorem d_X10_behindRun_3 : decode cX10_behindRun 3 = .ok (.istore_n 3, 1) := by decide +kernel
theorem d_X10_behindRun_4 : decode cX10_behindRun 4 = .ok (.aload_n 1, 1) := by decide +kernel
theorem d_X10_behindRun_5 : decode cX10_behindRun 5 = .ok (.iload_n 2, 1) := by decide +kernel
theorem d_X10_behindRun_6 : decode cX10_behindRun 6 = .ok (.iaload, 1) := by decide +kernel
theorem d_X10_behindRun_7 : decode cX10_behindRun 7 = .ok (.invokestatic 70, 3) := by decide +kernel
theorem d_X10_behindRun_10 : decode cX10_behindRun 10 = .ok (.ifCond .eq 26, 3) := by decide +kernel
theorem d_X10_behindRun_13 : decode cX10_behindRun 13 = .ok (.iload_n 3, 1) := by decide +kernel
theorem d_X10_behindRun_14 : decode cX10_behindRun 14 = .ok (.aload_n 0, 1) := by decide +kernel
theorem d_X10_behindRun_15 : decode cX10_behindRun 15 = .ok (.getfield 34, 3) := by decide +kernel
theorem d_X10_behindRun_18 : decode cX10_behindRun 18 = .ok (.if_icmp .ge 50, 3) := by decide +kernel
theorem d_X10_behindRun_21 : decode cX10_behindRun 21 = .ok (.aload_n 1, 1) := by decide +kernel
theorem d_X10_behindRun_22 : decode cX10_behindRun 22 = .ok (.iload_n 3, 1) := by decide +kernel
theorem d_X10_behindRun_23 : decode cX10_behindRun 23 = .ok (.iaload, 1) := by decide +kernel
theorem d_X10_behindRun_24 : decode cX10_behindRun 24 = .ok (.invokestatic 70, 3) := by decide +kernel
theorem d_X10_behindRun_27 : decode cX10_behindRun 27 = .ok (.ifCond .eq 41, 3) := by decide +kernel
theorem d_X10_behindRun_30 : decode cX10_behindRun 30 = .ok (.iinc 3 1, 3) := by decide +kernel
theorem d_X10_behindRun_33 : decode cX10_behindRun 33 = .ok (.goto (-20), 3) := by decide +kernel
theorem d_X10_behindRun_36 : decode cX10_behindRun 36 = .ok (.aload_n 1, 1) := by decide +kernel
theorem d_X10_behindRun_37 : decode cX10_behindRun 37 = .ok (.iload_n 2, 1) := by decide +kernel
theorem d_X10_behindRun_38 : decode cX10_behindRun 38 = .ok (.iaload, 1) := by decide +kernel
theorem d_X10_behindRun_39 : decode cX10_behindRun 39 = .ok (.invokestatic 51, 3) := by decide +kernel
theorem d_X10_behindRun_42 : decode cX10_behindRun 42 = .ok (.ifCond .eq 26, 3) := by decide +kernel
theorem d_X10_behindRun_45 : decode cX10_behindRun 45 = .ok (.iload_n 3, 1) := by decide +kernel
theorem d_X10_behindRun_46 : decode cX10_behindRun 46 = .ok (.aload_n 0, 1) := by decide +kernel
theorem d_X10_behindRun_47 : decode cX10_behindRun 47 = .ok (.getfield 34, 3) := by decide +kernel
theorem d_X10_behindRun_50 : decode cX10_behindRun 50 = .ok (.if_icmp .ge 18, 3) := by decide +kernel
theorem d_X10_behindRun_53 : decode cX10_behindRun 53 = .ok (.aload_n 1, 1) := by decide +kernel
theorem d_X10_behindRun_54 : decode cX10_behindRun 54 = .ok (.iload_n 3, 1) := by decide +kernel
theorem d_X10_behindRun_55 : decode cX10_behindRun 55 = .ok (.iaload, 1) := by decide +kernel
theorem d_X10_behindRun_56 : decode cX10_behindRun 56 = .ok (.invokestatic 51, 3) := by decide +kernel
theorem d_X10_behindRun_59 : decode cX10_behindRun 59 = .ok (.ifCond .eq 9, 3) := by decide +kernel
theorem d_X10_behindRun_62 : decode cX10_behindRun 62 = .ok (.iinc 3 1, 3) := by decide +kernel
theorem d_X10_behindRun_65 : decode cX10_behindRun 65 = .ok (.goto (-20), 3) := by decide +kernel
theorem d_X10_behindRun_68 : decode cX10_behindRun 68 = .ok (.iload_n 3, 1) := by decide +kernel
theorem d_X10_behindRun_69 : decode cX10_behindRun 69 = .ok (.ireturn, 1) := by decide +kernel
abbrev rm_X10_behindRun : Room := { frames := 1, cells := 0, slots := 0, locals := 20 }
def B_X10_behindRun_68 (post : Int32 → CMu → Prop) (v3 : Int32) (cm : CMu) : Prop := post v3 cm
def B_X10_behindRun_45 (post : Int32 → CMu → Prop) : Nat → Int32 → CMu → Prop
  | 0 => fun _ _ => False
  | n + 1 => fun v3 cm => ((gI cm 4 5) ≤ v3 → (B_X10_behindRun_68 post v3 cm)) ∧ (¬ (gI cm 4 5) ≤ v3 → ((vp_in v3 400) ∧ w_X10_isDigit (fun (r11 : Bool) (u12 : CMu) => ((r11 = false) → (B_X10_behindRun_68 post v3 u12)) ∧ (¬ (r11 = false) → (B_X10_behindRun_45 post n (v3 + 1) u12))) (gI cm 3 (Int32.toNatClampNeg v3)) cm))
def B_X10_behindRun_13 (post : Int32 → CMu → Prop) : Nat → Int32 → CMu → Prop
  | 0 => fun _ _ => False
  | n + 1 => fun v3 cm => ((gI cm 4 5) ≤ v3 → (B_X10_behindRun_68 post v3 cm)) ∧ (¬ (gI cm 4 5) ≤ v3 → ((vp_in v3 400) ∧ w_X10_isLetter (fun (r8 : Bool) (u9 : CMu) => ((r8 = false) → (B_X10_behindRun_68 post v3 u9)) ∧ (¬ (r8 = false) → (B_X10_behindRun_13 post n (v3 + 1) u9))) (gI cm 3 (Int32.toNatClampNeg v3)) cm))
def w_X10_behindRun (post : Int32 → CMu → Prop) (x2 : Int32) (cm : CMu) : Prop := (vp_in x2 400) ∧ w_X10_isLetter (fun (r2 : Bool) (u3 : CMu) => ((r2 = false) → ((vp_in x2 400) ∧ w_X10_isDigit (fun (r5 : Bool) (u6 : CMu) => ((r5 = false) → (B_X10_behindRun_68 post (x2 + 1) u6)) ∧ (¬ (r5 = false) → (∃ n45, B_X10_behindRun_45 post n45 (x2 + 1) u6))) (gI u3 3 (Int32.toNatClampNeg x2)) u3)) ∧ (¬ (r2 = false) → (∃ n13, B_X10_behindRun_13 post n13 (x2 + 1) u3))) (gI cm 3 (Int32.toNatClampNeg x2)) cm
section G_X10_behindRun
variable {p : Program} {l : Launch} {e : Env} {s : State} {m : MethodId} {args : Array Value} {below : List Frame} {meth : Method} {c : Code} {G : Gd} {ρ : Nat → Nat} {A : Nat → Prop} {mm : Nat → Nat → Int32} {oo : Nat → Int64}
set_option maxHeartbeats 4000000 in
set_option maxRecDepth 100000 in
theorem T_X10_behindRun_68 {post : Int32 → CMu → Prop} (hl : l.stackTraces = false) (X : MC p l s m args meth c cX10_behindRun 4 RX10 G ρ A) (hr : meth.sig.returnType = (some .int)) (hex : ∀ z ∈ c.exceptionTable.toList, False) : ∀ (v3 : Int32) (cm : CMu), B_X10_behindRun_68 post v3 cm → LW p l e rm_X10_behindRun s m args below meth c (Qm below G ρ A (PI (fun u => (u, mm, oo)) post) noX args s 0 0) G ρ A 4 0 0 68 [(3, .int v3)] [] (cm, mm, oo) := by
  intro v3 cm h
  unfold B_X10_behindRun_68 at h
  refine L_iload_n (pc := 68) X d_X10_behindRun_68 rfl 0 rfl ?_
  exact L_iret (pc := 69) X hr d_X10_behindRun_69 (by decide) (by decide) ⟨_, _, rfl, rfl, h⟩
set_option maxHeartbeats 4000000 in
set_option maxRecDepth 100000 in
theorem T_X10_behindRun_45 {post : Int32 → CMu → Prop} (hl : l.stackTraces = false) (X : MC p l s m args meth c cX10_behindRun 4 RX10 G ρ A) (hr : meth.sig.returnType = (some .int)) (hex : ∀ z ∈ c.exceptionTable.toList, False) (n : Nat) : ∀ (v3 : Int32) (cm : CMu), B_X10_behindRun_45 post n v3 cm → LW p l e rm_X10_behindRun s m args below meth c (Qm below G ρ A (PI (fun u => (u, mm, oo)) post) noX args s 0 0) G ρ A 4 0 0 45 [(0, .ref 4), (1, .ref 3), (3, .int v3)] [] (cm, mm, oo) := by
  induction n with
  | zero =>
    intro v3 cm h
    exact False.elim h
  | succ n ih =>
    intro v3 cm h
    unfold B_X10_behindRun_45 at h
    refine L_iload_n (pc := 45) X d_X10_behindRun_45 rfl 2 rfl ?_
    refine L_aload_n (pc := 46) X d_X10_behindRun_46 rfl 0 rfl ?_
    refine gf_X10_34 (pc := 47) X d_X10_behindRun_47 kd_4 ?_
    refine L_icmp_ge (pc := 50) (tgt := 68) X d_X10_behindRun_50 (by decide) (fun c50 => ?_) (fun c50 => ?_)
    · replace h := h.1 c50
      refine LW.sub [2] rfl ?_
      exact T_X10_behindRun_68 hl X hr hex _  _ h
    · replace h := h.2 c50
      refine L_aload_n (pc := 53) X d_X10_behindRun_53 rfl 1 rfl ?_
      refine L_iload_n (pc := 54) X d_X10_behindRun_54 rfl 2 rfl ?_
      obtain ⟨q10, h⟩ := h
      refine L_iald (pc := 55) X d_X10_behindRun_55 kd_3 q10 ?_
      refine L_callSZ (pc := 56) X lk_X10_51 (c_X10_isDigit X.hst  h) rfl rfl rfl ⟨by decide, by decide⟩ ⟨by decide, by decide⟩ (Nat.zero_le _) d_X10_behindRun_56 rfl (fun x κ1 hx => L_nox hx) (fun r11 u12 h => ?_)
      refine L_if_eq (pc := 59) (tgt := 68) X d_X10_behindRun_59 (by decide) (fun c59 => ?_) (fun c59 => ?_)
      · replace h := h.1 ((b2_0 _).mp c59)
        refine LW.sub [2] rfl ?_
        exact T_X10_behindRun_68 hl X hr hex _  _ h
      · replace h := h.2 (fun z => c59 ((b2_0 _).mpr z))
        refine L_iinc (pc := 62) (v := v3 + 1) (lv2 := [(3, .int (v3 + 1)), (0, .ref 4), (1, .ref 3)]) X d_X10_behindRun_62 2 rfl rfl (by decide) rfl ?_
        refine L_goto (pc := 65) (tgt := 45) X d_X10_behindRun_65 (by decide) ?_
        refine LW.sub [1, 2, 0] rfl ?_
        exact ih _  _ h
set_option maxHeartbeats 4000000 in
set_option maxRecDepth 100000 in
theorem T_X10_behindRun_13 {post : Int32 → CMu → Prop} (hl : l.stackTraces = false) (X : MC p l s m args meth c cX10_behindRun 4 RX10 G ρ A) (hr : meth.sig.returnType = (some .int)) (hex : ∀ z ∈ c.exceptionTable.toList, False) (n : Nat) : ∀ (v3 : Int32) (cm : CMu), B_X10_behindRun_13 post n v3 cm → LW p l e rm_X10_behindRun s m args below meth c (Qm below G ρ A (PI (fun u => (u, mm, oo)) post) noX args s 0 0) G ρ A 4 0 0 13 [(0, .ref 4), (1, .ref 3), (3, .int v3)] [] (cm, mm, oo) := by
  induction n with
  | zero =>
    intro v3 cm h
    exact False.elim h
  | succ n ih =>
    intro v3 cm h
    unfold B_X10_behindRun_13 at h
    refine L_iload_n (pc := 13) X d_X10_behindRun_13 rfl 2 rfl ?_
    refine L_aload_n (pc := 14) X d_X10_behindRun_14 rfl 0 rfl ?_
    refine gf_X10_34 (pc := 15) X d_X10_behindRun_15 kd_4 ?_
    refine L_icmp_ge (pc := 18) (tgt := 68) X d_X10_behindRun_18 (by decide) (fun c18 => ?_) (fun c18 => ?_)
    · replace h := h.1 c18
      refine LW.sub [2] rfl ?_
      exact T_X10_behindRun_68 hl X hr hex _  _ h
    · replace h := h.2 c18
      refine L_aload_n (pc := 21) X d_X10_behindRun_21 rfl 1 rfl ?_
      refine L_iload_n (pc := 22) X d_X10_behindRun_22 rfl 2 rfl ?_
      obtain ⟨q7, h⟩ := h
      refine L_iald (pc := 23) X d_X10_behindRun_23 kd_3 q7 ?_
      refine L_callSZ (pc := 24) X lk_X10_70 (c_X10_isLetter X.hst  h) rfl rfl rfl ⟨by decide, by decide⟩ ⟨by decide, by decide⟩ (Nat.zero_le _) d_X10_behindRun_24 rfl (fun x κ1 hx => L_nox hx) (fun r8 u9 h => ?_)
      refine L_if_eq (pc := 27) (tgt := 68) X d_X10_behindRun_27 (by decide) (fun c27 => ?_) (fun c27 => ?_)
      · replace h := h.1 ((b2_0 _).mp c27)
        refine LW.sub [2] rfl ?_
        exact T_X10_behindRun_68 hl X hr hex _  _ h
      · replace h := h.2 (fun z => c27 ((b2_0 _).mpr z))
        refine L_iinc (pc := 30) (v := v3 + 1) (lv2 := [(3, .int (v3 + 1)), (0, .ref 4), (1, .ref 3)]) X d_X10_behindRun_30 2 rfl rfl (by decide) rfl ?_
        refine L_goto (pc := 33) (tgt := 13) X d_X10_behindRun_33 (by decide) ?_
        refine LW.sub [1, 2, 0] rfl ?_
        exact ih _  _ h
set_option maxHeartbeats 4000000 in
set_option maxRecDepth 100000 in
theorem c_X10_behindRun (hl : l.stackTraces = false) {x2 : Int32} {cm : CMu} {post : Int32 → CMu → Prop} (h : w_X10_behindRun post x2 cm) : CT l yX10_behindRun (.code yX10_behindRun cX10_behindRun 4 (some .int)) rm_X10_behindRun 0 0 G ρ [.ref 4, .ref 3, .int x2] (cm, mm, oo) (PI (fun u => (u, mm, oo)) post) noX := by
  refine CT_of hl (by decide +kernel) rfl (Nat.le_of_ble_eq_true rfl) (lv0 := [(0, .ref 4), (1, .ref 3), (2, .int x2)]) rfl (fun p e s m args below meth c A X hr hex hnm => ?_)
  unfold w_X10_behindRun at h
  refine L_iload_n (pc := 0) X d_X10_behindRun_0 rfl 2 rfl ?_
  refine L_iconst (pc := 1) (v := 1) X d_X10_behindRun_1 (by decide) ?_
  refine L_iadd (pc := 2) X d_X10_behindRun_2 ?_
  refine L_istore_n (pc := 3) (lv2 := [(3, .int (x2 + 1)), (0, .ref 4), (1, .ref 3), (2, .int x2)]) X d_X10_behindRun_3 rfl (by decide) rfl ?_
  refine L_aload_n (pc := 4) X d_X10_behindRun_4 rfl 2 rfl ?_
  refine L_iload_n (pc := 5) X d_X10_behindRun_5 rfl 3 rfl ?_
  obtain ⟨q1, h⟩ := h
  refine L_iald (pc := 6) X d_X10_behindRun_6 kd_3 q1 ?_
  refine L_callSZ (pc := 7) X lk_X10_70 (c_X10_isLetter X.hst  h) rfl rfl rfl ⟨by decide, by decide⟩ ⟨by decide, by decide⟩ (Nat.zero_le _) d_X10_behindRun_7 rfl (fun x κ1 hx => L_nox hx) (fun r2 u3 h => ?_)
  refine L_if_eq (pc := 10) (tgt := 36) X d_X10_behindRun_10 (by decide) (fun c10 => ?_) (fun c10 => ?_)
  · replace h := h.1 ((b2_0 _).mp c10)
    refine L_aload_n (pc := 36) X d_X10_behindRun_36 rfl 2 rfl ?_
    refine L_iload_n (pc := 37) X d_X10_behindRun_37 rfl 3 rfl ?_
    obtain ⟨q4, h⟩ := h
    refine L_iald (pc := 38) X d_X10_behindRun_38 kd_3 q4 ?_
    refine L_callSZ (pc := 39) X lk_X10_51 (c_X10_isDigit X.hst  h) rfl rfl rfl ⟨by decide, by decide⟩ ⟨by decide, by decide⟩ (Nat.zero_le _) d_X10_behindRun_39 rfl (fun x κ1 hx => L_nox hx) (fun r5 u6 h => ?_)
    refine L_if_eq (pc := 42) (tgt := 68) X d_X10_behindRun_42 (by decide) (fun c42 => ?_) (fun c42 => ?_)
    · replace h := h.1 ((b2_0 _).mp c42)
      refine LW.sub [0] rfl ?_
      exact T_X10_behindRun_68 hl X hr hex _  _ h
    · replace h := h.2 (fun z => c42 ((b2_0 _).mpr z))
      obtain ⟨n45, h⟩ := h
      refine LW.sub [1, 2, 0] rfl ?_
      exact T_X10_behindRun_45 hl X hr hex n45 _  _ h
  · replace h := h.2 (fun z => c10 ((b2_0 _).mpr z))
    obtain ⟨n13, h⟩ := h
    refine LW.sub [1, 2, 0] rfl ?_
    exact T_X10_behindRun_13 hl X hr hex n13 _  _ h
end G_X10_behindRun
theorem d_X10_isWrong_0 : decode cX10_isWrong 0 = .ok (.aload_n 0, 1) := by decide +kernel
theorem d_X10_isWrong_1 : decode cX10_isWrong 1 = .ok (.getfield 24, 3) := by decide +kernel
theorem d_X10_isWrong_4 : decode cX10_isWrong 4 = .ok (.iconst (-1), 1) := by decide +kernel
theorem d_X10_isWrong_5 : decode cX10_isWrong 5 = .ok (.if_icmp .eq 7, 3) := by decide +kernel
theorem d_X10_isWrong_8 : decode cX10_isWrong 8 = .ok (.iconst 1, 1) := by decide +kernel
theorem d_X10_isWrong_9 : decode cX10_isWrong 9 = .ok (.goto 4, 3) := by decide +kernel
theorem d_X10_isWrong_12 : decode cX10_isWrong 12 = .ok (.iconst 0, 1) := by decide +kernel
theorem d_X10_isWrong_13 : decode cX10_isWrong 13 = .ok (.ireturn, 1) := by decide +kernel
abbrev rm_X10_isWrong : Room := { frames := 0, cells := 0, slots := 0, locals := 0 }
def w_X10_isWrong (post : Bool → CMu → Prop) (cm : CMu) : Prop := ((gI cm 4 7) = (-1) → (post false cm)) ∧ (¬ (gI cm 4 7) = (-1) → (post true cm))
section G_X10_isWrong
variable {p : Program} {l : Launch} {e : Env} {s : State} {m : MethodId} {args : Array Value} {below : List Frame} {meth : Method} {c : Code} {G : Gd} {ρ : Nat → Nat} {A : Nat → Prop} {mm : Nat → Nat → Int32} {oo : Nat → Int64}
set_option maxHeartbeats 4000000 in
set_option maxRecDepth 100000 in
theorem c_X10_isWrong (hl : l.stackTraces = false) {cm : CMu} {post : Bool → CMu → Prop} (h : w_X10_isWrong post cm) : CT l yX10_isWrong (.code yX10_isWrong cX10_isWrong 1 (some .boolean)) rm_X10_isWrong 0 0 G ρ [.ref 4] (cm, mm, oo) (PZ (fun u => (u, mm, oo)) post) noX := by
  refine CT_of hl (by decide +kernel) rfl (Nat.le_of_ble_eq_true rfl) (lv0 := [(0, .ref 4)]) rfl (fun p e s m args below meth c A X hr hex hnm => ?_)
  unfold w_X10_isWrong at h
  refine L_aload_n (pc := 0) X d_X10_isWrong_0 rfl 0 rfl ?_
  refine gf_X10_24 (pc := 1) X d_X10_isWrong_1 kd_4 ?_
  refine L_iconst (pc := 4) (v := (-1)) X d_X10_isWrong_4 (by decide) ?_
  refine L_icmp_eq (pc := 5) (tgt := 12) X d_X10_isWrong_5 (by decide) (fun c5 => ?_) (fun c5 => ?_)
  · replace h := h.1 c5
    refine L_iconst (pc := 12) (v := 0) X d_X10_isWrong_12 (by decide) ?_
    exact L_zretB (pc := 13) X hr d_X10_isWrong_13 false rfl (by decide) (by decide) ⟨_, _, rfl, rfl, h⟩
  · replace h := h.2 c5
    refine L_iconst (pc := 8) (v := 1) X d_X10_isWrong_8 (by decide) ?_
    refine L_goto (pc := 9) (tgt := 13) X d_X10_isWrong_9 (by decide) ?_
    exact L_zretB (pc := 13) X hr d_X10_isWrong_13 true rfl (by decide) (by decide) ⟨_, _, rfl, rfl, h⟩
end G_X10_isWrong
theorem d_X10_isAtEnd_0 : decode cX10_isAtEnd 0 = .ok (.aload_n 0, 1) := by decide +kernel
theorem d_X10_isAtEnd_1 : decode cX10_isAtEnd 1 = .ok (.getfield 40, 3) := by decide +kernel
theorem d_X10_isAtEnd_4 : decode cX10_isAtEnd 4 = .ok (.aload_n 0, 1) := by decide +kernel
theorem d_X10_isAtEnd_5 : decode cX10_isAtEnd 5 = .ok (.getfield 37, 3) := by decide +kernel
theorem d_X10_isAtEnd_8 : decode cX10_isAtEnd 8 = .ok (.if_icmp .lt 7, 3) := by decide +kernel
theorem d_X10_isAtEnd_11 : decode cX10_isAtEnd 11 = .ok (.iconst 1, 1) := by decide +kernel
theorem d_X10_isAtEnd_12 : decode cX10_isAtEnd 12 = .ok (.goto 4, 3) := by decide +kernel
theorem d_X10_isAtEnd_15 : decode cX10_isAtEnd 15 = .ok (.iconst 0, 1) := by decide +kernel
theorem d_X10_isAtEnd_16 : decode cX10_isAtEnd 16 = .ok (.ireturn, 1) := by decide +kernel
abbrev rm_X10_isAtEnd : Room := { frames := 0, cells := 0, slots := 0, locals := 0 }
def w_X10_isAtEnd (post : Bool → CMu → Prop) (cm : CMu) : Prop := ((gI cm 4 4) < (gI cm 4 3) → (post false cm)) ∧ (¬ (gI cm 4 4) < (gI cm 4 3) → (post true cm))
section G_X10_isAtEnd
variable {p : Program} {l : Launch} {e : Env} {s : State} {m : MethodId} {args : Array Value} {below : List Frame} {meth : Method} {c : Code} {G : Gd} {ρ : Nat → Nat} {A : Nat → Prop} {mm : Nat → Nat → Int32} {oo : Nat → Int64}
set_option maxHeartbeats 4000000 in
set_option maxRecDepth 100000 in
theorem c_X10_isAtEnd (hl : l.stackTraces = false) {cm : CMu} {post : Bool → CMu → Prop} (h : w_X10_isAtEnd post cm) : CT l yX10_isAtEnd (.code yX10_isAtEnd cX10_isAtEnd 1 (some .boolean)) rm_X10_isAtEnd 0 0 G ρ [.ref 4] (cm, mm, oo) (PZ (fun u => (u, mm, oo)) post) noX := by
  refine CT_of hl (by decide +kernel) rfl (Nat.le_of_ble_eq_true rfl) (lv0 := [(0, .ref 4)]) rfl (fun p e s m args below meth c A X hr hex hnm => ?_)
  unfold w_X10_isAtEnd at h
  refine L_aload_n (pc := 0) X d_X10_isAtEnd_0 rfl 0 rfl ?_
  refine gf_X10_40 (pc := 1) X d_X10_isAtEnd_1 kd_4 ?_
  refine L_aload_n (pc := 4) X d_X10_isAtEnd_4 rfl 0 rfl ?_
  refine gf_X10_37 (pc := 5) X d_X10_isAtEnd_5 kd_4 ?_
  refine L_icmp_lt (pc := 8) (tgt := 15) X d_X10_isAtEnd_8 (by decide) (fun c8 => ?_) (fun c8 => ?_)
  · replace h := h.1 c8
    refine L_iconst (pc := 15) (v := 0) X d_X10_isAtEnd_15 (by decide) ?_
    exact L_zretB (pc := 16) X hr d_X10_isAtEnd_16 false rfl (by decide) (by decide) ⟨_, _, rfl, rfl, h⟩
  · replace h := h.2 c8
    refine L_iconst (pc := 11) (v := 1) X d_X10_isAtEnd_11 (by decide) ?_
    refine L_goto (pc := 12) (tgt := 16) X d_X10_isAtEnd_12 (by decide) ?_
    exact L_zretB (pc := 16) X hr d_X10_isAtEnd_16 true rfl (by decide) (by decide) ⟨_, _, rfl, rfl, h⟩
end G_X10_isAtEnd
theorem d_X10_refuse_0 : decode cX10_refuse 0 = .ok (.aload_n 0, 1) := by decide +kernel
theorem d_X10_refuse_1 : decode cX10_refuse 1 = .ok (.getfield 24, 3) := by decide +kernel
theorem d_X10_refuse_4 : decode cX10_refuse 4 = .ok (.iconst (-1), 1) := by decide +kernel
theorem d_X10_refuse_5 : decode cX10_refuse 5 = .ok (.if_icmp .ne 34, 3) := by decide +kernel
theorem d_X10_refuse_8 : decode cX10_refuse 8 = .ok (.aload_n 0, 1) := by decide +kernel
theorem d_X10_refuse_9 : decode cX10_refuse 9 = .ok (.aload_n 0, 1) := by decide +kernel
theorem d_X10_refuse_10 : decode cX10_refuse 10 = .ok (.getfield 40, 3) := by decide +kernel
theorem d_X10_refuse_13 : decode cX10_refuse 13 = .ok (.aload_n 0, 1) := by decide +kernel
theorem d_X10_refuse_14 : decode cX10_refuse 14 = .ok (.getfield 37, 3) := by decide +kernel
theorem d_X10_refuse_17 : decode cX10_refuse 17 = .ok (.if_icmp .ge 15, 3) := by decide +kernel
theorem d_X10_refuse_20 : decode cX10_refuse 20 = .ok (.aload_n 0, 1) := by decide +kernel
theorem d_X10_refuse_21 : decode cX10_refuse 21 = .ok (.getfield 17, 3) := by decide +kernel
theorem d_X10_refuse_24 : decode cX10_refuse 24 = .ok (.aload_n 0, 1) := by decide +kernel
theorem d_X10_refuse_25 : decode cX10_refuse 25 = .ok (.getfield 40, 3) := by decide +kernel
theorem d_X10_refuse_28 : decode cX10_refuse 28 = .ok (.iaload, 1) := by decide +kernel
theorem d_X10_refuse_29 : decode cX10_refuse 29 = .ok (.goto 7, 3) := by decide +kernel
theorem d_X10_refuse_32 : decode cX10_refuse 32 = .ok (.aload_n 0, 1) := by decide +kernel
theorem d_X10_refuse_33 : decode cX10_refuse 33 = .ok (.getfield 34, 3) := by decide +kernel
theorem d_X10_refuse_36 : decode cX10_refuse 36 = .ok (.putfield 24, 3) := by decide +kernel
theorem d_X10_refuse_39 : decode cX10_refuse 39 = .ok (.return_, 1) := by decide +kernel
abbrev rm_X10_refuse : Room := { frames := 0, cells := 0, slots := 0, locals := 0 }
def B_X10_refuse_39 (post : CMu → Prop) (cm : CMu) : Prop := post cm
def B_X10_refuse_36 (post : CMu → Prop) (s0 : Int32) (cm : CMu) : Prop := B_X10_refuse_39 post (uI cm 4 7 s0)
def w_X10_refuse (post : CMu → Prop) (cm : CMu) : Prop := (¬ (gI cm 4 7) = (-1) → (B_X10_refuse_39 post cm)) ∧ ((gI cm 4 7) = (-1) → (((gI cm 4 3) ≤ (gI cm 4 4) → (B_X10_refuse_36 post (gI cm 4 5) cm)) ∧ (¬ (gI cm 4 3) ≤ (gI cm 4 4) → ((vp_in (gI cm 4 4) 400) ∧ B_X10_refuse_36 post (gI cm 6 (Int32.toNatClampNeg (gI cm 4 4))) cm))))
section G_X10_refuse
variable {p : Program} {l : Launch} {e : Env} {s : State} {m : MethodId} {args : Array Value} {below : List Frame} {meth : Method} {c : Code} {G : Gd} {ρ : Nat → Nat} {A : Nat → Prop} {mm : Nat → Nat → Int32} {oo : Nat → Int64}
set_option maxHeartbeats 4000000 in
set_option maxRecDepth 100000 in
theorem T_X10_refuse_39 {post : CMu → Prop} (hl : l.stackTraces = false) (X : MC p l s m args meth c cX10_refuse 1 RX10 G ρ A) (hr : meth.sig.returnType = none) (hex : ∀ z ∈ c.exceptionTable.toList, False) : ∀ (cm : CMu), B_X10_refuse_39 post cm → LW p l e rm_X10_refuse s m args below meth c (Qm below G ρ A (PV (fun u => (u, mm, oo)) post) noX args s 0 0) G ρ A 1 0 0 39 [] [] (cm, mm, oo) := by
  intro cm h
  unfold B_X10_refuse_39 at h
  exact L_vret (pc := 39) X hr d_X10_refuse_39 (by decide) (by decide) ⟨_, rfl, rfl, h⟩
set_option maxHeartbeats 4000000 in
set_option maxRecDepth 100000 in
theorem T_X10_refuse_36 {post : CMu → Prop} (hl : l.stackTraces = false) (X : MC p l s m args meth c cX10_refuse 1 RX10 G ρ A) (hr : meth.sig.returnType = none) (hex : ∀ z ∈ c.exceptionTable.toList, False) : ∀ (s0 : Int32) (cm : CMu), B_X10_refuse_36 post s0 cm → LW p l e rm_X10_refuse s m args below meth c (Qm below G ρ A (PV (fun u => (u, mm, oo)) post) noX args s 0 0) G ρ A 1 0 0 36 [] [.int s0, .ref 4] (cm, mm, oo) := by
  intro s0 cm h
  unfold B_X10_refuse_36 at h
  refine pf_X10_24 (pc := 36) X d_X10_refuse_36 kd_4 ?_
  refine LW.sub [] rfl ?_
  exact T_X10_refuse_39 hl X hr hex   _ h
set_option maxHeartbeats 4000000 in
set_option maxRecDepth 100000 in
theorem c_X10_refuse (hl : l.stackTraces = false) {cm : CMu} {post : CMu → Prop} (h : w_X10_refuse post cm) : CT l yX10_refuse (.code yX10_refuse cX10_refuse 1 none) rm_X10_refuse 0 0 G ρ [.ref 4] (cm, mm, oo) (PV (fun u => (u, mm, oo)) post) noX := by
  refine CT_of hl (by decide +kernel) rfl (Nat.le_of_ble_eq_true rfl) (lv0 := [(0, .ref 4)]) rfl (fun p e s m args below meth c A X hr hex hnm => ?_)
  unfold w_X10_refuse at h
  refine L_aload_n (pc := 0) X d_X10_refuse_0 rfl 0 rfl ?_
  refine gf_X10_24 (pc := 1) X d_X10_refuse_1 kd_4 ?_
  refine L_iconst (pc := 4) (v := (-1)) X d_X10_refuse_4 (by decide) ?_
  refine L_icmp_ne (pc := 5) (tgt := 39) X d_X10_refuse_5 (by decide) (fun c5 => ?_) (fun c5 => ?_)
  · replace h := h.1 c5
    refine LW.sub [] rfl ?_
    exact T_X10_refuse_39 hl X hr hex   _ h
  · replace h := h.2 c5
    refine L_aload_n (pc := 8) X d_X10_refuse_8 rfl 0 rfl ?_
    refine L_aload_n (pc := 9) X d_X10_refuse_9 rfl 0 rfl ?_
    refine gf_X10_40 (pc := 10) X d_X10_refuse_10 kd_4 ?_
    refine L_aload_n (pc := 13) X d_X10_refuse_13 rfl 0 rfl ?_
    refine gf_X10_37 (pc := 14) X d_X10_refuse_14 kd_4 ?_
    refine L_icmp_ge (pc := 17) (tgt := 32) X d_X10_refuse_17 (by decide) (fun c17 => ?_) (fun c17 => ?_)
    · replace h := h.1 c17
      refine L_aload_n (pc := 32) X d_X10_refuse_32 rfl 0 rfl ?_
      refine gf_X10_34 (pc := 33) X d_X10_refuse_33 kd_4 ?_
      refine LW.sub [] rfl ?_
      exact T_X10_refuse_36 hl X hr hex _  _ h
    · replace h := h.2 c17
      refine L_aload_n (pc := 20) X d_X10_refuse_20 rfl 0 rfl ?_
      refine gf_X10_17 (pc := 21) (b := 6) X d_X10_refuse_21 kd_4 rfl ?_
      refine L_aload_n (pc := 24) X d_X10_refuse_24 rfl 0 rfl ?_
      refine gf_X10_40 (pc := 25) X d_X10_refuse_25 kd_4 ?_
      obtain ⟨q1, h⟩ := h
      refine L_iald (pc := 28) X d_X10_refuse_28 kd_6 q1 ?_
      refine L_goto (pc := 29) (tgt := 36) X d_X10_refuse_29 (by decide) ?_
      refine LW.sub [] rfl ?_
      exact T_X10_refuse_36 hl X hr hex _  _ h
end G_X10_refuse
theorem d_X10_take_0 : decode cX10_take 0 = .ok (.aload_n 0, 1) := by decide +kernel
theorem d_X10_take_1 : decode cX10_take 1 = .ok (.getfield 24, 3) := by decide +kernel
theorem d_X10_take_4 : decode cX10_take 4 = .ok (.iconst (-1), 1) := by decide +kernel
theorem d_X10_take_5 : decode cX10_take 5 = .ok (.if_icmp .ne 39, 3) := by decide +kernel
theorem d_X10_take_8 : decode cX10_take 8 = .ok (.aload_n 0, 1) := by decide +kernel
theorem d_X10_take_9 : decode cX10_take 9 = .ok (.getfield 40, 3) := by decide +kernel
theorem d_X10_take_12 : decode cX10_take 12 = .ok (.aload_n 0, 1) := by decide +kernel
theorem d_X10_take_13 : decode cX10_take 13 = .ok (.getfield 37, 3) := by decide +kernel
theorem d_X10_take_16 : decode cX10_take 16 = .ok (.if_icmp .ge 28, 3) := by decide +kernel
theorem d_X10_take_19 : decode cX10_take 19 = .ok (.aload_n 0, 1) := by decide +kernel
theorem d_X10_take_20 : decode cX10_take 20 = .ok (.getfield 11, 3) := by decide +kernel
theorem d_X10_take_23 : decode cX10_take 23 = .ok (.aload_n 0, 1) := by decide +kernel
theorem d_X10_take_24 : decode cX10_take 24 = .ok (.getfield 40, 3) := by decide +kernel
theorem d_X10_take_27 : decode cX10_take 27 = .ok (.aaload, 1) := by decide +kernel
theorem d_X10_take_28 : decode cX10_take 28 = .ok (.aload_n 1, 1) := by decide +kernel
theorem d_X10_take_29 : decode cX10_take 29 = .ok (.if_acmp .ne 15, 3) := by decide +kernel
theorem d_X10_take_32 : decode cX10_take 32 = .ok (.aload_n 0, 1) := by decide +kernel
theorem d_X10_take_33 : decode cX10_take 33 = .ok (.dup, 1) := by decide +kernel
theorem d_X10_take_34 : decode cX10_take 34 = .ok (.getfield 40, 3) := by decide +kernel
theorem d_X10_take_37 : decode cX10_take 37 = .ok (.iconst 1, 1) := by decide +kernel
theorem d_X10_take_38 : decode cX10_take 38 = .ok (.iadd, 1) := by decide +kernel
theorem d_X10_take_39 : decode cX10_take 39 = .ok (.putfield 40, 3) := by decide +kernel
theorem d_X10_take_42 : decode cX10_take 42 = .ok (.iconst 1, 1) := by decide +kernel
theorem d_X10_take_43 : decode cX10_take 43 = .ok (.ireturn, 1) := by decide +kernel
theorem d_X10_take_44 : decode cX10_take 44 = .ok (.iconst 0, 1) := by decide +kernel
theorem d_X10_take_45 : decode cX10_take 45 = .ok (.ireturn, 1) := by decide +kernel
abbrev rm_X10_take : Room := { frames := 0, cells := 0, slots := 0, locals := 0 }
def B_X10_take_44 (post : Bool → CMu → Prop) (cm : CMu) : Prop := post false cm
def w_X10_take (post : Bool → CMu → Prop) (a1 : Fin 32) (cm : CMu) : Prop := (¬ (gI cm 4 7) = (-1) → (B_X10_take_44 post cm)) ∧ ((gI cm 4 7) = (-1) → (((gI cm 4 3) ≤ (gI cm 4 4) → (B_X10_take_44 post cm)) ∧ (¬ (gI cm 4 3) ≤ (gI cm 4 4) → ((vp_in (gI cm 4 4) 400) ∧ (¬ (gW cm 5 (Int32.toNatClampNeg (gI cm 4 4))) = a1 → (B_X10_take_44 post cm)) ∧ ((gW cm 5 (Int32.toNatClampNeg (gI cm 4 4))) = a1 → (post true (uI cm 4 4 ((gI cm 4 4) + 1))))))))
section G_X10_take
variable {p : Program} {l : Launch} {e : Env} {s : State} {m : MethodId} {args : Array Value} {below : List Frame} {meth : Method} {c : Code} {G : Gd} {ρ : Nat → Nat} {A : Nat → Prop} {mm : Nat → Nat → Int32} {oo : Nat → Int64}
set_option maxHeartbeats 4000000 in
set_option maxRecDepth 100000 in
theorem T_X10_take_44 {post : Bool → CMu → Prop} (hl : l.stackTraces = false) (X : MC p l s m args meth c cX10_take 2 RX10 G ρ A) (hr : meth.sig.returnType = (some .boolean)) (hex : ∀ z ∈ c.exceptionTable.toList, False) : ∀ (cm : CMu), B_X10_take_44 post cm → LW p l e rm_X10_take s m args below meth c (Qm below G ρ A (PZ (fun u => (u, mm, oo)) post) noX args s 0 0) G ρ A 2 0 0 44 [] [] (cm, mm, oo) := by
  intro cm h
  unfold B_X10_take_44 at h
  refine L_iconst (pc := 44) (v := 0) X d_X10_take_44 (by decide) ?_
  exact L_zretB (pc := 45) X hr d_X10_take_45 false rfl (by decide) (by decide) ⟨_, _, rfl, rfl, h⟩
set_option maxHeartbeats 4000000 in
set_option maxRecDepth 100000 in
theorem c_X10_take (hl : l.stackTraces = false) {a1 : Fin 32} {cm : CMu} {post : Bool → CMu → Prop} (h : w_X10_take post a1 cm) : CT l yX10_take (.code yX10_take cX10_take 2 (some .boolean)) rm_X10_take 0 0 G ρ [.ref 4, wv a1] (cm, mm, oo) (PZ (fun u => (u, mm, oo)) post) noX := by
  refine CT_of hl (by decide +kernel) rfl (by simp [wv_cat, cat_r, cat_i, cat_l]) (lv0 := [(0, .ref 4), (1, wv a1)]) (by simp [lv_args, wv_cat, cat_r, cat_i, cat_l]) (fun p e s m args below meth c A X hr hex hnm => ?_)
  unfold w_X10_take at h
  refine L_aload_n (pc := 0) X d_X10_take_0 rfl 0 rfl ?_
  refine gf_X10_24 (pc := 1) X d_X10_take_1 kd_4 ?_
  refine L_iconst (pc := 4) (v := (-1)) X d_X10_take_4 (by decide) ?_
  refine L_icmp_ne (pc := 5) (tgt := 44) X d_X10_take_5 (by decide) (fun c5 => ?_) (fun c5 => ?_)
  · replace h := h.1 c5
    refine LW.sub [] rfl ?_
    exact T_X10_take_44 hl X hr hex   _ h
  · replace h := h.2 c5
    refine L_aload_n (pc := 8) X d_X10_take_8 rfl 0 rfl ?_
    refine gf_X10_40 (pc := 9) X d_X10_take_9 kd_4 ?_
    refine L_aload_n (pc := 12) X d_X10_take_12 rfl 0 rfl ?_
    refine gf_X10_37 (pc := 13) X d_X10_take_13 kd_4 ?_
    refine L_icmp_ge (pc := 16) (tgt := 44) X d_X10_take_16 (by decide) (fun c16 => ?_) (fun c16 => ?_)
    · replace h := h.1 c16
      refine LW.sub [] rfl ?_
      exact T_X10_take_44 hl X hr hex   _ h
    · replace h := h.2 c16
      refine L_aload_n (pc := 19) X d_X10_take_19 rfl 0 rfl ?_
      refine gf_X10_11 (pc := 20) (b := 5) X d_X10_take_20 kd_4 rfl ?_
      refine L_aload_n (pc := 23) X d_X10_take_23 rfl 0 rfl ?_
      refine gf_X10_40 (pc := 24) X d_X10_take_24 kd_4 ?_
      obtain ⟨q1, h⟩ := h
      refine L_aaldW (pc := 27) X d_X10_take_27 kd_5 q1 ?_
      refine L_aloadW_n (pc := 28) X d_X10_take_28 rfl 1 rfl ?_
      refine L_acmp_ne (pc := 29) (tgt := 44) X d_X10_take_29 (by decide) (fun c29 => ?_) (fun c29 => ?_)
      · replace h := h.1 c29
        refine LW.sub [] rfl ?_
        exact T_X10_take_44 hl X hr hex   _ h
      · replace h := h.2 c29
        refine L_aload_n (pc := 32) X d_X10_take_32 rfl 0 rfl ?_
        refine L_dup (pc := 33) X d_X10_take_33 rfl ?_
        refine gf_X10_40 (pc := 34) X d_X10_take_34 kd_4 ?_
        refine L_iconst (pc := 37) (v := 1) X d_X10_take_37 (by decide) ?_
        refine L_iadd (pc := 38) X d_X10_take_38 ?_
        refine pf_X10_40 (pc := 39) X d_X10_take_39 kd_4 ?_
        refine L_iconst (pc := 42) (v := 1) X d_X10_take_42 (by decide) ?_
        exact L_zretB (pc := 43) X hr d_X10_take_43 true rfl (by decide) (by decide) ⟨_, _, rfl, rfl, h⟩
end G_X10_take
theorem yk_X10_take : yX10_take.cls = RX10 ∧ yX10_take.cls ≠ "java/lang/invoke/MethodHandle" ∧ yX10_take.cls ≠ "java/lang/invoke/VarHandle" ∧ (parseMethodDescriptor yX10_take.desc).map (fun d => d.parameters.length) = some 1 := by decide +kernel
theorem lk_X10_73 : LinkV RX10 73 RX10 yX10_take (.code yX10_take cX10_take 2 (some .boolean)) 1 := ⟨tw_865, tw_689, tw_690, tw_74, tw_691, yk_X10_take⟩
theorem yk_X10_refuse : yX10_refuse.cls = RX10 ∧ yX10_refuse.cls ≠ "java/lang/invoke/MethodHandle" ∧ yX10_refuse.cls ≠ "java/lang/invoke/VarHandle" ∧ (parseMethodDescriptor yX10_refuse.desc).map (fun d => d.parameters.length) = some 0 := by decide +kernel
theorem lk_X10_77 : LinkV RX10 77 RX10 yX10_refuse (.code yX10_refuse cX10_refuse 1 none) 0 := ⟨tw_700, tw_701, tw_702, tw_74, tw_703, yk_X10_refuse⟩
theorem d_X10_demand_0 : decode cX10_demand 0 = .ok (.aload_n 0, 1) := by decide +kernel
theorem d_X10_demand_1 : decode cX10_demand 1 = .ok (.aload_n 1, 1) := by decide +kernel
theorem d_X10_demand_2 : decode cX10_demand 2 = .ok (.invokevirtual 73, 3) := by decide +kernel
theorem d_X10_demand_5 : decode cX10_demand 5 = .ok (.ifCond .ne 7, 3) := by decide +kernel
theorem d_X10_demand_8 : decode cX10_demand 8 = .ok (.aload_n 0, 1) := by decide +kernel
theorem d_X10_demand_9 : decode cX10_demand 9 = .ok (.invokevirtual 77, 3) := by decide +kernel
theorem d_X10_demand_12 : decode cX10_demand 12 = .ok (.return_, 1) := by decide +kernel
abbrev rm_X10_demand : Room := { frames := 1, cells := 0, slots := 0, locals := 21 }
def B_X10_demand_12 (post : CMu → Prop) (cm : CMu) : Prop := post cm
def w_X10_demand (post : CMu → Prop) (a1 : Fin 32) (cm : CMu) : Prop := w_X10_take (fun (r1 : Bool) (u2 : CMu) => (¬ (r1 = false) → (B_X10_demand_12 post u2)) ∧ ((r1 = false) → (w_X10_refuse (fun (u4 : CMu) => B_X10_demand_12 post u4)  u2))) a1 cm
section G_X10_demand
variable {p : Program} {l : Launch} {e : Env} {s : State} {m : MethodId} {args : Array Value} {below : List Frame} {meth : Method} {c : Code} {G : Gd} {ρ : Nat → Nat} {A : Nat → Prop} {mm : Nat → Nat → Int32} {oo : Nat → Int64}
set_option maxHeartbeats 4000000 in
set_option maxRecDepth 100000 in
theorem T_X10_demand_12 {post : CMu → Prop} (hl : l.stackTraces = false) (X : MC p l s m args meth c cX10_demand 2 RX10 G ρ A) (hr : meth.sig.returnType = none) (hex : ∀ z ∈ c.exceptionTable.toList, False) : ∀ (cm : CMu), B_X10_demand_12 post cm → LW p l e rm_X10_demand s m args below meth c (Qm below G ρ A (PV (fun u => (u, mm, oo)) post) noX args s 0 0) G ρ A 2 0 0 12 [] [] (cm, mm, oo) := by
  intro cm h
  unfold B_X10_demand_12 at h
  exact L_vret (pc := 12) X hr d_X10_demand_12 (by decide) (by decide) ⟨_, rfl, rfl, h⟩
set_option maxHeartbeats 4000000 in
set_option maxRecDepth 100000 in
theorem c_X10_demand (hl : l.stackTraces = false) {a1 : Fin 32} {cm : CMu} {post : CMu → Prop} (h : w_X10_demand post a1 cm) : CT l yX10_demand (.code yX10_demand cX10_demand 2 none) rm_X10_demand 0 0 G ρ [.ref 4, wv a1] (cm, mm, oo) (PV (fun u => (u, mm, oo)) post) noX := by
  refine CT_of hl (by decide +kernel) rfl (by simp [wv_cat, cat_r, cat_i, cat_l]) (lv0 := [(0, .ref 4), (1, wv a1)]) (by simp [lv_args, wv_cat, cat_r, cat_i, cat_l]) (fun p e s m args below meth c A X hr hex hnm => ?_)
  unfold w_X10_demand at h
  refine L_aload_n (pc := 0) X d_X10_demand_0 rfl 0 rfl ?_
  refine L_aloadW_n (pc := 1) X d_X10_demand_1 rfl 1 rfl ?_
  refine L_callVZ (pc := 2) X lk_X10_73 (c_X10_take X.hst  h) rfl rfl kd_4 (by decide) rfl rfl ⟨by decide, by decide⟩ ⟨by decide, by decide⟩ (Nat.zero_le _) d_X10_demand_2 rfl (fun x κ1 hx => L_nox hx) (fun r1 u2 h => ?_)
  refine L_if_ne (pc := 5) (tgt := 12) X d_X10_demand_5 (by decide) (fun c5 => ?_) (fun c5 => ?_)
  · replace h := h.1 (fun z => c5 ((b2_0 _).mpr z))
    refine LW.sub [] rfl ?_
    exact T_X10_demand_12 hl X hr hex   _ h
  · replace h := h.2 ((b2_0 _).mp c5)
    refine L_aload_n (pc := 8) X d_X10_demand_8 rfl 0 rfl ?_
    refine L_callVV (pc := 9) X lk_X10_77 (c_X10_refuse X.hst  h) rfl rfl kd_4 (by decide) rfl rfl ⟨by decide, by decide⟩ ⟨by decide, by decide⟩ (Nat.zero_le _) d_X10_demand_9 rfl (fun x κ1 hx => L_nox hx) (fun u4 h => ?_)
    refine LW.sub [] rfl ?_
    exact T_X10_demand_12 hl X hr hex   _ h
end G_X10_demand
theorem d_X10_takeNumber_0 : decode cX10_takeNumber 0 = .ok (.aload_n 0, 1) := by decide +kernel
theorem d_X10_takeNumber_1 : decode cX10_takeNumber 1 = .ok (.getfield 24, 3) := by decide +kernel
theorem d_X10_takeNumber_4 : decode cX10_takeNumber 4 = .ok (.iconst (-1), 1) := by decide +kernel
theorem d_X10_takeNumber_5 : decode cX10_takeNumber 5 = .ok (.if_icmp .ne 77, 3) := by decide +kernel
theorem d_X10_takeNumber_8 : decode cX10_takeNumber 8 = .ok (.aload_n 0, 1) := by decide +kernel
theorem d_X10_takeNumber_9 : decode cX10_takeNumber 9 = .ok (.getfield 40, 3) := by decide +kernel
theorem d_X10_takeNumber_12 : decode cX10_takeNumber 12 = .ok (.aload_n 0, 1) := by decide +kernel
theorem d_X10_takeNumber_13 : decode cX10_takeNumber 13 = .ok (.getfield 37, 3) := by decide +kernel
theorem d_X10_takeNumber_16 : decode cX10_takeNumber 16 = .ok (.if_icmp .ge 66, 3) := by decide +kernel
theorem d_X10_takeNumber_19 : decode cX10_takeNumber 19 = .ok (.aload_n 0, 1) := by decide +kernel
theorem d_X10_takeNumber_20 : decode cX10_takeNumber 20 = .ok (.getfield 11, 3) := by decide +kernel
theorem d_X10_takeNumber_23 : decode cX10_takeNumber 23 = .ok (.aload_n 0, 1) := by decide +kernel
theorem d_X10_takeNumber_24 : decode cX10_takeNumber 24 = .ok (.getfield 40, 3) := by decide +kernel
theorem d_X10_takeNumber_27 : decode cX10_takeNumber 27 = .ok (.aaload, 1) := by decide +kernel
theorem d_X10_takeNumber_28 : decode cX10_takeNumber 28 = .ok (.getstatic 55, 3) := by decide +kernel
theorem d_X10_takeNumber_31 : decode cX10_takeNumber 31 = .ok (.if_acmp .ne 51, 3) := by decide +kernel
theorem d_X10_takeNumber_34 : decode cX10_takeNumber 34 = .ok (.aload_n 0, 1) := by decide +kernel
theorem d_X10_takeNumber_35 : decode cX10_takeNumber 35 = .ok (.getfield 21, 3) := by decide +kernel
theorem d_X10_takeNumber_38 : decode cX10_takeNumber 38 = .ok (.aload_n 0, 1) := by decide +kernel
theorem d_X10_takeNumber_39 : decode cX10_takeNumber 39 = .ok (.getfield 40, 3) := by decide +kernel
theorem d_X10_takeNumber_42 : decode cX10_takeNumber 42 = .ok (.iaload, 1) := by decide +kernel
theorem d_X10_takeNumber_43 : decode cX10_takeNumber 43 = .ok (.iload_n 1, 1) := by decide +kernel
theorem d_X10_takeNumber_44 : decode cX10_takeNumber 44 = .ok (.if_icmp .lt 38, 3) := by decide +kernel
theorem d_X10_takeNumber_47 : decode cX10_takeNumber 47 = .ok (.aload_n 0, 1) := by decide +kernel
theorem d_X10_takeNumber_48 : decode cX10_takeNumber 48 = .ok (.getfield 21, 3) := by decide +kernel
theorem d_X10_takeNumber_51 : decode cX10_takeNumber 51 = .ok (.aload_n 0, 1) := by decide +kernel
theorem d_X10_takeNumber_52 : decode cX10_takeNumber 52 = .ok (.getfield 40, 3) := by decide +kernel
theorem d_X10_takeNumber_55 : decode cX10_takeNumber 55 = .ok (.iaload, 1) := by decide +kernel
theorem d_X10_takeNumber_56 : decode cX10_takeNumber 56 = .ok (.iload_n 2, 1) := by decide +kernel
theorem d_X10_takeNumber_57 : decode cX10_takeNumber 57 = .ok (.if_icmp .gt 25, 3) := by decide +kernel
theorem d_X10_takeNumber_60 : decode cX10_takeNumber 60 = .ok (.aload_n 0, 1) := by decide +kernel
theorem d_X10_takeNumber_61 : decode cX10_takeNumber 61 = .ok (.dup, 1) := by decide +kernel
theorem d_X10_takeNumber_62 : decode cX10_takeNumber 62 = .ok (.getfield 40, 3) := by decide +kernel
theorem d_X10_takeNumber_65 : decode cX10_takeNumber 65 = .ok (.iconst 1, 1) := by decide +kernel
theorem d_X10_takeNumber_66 : decode cX10_takeNumber 66 = .ok (.iadd, 1) := by decide +kernel
theorem d_X10_takeNumber_67 : decode cX10_takeNumber 67 = .ok (.putfield 40, 3) := by decide +kernel
theorem d_X10_takeNumber_70 : decode cX10_takeNumber 70 = .ok (.aload_n 0, 1) := by decide +kernel
theorem d_X10_takeNumber_71 : decode cX10_takeNumber 71 = .ok (.getfield 21, 3) := by decide +kernel
theorem d_X10_takeNumber_74 : decode cX10_takeNumber 74 = .ok (.aload_n 0, 1) := by decide +kernel
theorem d_X10_takeNumber_75 : decode cX10_takeNumber 75 = .ok (.getfield 40, 3) := by decide +kernel
theorem d_X10_takeNumber_78 : decode cX10_takeNumber 78 = .ok (.iconst 1, 1) := by decide +kernel
theorem d_X10_takeNumber_79 : decode cX10_takeNumber 79 = .ok (.isub, 1) := by decide +kernel
theorem d_X10_takeNumber_80 : decode cX10_takeNumber 80 = .ok (.iaload, 1) := by decide +kernel
theorem d_X10_takeNumber_81 : decode cX10_takeNumber 81 = .ok (.ireturn, 1) := by decide +kernel
theorem d_X10_takeNumber_82 : decode cX10_takeNumber 82 = .ok (.aload_n 0, 1) := by decide +kernel
theorem d_X10_takeNumber_83 : decode cX10_takeNumber 83 = .ok (.invokevirtual 77, 3) := by decide +kernel
theorem d_X10_takeNumber_86 : decode cX10_takeNumber 86 = .ok (.iload_n 1, 1) := by decide +kernel
theorem d_X10_takeNumber_87 : decode cX10_takeNumber 87 = .ok (.ireturn, 1) := by decide +kernel
abbrev rm_X10_takeNumber : Room := { frames := 1, cells := 0, slots := 0, locals := 20 }
def B_X10_takeNumber_82 (post : Int32 → CMu → Prop) (v1 : Int32) (cm : CMu) : Prop := w_X10_refuse (fun (u6 : CMu) => post v1 u6)  cm
def w_X10_takeNumber (post : Int32 → CMu → Prop) (x1 : Int32) (x2 : Int32) (cm : CMu) : Prop := (¬ (gI cm 4 7) = (-1) → (B_X10_takeNumber_82 post x1 cm)) ∧ ((gI cm 4 7) = (-1) → (((gI cm 4 3) ≤ (gI cm 4 4) → (B_X10_takeNumber_82 post x1 cm)) ∧ (¬ (gI cm 4 3) ≤ (gI cm 4 4) → ((vp_in (gI cm 4 4) 400) ∧ (¬ (gW cm 5 (Int32.toNatClampNeg (gI cm 4 4))) = 30 → (B_X10_takeNumber_82 post x1 cm)) ∧ ((gW cm 5 (Int32.toNatClampNeg (gI cm 4 4))) = 30 → ((vp_in (gI cm 4 4) 400) ∧ ((gI cm 7 (Int32.toNatClampNeg (gI cm 4 4))) < x1 → (B_X10_takeNumber_82 post x1 cm)) ∧ (¬ (gI cm 7 (Int32.toNatClampNeg (gI cm 4 4))) < x1 → ((vp_in (gI cm 4 4) 400) ∧ (x2 < (gI cm 7 (Int32.toNatClampNeg (gI cm 4 4))) → (B_X10_takeNumber_82 post x1 cm)) ∧ (¬ x2 < (gI cm 7 (Int32.toNatClampNeg (gI cm 4 4))) → ((vp_in ((gI (uI cm 4 4 ((gI cm 4 4) + 1)) 4 4) - 1) 400) ∧ post (gI (uI cm 4 4 ((gI cm 4 4) + 1)) 7 (Int32.toNatClampNeg ((gI (uI cm 4 4 ((gI cm 4 4) + 1)) 4 4) - 1))) (uI cm 4 4 ((gI cm 4 4) + 1))))))))))))
section G_X10_takeNumber
variable {p : Program} {l : Launch} {e : Env} {s : State} {m : MethodId} {args : Array Value} {below : List Frame} {meth : Method} {c : Code} {G : Gd} {ρ : Nat → Nat} {A : Nat → Prop} {mm : Nat → Nat → Int32} {oo : Nat → Int64}
set_option maxHeartbeats 4000000 in
set_option maxRecDepth 100000 in
theorem T_X10_takeNumber_82 {post : Int32 → CMu → Prop} (hl : l.stackTraces = false) (X : MC p l s m args meth c cX10_takeNumber 3 RX10 G ρ A) (hr : meth.sig.returnType = (some .int)) (hex : ∀ z ∈ c.exceptionTable.toList, False) : ∀ (v1 : Int32) (cm : CMu), B_X10_takeNumber_82 post v1 cm → LW p l e rm_X10_takeNumber s m args below meth c (Qm below G ρ A (PI (fun u => (u, mm, oo)) post) noX args s 0 0) G ρ A 3 0 0 82 [(0, .ref 4), (1, .int v1)] [] (cm, mm, oo) := by
  intro v1 cm h
  unfold B_X10_takeNumber_82 at h
  refine L_aload_n (pc := 82) X d_X10_takeNumber_82 rfl 0 rfl ?_
  refine L_callVV (pc := 83) X lk_X10_77 (c_X10_refuse X.hst  h) rfl rfl kd_4 (by decide) rfl rfl ⟨by decide, by decide⟩ ⟨by decide, by decide⟩ (Nat.zero_le _) d_X10_takeNumber_83 rfl (fun x κ1 hx => L_nox hx) (fun u6 h => ?_)
  refine L_iload_n (pc := 86) X d_X10_takeNumber_86 rfl 1 rfl ?_
  exact L_iret (pc := 87) X hr d_X10_takeNumber_87 (by decide) (by decide) ⟨_, _, rfl, rfl, h⟩
set_option maxHeartbeats 4000000 in
set_option maxRecDepth 100000 in
theorem c_X10_takeNumber (hl : l.stackTraces = false) {x1 : Int32} {x2 : Int32} {cm : CMu} {post : Int32 → CMu → Prop} (h : w_X10_takeNumber post x1 x2 cm) : CT l yX10_takeNumber (.code yX10_takeNumber cX10_takeNumber 3 (some .int)) rm_X10_takeNumber 0 0 G ρ [.ref 4, .int x1, .int x2] (cm, mm, oo) (PI (fun u => (u, mm, oo)) post) noX := by
  refine CT_of hl (by decide +kernel) rfl (Nat.le_of_ble_eq_true rfl) (lv0 := [(0, .ref 4), (1, .int x1), (2, .int x2)]) rfl (fun p e s m args below meth c A X hr hex hnm => ?_)
  unfold w_X10_takeNumber at h
  refine L_aload_n (pc := 0) X d_X10_takeNumber_0 rfl 0 rfl ?_
  refine gf_X10_24 (pc := 1) X d_X10_takeNumber_1 kd_4 ?_
  refine L_iconst (pc := 4) (v := (-1)) X d_X10_takeNumber_4 (by decide) ?_
  refine L_icmp_ne (pc := 5) (tgt := 82) X d_X10_takeNumber_5 (by decide) (fun c5 => ?_) (fun c5 => ?_)
  · replace h := h.1 c5
    refine LW.sub [0, 1] rfl ?_
    exact T_X10_takeNumber_82 hl X hr hex _  _ h
  · replace h := h.2 c5
    refine L_aload_n (pc := 8) X d_X10_takeNumber_8 rfl 0 rfl ?_
    refine gf_X10_40 (pc := 9) X d_X10_takeNumber_9 kd_4 ?_
    refine L_aload_n (pc := 12) X d_X10_takeNumber_12 rfl 0 rfl ?_
    refine gf_X10_37 (pc := 13) X d_X10_takeNumber_13 kd_4 ?_
    refine L_icmp_ge (pc := 16) (tgt := 82) X d_X10_takeNumber_16 (by decide) (fun c16 => ?_) (fun c16 => ?_)
    · replace h := h.1 c16
      refine LW.sub [0, 1] rfl ?_
      exact T_X10_takeNumber_82 hl X hr hex _  _ h
    · replace h := h.2 c16
      refine L_aload_n (pc := 19) X d_X10_takeNumber_19 rfl 0 rfl ?_
      refine gf_X10_11 (pc := 20) (b := 5) X d_X10_takeNumber_20 kd_4 rfl ?_
      refine L_aload_n (pc := 23) X d_X10_takeNumber_23 rfl 0 rfl ?_
      refine gf_X10_40 (pc := 24) X d_X10_takeNumber_24 kd_4 ?_
      obtain ⟨q1, h⟩ := h
      refine L_aaldW (pc := 27) X d_X10_takeNumber_27 kd_5 q1 ?_
      refine L_getsW (pc := 28) X 29 (by decide) rfl (w := 30) (by decide) d_X10_takeNumber_28 tw_604 ?_
      refine L_acmp_ne (pc := 31) (tgt := 82) X d_X10_takeNumber_31 (by decide) (fun c31 => ?_) (fun c31 => ?_)
      · replace h := h.1 c31
        refine LW.sub [0, 1] rfl ?_
        exact T_X10_takeNumber_82 hl X hr hex _  _ h
      · replace h := h.2 c31
        refine L_aload_n (pc := 34) X d_X10_takeNumber_34 rfl 0 rfl ?_
        refine gf_X10_21 (pc := 35) (b := 7) X d_X10_takeNumber_35 kd_4 rfl ?_
        refine L_aload_n (pc := 38) X d_X10_takeNumber_38 rfl 0 rfl ?_
        refine gf_X10_40 (pc := 39) X d_X10_takeNumber_39 kd_4 ?_
        obtain ⟨q2, h⟩ := h
        refine L_iald (pc := 42) X d_X10_takeNumber_42 kd_7 q2 ?_
        refine L_iload_n (pc := 43) X d_X10_takeNumber_43 rfl 1 rfl ?_
        refine L_icmp_lt (pc := 44) (tgt := 82) X d_X10_takeNumber_44 (by decide) (fun c44 => ?_) (fun c44 => ?_)
        · replace h := h.1 c44
          refine LW.sub [0, 1] rfl ?_
          exact T_X10_takeNumber_82 hl X hr hex _  _ h
        · replace h := h.2 c44
          refine L_aload_n (pc := 47) X d_X10_takeNumber_47 rfl 0 rfl ?_
          refine gf_X10_21 (pc := 48) (b := 7) X d_X10_takeNumber_48 kd_4 rfl ?_
          refine L_aload_n (pc := 51) X d_X10_takeNumber_51 rfl 0 rfl ?_
          refine gf_X10_40 (pc := 52) X d_X10_takeNumber_52 kd_4 ?_
          obtain ⟨q3, h⟩ := h
          refine L_iald (pc := 55) X d_X10_takeNumber_55 kd_7 q3 ?_
          refine L_iload_n (pc := 56) X d_X10_takeNumber_56 rfl 2 rfl ?_
          refine L_icmp_gt (pc := 57) (tgt := 82) X d_X10_takeNumber_57 (by decide) (fun c57 => ?_) (fun c57 => ?_)
          · replace h := h.1 c57
            refine LW.sub [0, 1] rfl ?_
            exact T_X10_takeNumber_82 hl X hr hex _  _ h
          · replace h := h.2 c57
            refine L_aload_n (pc := 60) X d_X10_takeNumber_60 rfl 0 rfl ?_
            refine L_dup (pc := 61) X d_X10_takeNumber_61 rfl ?_
            refine gf_X10_40 (pc := 62) X d_X10_takeNumber_62 kd_4 ?_
            refine L_iconst (pc := 65) (v := 1) X d_X10_takeNumber_65 (by decide) ?_
            refine L_iadd (pc := 66) X d_X10_takeNumber_66 ?_
            refine pf_X10_40 (pc := 67) X d_X10_takeNumber_67 kd_4 ?_
            refine L_aload_n (pc := 70) X d_X10_takeNumber_70 rfl 0 rfl ?_
            refine gf_X10_21 (pc := 71) (b := 7) X d_X10_takeNumber_71 kd_4 rfl ?_
            refine L_aload_n (pc := 74) X d_X10_takeNumber_74 rfl 0 rfl ?_
            refine gf_X10_40 (pc := 75) X d_X10_takeNumber_75 kd_4 ?_
            refine L_iconst (pc := 78) (v := 1) X d_X10_takeNumber_78 (by decide) ?_
            refine L_isub (pc := 79) X d_X10_takeNumber_79 ?_
            obtain ⟨q4, h⟩ := h
            refine L_iald (pc := 80) X d_X10_takeNumber_80 kd_7 q4 ?_
            exact L_iret (pc := 81) X hr d_X10_takeNumber_81 (by decide) (by decide) ⟨_, _, rfl, rfl, h⟩
end G_X10_takeNumber
theorem d_X10_takePart_0 : decode cX10_takePart 0 = .ok (.aload_n 0, 1) := by decide +kernel
theorem d_X10_takePart_1 : decode cX10_takePart 1 = .ok (.getfield 24, 3) := by decide +kernel
theorem d_X10_takePart_4 : decode cX10_takePart 4 = .ok (.iconst (-1), 1) := by decide +kernel
theorem d_X10_takePart_5 : decode cX10_takePart 5 = .ok (.if_icmp .ne 64, 3) := by decide +kernel
theorem d_X10_takePart_8 : decode cX10_takePart 8 = .ok (.aload_n 0, 1) := by decide +kernel
theorem d_X10_takePart_9 : decode cX10_takePart 9 = .ok (.getfield 40, 3) := by decide +kernel
theorem d_X10_takePart_12 : decode cX10_takePart 12 = .ok (.aload_n 0, 1) := by decide +kernel
theorem d_X10_takePart_13 : decode cX10_takePart 13 = .ok (.getfield 37, 3) := by decide +kernel
theorem d_X10_takePart_16 : decode cX10_takePart 16 = .ok (.if_icmp .ge 53, 3) := by decide +kernel
theorem d_X10_takePart_19 : decode cX10_takePart 19 = .ok (.aload_n 0, 1) := by decide +kernel
theorem d_X10_takePart_20 : decode cX10_takePart 20 = .ok (.getfield 11, 3) := by decide +kernel
theorem d_X10_takePart_23 : decode cX10_takePart 23 = .ok (.aload_n 0, 1) := by decide +kernel
theorem d_X10_takePart_24 : decode cX10_takePart 24 = .ok (.getfield 40, 3) := by decide +kernel
theorem d_X10_takePart_27 : decode cX10_takePart 27 = .ok (.aaload, 1) := by decide +kernel
theorem d_X10_takePart_28 : decode cX10_takePart 28 = .ok (.getfield 80, 3) := by decide +kernel
theorem d_X10_takePart_31 : decode cX10_takePart 31 = .ok (.ifCond .eq 38, 3) := by decide +kernel
theorem d_X10_takePart_34 : decode cX10_takePart 34 = .ok (.aload_n 0, 1) := by decide +kernel
theorem d_X10_takePart_35 : decode cX10_takePart 35 = .ok (.aload_n 0, 1) := by decide +kernel
theorem d_X10_takePart_36 : decode cX10_takePart 36 = .ok (.getfield 21, 3) := by decide +kernel
theorem d_X10_takePart_39 : decode cX10_takePart 39 = .ok (.aload_n 0, 1) := by decide +kernel
theorem d_X10_takePart_40 : decode cX10_takePart 40 = .ok (.getfield 40, 3) := by decide +kernel
theorem d_X10_takePart_43 : decode cX10_takePart 43 = .ok (.iaload, 1) := by decide +kernel
theorem d_X10_takePart_44 : decode cX10_takePart 44 = .ok (.putfield 84, 3) := by decide +kernel
theorem d_X10_takePart_47 : decode cX10_takePart 47 = .ok (.aload_n 0, 1) := by decide +kernel
theorem d_X10_takePart_48 : decode cX10_takePart 48 = .ok (.dup, 1) := by decide +kernel
theorem d_X10_takePart_49 : decode cX10_takePart 49 = .ok (.getfield 40, 3) := by decide +kernel
theorem d_X10_takePart_52 : decode cX10_takePart 52 = .ok (.iconst 1, 1) := by decide +kernel
theorem d_X10_takePart_53 : decode cX10_takePart 53 = .ok (.iadd, 1) := by decide +kernel
theorem d_X10_takePart_54 : decode cX10_takePart 54 = .ok (.putfield 40, 3) := by decide +kernel
theorem d_X10_takePart_57 : decode cX10_takePart 57 = .ok (.aload_n 0, 1) := by decide +kernel
theorem d_X10_takePart_58 : decode cX10_takePart 58 = .ok (.getfield 11, 3) := by decide +kernel
theorem d_X10_takePart_61 : decode cX10_takePart 61 = .ok (.aload_n 0, 1) := by decide +kernel
theorem d_X10_takePart_62 : decode cX10_takePart 62 = .ok (.getfield 40, 3) := by decide +kernel
theorem d_X10_takePart_65 : decode cX10_takePart 65 = .ok (.iconst 1, 1) := by decide +kernel
theorem d_X10_takePart_66 : decode cX10_takePart 66 = .ok (.isub, 1) := by decide +kernel
theorem d_X10_takePart_67 : decode cX10_takePart 67 = .ok (.aaload, 1) := by decide +kernel
theorem d_X10_takePart_68 : decode cX10_takePart 68 = .ok (.areturn, 1) := by decide +kernel
theorem d_X10_takePart_69 : decode cX10_takePart 69 = .ok (.getstatic 59, 3) := by decide +kernel
theorem d_X10_takePart_72 : decode cX10_takePart 72 = .ok (.areturn, 1) := by decide +kernel
abbrev rm_X10_takePart : Room := { frames := 0, cells := 0, slots := 0, locals := 0 }
def B_X10_takePart_69 (post : Fin 32 → CMu → Prop) (cm : CMu) : Prop := post 31 cm
def w_X10_takePart (post : Fin 32 → CMu → Prop) (cm : CMu) : Prop := (¬ (gI cm 4 7) = (-1) → (B_X10_takePart_69 post cm)) ∧ ((gI cm 4 7) = (-1) → (((gI cm 4 3) ≤ (gI cm 4 4) → (B_X10_takePart_69 post cm)) ∧ (¬ (gI cm 4 3) ≤ (gI cm 4 4) → ((vp_in (gI cm 4 4) 400) ∧ (¬ (gW cm 5 (Int32.toNatClampNeg (gI cm 4 4))) = 0) ∧ (((wP (gW cm 5 (Int32.toNatClampNeg (gI cm 4 4)))) = false) → (B_X10_takePart_69 post cm)) ∧ (¬ ((wP (gW cm 5 (Int32.toNatClampNeg (gI cm 4 4)))) = false) → ((vp_in (gI cm 4 4) 400) ∧ (vp_in ((gI (uI (uI cm 4 6 (gI cm 7 (Int32.toNatClampNeg (gI cm 4 4)))) 4 4 ((gI (uI cm 4 6 (gI cm 7 (Int32.toNatClampNeg (gI cm 4 4)))) 4 4) + 1)) 4 4) - 1) 400) ∧ post (gW (uI (uI cm 4 6 (gI cm 7 (Int32.toNatClampNeg (gI cm 4 4)))) 4 4 ((gI (uI cm 4 6 (gI cm 7 (Int32.toNatClampNeg (gI cm 4 4)))) 4 4) + 1)) 5 (Int32.toNatClampNeg ((gI (uI (uI cm 4 6 (gI cm 7 (Int32.toNatClampNeg (gI cm 4 4)))) 4 4 ((gI (uI cm 4 6 (gI cm 7 (Int32.toNatClampNeg (gI cm 4 4)))) 4 4) + 1)) 4 4) - 1))) (uI (uI cm 4 6 (gI cm 7 (Int32.toNatClampNeg (gI cm 4 4)))) 4 4 ((gI (uI cm 4 6 (gI cm 7 (Int32.toNatClampNeg (gI cm 4 4)))) 4 4) + 1))))))))
section G_X10_takePart
variable {p : Program} {l : Launch} {e : Env} {s : State} {m : MethodId} {args : Array Value} {below : List Frame} {meth : Method} {c : Code} {G : Gd} {ρ : Nat → Nat} {A : Nat → Prop} {mm : Nat → Nat → Int32} {oo : Nat → Int64}
set_option maxHeartbeats 4000000 in
set_option maxRecDepth 100000 in
theorem T_X10_takePart_69 {post : Fin 32 → CMu → Prop} (hl : l.stackTraces = false) (X : MC p l s m args meth c cX10_takePart 1 RX10 G ρ A) (hr : meth.sig.returnType = (some (.object "FlumeOrders$Word"))) (hex : ∀ z ∈ c.exceptionTable.toList, False) : ∀ (cm : CMu), B_X10_takePart_69 post cm → LW p l e rm_X10_takePart s m args below meth c (Qm below G ρ A (PW (fun u => (u, mm, oo)) post) noX args s 0 0) G ρ A 1 0 0 69 [] [] (cm, mm, oo) := by
  intro cm h
  unfold B_X10_takePart_69 at h
  refine L_getsW (pc := 69) X 30 (by decide) rfl (w := 31) (by decide) d_X10_takePart_69 tw_606 ?_
  exact L_aretW (pc := 72) X hr d_X10_takePart_72 (by decide) (by decide) ⟨_, _, rfl, rfl, h⟩
set_option maxHeartbeats 4000000 in
set_option maxRecDepth 100000 in
theorem c_X10_takePart (hl : l.stackTraces = false) {cm : CMu} {post : Fin 32 → CMu → Prop} (h : w_X10_takePart post cm) : CT l yX10_takePart (.code yX10_takePart cX10_takePart 1 (some (.object "FlumeOrders$Word"))) rm_X10_takePart 0 0 G ρ [.ref 4] (cm, mm, oo) (PW (fun u => (u, mm, oo)) post) noX := by
  refine CT_of hl (by decide +kernel) rfl (Nat.le_of_ble_eq_true rfl) (lv0 := [(0, .ref 4)]) rfl (fun p e s m args below meth c A X hr hex hnm => ?_)
  unfold w_X10_takePart at h
  refine L_aload_n (pc := 0) X d_X10_takePart_0 rfl 0 rfl ?_
  refine gf_X10_24 (pc := 1) X d_X10_takePart_1 kd_4 ?_
  refine L_iconst (pc := 4) (v := (-1)) X d_X10_takePart_4 (by decide) ?_
  refine L_icmp_ne (pc := 5) (tgt := 69) X d_X10_takePart_5 (by decide) (fun c5 => ?_) (fun c5 => ?_)
  · replace h := h.1 c5
    refine LW.sub [] rfl ?_
    exact T_X10_takePart_69 hl X hr hex   _ h
  · replace h := h.2 c5
    refine L_aload_n (pc := 8) X d_X10_takePart_8 rfl 0 rfl ?_
    refine gf_X10_40 (pc := 9) X d_X10_takePart_9 kd_4 ?_
    refine L_aload_n (pc := 12) X d_X10_takePart_12 rfl 0 rfl ?_
    refine gf_X10_37 (pc := 13) X d_X10_takePart_13 kd_4 ?_
    refine L_icmp_ge (pc := 16) (tgt := 69) X d_X10_takePart_16 (by decide) (fun c16 => ?_) (fun c16 => ?_)
    · replace h := h.1 c16
      refine LW.sub [] rfl ?_
      exact T_X10_takePart_69 hl X hr hex   _ h
    · replace h := h.2 c16
      refine L_aload_n (pc := 19) X d_X10_takePart_19 rfl 0 rfl ?_
      refine gf_X10_11 (pc := 20) (b := 5) X d_X10_takePart_20 kd_4 rfl ?_
      refine L_aload_n (pc := 23) X d_X10_takePart_23 rfl 0 rfl ?_
      refine gf_X10_40 (pc := 24) X d_X10_takePart_24 kd_4 ?_
      obtain ⟨q1, h⟩ := h
      refine L_aaldW (pc := 27) X d_X10_takePart_27 kd_5 q1 ?_
      obtain ⟨q2, h⟩ := h
      refine L_getWi (pc := 28) X q2 (RX11, "isPart", "Z", wpt) (by decide) (v := b2 (wP (gW cm 5 (Int32.toNatClampNeg (gI cm 4 4))))) (fun i hi => wP_at i hi) d_X10_takePart_28 tw_1628 ?_
      refine L_if_eq (pc := 31) (tgt := 69) X d_X10_takePart_31 (by decide) (fun c31 => ?_) (fun c31 => ?_)
      · replace h := h.1 ((b2_0 _).mp c31)
        refine LW.sub [] rfl ?_
        exact T_X10_takePart_69 hl X hr hex   _ h
      · replace h := h.2 (fun z => c31 ((b2_0 _).mpr z))
        refine L_aload_n (pc := 34) X d_X10_takePart_34 rfl 0 rfl ?_
        refine L_aload_n (pc := 35) X d_X10_takePart_35 rfl 0 rfl ?_
        refine gf_X10_21 (pc := 36) (b := 7) X d_X10_takePart_36 kd_4 rfl ?_
        refine L_aload_n (pc := 39) X d_X10_takePart_39 rfl 0 rfl ?_
        refine gf_X10_40 (pc := 40) X d_X10_takePart_40 kd_4 ?_
        obtain ⟨q3, h⟩ := h
        refine L_iald (pc := 43) X d_X10_takePart_43 kd_7 q3 ?_
        refine pf_X10_84 (pc := 44) X d_X10_takePart_44 kd_4 ?_
        refine L_aload_n (pc := 47) X d_X10_takePart_47 rfl 0 rfl ?_
        refine L_dup (pc := 48) X d_X10_takePart_48 rfl ?_
        refine gf_X10_40 (pc := 49) X d_X10_takePart_49 kd_4 ?_
        refine L_iconst (pc := 52) (v := 1) X d_X10_takePart_52 (by decide) ?_
        refine L_iadd (pc := 53) X d_X10_takePart_53 ?_
        refine pf_X10_40 (pc := 54) X d_X10_takePart_54 kd_4 ?_
        refine L_aload_n (pc := 57) X d_X10_takePart_57 rfl 0 rfl ?_
        refine gf_X10_11 (pc := 58) (b := 5) X d_X10_takePart_58 kd_4 rfl ?_
        refine L_aload_n (pc := 61) X d_X10_takePart_61 rfl 0 rfl ?_
        refine gf_X10_40 (pc := 62) X d_X10_takePart_62 kd_4 ?_
        refine L_iconst (pc := 65) (v := 1) X d_X10_takePart_65 (by decide) ?_
        refine L_isub (pc := 66) X d_X10_takePart_66 ?_
        obtain ⟨q4, h⟩ := h
        refine L_aaldW (pc := 67) X d_X10_takePart_67 kd_5 q4 ?_
        exact L_aretW (pc := 68) X hr d_X10_takePart_68 (by decide) (by decide) ⟨_, _, rfl, rfl, h⟩
end G_X10_takePart
