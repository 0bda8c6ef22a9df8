theorem d_J0_coder_7d493_0 : decode cJ0_coder_7d493 0 = .ok (.getstatic 38, 3) := by decide +kernel
theorem d_J0_coder_7d493_3 : decode cJ0_coder_7d493 3 = .ok (.ifCond .eq 10, 3) := by decide +kernel
theorem d_J0_coder_7d493_6 : decode cJ0_coder_7d493 6 = .ok (.aload_n 0, 1) := by decide +kernel
theorem d_J0_coder_7d493_7 : decode cJ0_coder_7d493 7 = .ok (.getfield 15, 3) := by decide +kernel
theorem d_J0_coder_7d493_10 : decode cJ0_coder_7d493 10 = .ok (.goto 4, 3) := by decide +kernel
theorem d_J0_coder_7d493_14 : decode cJ0_coder_7d493 14 = .ok (.ireturn, 1) := by decide +kernel
abbrev rm_J0_coder_7d493 : Room := { frames := 0, cells := 0, slots := 0, locals := 0 }
def w_J0_coder_7d493 (post : Int32 → CMu → Prop) (a0 : Nat) (cm : CMu) : Prop := post 0 cm
section G_J0_coder_7d493
variable {p : Program} {l : Launch} {e : Env} {s : State} {m : MethodId} {args : Array Value} {below : List Frame} {meth : Method} {c : Code} {G : Gd} {ρ : Nat → Nat} {A : Nat → Prop} {mm : Nat → Nat → Int32} {oo : Nat → Int64}
set_option maxHeartbeats 4000000 in
set_option maxRecDepth 100000 in
theorem c_J0_coder_7d493 (hl : l.stackTraces = false) {a0 : Nat} (h_a0 : a0 < 30) {cm : CMu} {post : Int32 → CMu → Prop} (h : w_J0_coder_7d493 post a0 cm) : CT l yJ0_coder_7d493 (.code yJ0_coder_7d493 cJ0_coder_7d493 1 (some .byte)) rm_J0_coder_7d493 0 0 G ρ [.ref (2001 + a0)] (cm, mm, oo) (PI (fun u => (u, mm, oo)) post) noX := by
  refine CT_of hl (by decide +kernel) rfl (Nat.le_of_ble_eq_true rfl) (lv0 := [(0, .ref (2001 + a0))]) rfl (fun p e s m args below meth c A X hr hex hnm => ?_)
  unfold w_J0_coder_7d493 at h
  refine L_getsCS (pc := 0) X d_J0_coder_7d493_0 tw_629 ?_
  refine L_if_eq (pc := 3) (tgt := 13) X d_J0_coder_7d493_3 (by decide) (fun c3 => absurd c3 (by decide)) (fun c3 => ?_)
  refine L_aload_n (pc := 6) X d_J0_coder_7d493_6 rfl 0 rfl ?_
  refine L_strC (pc := 7) X h_a0 d_J0_coder_7d493_7 tw_1627 ?_
  refine L_goto (pc := 10) (tgt := 14) X d_J0_coder_7d493_10 (by decide) ?_
  exact L_nret (pc := 14) X hr d_J0_coder_7d493_14 rfl (by decide) (by decide) ⟨_, _, rfl, rfl, h⟩
end G_J0_coder_7d493
theorem d_J0_isLatin1_aae02_0 : decode cJ0_isLatin1_aae02 0 = .ok (.getstatic 38, 3) := by decide +kernel
theorem d_J0_isLatin1_aae02_3 : decode cJ0_isLatin1_aae02 3 = .ok (.ifCond .eq 14, 3) := by decide +kernel
theorem d_J0_isLatin1_aae02_6 : decode cJ0_isLatin1_aae02 6 = .ok (.aload_n 0, 1) := by decide +kernel
theorem d_J0_isLatin1_aae02_7 : decode cJ0_isLatin1_aae02 7 = .ok (.getfield 15, 3) := by decide +kernel
theorem d_J0_isLatin1_aae02_10 : decode cJ0_isLatin1_aae02 10 = .ok (.ifCond .ne 7, 3) := by decide +kernel
theorem d_J0_isLatin1_aae02_13 : decode cJ0_isLatin1_aae02 13 = .ok (.iconst 1, 1) := by decide +kernel
theorem d_J0_isLatin1_aae02_14 : decode cJ0_isLatin1_aae02 14 = .ok (.goto 4, 3) := by decide +kernel
theorem d_J0_isLatin1_aae02_18 : decode cJ0_isLatin1_aae02 18 = .ok (.ireturn, 1) := by decide +kernel
abbrev rm_J0_isLatin1_aae02 : Room := { frames := 0, cells := 0, slots := 0, locals := 0 }
def w_J0_isLatin1_aae02 (post : Bool → CMu → Prop) (a0 : Nat) (cm : CMu) : Prop := post true cm
section G_J0_isLatin1_aae02
variable {p : Program} {l : Launch} {e : Env} {s : State} {m : MethodId} {args : Array Value} {below : List Frame} {meth : Method} {c : Code} {G : Gd} {ρ : Nat → Nat} {A : Nat → Prop} {mm : Nat → Nat → Int32} {oo : Nat → Int64}
set_option maxHeartbeats 4000000 in
set_option maxRecDepth 100000 in
theorem c_J0_isLatin1_aae02 (hl : l.stackTraces = false) {a0 : Nat} (h_a0 : a0 < 30) {cm : CMu} {post : Bool → CMu → Prop} (h : w_J0_isLatin1_aae02 post a0 cm) : CT l yJ0_isLatin1_aae02 (.code yJ0_isLatin1_aae02 cJ0_isLatin1_aae02 1 (some .boolean)) rm_J0_isLatin1_aae02 0 0 G ρ [.ref (2001 + a0)] (cm, mm, oo) (PZ (fun u => (u, mm, oo)) post) noX := by
  refine CT_of hl (by decide +kernel) rfl (Nat.le_of_ble_eq_true rfl) (lv0 := [(0, .ref (2001 + a0))]) rfl (fun p e s m args below meth c A X hr hex hnm => ?_)
  unfold w_J0_isLatin1_aae02 at h
  refine L_getsCS (pc := 0) X d_J0_isLatin1_aae02_0 tw_629 ?_
  refine L_if_eq (pc := 3) (tgt := 17) X d_J0_isLatin1_aae02_3 (by decide) (fun c3 => absurd c3 (by decide)) (fun c3 => ?_)
  refine L_aload_n (pc := 6) X d_J0_isLatin1_aae02_6 rfl 0 rfl ?_
  refine L_strC (pc := 7) X h_a0 d_J0_isLatin1_aae02_7 tw_1627 ?_
  refine L_if_ne (pc := 10) (tgt := 17) X d_J0_isLatin1_aae02_10 (by decide) (fun c10 => absurd c10 (by decide)) (fun c10 => ?_)
  refine L_iconst (pc := 13) (v := 1) X d_J0_isLatin1_aae02_13 (by decide) ?_
  refine L_goto (pc := 14) (tgt := 18) X d_J0_isLatin1_aae02_14 (by decide) ?_
  exact L_zretB (pc := 18) X hr d_J0_isLatin1_aae02_18 true rfl (by decide) (by decide) ⟨_, _, rfl, rfl, h⟩
end G_J0_isLatin1_aae02
theorem yk_J0_coder_7d493 : yJ0_coder_7d493.cls = RJ0 ∧ yJ0_coder_7d493.cls ≠ "java/lang/invoke/MethodHandle" ∧ yJ0_coder_7d493.cls ≠ "java/lang/invoke/VarHandle" ∧ (parseMethodDescriptor yJ0_coder_7d493.desc).map (fun d => d.parameters.length) = some 0 := by decide +kernel
theorem lk_J0_335 : LinkV RJ0 335 RJ0 yJ0_coder_7d493 (.code yJ0_coder_7d493 cJ0_coder_7d493 1 (some .byte)) 0 := ⟨tw_625, tw_626, tw_627, tw_87, tw_628, yk_J0_coder_7d493⟩
theorem d_J0_length_8abf5_0 : decode cJ0_length_8abf5 0 = .ok (.aload_n 0, 1) := by decide +kernel
theorem d_J0_length_8abf5_1 : decode cJ0_length_8abf5 1 = .ok (.getfield 9, 3) := by decide +kernel
theorem d_J0_length_8abf5_4 : decode cJ0_length_8abf5 4 = .ok (.arraylength, 1) := by decide +kernel
theorem d_J0_length_8abf5_5 : decode cJ0_length_8abf5 5 = .ok (.aload_n 0, 1) := by decide +kernel
theorem d_J0_length_8abf5_6 : decode cJ0_length_8abf5 6 = .ok (.invokevirtual 335, 3) := by decide +kernel
theorem d_J0_length_8abf5_9 : decode cJ0_length_8abf5 9 = .ok (.ishr, 1) := by decide +kernel
theorem d_J0_length_8abf5_10 : decode cJ0_length_8abf5 10 = .ok (.ireturn, 1) := by decide +kernel
abbrev rm_J0_length_8abf5 : Room := { frames := 1, cells := 0, slots := 0, locals := 20 }
def w_J0_length_8abf5 (post : Int32 → CMu → Prop) (a0 : Nat) (cm : CMu) : Prop := w_J0_coder_7d493 (fun (r1 : Int32) (u2 : CMu) => r1 = 0 ∧ (post ((Int32.ofNat (slen.getD a0 0)) >>> (0 &&& 31)) u2)) a0 cm
section G_J0_length_8abf5
variable {p : Program} {l : Launch} {e : Env} {s : State} {m : MethodId} {args : Array Value} {below : List Frame} {meth : Method} {c : Code} {G : Gd} {ρ : Nat → Nat} {A : Nat → Prop} {mm : Nat → Nat → Int32} {oo : Nat → Int64}
set_option maxHeartbeats 4000000 in
set_option maxRecDepth 100000 in
theorem c_J0_length_8abf5 (hl : l.stackTraces = false) {a0 : Nat} (h_a0 : a0 < 30) {cm : CMu} {post : Int32 → CMu → Prop} (h : w_J0_length_8abf5 post a0 cm) : CT l yJ0_length_8abf5 (.code yJ0_length_8abf5 cJ0_length_8abf5 1 (some .int)) rm_J0_length_8abf5 0 0 G ρ [.ref (2001 + a0)] (cm, mm, oo) (PI (fun u => (u, mm, oo)) post) noX := by
  refine CT_of hl (by decide +kernel) rfl (Nat.le_of_ble_eq_true rfl) (lv0 := [(0, .ref (2001 + a0))]) rfl (fun p e s m args below meth c A X hr hex hnm => ?_)
  unfold w_J0_length_8abf5 at h
  refine L_aload_n (pc := 0) X d_J0_length_8abf5_0 rfl 0 rfl ?_
  refine L_strV (pc := 1) X h_a0 d_J0_length_8abf5_1 tw_1626 ?_
  refine L_bytN (pc := 4) X h_a0 d_J0_length_8abf5_4 ?_
  refine L_aload_n (pc := 5) X d_J0_length_8abf5_5 rfl 0 rfl ?_
  refine L_callVRI (pc := 6) X rfl (X.rvS h_a0) lk_J0_335 (c_J0_coder_7d493 X.hst h_a0 h) rfl rfl rfl ⟨by decide, by decide⟩ ⟨by decide, by decide⟩ (Nat.le_of_ble_eq_true rfl) d_J0_length_8abf5_6 rfl (fun r1 u2 h => ?_)
  obtain ⟨rfl, h⟩ := h
  refine L_ishr (pc := 9) X d_J0_length_8abf5_9 ?_
  exact L_iret (pc := 10) X hr d_J0_length_8abf5_10 (by decide) (by decide) ⟨_, _, rfl, rfl, h⟩
end G_J0_length_8abf5
theorem d_J3_checkIndex_8e157_0 : decode cJ3_checkIndex_8e157 0 = .ok (.iload_n 0, 1) := by decide +kernel
theorem d_J3_checkIndex_8e157_1 : decode cJ3_checkIndex_8e157 1 = .ok (.ifCond .lt 8, 3) := by decide +kernel
theorem d_J3_checkIndex_8e157_4 : decode cJ3_checkIndex_8e157 4 = .ok (.iload_n 0, 1) := by decide +kernel
theorem d_J3_checkIndex_8e157_5 : decode cJ3_checkIndex_8e157 5 = .ok (.iload_n 1, 1) := by decide +kernel
theorem d_J3_checkIndex_8e157_6 : decode cJ3_checkIndex_8e157 6 = .ok (.if_icmp .lt 10, 3) := by decide +kernel
theorem d_J3_checkIndex_8e157_9 : decode cJ3_checkIndex_8e157 9 = .ok (.aload_n 2, 1) := by decide +kernel
theorem d_J3_checkIndex_8e157_16 : decode cJ3_checkIndex_8e157 16 = .ok (.iload_n 0, 1) := by decide +kernel
theorem d_J3_checkIndex_8e157_17 : decode cJ3_checkIndex_8e157 17 = .ok (.ireturn, 1) := by decide +kernel
abbrev rm_J3_checkIndex_8e157 : Room := { frames := 0, cells := 0, slots := 0, locals := 0 }
def B_J3_checkIndex_8e157_9 (post : Int32 → CMu → Prop) (v0 : Int32) (v1 : Int32) (v2 : Value) (cm : CMu) : Prop := False
def w_J3_checkIndex_8e157 (post : Int32 → CMu → Prop) (x0 : Int32) (x1 : Int32) (a2 : Value) (cm : CMu) : Prop := (x0 < 0 → (B_J3_checkIndex_8e157_9 post x0 x1 a2 cm)) ∧ (¬ x0 < 0 → ((x0 < x1 → (post x0 cm)) ∧ (¬ x0 < x1 → (B_J3_checkIndex_8e157_9 post x0 x1 a2 cm))))
section G_J3_checkIndex_8e157
variable {p : Program} {l : Launch} {e : Env} {s : State} {m : MethodId} {args : Array Value} {below : List Frame} {meth : Method} {c : Code} {G : Gd} {ρ : Nat → Nat} {A : Nat → Prop} {mm : Nat → Nat → Int32} {oo : Nat → Int64}
set_option maxHeartbeats 4000000 in
set_option maxRecDepth 100000 in
theorem T_J3_checkIndex_8e157_9 {post : Int32 → CMu → Prop} (hl : l.stackTraces = false) (X : MC p l s m args meth c cJ3_checkIndex_8e157 3 RJ3 G ρ A) (hr : meth.sig.returnType = (some .int)) (hex : ∀ z ∈ c.exceptionTable.toList, False) : ∀ (v0 : Int32) (v1 : Int32) (v2 : Value) (h_v2 : v2.category = 1) (cm : CMu), B_J3_checkIndex_8e157_9 post v0 v1 v2 cm → LW p l e rm_J3_checkIndex_8e157 s m args below meth c (Qm below G ρ A (PI (fun u => (u, mm, oo)) post) noX args s 0 0) G ρ A 3 0 0 9 [(0, .int v0), (1, .int v1), (2, v2)] [] (cm, mm, oo) := by
  intro v0 v1 v2 h_v2 cm h
  unfold B_J3_checkIndex_8e157_9 at h
  exact False.elim h
set_option maxHeartbeats 4000000 in
set_option maxRecDepth 100000 in
theorem c_J3_checkIndex_8e157 (hl : l.stackTraces = false) {x0 : Int32} {x1 : Int32} {a2 : Value} (h_a2 : a2.category = 1) {cm : CMu} {post : Int32 → CMu → Prop} (h : w_J3_checkIndex_8e157 post x0 x1 a2 cm) : CT l yJ3_checkIndex_8e157 (.code yJ3_checkIndex_8e157 cJ3_checkIndex_8e157 3 (some .int)) rm_J3_checkIndex_8e157 0 0 G ρ [.int x0, .int x1, a2] (cm, mm, oo) (PI (fun u => (u, mm, oo)) post) noX := by
  refine CT_of hl (by decide +kernel) rfl (by simp [wv_cat, cat_r, cat_i, cat_l, h_a2]) (lv0 := [(0, .int x0), (1, .int x1), (2, a2)]) (by simp [lv_args, wv_cat, cat_r, cat_i, cat_l, h_a2]) (fun p e s m args below meth c A X hr hex hnm => ?_)
  unfold w_J3_checkIndex_8e157 at h
  refine L_iload_n (pc := 0) X d_J3_checkIndex_8e157_0 rfl 0 rfl ?_
  refine L_if_lt (pc := 1) (tgt := 9) X d_J3_checkIndex_8e157_1 (by decide) (fun c1 => ?_) (fun c1 => ?_)
  · replace h := h.1 c1
    refine LW.sub [0, 1, 2] rfl ?_
    exact T_J3_checkIndex_8e157_9 hl X hr hex _ _ _ h_a2 _ h
  · replace h := h.2 c1
    refine L_iload_n (pc := 4) X d_J3_checkIndex_8e157_4 rfl 0 rfl ?_
    refine L_iload_n (pc := 5) X d_J3_checkIndex_8e157_5 rfl 1 rfl ?_
    refine L_icmp_lt (pc := 6) (tgt := 16) X d_J3_checkIndex_8e157_6 (by decide) (fun c6 => ?_) (fun c6 => ?_)
    · replace h := h.1 c6
      refine L_iload_n (pc := 16) X d_J3_checkIndex_8e157_16 rfl 0 rfl ?_
      exact L_iret (pc := 17) X hr d_J3_checkIndex_8e157_17 (by decide) (by decide) ⟨_, _, rfl, rfl, h⟩
    · replace h := h.2 c6
      refine LW.sub [0, 1, 2] rfl ?_
      exact T_J3_checkIndex_8e157_9 hl X hr hex _ _ _ h_a2 _ h
end G_J3_checkIndex_8e157
theorem yk_J3_checkIndex_8e157 : yJ3_checkIndex_8e157.cls ≠ "java/lang/invoke/MethodHandle" ∧ yJ3_checkIndex_8e157.cls ≠ "java/lang/invoke/VarHandle" ∧ (parseMethodDescriptor yJ3_checkIndex_8e157.desc).map (fun d => d.parameters.length) = some 3 := by decide +kernel
theorem lk_J0_1059 : LinkS RJ0 1059 yJ3_checkIndex_8e157 (.code yJ3_checkIndex_8e157 cJ3_checkIndex_8e157 3 (some .int)) 3 := ⟨tw_647, tw_648, tw_89, tw_649, yk_J3_checkIndex_8e157⟩
theorem d_J0_checkIndex_df160_0 : decode cJ0_checkIndex_df160 0 = .ok (.iload_n 0, 1) := by decide +kernel
theorem d_J0_checkIndex_df160_1 : decode cJ0_checkIndex_df160 1 = .ok (.iload_n 1, 1) := by decide +kernel
theorem d_J0_checkIndex_df160_2 : decode cJ0_checkIndex_df160 2 = .ok (.getstatic 1053, 3) := by decide +kernel
theorem d_J0_checkIndex_df160_5 : decode cJ0_checkIndex_df160 5 = .ok (.invokestatic 1059, 3) := by decide +kernel
theorem d_J0_checkIndex_df160_8 : decode cJ0_checkIndex_df160 8 = .ok (.pop, 1) := by decide +kernel
theorem d_J0_checkIndex_df160_9 : decode cJ0_checkIndex_df160 9 = .ok (.return_, 1) := by decide +kernel
abbrev rm_J0_checkIndex_df160 : Room := { frames := 1, cells := 0, slots := 0, locals := 22 }
def w_J0_checkIndex_df160 (post : CMu → Prop) (x0 : Int32) (x1 : Int32) (cm : CMu) : Prop := ∀ nv1 : Value, nv1.category = 1 → w_J3_checkIndex_8e157 (fun (r2 : Int32) (u3 : CMu) => post u3) x0 x1 nv1 cm
section G_J0_checkIndex_df160
variable {p : Program} {l : Launch} {e : Env} {s : State} {m : MethodId} {args : Array Value} {below : List Frame} {meth : Method} {c : Code} {G : Gd} {ρ : Nat → Nat} {A : Nat → Prop} {mm : Nat → Nat → Int32} {oo : Nat → Int64}
set_option maxHeartbeats 4000000 in
set_option maxRecDepth 100000 in
theorem c_J0_checkIndex_df160 (hl : l.stackTraces = false) {x0 : Int32} {x1 : Int32} {cm : CMu} {post : CMu → Prop} (h : w_J0_checkIndex_df160 post x0 x1 cm) : CT l yJ0_checkIndex_df160 (.code yJ0_checkIndex_df160 cJ0_checkIndex_df160 2 none) rm_J0_checkIndex_df160 0 0 G ρ [.int x0, .int x1] (cm, mm, oo) (PV (fun u => (u, mm, oo)) post) noX := by
  refine CT_of hl (by decide +kernel) rfl (Nat.le_of_ble_eq_true rfl) (lv0 := [(0, .int x0), (1, .int x1)]) rfl (fun p e s m args below meth c A X hr hex hnm => ?_)
  unfold w_J0_checkIndex_df160 at h
  refine L_iload_n (pc := 0) X d_J0_checkIndex_df160_0 rfl 0 rfl ?_
  refine L_iload_n (pc := 1) X d_J0_checkIndex_df160_1 rfl 1 rfl ?_
  refine L_getsSI (pc := 2) X d_J0_checkIndex_df160_2 tw_645 (fun nv1 h_nv1 => ?_)
  replace h := h nv1 h_nv1
  refine L_callSI (pc := 5) X lk_J0_1059 (c_J3_checkIndex_8e157 X.hst h_nv1 h) rfl rfl rfl ⟨by decide, by decide⟩ ⟨by decide, by decide⟩ (Nat.zero_le _) d_J0_checkIndex_df160_5 rfl (fun x κ1 hx => L_nox hx) (fun r2 u3 h => ?_)
  refine L_pop (pc := 8) X d_J0_checkIndex_df160_8 rfl ?_
  exact L_vret (pc := 9) X hr d_J0_checkIndex_df160_9 (by decide) (by decide) ⟨_, rfl, rfl, h⟩
end G_J0_checkIndex_df160
theorem yk_J0_checkIndex_df160 : yJ0_checkIndex_df160.cls ≠ "java/lang/invoke/MethodHandle" ∧ yJ0_checkIndex_df160.cls ≠ "java/lang/invoke/VarHandle" ∧ (parseMethodDescriptor yJ0_checkIndex_df160.desc).map (fun d => d.parameters.length) = some 2 := by decide +kernel
theorem lk_J1_9 : LinkS RJ1 9 yJ0_checkIndex_df160 (.code yJ0_checkIndex_df160 cJ0_checkIndex_df160 2 none) 2 := ⟨tw_642, tw_643, tw_87, tw_644, yk_J0_checkIndex_df160⟩
theorem d_J1_charAt_3b067_0 : decode cJ1_charAt_3b067 0 = .ok (.iload_n 1, 1) := by decide +kernel
theorem d_J1_charAt_3b067_1 : decode cJ1_charAt_3b067 1 = .ok (.aload_n 0, 1) := by decide +kernel
theorem d_J1_charAt_3b067_2 : decode cJ1_charAt_3b067 2 = .ok (.arraylength, 1) := by decide +kernel
theorem d_J1_charAt_3b067_3 : decode cJ1_charAt_3b067 3 = .ok (.invokestatic 9, 3) := by decide +kernel
theorem d_J1_charAt_3b067_6 : decode cJ1_charAt_3b067 6 = .ok (.aload_n 0, 1) := by decide +kernel
theorem d_J1_charAt_3b067_7 : decode cJ1_charAt_3b067 7 = .ok (.iload_n 1, 1) := by decide +kernel
theorem d_J1_charAt_3b067_8 : decode cJ1_charAt_3b067 8 = .ok (.baload, 1) := by decide +kernel
theorem d_J1_charAt_3b067_9 : decode cJ1_charAt_3b067 9 = .ok (.sipush 255, 3) := by decide +kernel
theorem d_J1_charAt_3b067_12 : decode cJ1_charAt_3b067 12 = .ok (.iand, 1) := by decide +kernel
theorem d_J1_charAt_3b067_13 : decode cJ1_charAt_3b067 13 = .ok (.i2c, 1) := by decide +kernel
theorem d_J1_charAt_3b067_14 : decode cJ1_charAt_3b067 14 = .ok (.ireturn, 1) := by decide +kernel
abbrev rm_J1_charAt_3b067 : Room := { frames := 2, cells := 0, slots := 0, locals := 43 }
def w_J1_charAt_3b067 (post : Int32 → CMu → Prop) (a0 : Nat) (x1 : Int32) (cm : CMu) : Prop := w_J0_checkIndex_df160 (fun (u2 : CMu) => (vp_in x1 (slen.getD a0 0)) ∧ (narrow .char (.int (UInt32.toInt32 (Int32.toUInt32 (((sbyt.getD a0 []).getD (Int32.toNatClampNeg x1) 0) &&& 255) % 65536))) = .int (UInt32.toInt32 (Int32.toUInt32 (((sbyt.getD a0 []).getD (Int32.toNatClampNeg x1) 0) &&& 255) % 65536))) ∧ post (UInt32.toInt32 (Int32.toUInt32 (((sbyt.getD a0 []).getD (Int32.toNatClampNeg x1) 0) &&& 255) % 65536)) u2) x1 (Int32.ofNat (slen.getD a0 0)) cm
section G_J1_charAt_3b067
variable {p : Program} {l : Launch} {e : Env} {s : State} {m : MethodId} {args : Array Value} {below : List Frame} {meth : Method} {c : Code} {G : Gd} {ρ : Nat → Nat} {A : Nat → Prop} {mm : Nat → Nat → Int32} {oo : Nat → Int64}
set_option maxHeartbeats 4000000 in
set_option maxRecDepth 100000 in
theorem c_J1_charAt_3b067 (hl : l.stackTraces = false) {a0 : Nat} {x1 : Int32} (h_a0 : a0 < 30) {cm : CMu} {post : Int32 → CMu → Prop} (h : w_J1_charAt_3b067 post a0 x1 cm) : CT l yJ1_charAt_3b067 (.code yJ1_charAt_3b067 cJ1_charAt_3b067 2 (some .char)) rm_J1_charAt_3b067 0 0 G ρ [.ref (3001 + a0), .int x1] (cm, mm, oo) (PI (fun u => (u, mm, oo)) post) noX := by
  refine CT_of hl (by decide +kernel) rfl (Nat.le_of_ble_eq_true rfl) (lv0 := [(0, .ref (3001 + a0)), (1, .int x1)]) rfl (fun p e s m args below meth c A X hr hex hnm => ?_)
  unfold w_J1_charAt_3b067 at h
  refine L_iload_n (pc := 0) X d_J1_charAt_3b067_0 rfl 1 rfl ?_
  refine L_aload_n (pc := 1) X d_J1_charAt_3b067_1 rfl 0 rfl ?_
  refine L_bytN (pc := 2) X h_a0 d_J1_charAt_3b067_2 ?_
  refine L_callSV (pc := 3) X lk_J1_9 (c_J0_checkIndex_df160 X.hst  h) rfl rfl rfl ⟨by decide, by decide⟩ ⟨by decide, by decide⟩ (Nat.zero_le _) d_J1_charAt_3b067_3 rfl (fun x κ1 hx => L_nox hx) (fun u2 h => ?_)
  refine L_aload_n (pc := 6) X d_J1_charAt_3b067_6 rfl 0 rfl ?_
  refine L_iload_n (pc := 7) X d_J1_charAt_3b067_7 rfl 1 rfl ?_
  obtain ⟨q3, h⟩ := h
  refine L_bytL (pc := 8) X h_a0 q3 d_J1_charAt_3b067_8 ?_
  refine L_sipush (pc := 9) (v := 255) X d_J1_charAt_3b067_9 (by decide) ?_
  refine L_iand (pc := 12) X d_J1_charAt_3b067_12 ?_
  refine L_i2c (pc := 13) X d_J1_charAt_3b067_13 ?_
  obtain ⟨q4, h⟩ := h
  exact L_nret (pc := 14) X hr d_J1_charAt_3b067_14 q4 (by decide) (by decide) ⟨_, _, rfl, rfl, h⟩
end G_J1_charAt_3b067
theorem yk_J0_isLatin1_aae02 : yJ0_isLatin1_aae02.cls = RJ0 ∧ yJ0_isLatin1_aae02.cls ≠ "java/lang/invoke/MethodHandle" ∧ yJ0_isLatin1_aae02.cls ≠ "java/lang/invoke/VarHandle" ∧ (parseMethodDescriptor yJ0_isLatin1_aae02.desc).map (fun d => d.parameters.length) = some 0 := by decide +kernel
theorem lk_J0_492 : LinkV RJ0 492 RJ0 yJ0_isLatin1_aae02 (.code yJ0_isLatin1_aae02 cJ0_isLatin1_aae02 1 (some .boolean)) 0 := ⟨tw_635, tw_636, tw_637, tw_87, tw_638, yk_J0_isLatin1_aae02⟩
theorem yk_J1_charAt_3b067 : yJ1_charAt_3b067.cls ≠ "java/lang/invoke/MethodHandle" ∧ yJ1_charAt_3b067.cls ≠ "java/lang/invoke/VarHandle" ∧ (parseMethodDescriptor yJ1_charAt_3b067.desc).map (fun d => d.parameters.length) = some 2 := by decide +kernel
theorem lk_J0_495 : LinkS RJ0 495 yJ1_charAt_3b067 (.code yJ1_charAt_3b067 cJ1_charAt_3b067 2 (some .char)) 2 := ⟨tw_639, tw_640, tw_88, tw_641, yk_J1_charAt_3b067⟩
theorem d_J0_charAt_5068e_0 : decode cJ0_charAt_5068e 0 = .ok (.aload_n 0, 1) := by decide +kernel
theorem d_J0_charAt_5068e_1 : decode cJ0_charAt_5068e 1 = .ok (.invokevirtual 492, 3) := by decide +kernel
theorem d_J0_charAt_5068e_4 : decode cJ0_charAt_5068e 4 = .ok (.ifCond .eq 12, 3) := by decide +kernel
theorem d_J0_charAt_5068e_7 : decode cJ0_charAt_5068e 7 = .ok (.aload_n 0, 1) := by decide +kernel
theorem d_J0_charAt_5068e_8 : decode cJ0_charAt_5068e 8 = .ok (.getfield 9, 3) := by decide +kernel
theorem d_J0_charAt_5068e_11 : decode cJ0_charAt_5068e 11 = .ok (.iload_n 1, 1) := by decide +kernel
theorem d_J0_charAt_5068e_12 : decode cJ0_charAt_5068e 12 = .ok (.invokestatic 495, 3) := by decide +kernel
theorem d_J0_charAt_5068e_15 : decode cJ0_charAt_5068e 15 = .ok (.ireturn, 1) := by decide +kernel
abbrev rm_J0_charAt_5068e : Room := { frames := 3, cells := 0, slots := 0, locals := 64 }
def w_J0_charAt_5068e (post : Int32 → CMu → Prop) (a0 : Nat) (x1 : Int32) (cm : CMu) : Prop := w_J0_isLatin1_aae02 (fun (r1 : Bool) (u2 : CMu) => r1 = true ∧ (w_J1_charAt_3b067 (fun (r3 : Int32) (u4 : CMu) => (narrow .char (.int r3) = .int r3) ∧ post r3 u4) a0 x1 u2)) a0 cm
section G_J0_charAt_5068e
variable {p : Program} {l : Launch} {e : Env} {s : State} {m : MethodId} {args : Array Value} {below : List Frame} {meth : Method} {c : Code} {G : Gd} {ρ : Nat → Nat} {A : Nat → Prop} {mm : Nat → Nat → Int32} {oo : Nat → Int64}
set_option maxHeartbeats 4000000 in
set_option maxRecDepth 100000 in
theorem c_J0_charAt_5068e (hl : l.stackTraces = false) {a0 : Nat} {x1 : Int32} (h_a0 : a0 < 30) {cm : CMu} {post : Int32 → CMu → Prop} (h : w_J0_charAt_5068e post a0 x1 cm) : CT l yJ0_charAt_5068e (.code yJ0_charAt_5068e cJ0_charAt_5068e 2 (some .char)) rm_J0_charAt_5068e 0 0 G ρ [.ref (2001 + a0), .int x1] (cm, mm, oo) (PI (fun u => (u, mm, oo)) post) noX := by
  refine CT_of hl (by decide +kernel) rfl (Nat.le_of_ble_eq_true rfl) (lv0 := [(0, .ref (2001 + a0)), (1, .int x1)]) rfl (fun p e s m args below meth c A X hr hex hnm => ?_)
  unfold w_J0_charAt_5068e at h
  refine L_aload_n (pc := 0) X d_J0_charAt_5068e_0 rfl 0 rfl ?_
  refine L_callVRZ (pc := 1) X rfl (X.rvS h_a0) lk_J0_492 (c_J0_isLatin1_aae02 X.hst h_a0 h) rfl rfl rfl ⟨by decide, by decide⟩ ⟨by decide, by decide⟩ (Nat.zero_le _) d_J0_charAt_5068e_1 rfl (fun r1 u2 h => ?_)
  obtain ⟨rfl, h⟩ := h
  refine L_if_eq (pc := 4) (tgt := 16) X d_J0_charAt_5068e_4 (by decide) (fun c4 => absurd c4 (by decide)) (fun c4 => ?_)
  refine L_aload_n (pc := 7) X d_J0_charAt_5068e_7 rfl 0 rfl ?_
  refine L_strV (pc := 8) X h_a0 d_J0_charAt_5068e_8 tw_1626 ?_
  refine L_iload_n (pc := 11) X d_J0_charAt_5068e_11 rfl 1 rfl ?_
  refine L_callSI (pc := 12) X lk_J0_495 (c_J1_charAt_3b067 X.hst h_a0 h) rfl rfl rfl ⟨by decide, by decide⟩ ⟨by decide, by decide⟩ (Nat.zero_le _) d_J0_charAt_5068e_12 rfl (fun x κ1 hx => L_nox hx) (fun r3 u4 h => ?_)
  obtain ⟨q5, h⟩ := h
  exact L_nret (pc := 15) X hr d_J0_charAt_5068e_15 q5 (by decide) (by decide) ⟨_, _, rfl, rfl, h⟩
end G_J0_charAt_5068e
theorem d_J6_bitCount_0f7a4_0 : decode cJ6_bitCount_0f7a4 0 = .ok (.iload_n 0, 1) := by decide +kernel
theorem d_J6_bitCount_0f7a4_1 : decode cJ6_bitCount_0f7a4 1 = .ok (.iload_n 0, 1) := by decide +kernel
theorem d_J6_bitCount_0f7a4_2 : decode cJ6_bitCount_0f7a4 2 = .ok (.iconst 1, 1) := by decide +kernel
theorem d_J6_bitCount_0f7a4_3 : decode cJ6_bitCount_0f7a4 3 = .ok (.iushr, 1) := by decide +kernel
theorem d_J6_bitCount_0f7a4_4 : decode cJ6_bitCount_0f7a4 4 = .ok (.ldc_w 265, 3) := by decide +kernel
theorem d_J6_bitCount_0f7a4_7 : decode cJ6_bitCount_0f7a4 7 = .ok (.iand, 1) := by decide +kernel
theorem d_J6_bitCount_0f7a4_8 : decode cJ6_bitCount_0f7a4 8 = .ok (.isub, 1) := by decide +kernel
theorem d_J6_bitCount_0f7a4_9 : decode cJ6_bitCount_0f7a4 9 = .ok (.istore_n 0, 1) := by decide +kernel
theorem d_J6_bitCount_0f7a4_10 : decode cJ6_bitCount_0f7a4 10 = .ok (.iload_n 0, 1) := by decide +kernel
theorem d_J6_bitCount_0f7a4_11 : decode cJ6_bitCount_0f7a4 11 = .ok (.ldc_w 266, 3) := by decide +kernel
theorem d_J6_bitCount_0f7a4_14 : decode cJ6_bitCount_0f7a4 14 = .ok (.iand, 1) := by decide +kernel
theorem d_J6_bitCount_0f7a4_15 : decode cJ6_bitCount_0f7a4 15 = .ok (.iload_n 0, 1) := by decide +kernel
theorem d_J6_bitCount_0f7a4_16 : decode cJ6_bitCount_0f7a4 16 = .ok (.iconst 2, 1) := by decide +kernel
theorem d_J6_bitCount_0f7a4_17 : decode cJ6_bitCount_0f7a4 17 = .ok (.iushr, 1) := by decide +kernel
theorem d_J6_bitCount_0f7a4_18 : decode cJ6_bitCount_0f7a4 18 = .ok (.ldc_w 266, 3) := by decide +kernel
theorem d_J6_bitCount_0f7a4_21 : decode cJ6_bitCount_0f7a4 21 = .ok (.iand, 1) := by decide +kernel
theorem d_J6_bitCount_0f7a4_22 : decode cJ6_bitCount_0f7a4 22 = .ok (.iadd, 1) := by decide +kernel
theorem d_J6_bitCount_0f7a4_23 : decode cJ6_bitCount_0f7a4 23 = .ok (.istore_n 0, 1) := by decide +kernel
theorem d_J6_bitCount_0f7a4_24 : decode cJ6_bitCount_0f7a4 24 = .ok (.iload_n 0, 1) := by decide +kernel
theorem d_J6_bitCount_0f7a4_25 : decode cJ6_bitCount_0f7a4 25 = .ok (.iload_n 0, 1) := by decide +kernel
theorem d_J6_bitCount_0f7a4_26 : decode cJ6_bitCount_0f7a4 26 = .ok (.iconst 4, 1) := by decide +kernel
theorem d_J6_bitCount_0f7a4_27 : decode cJ6_bitCount_0f7a4 27 = .ok (.iushr, 1) := by decide +kernel
theorem d_J6_bitCount_0f7a4_28 : decode cJ6_bitCount_0f7a4 28 = .ok (.iadd, 1) := by decide +kernel
theorem d_J6_bitCount_0f7a4_29 : decode cJ6_bitCount_0f7a4 29 = .ok (.ldc_w 267, 3) := by decide +kernel
theorem d_J6_bitCount_0f7a4_32 : decode cJ6_bitCount_0f7a4 32 = .ok (.iand, 1) := by decide +kernel
theorem d_J6_bitCount_0f7a4_33 : decode cJ6_bitCount_0f7a4 33 = .ok (.istore_n 0, 1) := by decide +kernel
theorem d_J6_bitCount_0f7a4_34 : decode cJ6_bitCount_0f7a4 34 = .ok (.iload_n 0, 1) := by decide +kernel
theorem d_J6_bitCount_0f7a4_35 : decode cJ6_bitCount_0f7a4 35 = .ok (.iload_n 0, 1) := by decide +kernel
theorem d_J6_bitCount_0f7a4_36 : decode cJ6_bitCount_0f7a4 36 = .ok (.bipush 8, 2) := by decide +kernel
theorem d_J6_bitCount_0f7a4_38 : decode cJ6_bitCount_0f7a4 38 = .ok (.iushr, 1) := by decide +kernel
theorem d_J6_bitCount_0f7a4_39 : decode cJ6_bitCount_0f7a4 39 = .ok (.iadd, 1) := by decide +kernel
theorem d_J6_bitCount_0f7a4_40 : decode cJ6_bitCount_0f7a4 40 = .ok (.istore_n 0, 1) := by decide +kernel
theorem d_J6_bitCount_0f7a4_41 : decode cJ6_bitCount_0f7a4 41 = .ok (.iload_n 0, 1) := by decide +kernel
theorem d_J6_bitCount_0f7a4_42 : decode cJ6_bitCount_0f7a4 42 = .ok (.iload_n 0, 1) := by decide +kernel
theorem d_J6_bitCount_0f7a4_43 : decode cJ6_bitCount_0f7a4 43 = .ok (.bipush 16, 2) := by decide +kernel
theorem d_J6_bitCount_0f7a4_45 : decode cJ6_bitCount_0f7a4 45 = .ok (.iushr, 1) := by decide +kernel
theorem d_J6_bitCount_0f7a4_46 : decode cJ6_bitCount_0f7a4 46 = .ok (.iadd, 1) := by decide +kernel
theorem d_J6_bitCount_0f7a4_47 : decode cJ6_bitCount_0f7a4 47 = .ok (.istore_n 0, 1) := by decide +kernel
theorem d_J6_bitCount_0f7a4_48 : decode cJ6_bitCount_0f7a4 48 = .ok (.iload_n 0, 1) := by decide +kernel
theorem d_J6_bitCount_0f7a4_49 : decode cJ6_bitCount_0f7a4 49 = .ok (.bipush 63, 2) := by decide +kernel
theorem d_J6_bitCount_0f7a4_51 : decode cJ6_bitCount_0f7a4 51 = .ok (.iand, 1) := by decide +kernel
theorem d_J6_bitCount_0f7a4_52 : decode cJ6_bitCount_0f7a4 52 = .ok (.ireturn, 1) := by decide +kernel
abbrev rm_J6_bitCount_0f7a4 : Room := { frames := 0, cells := 0, slots := 0, locals := 0 }
def w_J6_bitCount_0f7a4 (post : Int32 → CMu → Prop) (x0 : Int32) (cm : CMu) : Prop := post ((((((((x0 - ((UInt32.toInt32 (Int32.toUInt32 x0 >>> (Int32.toUInt32 1 &&& Int32.toUInt32 31))) &&& 1431655765)) &&& 858993459) + ((UInt32.toInt32 (Int32.toUInt32 (x0 - ((UInt32.toInt32 (Int32.toUInt32 x0 >>> (Int32.toUInt32 1 &&& Int32.toUInt32 31))) &&& 1431655765)) >>> (Int32.toUInt32 2 &&& Int32.toUInt32 31))) &&& 858993459)) + (UInt32.toInt32 (Int32.toUInt32 (((x0 - ((UInt32.toInt32 (Int32.toUInt32 x0 >>> (Int32.toUInt32 1 &&& Int32.toUInt32 31))) &&& 1431655765)) &&& 858993459) + ((UInt32.toInt32 (Int32.toUInt32 (x0 - ((UInt32.toInt32 (Int32.toUInt32 x0 >>> (Int32.toUInt32 1 &&& Int32.toUInt32 31))) &&& 1431655765)) >>> (Int32.toUInt32 2 &&& Int32.toUInt32 31))) &&& 858993459)) >>> (Int32.toUInt32 4 &&& Int32.toUInt32 31)))) &&& 252645135) + (UInt32.toInt32 (Int32.toUInt32 (((((x0 - ((UInt32.toInt32 (Int32.toUInt32 x0 >>> (Int32.toUInt32 1 &&& Int32.toUInt32 31))) &&& 1431655765)) &&& 858993459) + ((UInt32.toInt32 (Int32.toUInt32 (x0 - ((UInt32.toInt32 (Int32.toUInt32 x0 >>> (Int32.toUInt32 1 &&& Int32.toUInt32 31))) &&& 1431655765)) >>> (Int32.toUInt32 2 &&& Int32.toUInt32 31))) &&& 858993459)) + (UInt32.toInt32 (Int32.toUInt32 (((x0 - ((UInt32.toInt32 (Int32.toUInt32 x0 >>> (Int32.toUInt32 1 &&& Int32.toUInt32 31))) &&& 1431655765)) &&& 858993459) + ((UInt32.toInt32 (Int32.toUInt32 (x0 - ((UInt32.toInt32 (Int32.toUInt32 x0 >>> (Int32.toUInt32 1 &&& Int32.toUInt32 31))) &&& 1431655765)) >>> (Int32.toUInt32 2 &&& Int32.toUInt32 31))) &&& 858993459)) >>> (Int32.toUInt32 4 &&& Int32.toUInt32 31)))) &&& 252645135) >>> (Int32.toUInt32 8 &&& Int32.toUInt32 31)))) + (UInt32.toInt32 (Int32.toUInt32 ((((((x0 - ((UInt32.toInt32 (Int32.toUInt32 x0 >>> (Int32.toUInt32 1 &&& Int32.toUInt32 31))) &&& 1431655765)) &&& 858993459) + ((UInt32.toInt32 (Int32.toUInt32 (x0 - ((UInt32.toInt32 (Int32.toUInt32 x0 >>> (Int32.toUInt32 1 &&& Int32.toUInt32 31))) &&& 1431655765)) >>> (Int32.toUInt32 2 &&& Int32.toUInt32 31))) &&& 858993459)) + (UInt32.toInt32 (Int32.toUInt32 (((x0 - ((UInt32.toInt32 (Int32.toUInt32 x0 >>> (Int32.toUInt32 1 &&& Int32.toUInt32 31))) &&& 1431655765)) &&& 858993459) + ((UInt32.toInt32 (Int32.toUInt32 (x0 - ((UInt32.toInt32 (Int32.toUInt32 x0 >>> (Int32.toUInt32 1 &&& Int32.toUInt32 31))) &&& 1431655765)) >>> (Int32.toUInt32 2 &&& Int32.toUInt32 31))) &&& 858993459)) >>> (Int32.toUInt32 4 &&& Int32.toUInt32 31)))) &&& 252645135) + (UInt32.toInt32 (Int32.toUInt32 (((((x0 - ((UInt32.toInt32 (Int32.toUInt32 x0 >>> (Int32.toUInt32 1 &&& Int32.toUInt32 31))) &&& 1431655765)) &&& 858993459) + ((UInt32.toInt32 (Int32.toUInt32 (x0 - ((UInt32.toInt32 (Int32.toUInt32 x0 >>> (Int32.toUInt32 1 &&& Int32.toUInt32 31))) &&& 1431655765)) >>> (Int32.toUInt32 2 &&& Int32.toUInt32 31))) &&& 858993459)) + (UInt32.toInt32 (Int32.toUInt32 (((x0 - ((UInt32.toInt32 (Int32.toUInt32 x0 >>> (Int32.toUInt32 1 &&& Int32.toUInt32 31))) &&& 1431655765)) &&& 858993459) + ((UInt32.toInt32 (Int32.toUInt32 (x0 - ((UInt32.toInt32 (Int32.toUInt32 x0 >>> (Int32.toUInt32 1 &&& Int32.toUInt32 31))) &&& 1431655765)) >>> (Int32.toUInt32 2 &&& Int32.toUInt32 31))) &&& 858993459)) >>> (Int32.toUInt32 4 &&& Int32.toUInt32 31)))) &&& 252645135) >>> (Int32.toUInt32 8 &&& Int32.toUInt32 31)))) >>> (Int32.toUInt32 16 &&& Int32.toUInt32 31)))) &&& 63) cm
section G_J6_bitCount_0f7a4
variable {p : Program} {l : Launch} {e : Env} {s : State} {m : MethodId} {args : Array Value} {below : List Frame} {meth : Method} {c : Code} {G : Gd} {ρ : Nat → Nat} {A : Nat → Prop} {mm : Nat → Nat → Int32} {oo : Nat → Int64}
set_option maxHeartbeats 4000000 in
set_option maxRecDepth 100000 in
theorem c_J6_bitCount_0f7a4 (hl : l.stackTraces = false) {x0 : Int32} {cm : CMu} {post : Int32 → CMu → Prop} (h : w_J6_bitCount_0f7a4 post x0 cm) : CT l yJ6_bitCount_0f7a4 (.code yJ6_bitCount_0f7a4 cJ6_bitCount_0f7a4 1 (some .int)) rm_J6_bitCount_0f7a4 0 0 G ρ [.int x0] (cm, mm, oo) (PI (fun u => (u, mm, oo)) post) noX := by
  refine CT_of hl (by decide +kernel) rfl (Nat.le_of_ble_eq_true rfl) (lv0 := [(0, .int x0)]) rfl (fun p e s m args below meth c A X hr hex hnm => ?_)
  unfold w_J6_bitCount_0f7a4 at h
  refine L_iload_n (pc := 0) X d_J6_bitCount_0f7a4_0 rfl 0 rfl ?_
  refine L_iload_n (pc := 1) X d_J6_bitCount_0f7a4_1 rfl 0 rfl ?_
  refine L_iconst (pc := 2) (v := 1) X d_J6_bitCount_0f7a4_2 (by decide) ?_
  refine L_iushr (pc := 3) X d_J6_bitCount_0f7a4_3 ?_
  refine L_ldcw (pc := 4) (v := 1431655765) X d_J6_bitCount_0f7a4_4 tw_512 ?_
  refine L_iand (pc := 7) X d_J6_bitCount_0f7a4_7 ?_
  refine L_isub (pc := 8) X d_J6_bitCount_0f7a4_8 ?_
  refine L_istore_n (pc := 9) (lv2 := [(0, .int (x0 - ((UInt32.toInt32 (Int32.toUInt32 x0 >>> (Int32.toUInt32 1 &&& Int32.toUInt32 31))) &&& 1431655765)))]) X d_J6_bitCount_0f7a4_9 rfl (by decide) rfl ?_
  refine L_iload_n (pc := 10) X d_J6_bitCount_0f7a4_10 rfl 0 rfl ?_
  refine L_ldcw (pc := 11) (v := 858993459) X d_J6_bitCount_0f7a4_11 tw_513 ?_
  refine L_iand (pc := 14) X d_J6_bitCount_0f7a4_14 ?_
  refine L_iload_n (pc := 15) X d_J6_bitCount_0f7a4_15 rfl 0 rfl ?_
  refine L_iconst (pc := 16) (v := 2) X d_J6_bitCount_0f7a4_16 (by decide) ?_
  refine L_iushr (pc := 17) X d_J6_bitCount_0f7a4_17 ?_
  refine L_ldcw (pc := 18) (v := 858993459) X d_J6_bitCount_0f7a4_18 tw_513 ?_
  refine L_iand (pc := 21) X d_J6_bitCount_0f7a4_21 ?_
  refine L_iadd (pc := 22) X d_J6_bitCount_0f7a4_22 ?_
  refine L_istore_n (pc := 23) (lv2 := [(0, .int (((x0 - ((UInt32.toInt32 (Int32.toUInt32 x0 >>> (Int32.toUInt32 1 &&& Int32.toUInt32 31))) &&& 1431655765)) &&& 858993459) + ((UInt32.toInt32 (Int32.toUInt32 (x0 - ((UInt32.toInt32 (Int32.toUInt32 x0 >>> (Int32.toUInt32 1 &&& Int32.toUInt32 31))) &&& 1431655765)) >>> (Int32.toUInt32 2 &&& Int32.toUInt32 31))) &&& 858993459)))]) X d_J6_bitCount_0f7a4_23 rfl (by decide) rfl ?_
  refine L_iload_n (pc := 24) X d_J6_bitCount_0f7a4_24 rfl 0 rfl ?_
  refine L_iload_n (pc := 25) X d_J6_bitCount_0f7a4_25 rfl 0 rfl ?_
  refine L_iconst (pc := 26) (v := 4) X d_J6_bitCount_0f7a4_26 (by decide) ?_
  refine L_iushr (pc := 27) X d_J6_bitCount_0f7a4_27 ?_
  refine L_iadd (pc := 28) X d_J6_bitCount_0f7a4_28 ?_
  refine L_ldcw (pc := 29) (v := 252645135) X d_J6_bitCount_0f7a4_29 tw_514 ?_
  refine L_iand (pc := 32) X d_J6_bitCount_0f7a4_32 ?_
  refine L_istore_n (pc := 33) (lv2 := [(0, .int (((((x0 - ((UInt32.toInt32 (Int32.toUInt32 x0 >>> (Int32.toUInt32 1 &&& Int32.toUInt32 31))) &&& 1431655765)) &&& 858993459) + ((UInt32.toInt32 (Int32.toUInt32 (x0 - ((UInt32.toInt32 (Int32.toUInt32 x0 >>> (Int32.toUInt32 1 &&& Int32.toUInt32 31))) &&& 1431655765)) >>> (Int32.toUInt32 2 &&& Int32.toUInt32 31))) &&& 858993459)) + (UInt32.toInt32 (Int32.toUInt32 (((x0 - ((UInt32.toInt32 (Int32.toUInt32 x0 >>> (Int32.toUInt32 1 &&& Int32.toUInt32 31))) &&& 1431655765)) &&& 858993459) + ((UInt32.toInt32 (Int32.toUInt32 (x0 - ((UInt32.toInt32 (Int32.toUInt32 x0 >>> (Int32.toUInt32 1 &&& Int32.toUInt32 31))) &&& 1431655765)) >>> (Int32.toUInt32 2 &&& Int32.toUInt32 31))) &&& 858993459)) >>> (Int32.toUInt32 4 &&& Int32.toUInt32 31)))) &&& 252645135))]) X d_J6_bitCount_0f7a4_33 rfl (by decide) rfl ?_
  refine L_iload_n (pc := 34) X d_J6_bitCount_0f7a4_34 rfl 0 rfl ?_
  refine L_iload_n (pc := 35) X d_J6_bitCount_0f7a4_35 rfl 0 rfl ?_
  refine L_bipush (pc := 36) (v := 8) X d_J6_bitCount_0f7a4_36 (by decide) ?_
  refine L_iushr (pc := 38) X d_J6_bitCount_0f7a4_38 ?_
  refine L_iadd (pc := 39) X d_J6_bitCount_0f7a4_39 ?_
  refine L_istore_n (pc := 40) (lv2 := [(0, .int ((((((x0 - ((UInt32.toInt32 (Int32.toUInt32 x0 >>> (Int32.toUInt32 1 &&& Int32.toUInt32 31))) &&& 1431655765)) &&& 858993459) + ((UInt32.toInt32 (Int32.toUInt32 (x0 - ((UInt32.toInt32 (Int32.toUInt32 x0 >>> (Int32.toUInt32 1 &&& Int32.toUInt32 31))) &&& 1431655765)) >>> (Int32.toUInt32 2 &&& Int32.toUInt32 31))) &&& 858993459)) + (UInt32.toInt32 (Int32.toUInt32 (((x0 - ((UInt32.toInt32 (Int32.toUInt32 x0 >>> (Int32.toUInt32 1 &&& Int32.toUInt32 31))) &&& 1431655765)) &&& 858993459) + ((UInt32.toInt32 (Int32.toUInt32 (x0 - ((UInt32.toInt32 (Int32.toUInt32 x0 >>> (Int32.toUInt32 1 &&& Int32.toUInt32 31))) &&& 1431655765)) >>> (Int32.toUInt32 2 &&& Int32.toUInt32 31))) &&& 858993459)) >>> (Int32.toUInt32 4 &&& Int32.toUInt32 31)))) &&& 252645135) + (UInt32.toInt32 (Int32.toUInt32 (((((x0 - ((UInt32.toInt32 (Int32.toUInt32 x0 >>> (Int32.toUInt32 1 &&& Int32.toUInt32 31))) &&& 1431655765)) &&& 858993459) + ((UInt32.toInt32 (Int32.toUInt32 (x0 - ((UInt32.toInt32 (Int32.toUInt32 x0 >>> (Int32.toUInt32 1 &&& Int32.toUInt32 31))) &&& 1431655765)) >>> (Int32.toUInt32 2 &&& Int32.toUInt32 31))) &&& 858993459)) + (UInt32.toInt32 (Int32.toUInt32 (((x0 - ((UInt32.toInt32 (Int32.toUInt32 x0 >>> (Int32.toUInt32 1 &&& Int32.toUInt32 31))) &&& 1431655765)) &&& 858993459) + ((UInt32.toInt32 (Int32.toUInt32 (x0 - ((UInt32.toInt32 (Int32.toUInt32 x0 >>> (Int32.toUInt32 1 &&& Int32.toUInt32 31))) &&& 1431655765)) >>> (Int32.toUInt32 2 &&& Int32.toUInt32 31))) &&& 858993459)) >>> (Int32.toUInt32 4 &&& Int32.toUInt32 31)))) &&& 252645135) >>> (Int32.toUInt32 8 &&& Int32.toUInt32 31)))))]) X d_J6_bitCount_0f7a4_40 rfl (by decide) rfl ?_
  refine L_iload_n (pc := 41) X d_J6_bitCount_0f7a4_41 rfl 0 rfl ?_
  refine L_iload_n (pc := 42) X d_J6_bitCount_0f7a4_42 rfl 0 rfl ?_
  refine L_bipush (pc := 43) (v := 16) X d_J6_bitCount_0f7a4_43 (by decide) ?_
  refine L_iushr (pc := 45) X d_J6_bitCount_0f7a4_45 ?_
  refine L_iadd (pc := 46) X d_J6_bitCount_0f7a4_46 ?_
  refine L_istore_n (pc := 47) (lv2 := [(0, .int (((((((x0 - ((UInt32.toInt32 (Int32.toUInt32 x0 >>> (Int32.toUInt32 1 &&& Int32.toUInt32 31))) &&& 1431655765)) &&& 858993459) + ((UInt32.toInt32 (Int32.toUInt32 (x0 - ((UInt32.toInt32 (Int32.toUInt32 x0 >>> (Int32.toUInt32 1 &&& Int32.toUInt32 31))) &&& 1431655765)) >>> (Int32.toUInt32 2 &&& Int32.toUInt32 31))) &&& 858993459)) + (UInt32.toInt32 (Int32.toUInt32 (((x0 - ((UInt32.toInt32 (Int32.toUInt32 x0 >>> (Int32.toUInt32 1 &&& Int32.toUInt32 31))) &&& 1431655765)) &&& 858993459) + ((UInt32.toInt32 (Int32.toUInt32 (x0 - ((UInt32.toInt32 (Int32.toUInt32 x0 >>> (Int32.toUInt32 1 &&& Int32.toUInt32 31))) &&& 1431655765)) >>> (Int32.toUInt32 2 &&& Int32.toUInt32 31))) &&& 858993459)) >>> (Int32.toUInt32 4 &&& Int32.toUInt32 31)))) &&& 252645135) + (UInt32.toInt32 (Int32.toUInt32 (((((x0 - ((UInt32.toInt32 (Int32.toUInt32 x0 >>> (Int32.toUInt32 1 &&& Int32.toUInt32 31))) &&& 1431655765)) &&& 858993459) + ((UInt32.toInt32 (Int32.toUInt32 (x0 - ((UInt32.toInt32 (Int32.toUInt32 x0 >>> (Int32.toUInt32 1 &&& Int32.toUInt32 31))) &&& 1431655765)) >>> (Int32.toUInt32 2 &&& Int32.toUInt32 31))) &&& 858993459)) + (UInt32.toInt32 (Int32.toUInt32 (((x0 - ((UInt32.toInt32 (Int32.toUInt32 x0 >>> (Int32.toUInt32 1 &&& Int32.toUInt32 31))) &&& 1431655765)) &&& 858993459) + ((UInt32.toInt32 (Int32.toUInt32 (x0 - ((UInt32.toInt32 (Int32.toUInt32 x0 >>> (Int32.toUInt32 1 &&& Int32.toUInt32 31))) &&& 1431655765)) >>> (Int32.toUInt32 2 &&& Int32.toUInt32 31))) &&& 858993459)) >>> (Int32.toUInt32 4 &&& Int32.toUInt32 31)))) &&& 252645135) >>> (Int32.toUInt32 8 &&& Int32.toUInt32 31)))) + (UInt32.toInt32 (Int32.toUInt32 ((((((x0 - ((UInt32.toInt32 (Int32.toUInt32 x0 >>> (Int32.toUInt32 1 &&& Int32.toUInt32 31))) &&& 1431655765)) &&& 858993459) + ((UInt32.toInt32 (Int32.toUInt32 (x0 - ((UInt32.toInt32 (Int32.toUInt32 x0 >>> (Int32.toUInt32 1 &&& Int32.toUInt32 31))) &&& 1431655765)) >>> (Int32.toUInt32 2 &&& Int32.toUInt32 31))) &&& 858993459)) + (UInt32.toInt32 (Int32.toUInt32 (((x0 - ((UInt32.toInt32 (Int32.toUInt32 x0 >>> (Int32.toUInt32 1 &&& Int32.toUInt32 31))) &&& 1431655765)) &&& 858993459) + ((UInt32.toInt32 (Int32.toUInt32 (x0 - ((UInt32.toInt32 (Int32.toUInt32 x0 >>> (Int32.toUInt32 1 &&& Int32.toUInt32 31))) &&& 1431655765)) >>> (Int32.toUInt32 2 &&& Int32.toUInt32 31))) &&& 858993459)) >>> (Int32.toUInt32 4 &&& Int32.toUInt32 31)))) &&& 252645135) + (UInt32.toInt32 (Int32.toUInt32 (((((x0 - ((UInt32.toInt32 (Int32.toUInt32 x0 >>> (Int32.toUInt32 1 &&& Int32.toUInt32 31))) &&& 1431655765)) &&& 858993459) + ((UInt32.toInt32 (Int32.toUInt32 (x0 - ((UInt32.toInt32 (Int32.toUInt32 x0 >>> (Int32.toUInt32 1 &&& Int32.toUInt32 31))) &&& 1431655765)) >>> (Int32.toUInt32 2 &&& Int32.toUInt32 31))) &&& 858993459)) + (UInt32.toInt32 (Int32.toUInt32 (((x0 - ((UInt32.toInt32 (Int32.toUInt32 x0 >>> (Int32.toUInt32 1 &&& Int32.toUInt32 31))) &&& 1431655765)) &&& 858993459) + ((UInt32.toInt32 (Int32.toUInt32 (x0 - ((UInt32.toInt32 (Int32.toUInt32 x0 >>> (Int32.toUInt32 1 &&& Int32.toUInt32 31))) &&& 1431655765)) >>> (Int32.toUInt32 2 &&& Int32.toUInt32 31))) &&& 858993459)) >>> (Int32.toUInt32 4 &&& Int32.toUInt32 31)))) &&& 252645135) >>> (Int32.toUInt32 8 &&& Int32.toUInt32 31)))) >>> (Int32.toUInt32 16 &&& Int32.toUInt32 31)))))]) X d_J6_bitCount_0f7a4_47 rfl (by decide) rfl ?_
  refine L_iload_n (pc := 48) X d_J6_bitCount_0f7a4_48 rfl 0 rfl ?_
  refine L_bipush (pc := 49) (v := 63) X d_J6_bitCount_0f7a4_49 (by decide) ?_
  refine L_iand (pc := 51) X d_J6_bitCount_0f7a4_51 ?_
  exact L_iret (pc := 52) X hr d_J6_bitCount_0f7a4_52 (by decide) (by decide) ⟨_, _, rfl, rfl, h⟩
end G_J6_bitCount_0f7a4
