theorem d_X13_thrown_0 : decode cX13_thrown 0 = .ok (.aload_n 0, 1) := by decide +kernel
theorem d_X13_thrown_1 : decode cX13_thrown 1 = .ok (.getfield 47, 3) := by decide +kernel
theorem d_X13_thrown_4 : decode cX13_thrown 4 = .ok (.ireturn, 1) := by decide +kernel
abbrev rm_X13_thrown : Room := { frames := 0, cells := 0, slots := 0, locals := 0 }
def w_X13_thrown (post : Int32 → (Nat → Nat → Int32) → Prop) (mm : (Nat → Nat → Int32)) : Prop := post (mm 0 0) mm
section G_X13_thrown
variable {p : Program} {l : Launch} {e : Env} {s : State} {m : MethodId} {args : Array Value} {below : List Frame} {meth : Method} {c : Code} {G : Gd} {ρ : Nat → Nat} {A : Nat → Prop} {cm : CMu} {oo : Nat → Int64}
set_option maxHeartbeats 4000000 in
set_option maxRecDepth 100000 in
theorem c_X13_thrown (hl : l.stackTraces = false) {mm : (Nat → Nat → Int32)} {post : Int32 → (Nat → Nat → Int32) → Prop} (h : w_X13_thrown post mm) : CT l yX13_thrown (.code yX13_thrown cX13_thrown 1 (some .int)) rm_X13_thrown 0 0 G ρ [.ref 703] (cm, mm, oo) (PI (fun u => (cm, u, oo)) post) noX := by
  refine CT_of hl (by decide +kernel) rfl (Nat.le_of_ble_eq_true rfl) (lv0 := [(0, .ref 703)]) rfl (fun p e s m args below meth c A X hr hex hnm => ?_)
  unfold w_X13_thrown at h
  refine L_aload_n (pc := 0) X d_X13_thrown_0 rfl 0 rfl ?_
  refine gf_X13_47 (pc := 1) X d_X13_thrown_1 ?_
  exact L_iret (pc := 4) X hr d_X13_thrown_4 (by decide) (by decide) ⟨_, _, rfl, rfl, h⟩
end G_X13_thrown
theorem d_X13_isIn_0 : decode cX13_isIn 0 = .ok (.iload_n 0, 1) := by decide +kernel
theorem d_X13_isIn_1 : decode cX13_isIn 1 = .ok (.iload_n 1, 1) := by decide +kernel
theorem d_X13_isIn_2 : decode cX13_isIn 2 = .ok (.if_icmp .lt 12, 3) := by decide +kernel
theorem d_X13_isIn_5 : decode cX13_isIn 5 = .ok (.iload_n 0, 1) := by decide +kernel
theorem d_X13_isIn_6 : decode cX13_isIn 6 = .ok (.iload_n 2, 1) := by decide +kernel
theorem d_X13_isIn_7 : decode cX13_isIn 7 = .ok (.if_icmp .gt 7, 3) := by decide +kernel
theorem d_X13_isIn_10 : decode cX13_isIn 10 = .ok (.iconst 1, 1) := by decide +kernel
theorem d_X13_isIn_11 : decode cX13_isIn 11 = .ok (.goto 4, 3) := by decide +kernel
theorem d_X13_isIn_14 : decode cX13_isIn 14 = .ok (.iconst 0, 1) := by decide +kernel
theorem d_X13_isIn_15 : decode cX13_isIn 15 = .ok (.ireturn, 1) := by decide +kernel
abbrev rm_X13_isIn : Room := { frames := 0, cells := 0, slots := 0, locals := 0 }
def w_X13_isIn (post : Bool → (Nat → Nat → Int32) → Prop) (x0 : Int32) (x1 : Int32) (x2 : Int32) (mm : (Nat → Nat → Int32)) : Prop := (x0 < x1 → (post false mm)) ∧ (¬ x0 < x1 → ((x2 < x0 → (post false mm)) ∧ (¬ x2 < x0 → (post true mm))))
section G_X13_isIn
variable {p : Program} {l : Launch} {e : Env} {s : State} {m : MethodId} {args : Array Value} {below : List Frame} {meth : Method} {c : Code} {G : Gd} {ρ : Nat → Nat} {A : Nat → Prop} {cm : CMu} {oo : Nat → Int64}
set_option maxHeartbeats 4000000 in
set_option maxRecDepth 100000 in
theorem c_X13_isIn (hl : l.stackTraces = false) {x0 : Int32} {x1 : Int32} {x2 : Int32} {mm : (Nat → Nat → Int32)} {post : Bool → (Nat → Nat → Int32) → Prop} (h : w_X13_isIn post x0 x1 x2 mm) : CT l yX13_isIn (.code yX13_isIn cX13_isIn 3 (some .boolean)) rm_X13_isIn 0 0 G ρ [.int x0, .int x1, .int x2] (cm, mm, oo) (PZ (fun u => (cm, u, oo)) post) noX := by
  refine CT_of hl (by decide +kernel) rfl (Nat.le_of_ble_eq_true rfl) (lv0 := [(0, .int x0), (1, .int x1), (2, .int x2)]) rfl (fun p e s m args below meth c A X hr hex hnm => ?_)
  unfold w_X13_isIn at h
  refine L_iload_n (pc := 0) X d_X13_isIn_0 rfl 0 rfl ?_
  refine L_iload_n (pc := 1) X d_X13_isIn_1 rfl 1 rfl ?_
  refine L_icmp_lt (pc := 2) (tgt := 14) X d_X13_isIn_2 (by decide) (fun c2 => ?_) (fun c2 => ?_)
  · replace h := h.1 c2
    refine L_iconst (pc := 14) (v := 0) X d_X13_isIn_14 (by decide) ?_
    exact L_zretB (pc := 15) X hr d_X13_isIn_15 false rfl (by decide) (by decide) ⟨_, _, rfl, rfl, h⟩
  · replace h := h.2 c2
    refine L_iload_n (pc := 5) X d_X13_isIn_5 rfl 0 rfl ?_
    refine L_iload_n (pc := 6) X d_X13_isIn_6 rfl 2 rfl ?_
    refine L_icmp_gt (pc := 7) (tgt := 14) X d_X13_isIn_7 (by decide) (fun c7 => ?_) (fun c7 => ?_)
    · replace h := h.1 c7
      refine L_iconst (pc := 14) (v := 0) X d_X13_isIn_14 (by decide) ?_
      exact L_zretB (pc := 15) X hr d_X13_isIn_15 false rfl (by decide) (by decide) ⟨_, _, rfl, rfl, h⟩
    · replace h := h.2 c7
      refine L_iconst (pc := 10) (v := 1) X d_X13_isIn_10 (by decide) ?_
      refine L_goto (pc := 11) (tgt := 15) X d_X13_isIn_11 (by decide) ?_
      exact L_zretB (pc := 15) X hr d_X13_isIn_15 true rfl (by decide) (by decide) ⟨_, _, rfl, rfl, h⟩
end G_X13_isIn
theorem d_X13_reachOf_0 : decode cX13_reachOf 0 = .ok (.aload_n 0, 1) := by decide +kernel
theorem d_X13_reachOf_1 : decode cX13_reachOf 1 = .ok (.getfield 7, 3) := by decide +kernel
theorem d_X13_reachOf_4 : decode cX13_reachOf 4 = .ok (.bipush 10, 2) := by decide +kernel
theorem d_X13_reachOf_6 : decode cX13_reachOf 6 = .ok (.iconst 3, 1) := by decide +kernel
theorem d_X13_reachOf_7 : decode cX13_reachOf 7 = .ok (.iload_n 1, 1) := by decide +kernel
theorem d_X13_reachOf_8 : decode cX13_reachOf 8 = .ok (.imul, 1) := by decide +kernel
theorem d_X13_reachOf_9 : decode cX13_reachOf 9 = .ok (.iadd, 1) := by decide +kernel
theorem d_X13_reachOf_10 : decode cX13_reachOf 10 = .ok (.iload_n 2, 1) := by decide +kernel
theorem d_X13_reachOf_11 : decode cX13_reachOf 11 = .ok (.iadd, 1) := by decide +kernel
theorem d_X13_reachOf_12 : decode cX13_reachOf 12 = .ok (.iaload, 1) := by decide +kernel
theorem d_X13_reachOf_13 : decode cX13_reachOf 13 = .ok (.ireturn, 1) := by decide +kernel
abbrev rm_X13_reachOf : Room := { frames := 0, cells := 0, slots := 0, locals := 0 }
def w_X13_reachOf (post : Int32 → (Nat → Nat → Int32) → Prop) (x1 : Int32) (x2 : Int32) (mm : (Nat → Nat → Int32)) : Prop := (vp_in ((10 + (3 * x1)) + x2) 25530) ∧ post (mm 1 (Int32.toNatClampNeg ((10 + (3 * x1)) + x2))) mm
section G_X13_reachOf
variable {p : Program} {l : Launch} {e : Env} {s : State} {m : MethodId} {args : Array Value} {below : List Frame} {meth : Method} {c : Code} {G : Gd} {ρ : Nat → Nat} {A : Nat → Prop} {cm : CMu} {oo : Nat → Int64}
set_option maxHeartbeats 4000000 in
set_option maxRecDepth 100000 in
theorem c_X13_reachOf (hl : l.stackTraces = false) {x1 : Int32} {x2 : Int32} {mm : (Nat → Nat → Int32)} {post : Int32 → (Nat → Nat → Int32) → Prop} (h : w_X13_reachOf post x1 x2 mm) : CT l yX13_reachOf (.code yX13_reachOf cX13_reachOf 3 (some .int)) rm_X13_reachOf 0 0 G ρ [.ref 703, .int x1, .int x2] (cm, mm, oo) (PI (fun u => (cm, u, oo)) post) noX := by
  refine CT_of hl (by decide +kernel) rfl (Nat.le_of_ble_eq_true rfl) (lv0 := [(0, .ref 703), (1, .int x1), (2, .int x2)]) rfl (fun p e s m args below meth c A X hr hex hnm => ?_)
  unfold w_X13_reachOf at h
  refine L_aload_n (pc := 0) X d_X13_reachOf_0 rfl 0 rfl ?_
  refine gf_X13_7 (pc := 1) X d_X13_reachOf_1 ?_
  refine L_bipush (pc := 4) (v := 10) X d_X13_reachOf_4 (by decide) ?_
  refine L_iconst (pc := 6) (v := 3) X d_X13_reachOf_6 (by decide) ?_
  refine L_iload_n (pc := 7) X d_X13_reachOf_7 rfl 1 rfl ?_
  refine L_imul (pc := 8) X d_X13_reachOf_8 ?_
  refine L_iadd (pc := 9) X d_X13_reachOf_9 ?_
  refine L_iload_n (pc := 10) X d_X13_reachOf_10 rfl 2 rfl ?_
  refine L_iadd (pc := 11) X d_X13_reachOf_11 ?_
  obtain ⟨q1, h⟩ := h
  refine L_ialdM (pc := 12) (a := 1) X d_X13_reachOf_12 kd_704 q1 ?_
  exact L_iret (pc := 13) X hr d_X13_reachOf_13 (by decide) (by decide) ⟨_, _, rfl, rfl, h⟩
end G_X13_reachOf
theorem d_X13_chipOf_0 : decode cX13_chipOf 0 = .ok (.aload_n 0, 1) := by decide +kernel
theorem d_X13_chipOf_1 : decode cX13_chipOf 1 = .ok (.getfield 7, 3) := by decide +kernel
theorem d_X13_chipOf_4 : decode cX13_chipOf 4 = .ok (.sipush 330, 3) := by decide +kernel
theorem d_X13_chipOf_7 : decode cX13_chipOf 7 = .ok (.bipush 8, 2) := by decide +kernel
theorem d_X13_chipOf_9 : decode cX13_chipOf 9 = .ok (.iload_n 1, 1) := by decide +kernel
theorem d_X13_chipOf_10 : decode cX13_chipOf 10 = .ok (.imul, 1) := by decide +kernel
theorem d_X13_chipOf_11 : decode cX13_chipOf 11 = .ok (.iadd, 1) := by decide +kernel
theorem d_X13_chipOf_12 : decode cX13_chipOf 12 = .ok (.iload_n 2, 1) := by decide +kernel
theorem d_X13_chipOf_13 : decode cX13_chipOf 13 = .ok (.iadd, 1) := by decide +kernel
theorem d_X13_chipOf_14 : decode cX13_chipOf 14 = .ok (.iaload, 1) := by decide +kernel
theorem d_X13_chipOf_15 : decode cX13_chipOf 15 = .ok (.ireturn, 1) := by decide +kernel
abbrev rm_X13_chipOf : Room := { frames := 0, cells := 0, slots := 0, locals := 0 }
def w_X13_chipOf (post : Int32 → (Nat → Nat → Int32) → Prop) (x1 : Int32) (x2 : Int32) (mm : (Nat → Nat → Int32)) : Prop := (vp_in ((330 + (8 * x1)) + x2) 25530) ∧ post (mm 1 (Int32.toNatClampNeg ((330 + (8 * x1)) + x2))) mm
section G_X13_chipOf
variable {p : Program} {l : Launch} {e : Env} {s : State} {m : MethodId} {args : Array Value} {below : List Frame} {meth : Method} {c : Code} {G : Gd} {ρ : Nat → Nat} {A : Nat → Prop} {cm : CMu} {oo : Nat → Int64}
set_option maxHeartbeats 4000000 in
set_option maxRecDepth 100000 in
theorem c_X13_chipOf (hl : l.stackTraces = false) {x1 : Int32} {x2 : Int32} {mm : (Nat → Nat → Int32)} {post : Int32 → (Nat → Nat → Int32) → Prop} (h : w_X13_chipOf post x1 x2 mm) : CT l yX13_chipOf (.code yX13_chipOf cX13_chipOf 3 (some .int)) rm_X13_chipOf 0 0 G ρ [.ref 703, .int x1, .int x2] (cm, mm, oo) (PI (fun u => (cm, u, oo)) post) noX := by
  refine CT_of hl (by decide +kernel) rfl (Nat.le_of_ble_eq_true rfl) (lv0 := [(0, .ref 703), (1, .int x1), (2, .int x2)]) rfl (fun p e s m args below meth c A X hr hex hnm => ?_)
  unfold w_X13_chipOf at h
  refine L_aload_n (pc := 0) X d_X13_chipOf_0 rfl 0 rfl ?_
  refine gf_X13_7 (pc := 1) X d_X13_chipOf_1 ?_
  refine L_sipush (pc := 4) (v := 330) X d_X13_chipOf_4 (by decide) ?_
  refine L_bipush (pc := 7) (v := 8) X d_X13_chipOf_7 (by decide) ?_
  refine L_iload_n (pc := 9) X d_X13_chipOf_9 rfl 1 rfl ?_
  refine L_imul (pc := 10) X d_X13_chipOf_10 ?_
  refine L_iadd (pc := 11) X d_X13_chipOf_11 ?_
  refine L_iload_n (pc := 12) X d_X13_chipOf_12 rfl 2 rfl ?_
  refine L_iadd (pc := 13) X d_X13_chipOf_13 ?_
  obtain ⟨q1, h⟩ := h
  refine L_ialdM (pc := 14) (a := 1) X d_X13_chipOf_14 kd_704 q1 ?_
  exact L_iret (pc := 15) X hr d_X13_chipOf_15 (by decide) (by decide) ⟨_, _, rfl, rfl, h⟩
end G_X13_chipOf
theorem d_X13_sets_0 : decode cX13_sets 0 = .ok (.aload_n 0, 1) := by decide +kernel
theorem d_X13_sets_1 : decode cX13_sets 1 = .ok (.getfield 7, 3) := by decide +kernel
theorem d_X13_sets_4 : decode cX13_sets 4 = .ok (.sipush 330, 3) := by decide +kernel
theorem d_X13_sets_7 : decode cX13_sets 7 = .ok (.bipush 8, 2) := by decide +kernel
theorem d_X13_sets_9 : decode cX13_sets 9 = .ok (.iload_n 1, 1) := by decide +kernel
theorem d_X13_sets_10 : decode cX13_sets 10 = .ok (.imul, 1) := by decide +kernel
theorem d_X13_sets_11 : decode cX13_sets 11 = .ok (.iadd, 1) := by decide +kernel
theorem d_X13_sets_12 : decode cX13_sets 12 = .ok (.iload_n 2, 1) := by decide +kernel
theorem d_X13_sets_13 : decode cX13_sets 13 = .ok (.iadd, 1) := by decide +kernel
theorem d_X13_sets_14 : decode cX13_sets 14 = .ok (.iload_n 3, 1) := by decide +kernel
theorem d_X13_sets_15 : decode cX13_sets 15 = .ok (.iastore, 1) := by decide +kernel
theorem d_X13_sets_16 : decode cX13_sets 16 = .ok (.return_, 1) := by decide +kernel
abbrev rm_X13_sets : Room := { frames := 0, cells := 0, slots := 0, locals := 0 }
def w_X13_sets (post : (Nat → Nat → Int32) → Prop) (x1 : Int32) (x2 : Int32) (x3 : Int32) (mm : (Nat → Nat → Int32)) : Prop := (vp_in ((330 + (8 * x1)) + x2) 25530) ∧ post (up2 mm 1 (Int32.toNatClampNeg ((330 + (8 * x1)) + x2)) x3)
section G_X13_sets
variable {p : Program} {l : Launch} {e : Env} {s : State} {m : MethodId} {args : Array Value} {below : List Frame} {meth : Method} {c : Code} {G : Gd} {ρ : Nat → Nat} {A : Nat → Prop} {cm : CMu} {oo : Nat → Int64}
set_option maxHeartbeats 4000000 in
set_option maxRecDepth 100000 in
theorem c_X13_sets (hl : l.stackTraces = false) {x1 : Int32} {x2 : Int32} {x3 : Int32} {mm : (Nat → Nat → Int32)} {post : (Nat → Nat → Int32) → Prop} (h : w_X13_sets post x1 x2 x3 mm) : CT l yX13_sets (.code yX13_sets cX13_sets 4 none) rm_X13_sets 0 0 G ρ [.ref 703, .int x1, .int x2, .int x3] (cm, mm, oo) (PV (fun u => (cm, u, oo)) post) noX := by
  refine CT_of hl (by decide +kernel) rfl (Nat.le_of_ble_eq_true rfl) (lv0 := [(0, .ref 703), (1, .int x1), (2, .int x2), (3, .int x3)]) rfl (fun p e s m args below meth c A X hr hex hnm => ?_)
  unfold w_X13_sets at h
  refine L_aload_n (pc := 0) X d_X13_sets_0 rfl 0 rfl ?_
  refine gf_X13_7 (pc := 1) X d_X13_sets_1 ?_
  refine L_sipush (pc := 4) (v := 330) X d_X13_sets_4 (by decide) ?_
  refine L_bipush (pc := 7) (v := 8) X d_X13_sets_7 (by decide) ?_
  refine L_iload_n (pc := 9) X d_X13_sets_9 rfl 1 rfl ?_
  refine L_imul (pc := 10) X d_X13_sets_10 ?_
  refine L_iadd (pc := 11) X d_X13_sets_11 ?_
  refine L_iload_n (pc := 12) X d_X13_sets_12 rfl 2 rfl ?_
  refine L_iadd (pc := 13) X d_X13_sets_13 ?_
  refine L_iload_n (pc := 14) X d_X13_sets_14 rfl 3 rfl ?_
  obtain ⟨q1, h⟩ := h
  refine L_iastM (pc := 15) (a := 1) X d_X13_sets_15 kd_704 q1 ?_
  exact L_vret (pc := 16) X hr d_X13_sets_16 (by decide) (by decide) ⟨_, rfl, rfl, h⟩
end G_X13_sets
theorem yk_X13_isIn : yX13_isIn.cls ≠ "java/lang/invoke/MethodHandle" ∧ yX13_isIn.cls ≠ "java/lang/invoke/VarHandle" ∧ (parseMethodDescriptor yX13_isIn.desc).map (fun d => d.parameters.length) = some 3 := by decide +kernel
theorem lk_X13_50 : LinkS RX13 50 yX13_isIn (.code yX13_isIn cX13_isIn 3 (some .boolean)) 3 := ⟨tw_1326, tw_1327, tw_83, tw_1328, yk_X13_isIn⟩
theorem d_X13_isStation_0 : decode cX13_isStation 0 = .ok (.iload_n 1, 1) := by decide +kernel
theorem d_X13_isStation_1 : decode cX13_isStation 1 = .ok (.iconst 0, 1) := by decide +kernel
theorem d_X13_isStation_2 : decode cX13_isStation 2 = .ok (.iload_n 2, 1) := by decide +kernel
theorem d_X13_isStation_3 : decode cX13_isStation 3 = .ok (.invokestatic 50, 3) := by decide +kernel
theorem d_X13_isStation_6 : decode cX13_isStation 6 = .ok (.ireturn, 1) := by decide +kernel
abbrev rm_X13_isStation : Room := { frames := 1, cells := 0, slots := 0, locals := 22 }
def w_X13_isStation (post : Bool → (Nat → Nat → Int32) → Prop) (x1 : Int32) (x2 : Int32) (mm : (Nat → Nat → Int32)) : Prop := w_X13_isIn (fun (r1 : Bool) (u2 : (Nat → Nat → Int32)) => post r1 u2) x1 0 x2 mm
section G_X13_isStation
variable {p : Program} {l : Launch} {e : Env} {s : State} {m : MethodId} {args : Array Value} {below : List Frame} {meth : Method} {c : Code} {G : Gd} {ρ : Nat → Nat} {A : Nat → Prop} {cm : CMu} {oo : Nat → Int64}
set_option maxHeartbeats 4000000 in
set_option maxRecDepth 100000 in
theorem c_X13_isStation (hl : l.stackTraces = false) {x1 : Int32} {x2 : Int32} {mm : (Nat → Nat → Int32)} {post : Bool → (Nat → Nat → Int32) → Prop} (h : w_X13_isStation post x1 x2 mm) : CT l yX13_isStation (.code yX13_isStation cX13_isStation 3 (some .boolean)) rm_X13_isStation 0 0 G ρ [.ref 703, .int x1, .int x2] (cm, mm, oo) (PZ (fun u => (cm, u, oo)) post) noX := by
  refine CT_of hl (by decide +kernel) rfl (Nat.le_of_ble_eq_true rfl) (lv0 := [(0, .ref 703), (1, .int x1), (2, .int x2)]) rfl (fun p e s m args below meth c A X hr hex hnm => ?_)
  unfold w_X13_isStation at h
  refine L_iload_n (pc := 0) X d_X13_isStation_0 rfl 1 rfl ?_
  refine L_iconst (pc := 1) (v := 0) X d_X13_isStation_1 (by decide) ?_
  refine L_iload_n (pc := 2) X d_X13_isStation_2 rfl 2 rfl ?_
  refine L_callSZ (pc := 3) X lk_X13_50 (c_X13_isIn X.hst  h) rfl rfl rfl ⟨by decide, by decide⟩ ⟨by decide, by decide⟩ (Nat.zero_le _) d_X13_isStation_3 rfl (fun x κ1 hx => L_nox hx) (fun r1 u2 h => ?_)
  exact L_zretB (pc := 6) X hr d_X13_isStation_6 r1 rfl (by decide) (by decide) ⟨_, _, rfl, rfl, h⟩
end G_X13_isStation
theorem d_X13_isFrost_0 : decode cX13_isFrost 0 = .ok (.aload_n 0, 1) := by decide +kernel
theorem d_X13_isFrost_1 : decode cX13_isFrost 1 = .ok (.getfield 7, 3) := by decide +kernel
theorem d_X13_isFrost_4 : decode cX13_isFrost 4 = .ok (.iconst 4, 1) := by decide +kernel
theorem d_X13_isFrost_5 : decode cX13_isFrost 5 = .ok (.iaload, 1) := by decide +kernel
theorem d_X13_isFrost_6 : decode cX13_isFrost 6 = .ok (.bipush 60, 2) := by decide +kernel
theorem d_X13_isFrost_8 : decode cX13_isFrost 8 = .ok (.idiv, 1) := by decide +kernel
theorem d_X13_isFrost_9 : decode cX13_isFrost 9 = .ok (.bipush 24, 2) := by decide +kernel
theorem d_X13_isFrost_11 : decode cX13_isFrost 11 = .ok (.irem, 1) := by decide +kernel
theorem d_X13_isFrost_12 : decode cX13_isFrost 12 = .ok (.istore_n 1, 1) := by decide +kernel
theorem d_X13_isFrost_13 : decode cX13_isFrost 13 = .ok (.aload_n 0, 1) := by decide +kernel
theorem d_X13_isFrost_14 : decode cX13_isFrost 14 = .ok (.getfield 7, 3) := by decide +kernel
theorem d_X13_isFrost_17 : decode cX13_isFrost 17 = .ok (.bipush 6, 2) := by decide +kernel
theorem d_X13_isFrost_19 : decode cX13_isFrost 19 = .ok (.iaload, 1) := by decide +kernel
theorem d_X13_isFrost_20 : decode cX13_isFrost 20 = .ok (.aload_n 0, 1) := by decide +kernel
theorem d_X13_isFrost_21 : decode cX13_isFrost 21 = .ok (.getfield 7, 3) := by decide +kernel
theorem d_X13_isFrost_24 : decode cX13_isFrost 24 = .ok (.bipush 7, 2) := by decide +kernel
theorem d_X13_isFrost_26 : decode cX13_isFrost 26 = .ok (.iaload, 1) := by decide +kernel
theorem d_X13_isFrost_27 : decode cX13_isFrost 27 = .ok (.if_icmp .ne 5, 3) := by decide +kernel
theorem d_X13_isFrost_30 : decode cX13_isFrost 30 = .ok (.iconst 0, 1) := by decide +kernel
theorem d_X13_isFrost_31 : decode cX13_isFrost 31 = .ok (.ireturn, 1) := by decide +kernel
theorem d_X13_isFrost_32 : decode cX13_isFrost 32 = .ok (.aload_n 0, 1) := by decide +kernel
theorem d_X13_isFrost_33 : decode cX13_isFrost 33 = .ok (.getfield 7, 3) := by decide +kernel
theorem d_X13_isFrost_36 : decode cX13_isFrost 36 = .ok (.bipush 6, 2) := by decide +kernel
theorem d_X13_isFrost_38 : decode cX13_isFrost 38 = .ok (.iaload, 1) := by decide +kernel
theorem d_X13_isFrost_39 : decode cX13_isFrost 39 = .ok (.aload_n 0, 1) := by decide +kernel
theorem d_X13_isFrost_40 : decode cX13_isFrost 40 = .ok (.getfield 7, 3) := by decide +kernel
theorem d_X13_isFrost_43 : decode cX13_isFrost 43 = .ok (.bipush 7, 2) := by decide +kernel
theorem d_X13_isFrost_45 : decode cX13_isFrost 45 = .ok (.iaload, 1) := by decide +kernel
theorem d_X13_isFrost_46 : decode cX13_isFrost 46 = .ok (.if_icmp .ge 33, 3) := by decide +kernel
theorem d_X13_isFrost_49 : decode cX13_isFrost 49 = .ok (.iload_n 1, 1) := by decide +kernel
theorem d_X13_isFrost_50 : decode cX13_isFrost 50 = .ok (.aload_n 0, 1) := by decide +kernel
theorem d_X13_isFrost_51 : decode cX13_isFrost 51 = .ok (.getfield 7, 3) := by decide +kernel
theorem d_X13_isFrost_54 : decode cX13_isFrost 54 = .ok (.bipush 6, 2) := by decide +kernel
theorem d_X13_isFrost_56 : decode cX13_isFrost 56 = .ok (.iaload, 1) := by decide +kernel
theorem d_X13_isFrost_57 : decode cX13_isFrost 57 = .ok (.if_icmp .lt 18, 3) := by decide +kernel
theorem d_X13_isFrost_60 : decode cX13_isFrost 60 = .ok (.iload_n 1, 1) := by decide +kernel
theorem d_X13_isFrost_61 : decode cX13_isFrost 61 = .ok (.aload_n 0, 1) := by decide +kernel
theorem d_X13_isFrost_62 : decode cX13_isFrost 62 = .ok (.getfield 7, 3) := by decide +kernel
theorem d_X13_isFrost_65 : decode cX13_isFrost 65 = .ok (.bipush 7, 2) := by decide +kernel
theorem d_X13_isFrost_67 : decode cX13_isFrost 67 = .ok (.iaload, 1) := by decide +kernel
theorem d_X13_isFrost_68 : decode cX13_isFrost 68 = .ok (.if_icmp .ge 7, 3) := by decide +kernel
theorem d_X13_isFrost_71 : decode cX13_isFrost 71 = .ok (.iconst 1, 1) := by decide +kernel
theorem d_X13_isFrost_72 : decode cX13_isFrost 72 = .ok (.goto 34, 3) := by decide +kernel
theorem d_X13_isFrost_75 : decode cX13_isFrost 75 = .ok (.iconst 0, 1) := by decide +kernel
theorem d_X13_isFrost_76 : decode cX13_isFrost 76 = .ok (.goto 30, 3) := by decide +kernel
theorem d_X13_isFrost_79 : decode cX13_isFrost 79 = .ok (.iload_n 1, 1) := by decide +kernel
theorem d_X13_isFrost_80 : decode cX13_isFrost 80 = .ok (.aload_n 0, 1) := by decide +kernel
theorem d_X13_isFrost_81 : decode cX13_isFrost 81 = .ok (.getfield 7, 3) := by decide +kernel
theorem d_X13_isFrost_84 : decode cX13_isFrost 84 = .ok (.bipush 6, 2) := by decide +kernel
theorem d_X13_isFrost_86 : decode cX13_isFrost 86 = .ok (.iaload, 1) := by decide +kernel
theorem d_X13_isFrost_87 : decode cX13_isFrost 87 = .ok (.if_icmp .ge 14, 3) := by decide +kernel
theorem d_X13_isFrost_90 : decode cX13_isFrost 90 = .ok (.iload_n 1, 1) := by decide +kernel
theorem d_X13_isFrost_91 : decode cX13_isFrost 91 = .ok (.aload_n 0, 1) := by decide +kernel
theorem d_X13_isFrost_92 : decode cX13_isFrost 92 = .ok (.getfield 7, 3) := by decide +kernel
theorem d_X13_isFrost_95 : decode cX13_isFrost 95 = .ok (.bipush 7, 2) := by decide +kernel
theorem d_X13_isFrost_97 : decode cX13_isFrost 97 = .ok (.iaload, 1) := by decide +kernel
theorem d_X13_isFrost_98 : decode cX13_isFrost 98 = .ok (.if_icmp .ge 7, 3) := by decide +kernel
theorem d_X13_isFrost_101 : decode cX13_isFrost 101 = .ok (.iconst 1, 1) := by decide +kernel
theorem d_X13_isFrost_102 : decode cX13_isFrost 102 = .ok (.goto 4, 3) := by decide +kernel
theorem d_X13_isFrost_105 : decode cX13_isFrost 105 = .ok (.iconst 0, 1) := by decide +kernel
theorem d_X13_isFrost_106 : decode cX13_isFrost 106 = .ok (.ireturn, 1) := by decide +kernel
abbrev rm_X13_isFrost : Room := { frames := 0, cells := 0, slots := 0, locals := 0 }
def w_X13_isFrost (post : Bool → (Nat → Nat → Int32) → Prop) (mm : (Nat → Nat → Int32)) : Prop := (¬ (mm 1 (Int32.toNatClampNeg (6 : Int32))) = (mm 1 (Int32.toNatClampNeg (7 : Int32))) → (((mm 1 (Int32.toNatClampNeg (7 : Int32))) ≤ (mm 1 (Int32.toNatClampNeg (6 : Int32))) → (((mm 1 (Int32.toNatClampNeg (6 : Int32))) ≤ (((mm 1 (Int32.toNatClampNeg (4 : Int32))) / 60) - ((mm 1 (Int32.toNatClampNeg (4 : Int32))) / 60) / 24 * 24) → (post true mm)) ∧ (¬ (mm 1 (Int32.toNatClampNeg (6 : Int32))) ≤ (((mm 1 (Int32.toNatClampNeg (4 : Int32))) / 60) - ((mm 1 (Int32.toNatClampNeg (4 : Int32))) / 60) / 24 * 24) → (((mm 1 (Int32.toNatClampNeg (7 : Int32))) ≤ (((mm 1 (Int32.toNatClampNeg (4 : Int32))) / 60) - ((mm 1 (Int32.toNatClampNeg (4 : Int32))) / 60) / 24 * 24) → (post false mm)) ∧ (¬ (mm 1 (Int32.toNatClampNeg (7 : Int32))) ≤ (((mm 1 (Int32.toNatClampNeg (4 : Int32))) / 60) - ((mm 1 (Int32.toNatClampNeg (4 : Int32))) / 60) / 24 * 24) → (post true mm)))))) ∧ (¬ (mm 1 (Int32.toNatClampNeg (7 : Int32))) ≤ (mm 1 (Int32.toNatClampNeg (6 : Int32))) → (((((mm 1 (Int32.toNatClampNeg (4 : Int32))) / 60) - ((mm 1 (Int32.toNatClampNeg (4 : Int32))) / 60) / 24 * 24) < (mm 1 (Int32.toNatClampNeg (6 : Int32))) → (post false mm)) ∧ (¬ (((mm 1 (Int32.toNatClampNeg (4 : Int32))) / 60) - ((mm 1 (Int32.toNatClampNeg (4 : Int32))) / 60) / 24 * 24) < (mm 1 (Int32.toNatClampNeg (6 : Int32))) → (((mm 1 (Int32.toNatClampNeg (7 : Int32))) ≤ (((mm 1 (Int32.toNatClampNeg (4 : Int32))) / 60) - ((mm 1 (Int32.toNatClampNeg (4 : Int32))) / 60) / 24 * 24) → (post false mm)) ∧ (¬ (mm 1 (Int32.toNatClampNeg (7 : Int32))) ≤ (((mm 1 (Int32.toNatClampNeg (4 : Int32))) / 60) - ((mm 1 (Int32.toNatClampNeg (4 : Int32))) / 60) / 24 * 24) → (post true mm)))))))) ∧ ((mm 1 (Int32.toNatClampNeg (6 : Int32))) = (mm 1 (Int32.toNatClampNeg (7 : Int32))) → (post false mm))
section G_X13_isFrost
variable {p : Program} {l : Launch} {e : Env} {s : State} {m : MethodId} {args : Array Value} {below : List Frame} {meth : Method} {c : Code} {G : Gd} {ρ : Nat → Nat} {A : Nat → Prop} {cm : CMu} {oo : Nat → Int64}
set_option maxHeartbeats 4000000 in
set_option maxRecDepth 100000 in
theorem c_X13_isFrost (hl : l.stackTraces = false) {mm : (Nat → Nat → Int32)} {post : Bool → (Nat → Nat → Int32) → Prop} (h : w_X13_isFrost post mm) : CT l yX13_isFrost (.code yX13_isFrost cX13_isFrost 2 (some .boolean)) rm_X13_isFrost 0 0 G ρ [.ref 703] (cm, mm, oo) (PZ (fun u => (cm, u, oo)) post) noX := by
  refine CT_of hl (by decide +kernel) rfl (Nat.le_of_ble_eq_true rfl) (lv0 := [(0, .ref 703)]) rfl (fun p e s m args below meth c A X hr hex hnm => ?_)
  unfold w_X13_isFrost at h
  refine L_aload_n (pc := 0) X d_X13_isFrost_0 rfl 0 rfl ?_
  refine gf_X13_7 (pc := 1) X d_X13_isFrost_1 ?_
  refine L_iconst (pc := 4) (v := 4) X d_X13_isFrost_4 (by decide) ?_
  refine L_ialdM (pc := 5) (a := 1) X d_X13_isFrost_5 kd_704 (by unfold vp_in; decide) ?_
  refine L_bipush (pc := 6) (v := 60) X d_X13_isFrost_6 (by decide) ?_
  refine L_idiv (pc := 8) X d_X13_isFrost_8 (by decide) ?_
  refine L_bipush (pc := 9) (v := 24) X d_X13_isFrost_9 (by decide) ?_
  refine L_irem (pc := 11) X d_X13_isFrost_11 (by decide) ?_
  refine L_istore_n (pc := 12) (lv2 := [(1, .int (((mm 1 (Int32.toNatClampNeg (4 : Int32))) / 60) - ((mm 1 (Int32.toNatClampNeg (4 : Int32))) / 60) / 24 * 24)), (0, .ref 703)]) X d_X13_isFrost_12 rfl (by decide) rfl ?_
  refine L_aload_n (pc := 13) X d_X13_isFrost_13 rfl 1 rfl ?_
  refine gf_X13_7 (pc := 14) X d_X13_isFrost_14 ?_
  refine L_bipush (pc := 17) (v := 6) X d_X13_isFrost_17 (by decide) ?_
  refine L_ialdM (pc := 19) (a := 1) X d_X13_isFrost_19 kd_704 (by unfold vp_in; decide) ?_
  refine L_aload_n (pc := 20) X d_X13_isFrost_20 rfl 1 rfl ?_
  refine gf_X13_7 (pc := 21) X d_X13_isFrost_21 ?_
  refine L_bipush (pc := 24) (v := 7) X d_X13_isFrost_24 (by decide) ?_
  refine L_ialdM (pc := 26) (a := 1) X d_X13_isFrost_26 kd_704 (by unfold vp_in; decide) ?_
  refine L_icmp_ne (pc := 27) (tgt := 32) X d_X13_isFrost_27 (by decide) (fun c27 => ?_) (fun c27 => ?_)
  · replace h := h.1 c27
    refine L_aload_n (pc := 32) X d_X13_isFrost_32 rfl 1 rfl ?_
    refine gf_X13_7 (pc := 33) X d_X13_isFrost_33 ?_
    refine L_bipush (pc := 36) (v := 6) X d_X13_isFrost_36 (by decide) ?_
    refine L_ialdM (pc := 38) (a := 1) X d_X13_isFrost_38 kd_704 (by unfold vp_in; decide) ?_
    refine L_aload_n (pc := 39) X d_X13_isFrost_39 rfl 1 rfl ?_
    refine gf_X13_7 (pc := 40) X d_X13_isFrost_40 ?_
    refine L_bipush (pc := 43) (v := 7) X d_X13_isFrost_43 (by decide) ?_
    refine L_ialdM (pc := 45) (a := 1) X d_X13_isFrost_45 kd_704 (by unfold vp_in; decide) ?_
    refine L_icmp_ge (pc := 46) (tgt := 79) X d_X13_isFrost_46 (by decide) (fun c46 => ?_) (fun c46 => ?_)
    · replace h := h.1 c46
      refine L_iload_n (pc := 79) X d_X13_isFrost_79 rfl 0 rfl ?_
      refine L_aload_n (pc := 80) X d_X13_isFrost_80 rfl 1 rfl ?_
      refine gf_X13_7 (pc := 81) X d_X13_isFrost_81 ?_
      refine L_bipush (pc := 84) (v := 6) X d_X13_isFrost_84 (by decide) ?_
      refine L_ialdM (pc := 86) (a := 1) X d_X13_isFrost_86 kd_704 (by unfold vp_in; decide) ?_
      refine L_icmp_ge (pc := 87) (tgt := 101) X d_X13_isFrost_87 (by decide) (fun c87 => ?_) (fun c87 => ?_)
      · replace h := h.1 c87
        refine L_iconst (pc := 101) (v := 1) X d_X13_isFrost_101 (by decide) ?_
        refine L_goto (pc := 102) (tgt := 106) X d_X13_isFrost_102 (by decide) ?_
        exact L_zretB (pc := 106) X hr d_X13_isFrost_106 true rfl (by decide) (by decide) ⟨_, _, rfl, rfl, h⟩
      · replace h := h.2 c87
        refine L_iload_n (pc := 90) X d_X13_isFrost_90 rfl 0 rfl ?_
        refine L_aload_n (pc := 91) X d_X13_isFrost_91 rfl 1 rfl ?_
        refine gf_X13_7 (pc := 92) X d_X13_isFrost_92 ?_
        refine L_bipush (pc := 95) (v := 7) X d_X13_isFrost_95 (by decide) ?_
        refine L_ialdM (pc := 97) (a := 1) X d_X13_isFrost_97 kd_704 (by unfold vp_in; decide) ?_
        refine L_icmp_ge (pc := 98) (tgt := 105) X d_X13_isFrost_98 (by decide) (fun c98 => ?_) (fun c98 => ?_)
        · replace h := h.1 c98
          refine L_iconst (pc := 105) (v := 0) X d_X13_isFrost_105 (by decide) ?_
          exact L_zretB (pc := 106) X hr d_X13_isFrost_106 false rfl (by decide) (by decide) ⟨_, _, rfl, rfl, h⟩
        · replace h := h.2 c98
          refine L_iconst (pc := 101) (v := 1) X d_X13_isFrost_101 (by decide) ?_
          refine L_goto (pc := 102) (tgt := 106) X d_X13_isFrost_102 (by decide) ?_
          exact L_zretB (pc := 106) X hr d_X13_isFrost_106 true rfl (by decide) (by decide) ⟨_, _, rfl, rfl, h⟩
    · replace h := h.2 c46
      refine L_iload_n (pc := 49) X d_X13_isFrost_49 rfl 0 rfl ?_
      refine L_aload_n (pc := 50) X d_X13_isFrost_50 rfl 1 rfl ?_
      refine gf_X13_7 (pc := 51) X d_X13_isFrost_51 ?_
      refine L_bipush (pc := 54) (v := 6) X d_X13_isFrost_54 (by decide) ?_
      refine L_ialdM (pc := 56) (a := 1) X d_X13_isFrost_56 kd_704 (by unfold vp_in; decide) ?_
      refine L_icmp_lt (pc := 57) (tgt := 75) X d_X13_isFrost_57 (by decide) (fun c57 => ?_) (fun c57 => ?_)
      · replace h := h.1 c57
        refine L_iconst (pc := 75) (v := 0) X d_X13_isFrost_75 (by decide) ?_
        refine L_goto (pc := 76) (tgt := 106) X d_X13_isFrost_76 (by decide) ?_
        exact L_zretB (pc := 106) X hr d_X13_isFrost_106 false rfl (by decide) (by decide) ⟨_, _, rfl, rfl, h⟩
      · replace h := h.2 c57
        refine L_iload_n (pc := 60) X d_X13_isFrost_60 rfl 0 rfl ?_
        refine L_aload_n (pc := 61) X d_X13_isFrost_61 rfl 1 rfl ?_
        refine gf_X13_7 (pc := 62) X d_X13_isFrost_62 ?_
        refine L_bipush (pc := 65) (v := 7) X d_X13_isFrost_65 (by decide) ?_
        refine L_ialdM (pc := 67) (a := 1) X d_X13_isFrost_67 kd_704 (by unfold vp_in; decide) ?_
        refine L_icmp_ge (pc := 68) (tgt := 75) X d_X13_isFrost_68 (by decide) (fun c68 => ?_) (fun c68 => ?_)
        · replace h := h.1 c68
          refine L_iconst (pc := 75) (v := 0) X d_X13_isFrost_75 (by decide) ?_
          refine L_goto (pc := 76) (tgt := 106) X d_X13_isFrost_76 (by decide) ?_
          exact L_zretB (pc := 106) X hr d_X13_isFrost_106 false rfl (by decide) (by decide) ⟨_, _, rfl, rfl, h⟩
        · replace h := h.2 c68
          refine L_iconst (pc := 71) (v := 1) X d_X13_isFrost_71 (by decide) ?_
          refine L_goto (pc := 72) (tgt := 106) X d_X13_isFrost_72 (by decide) ?_
          exact L_zretB (pc := 106) X hr d_X13_isFrost_106 true rfl (by decide) (by decide) ⟨_, _, rfl, rfl, h⟩
  · replace h := h.2 c27
    refine L_iconst (pc := 30) (v := 0) X d_X13_isFrost_30 (by decide) ?_
    exact L_zretB (pc := 31) X hr d_X13_isFrost_31 false rfl (by decide) (by decide) ⟨_, _, rfl, rfl, h⟩
end G_X13_isFrost
theorem d_X13_feed_0 : decode cX13_feed 0 = .ok (.aload_n 0, 1) := by decide +kernel
theorem d_X13_feed_1 : decode cX13_feed 1 = .ok (.iconst 0, 1) := by decide +kernel
theorem d_X13_feed_2 : decode cX13_feed 2 = .ok (.putfield 47, 3) := by decide +kernel
theorem d_X13_feed_5 : decode cX13_feed 5 = .ok (.aload_n 0, 1) := by decide +kernel
theorem d_X13_feed_6 : decode cX13_feed 6 = .ok (.getfield 54, 3) := by decide +kernel
theorem d_X13_feed_9 : decode cX13_feed 9 = .ok (.bipush 20, 2) := by decide +kernel
theorem d_X13_feed_11 : decode cX13_feed 11 = .ok (.iadd, 1) := by decide +kernel
theorem d_X13_feed_12 : decode cX13_feed 12 = .ok (.sipush 400, 3) := by decide +kernel
theorem d_X13_feed_15 : decode cX13_feed 15 = .ok (.if_icmp .le 5, 3) := by decide +kernel
theorem d_X13_feed_18 : decode cX13_feed 18 = .ok (.iconst (-1), 1) := by decide +kernel
theorem d_X13_feed_19 : decode cX13_feed 19 = .ok (.ireturn, 1) := by decide +kernel
theorem d_X13_feed_20 : decode cX13_feed 20 = .ok (.iconst 0, 1) := by decide +kernel
theorem d_X13_feed_21 : decode cX13_feed 21 = .ok (.istore 6, 2) := by decide +kernel
theorem d_X13_feed_23 : decode cX13_feed 23 = .ok (.iload 6, 2) := by decide +kernel
theorem d_X13_feed_25 : decode cX13_feed 25 = .ok (.bipush 20, 2) := by decide +kernel
theorem d_X13_feed_27 : decode cX13_feed 27 = .ok (.if_icmp .ge 93, 3) := by decide +kernel
theorem d_X13_feed_30 : decode cX13_feed 30 = .ok (.iload 6, 2) := by decide +kernel
theorem d_X13_feed_32 : decode cX13_feed 32 = .ok (.iconst 4, 1) := by decide +kernel
theorem d_X13_feed_33 : decode cX13_feed 33 = .ok (.if_icmp .ge 7, 3) := by decide +kernel
theorem d_X13_feed_36 : decode cX13_feed 36 = .ok (.iload_n 1, 1) := by decide +kernel
theorem d_X13_feed_37 : decode cX13_feed 37 = .ok (.goto 39, 3) := by decide +kernel
theorem d_X13_feed_40 : decode cX13_feed 40 = .ok (.iload 6, 2) := by decide +kernel
theorem d_X13_feed_42 : decode cX13_feed 42 = .ok (.bipush 8, 2) := by decide +kernel
theorem d_X13_feed_44 : decode cX13_feed 44 = .ok (.if_icmp .ge 7, 3) := by decide +kernel
theorem d_X13_feed_47 : decode cX13_feed 47 = .ok (.iload_n 2, 1) := by decide +kernel
theorem d_X13_feed_48 : decode cX13_feed 48 = .ok (.goto 28, 3) := by decide +kernel
theorem d_X13_feed_51 : decode cX13_feed 51 = .ok (.iload 6, 2) := by decide +kernel
theorem d_X13_feed_53 : decode cX13_feed 53 = .ok (.bipush 12, 2) := by decide +kernel
theorem d_X13_feed_55 : decode cX13_feed 55 = .ok (.if_icmp .ge 7, 3) := by decide +kernel
theorem d_X13_feed_58 : decode cX13_feed 58 = .ok (.iload_n 3, 1) := by decide +kernel
theorem d_X13_feed_59 : decode cX13_feed 59 = .ok (.goto 17, 3) := by decide +kernel
theorem d_X13_feed_62 : decode cX13_feed 62 = .ok (.iload 6, 2) := by decide +kernel
theorem d_X13_feed_64 : decode cX13_feed 64 = .ok (.bipush 16, 2) := by decide +kernel
theorem d_X13_feed_66 : decode cX13_feed 66 = .ok (.if_icmp .ge 8, 3) := by decide +kernel
theorem d_X13_feed_69 : decode cX13_feed 69 = .ok (.iload 4, 2) := by decide +kernel
theorem d_X13_feed_71 : decode cX13_feed 71 = .ok (.goto 5, 3) := by decide +kernel
theorem d_X13_feed_74 : decode cX13_feed 74 = .ok (.iload 5, 2) := by decide +kernel
theorem d_X13_feed_76 : decode cX13_feed 76 = .ok (.istore 7, 2) := by decide +kernel
theorem d_X13_feed_78 : decode cX13_feed 78 = .ok (.aload_n 0, 1) := by decide +kernel
theorem d_X13_feed_79 : decode cX13_feed 79 = .ok (.getfield 19, 3) := by decide +kernel
theorem d_X13_feed_82 : decode cX13_feed 82 = .ok (.aload_n 0, 1) := by decide +kernel
theorem d_X13_feed_83 : decode cX13_feed 83 = .ok (.getfield 54, 3) := by decide +kernel
theorem d_X13_feed_86 : decode cX13_feed 86 = .ok (.iload 7, 2) := by decide +kernel
theorem d_X13_feed_88 : decode cX13_feed 88 = .ok (.bipush 24, 2) := by decide +kernel
theorem d_X13_feed_90 : decode cX13_feed 90 = .ok (.bipush 8, 2) := by decide +kernel
theorem d_X13_feed_92 : decode cX13_feed 92 = .ok (.iload 6, 2) := by decide +kernel
theorem d_X13_feed_94 : decode cX13_feed 94 = .ok (.iconst 4, 1) := by decide +kernel
theorem d_X13_feed_95 : decode cX13_feed 95 = .ok (.irem, 1) := by decide +kernel
theorem d_X13_feed_96 : decode cX13_feed 96 = .ok (.imul, 1) := by decide +kernel
theorem d_X13_feed_97 : decode cX13_feed 97 = .ok (.isub, 1) := by decide +kernel
theorem d_X13_feed_98 : decode cX13_feed 98 = .ok (.iushr, 1) := by decide +kernel
theorem d_X13_feed_99 : decode cX13_feed 99 = .ok (.sipush 255, 3) := by decide +kernel
theorem d_X13_feed_102 : decode cX13_feed 102 = .ok (.iand, 1) := by decide +kernel
theorem d_X13_feed_103 : decode cX13_feed 103 = .ok (.iastore, 1) := by decide +kernel
theorem d_X13_feed_104 : decode cX13_feed 104 = .ok (.aload_n 0, 1) := by decide +kernel
theorem d_X13_feed_105 : decode cX13_feed 105 = .ok (.dup, 1) := by decide +kernel
theorem d_X13_feed_106 : decode cX13_feed 106 = .ok (.getfield 54, 3) := by decide +kernel
theorem d_X13_feed_109 : decode cX13_feed 109 = .ok (.iconst 1, 1) := by decide +kernel
theorem d_X13_feed_110 : decode cX13_feed 110 = .ok (.iadd, 1) := by decide +kernel
theorem d_X13_feed_111 : decode cX13_feed 111 = .ok (.putfield 54, 3) := by decide +kernel
theorem d_X13_feed_114 : decode cX13_feed 114 = .ok (.iinc 6 1, 3) := by decide +kernel
theorem d_X13_feed_117 : decode cX13_feed 117 = .ok (.goto (-94), 3) := by decide +kernel
theorem d_X13_feed_120 : decode cX13_feed 120 = .ok (.aload_n 0, 1) := by decide +kernel
theorem d_X13_feed_121 : decode cX13_feed 121 = .ok (.getfield 54, 3) := by decide +kernel
theorem d_X13_feed_124 : decode cX13_feed 124 = .ok (.ireturn, 1) := by decide +kernel
abbrev rm_X13_feed : Room := { frames := 0, cells := 0, slots := 0, locals := 0 }
def B_X13_feed_76 (post : Int32 → (Nat → Nat → Int32) → Prop) (k23 : Int32 → Int32 → Int32 → Int32 → Int32 → Int32 → (Nat → Nat → Int32) → Prop) (v1 : Int32) (v2 : Int32) (v3 : Int32) (v4 : Int32) (v5 : Int32) (v6 : Int32) (s0 : Int32) (mm : (Nat → Nat → Int32)) : Prop := (vp_in (mm 0 6) 400) ∧ k23 v1 v2 v3 v4 v5 (v6 + 1) (up2 (up2 mm 4 (Int32.toNatClampNeg (mm 0 6)) ((UInt32.toInt32 (Int32.toUInt32 s0 >>> (Int32.toUInt32 (24 - (8 * (v6 - v6 / 4 * 4))) &&& Int32.toUInt32 31))) &&& 255)) 0 6 (((up2 mm 4 (Int32.toNatClampNeg (mm 0 6)) ((UInt32.toInt32 (Int32.toUInt32 s0 >>> (Int32.toUInt32 (24 - (8 * (v6 - v6 / 4 * 4))) &&& Int32.toUInt32 31))) &&& 255)) 0 6) + 1))
def B_X13_feed_23 (post : Int32 → (Nat → Nat → Int32) → Prop) : Nat → Int32 → Int32 → Int32 → Int32 → Int32 → Int32 → (Nat → Nat → Int32) → Prop
  | 0 => fun _ _ _ _ _ _ _ => False
  | n + 1 => fun v1 v2 v3 v4 v5 v6 mm => (20 ≤ v6 → (post (mm 0 6) mm)) ∧ (¬ 20 ≤ v6 → ((4 ≤ v6 → ((8 ≤ v6 → ((12 ≤ v6 → ((16 ≤ v6 → (B_X13_feed_76 post (B_X13_feed_23 post n) v1 v2 v3 v4 v5 v6 v5 mm)) ∧ (¬ 16 ≤ v6 → (B_X13_feed_76 post (B_X13_feed_23 post n) v1 v2 v3 v4 v5 v6 v4 mm)))) ∧ (¬ 12 ≤ v6 → (B_X13_feed_76 post (B_X13_feed_23 post n) v1 v2 v3 v4 v5 v6 v3 mm)))) ∧ (¬ 8 ≤ v6 → (B_X13_feed_76 post (B_X13_feed_23 post n) v1 v2 v3 v4 v5 v6 v2 mm)))) ∧ (¬ 4 ≤ v6 → (B_X13_feed_76 post (B_X13_feed_23 post n) v1 v2 v3 v4 v5 v6 v1 mm))))
def w_X13_feed (post : Int32 → (Nat → Nat → Int32) → Prop) (x1 : Int32) (x2 : Int32) (x3 : Int32) (x4 : Int32) (x5 : Int32) (mm : (Nat → Nat → Int32)) : Prop := ((((up2 mm 0 0 0) 0 6) + 20) ≤ 400 → (∃ n23, B_X13_feed_23 post n23 x1 x2 x3 x4 x5 0 (up2 mm 0 0 0))) ∧ (¬ (((up2 mm 0 0 0) 0 6) + 20) ≤ 400 → (post (-1) (up2 mm 0 0 0)))
section G_X13_feed
variable {p : Program} {l : Launch} {e : Env} {s : State} {m : MethodId} {args : Array Value} {below : List Frame} {meth : Method} {c : Code} {G : Gd} {ρ : Nat → Nat} {A : Nat → Prop} {cm : CMu} {oo : Nat → Int64}
set_option maxHeartbeats 4000000 in
set_option maxRecDepth 100000 in
theorem T_X13_feed_76 {post : Int32 → (Nat → Nat → Int32) → Prop} {k23 : Int32 → Int32 → Int32 → Int32 → Int32 → Int32 → (Nat → Nat → Int32) → Prop} (hl : l.stackTraces = false) (X : MC p l s m args meth c cX13_feed 8 RX13 G ρ A) (hr : meth.sig.returnType = (some .int)) (hex : ∀ z ∈ c.exceptionTable.toList, False)
    (hk23 : ∀ (v1 : Int32) (v2 : Int32) (v3 : Int32) (v4 : Int32) (v5 : Int32) (v6 : Int32) (mm : (Nat → Nat → Int32)), k23 v1 v2 v3 v4 v5 v6 mm → LW p l e rm_X13_feed s m args below meth c (Qm below G ρ A (PI (fun u => (cm, u, oo)) post) noX args s 0 0) G ρ A 8 0 0 23 [(0, .ref 703), (1, .int v1), (2, .int v2), (3, .int v3), (4, .int v4), (5, .int v5), (6, .int v6)] [] (cm, mm, oo)) : ∀ (v1 : Int32) (v2 : Int32) (v3 : Int32) (v4 : Int32) (v5 : Int32) (v6 : Int32) (s0 : Int32) (mm : (Nat → Nat → Int32)), B_X13_feed_76 post k23 v1 v2 v3 v4 v5 v6 s0 mm → LW p l e rm_X13_feed s m args below meth c (Qm below G ρ A (PI (fun u => (cm, u, oo)) post) noX args s 0 0) G ρ A 8 0 0 76 [(0, .ref 703), (1, .int v1), (2, .int v2), (3, .int v3), (4, .int v4), (5, .int v5), (6, .int v6)] [.int s0] (cm, mm, oo) := by
  intro v1 v2 v3 v4 v5 v6 s0 mm h
  unfold B_X13_feed_76 at h
  refine L_istore (pc := 76) (lv2 := [(7, .int s0), (0, .ref 703), (1, .int v1), (2, .int v2), (3, .int v3), (4, .int v4), (5, .int v5), (6, .int v6)]) X d_X13_feed_76 (by decide) rfl ?_
  refine L_aload_n (pc := 78) X d_X13_feed_78 rfl 1 rfl ?_
  refine gf_X13_19 (pc := 79) X d_X13_feed_79 ?_
  refine L_aload_n (pc := 82) X d_X13_feed_82 rfl 1 rfl ?_
  refine gf_X13_54 (pc := 83) X d_X13_feed_83 ?_
  refine L_iload (pc := 86) X d_X13_feed_86 0 rfl ?_
  refine L_bipush (pc := 88) (v := 24) X d_X13_feed_88 (by decide) ?_
  refine L_bipush (pc := 90) (v := 8) X d_X13_feed_90 (by decide) ?_
  refine L_iload (pc := 92) X d_X13_feed_92 7 rfl ?_
  refine L_iconst (pc := 94) (v := 4) X d_X13_feed_94 (by decide) ?_
  refine L_irem (pc := 95) X d_X13_feed_95 (by decide) ?_
  refine L_imul (pc := 96) X d_X13_feed_96 ?_
  refine L_isub (pc := 97) X d_X13_feed_97 ?_
  refine L_iushr (pc := 98) X d_X13_feed_98 ?_
  refine L_sipush (pc := 99) (v := 255) X d_X13_feed_99 (by decide) ?_
  refine L_iand (pc := 102) X d_X13_feed_102 ?_
  obtain ⟨q1, h⟩ := h
  refine L_iastM (pc := 103) (a := 4) X d_X13_feed_103 kd_707 q1 ?_
  refine L_aload_n (pc := 104) X d_X13_feed_104 rfl 1 rfl ?_
  refine L_dup (pc := 105) X d_X13_feed_105 rfl ?_
  refine gf_X13_54 (pc := 106) X d_X13_feed_106 ?_
  refine L_iconst (pc := 109) (v := 1) X d_X13_feed_109 (by decide) ?_
  refine L_iadd (pc := 110) X d_X13_feed_110 ?_
  refine pf_X13_54 (pc := 111) X d_X13_feed_111 ?_
  refine L_iinc (pc := 114) (v := v6 + 1) (lv2 := [(6, .int (v6 + 1)), (7, .int s0), (0, .ref 703), (1, .int v1), (2, .int v2), (3, .int v3), (4, .int v4), (5, .int v5)]) X d_X13_feed_114 7 rfl rfl (by decide) rfl ?_
  refine L_goto (pc := 117) (tgt := 23) X d_X13_feed_117 (by decide) ?_
  refine LW.sub [2, 3, 4, 5, 6, 7, 0] rfl ?_
  exact hk23 _ _ _ _ _ _  _ h
set_option maxHeartbeats 4000000 in
set_option maxRecDepth 100000 in
theorem T_X13_feed_23 {post : Int32 → (Nat → Nat → Int32) → Prop} (hl : l.stackTraces = false) (X : MC p l s m args meth c cX13_feed 8 RX13 G ρ A) (hr : meth.sig.returnType = (some .int)) (hex : ∀ z ∈ c.exceptionTable.toList, False) (n : Nat) : ∀ (v1 : Int32) (v2 : Int32) (v3 : Int32) (v4 : Int32) (v5 : Int32) (v6 : Int32) (mm : (Nat → Nat → Int32)), B_X13_feed_23 post n v1 v2 v3 v4 v5 v6 mm → LW p l e rm_X13_feed s m args below meth c (Qm below G ρ A (PI (fun u => (cm, u, oo)) post) noX args s 0 0) G ρ A 8 0 0 23 [(0, .ref 703), (1, .int v1), (2, .int v2), (3, .int v3), (4, .int v4), (5, .int v5), (6, .int v6)] [] (cm, mm, oo) := by
  induction n with
  | zero =>
    intro v1 v2 v3 v4 v5 v6 mm h
    exact False.elim h
  | succ n ih =>
    intro v1 v2 v3 v4 v5 v6 mm h
    unfold B_X13_feed_23 at h
    refine L_iload (pc := 23) X d_X13_feed_23 6 rfl ?_
    refine L_bipush (pc := 25) (v := 20) X d_X13_feed_25 (by decide) ?_
    refine L_icmp_ge (pc := 27) (tgt := 120) X d_X13_feed_27 (by decide) (fun c27 => ?_) (fun c27 => ?_)
    · replace h := h.1 c27
      refine L_aload_n (pc := 120) X d_X13_feed_120 rfl 0 rfl ?_
      refine gf_X13_54 (pc := 121) X d_X13_feed_121 ?_
      exact L_iret (pc := 124) X hr d_X13_feed_124 (by decide) (by decide) ⟨_, _, rfl, rfl, h⟩
    · replace h := h.2 c27
      refine L_iload (pc := 30) X d_X13_feed_30 6 rfl ?_
      refine L_iconst (pc := 32) (v := 4) X d_X13_feed_32 (by decide) ?_
      refine L_icmp_ge (pc := 33) (tgt := 40) X d_X13_feed_33 (by decide) (fun c33 => ?_) (fun c33 => ?_)
      · replace h := h.1 c33
        refine L_iload (pc := 40) X d_X13_feed_40 6 rfl ?_
        refine L_bipush (pc := 42) (v := 8) X d_X13_feed_42 (by decide) ?_
        refine L_icmp_ge (pc := 44) (tgt := 51) X d_X13_feed_44 (by decide) (fun c44 => ?_) (fun c44 => ?_)
        · replace h := h.1 c44
          refine L_iload (pc := 51) X d_X13_feed_51 6 rfl ?_
          refine L_bipush (pc := 53) (v := 12) X d_X13_feed_53 (by decide) ?_
          refine L_icmp_ge (pc := 55) (tgt := 62) X d_X13_feed_55 (by decide) (fun c55 => ?_) (fun c55 => ?_)
          · replace h := h.1 c55
            refine L_iload (pc := 62) X d_X13_feed_62 6 rfl ?_
            refine L_bipush (pc := 64) (v := 16) X d_X13_feed_64 (by decide) ?_
            refine L_icmp_ge (pc := 66) (tgt := 74) X d_X13_feed_66 (by decide) (fun c66 => ?_) (fun c66 => ?_)
            · replace h := h.1 c66
              refine L_iload (pc := 74) X d_X13_feed_74 5 rfl ?_
              refine LW.sub [0, 1, 2, 3, 4, 5, 6] rfl ?_
              exact T_X13_feed_76 hl X hr hex ih _ _ _ _ _ _ _  _ h
            · replace h := h.2 c66
              refine L_iload (pc := 69) X d_X13_feed_69 4 rfl ?_
              refine L_goto (pc := 71) (tgt := 76) X d_X13_feed_71 (by decide) ?_
              refine LW.sub [0, 1, 2, 3, 4, 5, 6] rfl ?_
              exact T_X13_feed_76 hl X hr hex ih _ _ _ _ _ _ _  _ h
          · replace h := h.2 c55
            refine L_iload_n (pc := 58) X d_X13_feed_58 rfl 3 rfl ?_
            refine L_goto (pc := 59) (tgt := 76) X d_X13_feed_59 (by decide) ?_
            refine LW.sub [0, 1, 2, 3, 4, 5, 6] rfl ?_
            exact T_X13_feed_76 hl X hr hex ih _ _ _ _ _ _ _  _ h
        · replace h := h.2 c44
          refine L_iload_n (pc := 47) X d_X13_feed_47 rfl 2 rfl ?_
          refine L_goto (pc := 48) (tgt := 76) X d_X13_feed_48 (by decide) ?_
          refine LW.sub [0, 1, 2, 3, 4, 5, 6] rfl ?_
          exact T_X13_feed_76 hl X hr hex ih _ _ _ _ _ _ _  _ h
      · replace h := h.2 c33
        refine L_iload_n (pc := 36) X d_X13_feed_36 rfl 1 rfl ?_
        refine L_goto (pc := 37) (tgt := 76) X d_X13_feed_37 (by decide) ?_
        refine LW.sub [0, 1, 2, 3, 4, 5, 6] rfl ?_
        exact T_X13_feed_76 hl X hr hex ih _ _ _ _ _ _ _  _ h
set_option maxHeartbeats 4000000 in
set_option maxRecDepth 100000 in
theorem c_X13_feed (hl : l.stackTraces = false) {x1 : Int32} {x2 : Int32} {x3 : Int32} {x4 : Int32} {x5 : Int32} {mm : (Nat → Nat → Int32)} {post : Int32 → (Nat → Nat → Int32) → Prop} (h : w_X13_feed post x1 x2 x3 x4 x5 mm) : CT l yX13_feed (.code yX13_feed cX13_feed 8 (some .int)) rm_X13_feed 0 0 G ρ [.ref 703, .int x1, .int x2, .int x3, .int x4, .int x5] (cm, mm, oo) (PI (fun u => (cm, u, oo)) post) noX := by
  refine CT_of hl (by decide +kernel) rfl (Nat.le_of_ble_eq_true rfl) (lv0 := [(0, .ref 703), (1, .int x1), (2, .int x2), (3, .int x3), (4, .int x4), (5, .int x5)]) rfl (fun p e s m args below meth c A X hr hex hnm => ?_)
  unfold w_X13_feed at h
  refine L_aload_n (pc := 0) X d_X13_feed_0 rfl 0 rfl ?_
  refine L_iconst (pc := 1) (v := 0) X d_X13_feed_1 (by decide) ?_
  refine pf_X13_47 (pc := 2) X d_X13_feed_2 ?_
  refine L_aload_n (pc := 5) X d_X13_feed_5 rfl 0 rfl ?_
  refine gf_X13_54 (pc := 6) X d_X13_feed_6 ?_
  refine L_bipush (pc := 9) (v := 20) X d_X13_feed_9 (by decide) ?_
  refine L_iadd (pc := 11) X d_X13_feed_11 ?_
  refine L_sipush (pc := 12) (v := 400) X d_X13_feed_12 (by decide) ?_
  refine L_icmp_le (pc := 15) (tgt := 20) X d_X13_feed_15 (by decide) (fun c15 => ?_) (fun c15 => ?_)
  · replace h := h.1 c15
    refine L_iconst (pc := 20) (v := 0) X d_X13_feed_20 (by decide) ?_
    refine L_istore (pc := 21) (lv2 := [(6, .int 0), (0, .ref 703), (1, .int x1), (2, .int x2), (3, .int x3), (4, .int x4), (5, .int x5)]) X d_X13_feed_21 (by decide) rfl ?_
    obtain ⟨n23, h⟩ := h
    refine LW.sub [1, 2, 3, 4, 5, 6, 0] rfl ?_
    exact T_X13_feed_23 hl X hr hex n23 _ _ _ _ _ _  _ h
  · replace h := h.2 c15
    refine L_iconst (pc := 18) (v := (-1)) X d_X13_feed_18 (by decide) ?_
    exact L_iret (pc := 19) X hr d_X13_feed_19 (by decide) (by decide) ⟨_, _, rfl, rfl, h⟩
end G_X13_feed
theorem d_X13_end_0 : decode cX13_end 0 = .ok (.aload_n 0, 1) := by decide +kernel
theorem d_X13_end_1 : decode cX13_end 1 = .ok (.iconst 0, 1) := by decide +kernel
theorem d_X13_end_2 : decode cX13_end 2 = .ok (.putfield 47, 3) := by decide +kernel
theorem d_X13_end_5 : decode cX13_end 5 = .ok (.iload_n 1, 1) := by decide +kernel
theorem d_X13_end_6 : decode cX13_end 6 = .ok (.iconst 0, 1) := by decide +kernel
theorem d_X13_end_7 : decode cX13_end 7 = .ok (.aload_n 0, 1) := by decide +kernel
theorem d_X13_end_8 : decode cX13_end 8 = .ok (.getfield 54, 3) := by decide +kernel
theorem d_X13_end_11 : decode cX13_end 11 = .ok (.invokestatic 50, 3) := by decide +kernel
theorem d_X13_end_14 : decode cX13_end 14 = .ok (.ifCond .ne 5, 3) := by decide +kernel
theorem d_X13_end_17 : decode cX13_end 17 = .ok (.iconst 0, 1) := by decide +kernel
theorem d_X13_end_18 : decode cX13_end 18 = .ok (.ireturn, 1) := by decide +kernel
theorem d_X13_end_19 : decode cX13_end 19 = .ok (.aload_n 0, 1) := by decide +kernel
theorem d_X13_end_20 : decode cX13_end 20 = .ok (.iload_n 1, 1) := by decide +kernel
theorem d_X13_end_21 : decode cX13_end 21 = .ok (.putfield 54, 3) := by decide +kernel
theorem d_X13_end_24 : decode cX13_end 24 = .ok (.iconst 1, 1) := by decide +kernel
theorem d_X13_end_25 : decode cX13_end 25 = .ok (.ireturn, 1) := by decide +kernel
abbrev rm_X13_end : Room := { frames := 1, cells := 0, slots := 0, locals := 22 }
def w_X13_end (post : Bool → (Nat → Nat → Int32) → Prop) (x1 : Int32) (mm : (Nat → Nat → Int32)) : Prop := w_X13_isIn (fun (r1 : Bool) (u2 : (Nat → Nat → Int32)) => (¬ (r1 = false) → (post true (up2 u2 0 6 x1))) ∧ ((r1 = false) → (post false u2))) x1 0 ((up2 mm 0 0 0) 0 6) (up2 mm 0 0 0)
section G_X13_end
variable {p : Program} {l : Launch} {e : Env} {s : State} {m : MethodId} {args : Array Value} {below : List Frame} {meth : Method} {c : Code} {G : Gd} {ρ : Nat → Nat} {A : Nat → Prop} {cm : CMu} {oo : Nat → Int64}
set_option maxHeartbeats 4000000 in
set_option maxRecDepth 100000 in
theorem c_X13_end (hl : l.stackTraces = false) {x1 : Int32} {mm : (Nat → Nat → Int32)} {post : Bool → (Nat → Nat → Int32) → Prop} (h : w_X13_end post x1 mm) : CT l yX13_end (.code yX13_end cX13_end 2 (some .boolean)) rm_X13_end 0 0 G ρ [.ref 703, .int x1] (cm, mm, oo) (PZ (fun u => (cm, u, oo)) post) noX := by
  refine CT_of hl (by decide +kernel) rfl (Nat.le_of_ble_eq_true rfl) (lv0 := [(0, .ref 703), (1, .int x1)]) rfl (fun p e s m args below meth c A X hr hex hnm => ?_)
  unfold w_X13_end at h
  refine L_aload_n (pc := 0) X d_X13_end_0 rfl 0 rfl ?_
  refine L_iconst (pc := 1) (v := 0) X d_X13_end_1 (by decide) ?_
  refine pf_X13_47 (pc := 2) X d_X13_end_2 ?_
  refine L_iload_n (pc := 5) X d_X13_end_5 rfl 1 rfl ?_
  refine L_iconst (pc := 6) (v := 0) X d_X13_end_6 (by decide) ?_
  refine L_aload_n (pc := 7) X d_X13_end_7 rfl 0 rfl ?_
  refine gf_X13_54 (pc := 8) X d_X13_end_8 ?_
  refine L_callSZ (pc := 11) X lk_X13_50 (c_X13_isIn X.hst  h) rfl rfl rfl ⟨by decide, by decide⟩ ⟨by decide, by decide⟩ (Nat.zero_le _) d_X13_end_11 rfl (fun x κ1 hx => L_nox hx) (fun r1 u2 h => ?_)
  refine L_if_ne (pc := 14) (tgt := 19) X d_X13_end_14 (by decide) (fun c14 => ?_) (fun c14 => ?_)
  · replace h := h.1 (fun z => c14 ((b2_0 _).mpr z))
    refine L_aload_n (pc := 19) X d_X13_end_19 rfl 0 rfl ?_
    refine L_iload_n (pc := 20) X d_X13_end_20 rfl 1 rfl ?_
    refine pf_X13_54 (pc := 21) X d_X13_end_21 ?_
    refine L_iconst (pc := 24) (v := 1) X d_X13_end_24 (by decide) ?_
    exact L_zretB (pc := 25) X hr d_X13_end_25 true rfl (by decide) (by decide) ⟨_, _, rfl, rfl, h⟩
  · replace h := h.2 ((b2_0 _).mp c14)
    refine L_iconst (pc := 17) (v := 0) X d_X13_end_17 (by decide) ?_
    exact L_zretB (pc := 18) X hr d_X13_end_18 false rfl (by decide) (by decide) ⟨_, _, rfl, rfl, h⟩
end G_X13_end
theorem d_X13_letter_0 : decode cX13_letter 0 = .ok (.aload_n 0, 1) := by decide +kernel
theorem d_X13_letter_1 : decode cX13_letter 1 = .ok (.getfield 57, 3) := by decide +kernel
theorem d_X13_letter_4 : decode cX13_letter 4 = .ok (.iconst (-1), 1) := by decide +kernel
theorem d_X13_letter_5 : decode cX13_letter 5 = .ok (.if_icmp .ne 12, 3) := by decide +kernel
theorem d_X13_letter_8 : decode cX13_letter 8 = .ok (.aload_n 0, 1) := by decide +kernel
theorem d_X13_letter_9 : decode cX13_letter 9 = .ok (.getfield 19, 3) := by decide +kernel
theorem d_X13_letter_12 : decode cX13_letter 12 = .ok (.iload_n 1, 1) := by decide +kernel
theorem d_X13_letter_13 : decode cX13_letter 13 = .ok (.iaload, 1) := by decide +kernel
theorem d_X13_letter_14 : decode cX13_letter 14 = .ok (.goto 14, 3) := by decide +kernel
theorem d_X13_letter_17 : decode cX13_letter 17 = .ok (.aload_n 0, 1) := by decide +kernel
theorem d_X13_letter_18 : decode cX13_letter 18 = .ok (.getfield 7, 3) := by decide +kernel
theorem d_X13_letter_21 : decode cX13_letter 21 = .ok (.aload_n 0, 1) := by decide +kernel
theorem d_X13_letter_22 : decode cX13_letter 22 = .ok (.getfield 57, 3) := by decide +kernel
theorem d_X13_letter_25 : decode cX13_letter 25 = .ok (.iload_n 1, 1) := by decide +kernel
theorem d_X13_letter_26 : decode cX13_letter 26 = .ok (.iadd, 1) := by decide +kernel
theorem d_X13_letter_27 : decode cX13_letter 27 = .ok (.iaload, 1) := by decide +kernel
theorem d_X13_letter_28 : decode cX13_letter 28 = .ok (.ireturn, 1) := by decide +kernel
abbrev rm_X13_letter : Room := { frames := 0, cells := 0, slots := 0, locals := 0 }
def w_X13_letter (post : Int32 → (Nat → Nat → Int32) → Prop) (x1 : Int32) (mm : (Nat → Nat → Int32)) : Prop := (¬ (mm 0 7) = (-1) → ((vp_in ((mm 0 7) + x1) 25530) ∧ post (mm 1 (Int32.toNatClampNeg ((mm 0 7) + x1))) mm)) ∧ ((mm 0 7) = (-1) → ((vp_in x1 400) ∧ post (mm 4 (Int32.toNatClampNeg x1)) mm))
section G_X13_letter
variable {p : Program} {l : Launch} {e : Env} {s : State} {m : MethodId} {args : Array Value} {below : List Frame} {meth : Method} {c : Code} {G : Gd} {ρ : Nat → Nat} {A : Nat → Prop} {cm : CMu} {oo : Nat → Int64}
set_option maxHeartbeats 4000000 in
set_option maxRecDepth 100000 in
theorem c_X13_letter (hl : l.stackTraces = false) {x1 : Int32} {mm : (Nat → Nat → Int32)} {post : Int32 → (Nat → Nat → Int32) → Prop} (h : w_X13_letter post x1 mm) : CT l yX13_letter (.code yX13_letter cX13_letter 2 (some .int)) rm_X13_letter 0 0 G ρ [.ref 703, .int x1] (cm, mm, oo) (PI (fun u => (cm, u, oo)) post) noX := by
  refine CT_of hl (by decide +kernel) rfl (Nat.le_of_ble_eq_true rfl) (lv0 := [(0, .ref 703), (1, .int x1)]) rfl (fun p e s m args below meth c A X hr hex hnm => ?_)
  unfold w_X13_letter at h
  refine L_aload_n (pc := 0) X d_X13_letter_0 rfl 0 rfl ?_
  refine gf_X13_57 (pc := 1) X d_X13_letter_1 ?_
  refine L_iconst (pc := 4) (v := (-1)) X d_X13_letter_4 (by decide) ?_
  refine L_icmp_ne (pc := 5) (tgt := 17) X d_X13_letter_5 (by decide) (fun c5 => ?_) (fun c5 => ?_)
  · replace h := h.1 c5
    refine L_aload_n (pc := 17) X d_X13_letter_17 rfl 0 rfl ?_
    refine gf_X13_7 (pc := 18) X d_X13_letter_18 ?_
    refine L_aload_n (pc := 21) X d_X13_letter_21 rfl 0 rfl ?_
    refine gf_X13_57 (pc := 22) X d_X13_letter_22 ?_
    refine L_iload_n (pc := 25) X d_X13_letter_25 rfl 1 rfl ?_
    refine L_iadd (pc := 26) X d_X13_letter_26 ?_
    obtain ⟨q1, h⟩ := h
    refine L_ialdM (pc := 27) (a := 1) X d_X13_letter_27 kd_704 q1 ?_
    exact L_iret (pc := 28) X hr d_X13_letter_28 (by decide) (by decide) ⟨_, _, rfl, rfl, h⟩
  · replace h := h.2 c5
    refine L_aload_n (pc := 8) X d_X13_letter_8 rfl 0 rfl ?_
    refine gf_X13_19 (pc := 9) X d_X13_letter_9 ?_
    refine L_iload_n (pc := 12) X d_X13_letter_12 rfl 1 rfl ?_
    obtain ⟨q2, h⟩ := h
    refine L_ialdM (pc := 13) (a := 4) X d_X13_letter_13 kd_707 q2 ?_
    refine L_goto (pc := 14) (tgt := 28) X d_X13_letter_14 (by decide) ?_
    exact L_iret (pc := 28) X hr d_X13_letter_28 (by decide) (by decide) ⟨_, _, rfl, rfl, h⟩
end G_X13_letter
theorem yk_X13_letter : yX13_letter.cls = RX13 ∧ yX13_letter.cls ≠ "java/lang/invoke/MethodHandle" ∧ yX13_letter.cls ≠ "java/lang/invoke/VarHandle" ∧ (parseMethodDescriptor yX13_letter.desc).map (fun d => d.parameters.length) = some 1 := by decide +kernel
theorem lk_X13_66 : LinkV RX13 66 RX13 yX13_letter (.code yX13_letter cX13_letter 2 (some .int)) 1 := ⟨tw_1341, tw_1343, tw_36, tw_83, tw_1344, yk_X13_letter⟩
theorem d_X13_skip_0 : decode cX13_skip 0 = .ok (.aload_n 0, 1) := by decide +kernel
theorem d_X13_skip_1 : decode cX13_skip 1 = .ok (.getfield 60, 3) := by decide +kernel
theorem d_X13_skip_4 : decode cX13_skip 4 = .ok (.aload_n 0, 1) := by decide +kernel
theorem d_X13_skip_5 : decode cX13_skip 5 = .ok (.getfield 63, 3) := by decide +kernel
theorem d_X13_skip_8 : decode cX13_skip 8 = .ok (.if_icmp .ge 29, 3) := by decide +kernel
theorem d_X13_skip_11 : decode cX13_skip 11 = .ok (.aload_n 0, 1) := by decide +kernel
theorem d_X13_skip_12 : decode cX13_skip 12 = .ok (.aload_n 0, 1) := by decide +kernel
theorem d_X13_skip_13 : decode cX13_skip 13 = .ok (.getfield 60, 3) := by decide +kernel
theorem d_X13_skip_16 : decode cX13_skip 16 = .ok (.invokevirtual 66, 3) := by decide +kernel
theorem d_X13_skip_19 : decode cX13_skip 19 = .ok (.bipush 32, 2) := by decide +kernel
theorem d_X13_skip_21 : decode cX13_skip 21 = .ok (.if_icmp .ne 16, 3) := by decide +kernel
theorem d_X13_skip_24 : decode cX13_skip 24 = .ok (.aload_n 0, 1) := by decide +kernel
theorem d_X13_skip_25 : decode cX13_skip 25 = .ok (.dup, 1) := by decide +kernel
theorem d_X13_skip_26 : decode cX13_skip 26 = .ok (.getfield 60, 3) := by decide +kernel
theorem d_X13_skip_29 : decode cX13_skip 29 = .ok (.iconst 1, 1) := by decide +kernel
theorem d_X13_skip_30 : decode cX13_skip 30 = .ok (.iadd, 1) := by decide +kernel
theorem d_X13_skip_31 : decode cX13_skip 31 = .ok (.putfield 60, 3) := by decide +kernel
theorem d_X13_skip_34 : decode cX13_skip 34 = .ok (.goto (-34), 3) := by decide +kernel
theorem d_X13_skip_37 : decode cX13_skip 37 = .ok (.return_, 1) := by decide +kernel
abbrev rm_X13_skip : Room := { frames := 1, cells := 0, slots := 0, locals := 21 }
def B_X13_skip_37 (post : (Nat → Nat → Int32) → Prop) (mm : (Nat → Nat → Int32)) : Prop := post mm
def B_X13_skip_0 (post : (Nat → Nat → Int32) → Prop) : Nat → (Nat → Nat → Int32) → Prop
  | 0 => fun _ => False
  | n + 1 => fun mm => ((mm 0 8) ≤ (mm 0 9) → (B_X13_skip_37 post mm)) ∧ (¬ (mm 0 8) ≤ (mm 0 9) → (w_X13_letter (fun (r1 : Int32) (u2 : (Nat → Nat → Int32)) => (¬ r1 = 32 → (B_X13_skip_37 post u2)) ∧ (r1 = 32 → (B_X13_skip_0 post n (up2 u2 0 9 ((u2 0 9) + 1))))) (mm 0 9) mm))
def w_X13_skip (post : (Nat → Nat → Int32) → Prop) (mm : (Nat → Nat → Int32)) : Prop := ∃ n0, B_X13_skip_0 post n0 mm
section G_X13_skip
variable {p : Program} {l : Launch} {e : Env} {s : State} {m : MethodId} {args : Array Value} {below : List Frame} {meth : Method} {c : Code} {G : Gd} {ρ : Nat → Nat} {A : Nat → Prop} {cm : CMu} {oo : Nat → Int64}
set_option maxHeartbeats 4000000 in
set_option maxRecDepth 100000 in
theorem T_X13_skip_37 {post : (Nat → Nat → Int32) → Prop} (hl : l.stackTraces = false) (X : MC p l s m args meth c cX13_skip 1 RX13 G ρ A) (hr : meth.sig.returnType = none) (hex : ∀ z ∈ c.exceptionTable.toList, False) : ∀ (mm : (Nat → Nat → Int32)), B_X13_skip_37 post mm → LW p l e rm_X13_skip s m args below meth c (Qm below G ρ A (PV (fun u => (cm, u, oo)) post) noX args s 0 0) G ρ A 1 0 0 37 [] [] (cm, mm, oo) := by
  intro mm h
  unfold B_X13_skip_37 at h
  exact L_vret (pc := 37) X hr d_X13_skip_37 (by decide) (by decide) ⟨_, rfl, rfl, h⟩
set_option maxHeartbeats 4000000 in
set_option maxRecDepth 100000 in
theorem T_X13_skip_0 {post : (Nat → Nat → Int32) → Prop} (hl : l.stackTraces = false) (X : MC p l s m args meth c cX13_skip 1 RX13 G ρ A) (hr : meth.sig.returnType = none) (hex : ∀ z ∈ c.exceptionTable.toList, False) (n : Nat) : ∀ (mm : (Nat → Nat → Int32)), B_X13_skip_0 post n mm → LW p l e rm_X13_skip s m args below meth c (Qm below G ρ A (PV (fun u => (cm, u, oo)) post) noX args s 0 0) G ρ A 1 0 0 0 [(0, .ref 703)] [] (cm, mm, oo) := by
  induction n with
  | zero =>
    intro mm h
    exact False.elim h
  | succ n ih =>
    intro mm h
    unfold B_X13_skip_0 at h
    refine L_aload_n (pc := 0) X d_X13_skip_0 rfl 0 rfl ?_
    refine gf_X13_60 (pc := 1) X d_X13_skip_1 ?_
    refine L_aload_n (pc := 4) X d_X13_skip_4 rfl 0 rfl ?_
    refine gf_X13_63 (pc := 5) X d_X13_skip_5 ?_
    refine L_icmp_ge (pc := 8) (tgt := 37) X d_X13_skip_8 (by decide) (fun c8 => ?_) (fun c8 => ?_)
    · replace h := h.1 c8
      refine LW.sub [] rfl ?_
      exact T_X13_skip_37 hl X hr hex   _ h
    · replace h := h.2 c8
      refine L_aload_n (pc := 11) X d_X13_skip_11 rfl 0 rfl ?_
      refine L_aload_n (pc := 12) X d_X13_skip_12 rfl 0 rfl ?_
      refine gf_X13_60 (pc := 13) X d_X13_skip_13 ?_
      refine L_callVI (pc := 16) X lk_X13_66 (c_X13_letter X.hst  h) rfl rfl kd_703 (by decide) rfl rfl ⟨by decide, by decide⟩ ⟨by decide, by decide⟩ (Nat.zero_le _) d_X13_skip_16 rfl (fun x κ1 hx => L_nox hx) (fun r1 u2 h => ?_)
      refine L_bipush (pc := 19) (v := 32) X d_X13_skip_19 (by decide) ?_
      refine L_icmp_ne (pc := 21) (tgt := 37) X d_X13_skip_21 (by decide) (fun c21 => ?_) (fun c21 => ?_)
      · replace h := h.1 c21
        refine LW.sub [] rfl ?_
        exact T_X13_skip_37 hl X hr hex   _ h
      · replace h := h.2 c21
        refine L_aload_n (pc := 24) X d_X13_skip_24 rfl 0 rfl ?_
        refine L_dup (pc := 25) X d_X13_skip_25 rfl ?_
        refine gf_X13_60 (pc := 26) X d_X13_skip_26 ?_
        refine L_iconst (pc := 29) (v := 1) X d_X13_skip_29 (by decide) ?_
        refine L_iadd (pc := 30) X d_X13_skip_30 ?_
        refine pf_X13_60 (pc := 31) X d_X13_skip_31 ?_
        refine L_goto (pc := 34) (tgt := 0) X d_X13_skip_34 (by decide) ?_
        refine LW.sub [0] rfl ?_
        exact ih   _ h
set_option maxHeartbeats 4000000 in
set_option maxRecDepth 100000 in
theorem c_X13_skip (hl : l.stackTraces = false) {mm : (Nat → Nat → Int32)} {post : (Nat → Nat → Int32) → Prop} (h : w_X13_skip post mm) : CT l yX13_skip (.code yX13_skip cX13_skip 1 none) rm_X13_skip 0 0 G ρ [.ref 703] (cm, mm, oo) (PV (fun u => (cm, u, oo)) post) noX := by
  refine CT_of hl (by decide +kernel) rfl (Nat.le_of_ble_eq_true rfl) (lv0 := [(0, .ref 703)]) rfl (fun p e s m args below meth c A X hr hex hnm => ?_)
  unfold w_X13_skip at h
  obtain ⟨n0, h⟩ := h
  refine LW.sub [0] rfl ?_
  exact T_X13_skip_0 hl X hr hex n0   _ h
end G_X13_skip
theorem yk_X13_skip : yX13_skip.cls = RX13 ∧ yX13_skip.cls ≠ "java/lang/invoke/MethodHandle" ∧ yX13_skip.cls ≠ "java/lang/invoke/VarHandle" ∧ (parseMethodDescriptor yX13_skip.desc).map (fun d => d.parameters.length) = some 0 := by decide +kernel
theorem lk_X13_70 : LinkV RX13 70 RX13 yX13_skip (.code yX13_skip cX13_skip 1 none) 0 := ⟨tw_1337, tw_1339, tw_35, tw_83, tw_1340, yk_X13_skip⟩
theorem d_X13_isSign_0 : decode cX13_isSign 0 = .ok (.aload_n 0, 1) := by decide +kernel
theorem d_X13_isSign_1 : decode cX13_isSign 1 = .ok (.invokevirtual 70, 3) := by decide +kernel
theorem d_X13_isSign_4 : decode cX13_isSign 4 = .ok (.aload_n 0, 1) := by decide +kernel
theorem d_X13_isSign_5 : decode cX13_isSign 5 = .ok (.getfield 60, 3) := by decide +kernel
theorem d_X13_isSign_8 : decode cX13_isSign 8 = .ok (.aload_n 0, 1) := by decide +kernel
theorem d_X13_isSign_9 : decode cX13_isSign 9 = .ok (.getfield 63, 3) := by decide +kernel
theorem d_X13_isSign_12 : decode cX13_isSign 12 = .ok (.if_icmp .ge 19, 3) := by decide +kernel
theorem d_X13_isSign_15 : decode cX13_isSign 15 = .ok (.aload_n 0, 1) := by decide +kernel
theorem d_X13_isSign_16 : decode cX13_isSign 16 = .ok (.aload_n 0, 1) := by decide +kernel
theorem d_X13_isSign_17 : decode cX13_isSign 17 = .ok (.getfield 60, 3) := by decide +kernel
theorem d_X13_isSign_20 : decode cX13_isSign 20 = .ok (.invokevirtual 66, 3) := by decide +kernel
theorem d_X13_isSign_23 : decode cX13_isSign 23 = .ok (.iload_n 1, 1) := by decide +kernel
theorem d_X13_isSign_24 : decode cX13_isSign 24 = .ok (.if_icmp .ne 7, 3) := by decide +kernel
theorem d_X13_isSign_27 : decode cX13_isSign 27 = .ok (.iconst 1, 1) := by decide +kernel
theorem d_X13_isSign_28 : decode cX13_isSign 28 = .ok (.goto 4, 3) := by decide +kernel
theorem d_X13_isSign_31 : decode cX13_isSign 31 = .ok (.iconst 0, 1) := by decide +kernel
theorem d_X13_isSign_32 : decode cX13_isSign 32 = .ok (.ireturn, 1) := by decide +kernel
abbrev rm_X13_isSign : Room := { frames := 2, cells := 0, slots := 0, locals := 41 }
def w_X13_isSign (post : Bool → (Nat → Nat → Int32) → Prop) (x1 : Int32) (mm : (Nat → Nat → Int32)) : Prop := w_X13_skip (fun (u2 : (Nat → Nat → Int32)) => ((u2 0 8) ≤ (u2 0 9) → (post false u2)) ∧ (¬ (u2 0 8) ≤ (u2 0 9) → (w_X13_letter (fun (r3 : Int32) (u4 : (Nat → Nat → Int32)) => (¬ r3 = x1 → (post false u4)) ∧ (r3 = x1 → (post true u4))) (u2 0 9) u2)))  mm
section G_X13_isSign
variable {p : Program} {l : Launch} {e : Env} {s : State} {m : MethodId} {args : Array Value} {below : List Frame} {meth : Method} {c : Code} {G : Gd} {ρ : Nat → Nat} {A : Nat → Prop} {cm : CMu} {oo : Nat → Int64}
set_option maxHeartbeats 4000000 in
set_option maxRecDepth 100000 in
theorem c_X13_isSign (hl : l.stackTraces = false) {x1 : Int32} {mm : (Nat → Nat → Int32)} {post : Bool → (Nat → Nat → Int32) → Prop} (h : w_X13_isSign post x1 mm) : CT l yX13_isSign (.code yX13_isSign cX13_isSign 2 (some .boolean)) rm_X13_isSign 0 0 G ρ [.ref 703, .int x1] (cm, mm, oo) (PZ (fun u => (cm, u, oo)) post) noX := by
  refine CT_of hl (by decide +kernel) rfl (Nat.le_of_ble_eq_true rfl) (lv0 := [(0, .ref 703), (1, .int x1)]) rfl (fun p e s m args below meth c A X hr hex hnm => ?_)
  unfold w_X13_isSign at h
  refine L_aload_n (pc := 0) X d_X13_isSign_0 rfl 0 rfl ?_
  refine L_callVV (pc := 1) X lk_X13_70 (c_X13_skip X.hst  h) rfl rfl kd_703 (by decide) rfl rfl ⟨by decide, by decide⟩ ⟨by decide, by decide⟩ (Nat.zero_le _) d_X13_isSign_1 rfl (fun x κ1 hx => L_nox hx) (fun u2 h => ?_)
  refine L_aload_n (pc := 4) X d_X13_isSign_4 rfl 0 rfl ?_
  refine gf_X13_60 (pc := 5) X d_X13_isSign_5 ?_
  refine L_aload_n (pc := 8) X d_X13_isSign_8 rfl 0 rfl ?_
  refine gf_X13_63 (pc := 9) X d_X13_isSign_9 ?_
  refine L_icmp_ge (pc := 12) (tgt := 31) X d_X13_isSign_12 (by decide) (fun c12 => ?_) (fun c12 => ?_)
  · replace h := h.1 c12
    refine L_iconst (pc := 31) (v := 0) X d_X13_isSign_31 (by decide) ?_
    exact L_zretB (pc := 32) X hr d_X13_isSign_32 false rfl (by decide) (by decide) ⟨_, _, rfl, rfl, h⟩
  · replace h := h.2 c12
    refine L_aload_n (pc := 15) X d_X13_isSign_15 rfl 0 rfl ?_
    refine L_aload_n (pc := 16) X d_X13_isSign_16 rfl 0 rfl ?_
    refine gf_X13_60 (pc := 17) X d_X13_isSign_17 ?_
    refine L_callVI (pc := 20) X lk_X13_66 (c_X13_letter X.hst  h) rfl rfl kd_703 (by decide) rfl rfl ⟨by decide, by decide⟩ ⟨by decide, by decide⟩ (Nat.zero_le _) d_X13_isSign_20 rfl (fun x κ1 hx => L_nox hx) (fun r3 u4 h => ?_)
    refine L_iload_n (pc := 23) X d_X13_isSign_23 rfl 1 rfl ?_
    refine L_icmp_ne (pc := 24) (tgt := 31) X d_X13_isSign_24 (by decide) (fun c24 => ?_) (fun c24 => ?_)
    · replace h := h.1 c24
      refine L_iconst (pc := 31) (v := 0) X d_X13_isSign_31 (by decide) ?_
      exact L_zretB (pc := 32) X hr d_X13_isSign_32 false rfl (by decide) (by decide) ⟨_, _, rfl, rfl, h⟩
    · replace h := h.2 c24
      refine L_iconst (pc := 27) (v := 1) X d_X13_isSign_27 (by decide) ?_
      refine L_goto (pc := 28) (tgt := 32) X d_X13_isSign_28 (by decide) ?_
      exact L_zretB (pc := 32) X hr d_X13_isSign_32 true rfl (by decide) (by decide) ⟨_, _, rfl, rfl, h⟩
end G_X13_isSign
theorem d_MJ0_coder_7d493_0 : decode cJ0_coder_7d493 0 = .ok (.getstatic 38, 3) := by decide +kernel
theorem d_MJ0_coder_7d493_3 : decode cJ0_coder_7d493 3 = .ok (.ifCond .eq 10, 3) := by decide +kernel
theorem d_MJ0_coder_7d493_6 : decode cJ0_coder_7d493 6 = .ok (.aload_n 0, 1) := by decide +kernel
theorem d_MJ0_coder_7d493_7 : decode cJ0_coder_7d493 7 = .ok (.getfield 15, 3) := by decide +kernel
theorem d_MJ0_coder_7d493_10 : decode cJ0_coder_7d493 10 = .ok (.goto 4, 3) := by decide +kernel
theorem d_MJ0_coder_7d493_14 : decode cJ0_coder_7d493 14 = .ok (.ireturn, 1) := by decide +kernel
abbrev rm_MJ0_coder_7d493 : Room := { frames := 0, cells := 0, slots := 0, locals := 0 }
def w_MJ0_coder_7d493 (post : Int32 → (Nat → Nat → Int32) → Prop) (a0 : Nat) (mm : (Nat → Nat → Int32)) : Prop := post 0 mm
section G_MJ0_coder_7d493
variable {p : Program} {l : Launch} {e : Env} {s : State} {m : MethodId} {args : Array Value} {below : List Frame} {meth : Method} {c : Code} {G : Gd} {ρ : Nat → Nat} {A : Nat → Prop} {cm : CMu} {oo : Nat → Int64}
set_option maxHeartbeats 4000000 in
set_option maxRecDepth 100000 in
theorem c_MJ0_coder_7d493 (hl : l.stackTraces = false) {a0 : Nat} (h_a0 : a0 < 30) {mm : (Nat → Nat → Int32)} {post : Int32 → (Nat → Nat → Int32) → Prop} (h : w_MJ0_coder_7d493 post a0 mm) : CT l yJ0_coder_7d493 (.code yJ0_coder_7d493 cJ0_coder_7d493 1 (some .byte)) rm_MJ0_coder_7d493 0 0 G ρ [.ref (2001 + a0)] (cm, mm, oo) (PI (fun u => (cm, u, oo)) post) noX := by
  refine CT_of hl (by decide +kernel) rfl (Nat.le_of_ble_eq_true rfl) (lv0 := [(0, .ref (2001 + a0))]) rfl (fun p e s m args below meth c A X hr hex hnm => ?_)
  unfold w_MJ0_coder_7d493 at h
  refine L_getsCS (pc := 0) X d_MJ0_coder_7d493_0 tw_629 ?_
  refine L_if_eq (pc := 3) (tgt := 13) X d_MJ0_coder_7d493_3 (by decide) (fun c3 => absurd c3 (by decide)) (fun c3 => ?_)
  refine L_aload_n (pc := 6) X d_MJ0_coder_7d493_6 rfl 0 rfl ?_
  refine L_strC (pc := 7) X h_a0 d_MJ0_coder_7d493_7 tw_1627 ?_
  refine L_goto (pc := 10) (tgt := 14) X d_MJ0_coder_7d493_10 (by decide) ?_
  exact L_nret (pc := 14) X hr d_MJ0_coder_7d493_14 rfl (by decide) (by decide) ⟨_, _, rfl, rfl, h⟩
end G_MJ0_coder_7d493
theorem d_MJ0_isLatin1_aae02_0 : decode cJ0_isLatin1_aae02 0 = .ok (.getstatic 38, 3) := by decide +kernel
theorem d_MJ0_isLatin1_aae02_3 : decode cJ0_isLatin1_aae02 3 = .ok (.ifCond .eq 14, 3) := by decide +kernel
theorem d_MJ0_isLatin1_aae02_6 : decode cJ0_isLatin1_aae02 6 = .ok (.aload_n 0, 1) := by decide +kernel
theorem d_MJ0_isLatin1_aae02_7 : decode cJ0_isLatin1_aae02 7 = .ok (.getfield 15, 3) := by decide +kernel
theorem d_MJ0_isLatin1_aae02_10 : decode cJ0_isLatin1_aae02 10 = .ok (.ifCond .ne 7, 3) := by decide +kernel
theorem d_MJ0_isLatin1_aae02_13 : decode cJ0_isLatin1_aae02 13 = .ok (.iconst 1, 1) := by decide +kernel
theorem d_MJ0_isLatin1_aae02_14 : decode cJ0_isLatin1_aae02 14 = .ok (.goto 4, 3) := by decide +kernel
theorem d_MJ0_isLatin1_aae02_18 : decode cJ0_isLatin1_aae02 18 = .ok (.ireturn, 1) := by decide +kernel
abbrev rm_MJ0_isLatin1_aae02 : Room := { frames := 0, cells := 0, slots := 0, locals := 0 }
def w_MJ0_isLatin1_aae02 (post : Bool → (Nat → Nat → Int32) → Prop) (a0 : Nat) (mm : (Nat → Nat → Int32)) : Prop := post true mm
section G_MJ0_isLatin1_aae02
variable {p : Program} {l : Launch} {e : Env} {s : State} {m : MethodId} {args : Array Value} {below : List Frame} {meth : Method} {c : Code} {G : Gd} {ρ : Nat → Nat} {A : Nat → Prop} {cm : CMu} {oo : Nat → Int64}
set_option maxHeartbeats 4000000 in
set_option maxRecDepth 100000 in
theorem c_MJ0_isLatin1_aae02 (hl : l.stackTraces = false) {a0 : Nat} (h_a0 : a0 < 30) {mm : (Nat → Nat → Int32)} {post : Bool → (Nat → Nat → Int32) → Prop} (h : w_MJ0_isLatin1_aae02 post a0 mm) : CT l yJ0_isLatin1_aae02 (.code yJ0_isLatin1_aae02 cJ0_isLatin1_aae02 1 (some .boolean)) rm_MJ0_isLatin1_aae02 0 0 G ρ [.ref (2001 + a0)] (cm, mm, oo) (PZ (fun u => (cm, u, oo)) post) noX := by
  refine CT_of hl (by decide +kernel) rfl (Nat.le_of_ble_eq_true rfl) (lv0 := [(0, .ref (2001 + a0))]) rfl (fun p e s m args below meth c A X hr hex hnm => ?_)
  unfold w_MJ0_isLatin1_aae02 at h
  refine L_getsCS (pc := 0) X d_MJ0_isLatin1_aae02_0 tw_629 ?_
  refine L_if_eq (pc := 3) (tgt := 17) X d_MJ0_isLatin1_aae02_3 (by decide) (fun c3 => absurd c3 (by decide)) (fun c3 => ?_)
  refine L_aload_n (pc := 6) X d_MJ0_isLatin1_aae02_6 rfl 0 rfl ?_
  refine L_strC (pc := 7) X h_a0 d_MJ0_isLatin1_aae02_7 tw_1627 ?_
  refine L_if_ne (pc := 10) (tgt := 17) X d_MJ0_isLatin1_aae02_10 (by decide) (fun c10 => absurd c10 (by decide)) (fun c10 => ?_)
  refine L_iconst (pc := 13) (v := 1) X d_MJ0_isLatin1_aae02_13 (by decide) ?_
  refine L_goto (pc := 14) (tgt := 18) X d_MJ0_isLatin1_aae02_14 (by decide) ?_
  exact L_zretB (pc := 18) X hr d_MJ0_isLatin1_aae02_18 true rfl (by decide) (by decide) ⟨_, _, rfl, rfl, h⟩
end G_MJ0_isLatin1_aae02
theorem d_MJ0_length_8abf5_0 : decode cJ0_length_8abf5 0 = .ok (.aload_n 0, 1) := by decide +kernel
theorem d_MJ0_length_8abf5_1 : decode cJ0_length_8abf5 1 = .ok (.getfield 9, 3) := by decide +kernel
theorem d_MJ0_length_8abf5_4 : decode cJ0_length_8abf5 4 = .ok (.arraylength, 1) := by decide +kernel
theorem d_MJ0_length_8abf5_5 : decode cJ0_length_8abf5 5 = .ok (.aload_n 0, 1) := by decide +kernel
theorem d_MJ0_length_8abf5_6 : decode cJ0_length_8abf5 6 = .ok (.invokevirtual 335, 3) := by decide +kernel
theorem d_MJ0_length_8abf5_9 : decode cJ0_length_8abf5 9 = .ok (.ishr, 1) := by decide +kernel
theorem d_MJ0_length_8abf5_10 : decode cJ0_length_8abf5 10 = .ok (.ireturn, 1) := by decide +kernel
abbrev rm_MJ0_length_8abf5 : Room := { frames := 1, cells := 0, slots := 0, locals := 20 }
def w_MJ0_length_8abf5 (post : Int32 → (Nat → Nat → Int32) → Prop) (a0 : Nat) (mm : (Nat → Nat → Int32)) : Prop := w_MJ0_coder_7d493 (fun (r1 : Int32) (u2 : (Nat → Nat → Int32)) => r1 = 0 ∧ (post ((Int32.ofNat (slen.getD a0 0)) >>> (0 &&& 31)) u2)) a0 mm
section G_MJ0_length_8abf5
variable {p : Program} {l : Launch} {e : Env} {s : State} {m : MethodId} {args : Array Value} {below : List Frame} {meth : Method} {c : Code} {G : Gd} {ρ : Nat → Nat} {A : Nat → Prop} {cm : CMu} {oo : Nat → Int64}
set_option maxHeartbeats 4000000 in
set_option maxRecDepth 100000 in
theorem c_MJ0_length_8abf5 (hl : l.stackTraces = false) {a0 : Nat} (h_a0 : a0 < 30) {mm : (Nat → Nat → Int32)} {post : Int32 → (Nat → Nat → Int32) → Prop} (h : w_MJ0_length_8abf5 post a0 mm) : CT l yJ0_length_8abf5 (.code yJ0_length_8abf5 cJ0_length_8abf5 1 (some .int)) rm_MJ0_length_8abf5 0 0 G ρ [.ref (2001 + a0)] (cm, mm, oo) (PI (fun u => (cm, u, oo)) post) noX := by
  refine CT_of hl (by decide +kernel) rfl (Nat.le_of_ble_eq_true rfl) (lv0 := [(0, .ref (2001 + a0))]) rfl (fun p e s m args below meth c A X hr hex hnm => ?_)
  unfold w_MJ0_length_8abf5 at h
  refine L_aload_n (pc := 0) X d_MJ0_length_8abf5_0 rfl 0 rfl ?_
  refine L_strV (pc := 1) X h_a0 d_MJ0_length_8abf5_1 tw_1626 ?_
  refine L_bytN (pc := 4) X h_a0 d_MJ0_length_8abf5_4 ?_
  refine L_aload_n (pc := 5) X d_MJ0_length_8abf5_5 rfl 0 rfl ?_
  refine L_callVRI (pc := 6) X rfl (X.rvS h_a0) lk_J0_335 (c_MJ0_coder_7d493 X.hst h_a0 h) rfl rfl rfl ⟨by decide, by decide⟩ ⟨by decide, by decide⟩ (Nat.le_of_ble_eq_true rfl) d_MJ0_length_8abf5_6 rfl (fun r1 u2 h => ?_)
  obtain ⟨rfl, h⟩ := h
  refine L_ishr (pc := 9) X d_MJ0_length_8abf5_9 ?_
  exact L_iret (pc := 10) X hr d_MJ0_length_8abf5_10 (by decide) (by decide) ⟨_, _, rfl, rfl, h⟩
end G_MJ0_length_8abf5
theorem d_MJ3_checkIndex_8e157_0 : decode cJ3_checkIndex_8e157 0 = .ok (.iload_n 0, 1) := by decide +kernel
theorem d_MJ3_checkIndex_8e157_1 : decode cJ3_checkIndex_8e157 1 = .ok (.ifCond .lt 8, 3) := by decide +kernel
theorem d_MJ3_checkIndex_8e157_4 : decode cJ3_checkIndex_8e157 4 = .ok (.iload_n 0, 1) := by decide +kernel
theorem d_MJ3_checkIndex_8e157_5 : decode cJ3_checkIndex_8e157 5 = .ok (.iload_n 1, 1) := by decide +kernel
theorem d_MJ3_checkIndex_8e157_6 : decode cJ3_checkIndex_8e157 6 = .ok (.if_icmp .lt 10, 3) := by decide +kernel
theorem d_MJ3_checkIndex_8e157_9 : decode cJ3_checkIndex_8e157 9 = .ok (.aload_n 2, 1) := by decide +kernel
theorem d_MJ3_checkIndex_8e157_16 : decode cJ3_checkIndex_8e157 16 = .ok (.iload_n 0, 1) := by decide +kernel
theorem d_MJ3_checkIndex_8e157_17 : decode cJ3_checkIndex_8e157 17 = .ok (.ireturn, 1) := by decide +kernel
abbrev rm_MJ3_checkIndex_8e157 : Room := { frames := 0, cells := 0, slots := 0, locals := 0 }
def B_MJ3_checkIndex_8e157_9 (post : Int32 → (Nat → Nat → Int32) → Prop) (v0 : Int32) (v1 : Int32) (v2 : Value) (mm : (Nat → Nat → Int32)) : Prop := False
def w_MJ3_checkIndex_8e157 (post : Int32 → (Nat → Nat → Int32) → Prop) (x0 : Int32) (x1 : Int32) (a2 : Value) (mm : (Nat → Nat → Int32)) : Prop := (x0 < 0 → (B_MJ3_checkIndex_8e157_9 post x0 x1 a2 mm)) ∧ (¬ x0 < 0 → ((x0 < x1 → (post x0 mm)) ∧ (¬ x0 < x1 → (B_MJ3_checkIndex_8e157_9 post x0 x1 a2 mm))))
section G_MJ3_checkIndex_8e157
variable {p : Program} {l : Launch} {e : Env} {s : State} {m : MethodId} {args : Array Value} {below : List Frame} {meth : Method} {c : Code} {G : Gd} {ρ : Nat → Nat} {A : Nat → Prop} {cm : CMu} {oo : Nat → Int64}
set_option maxHeartbeats 4000000 in
set_option maxRecDepth 100000 in
theorem T_MJ3_checkIndex_8e157_9 {post : Int32 → (Nat → Nat → Int32) → Prop} (hl : l.stackTraces = false) (X : MC p l s m args meth c cJ3_checkIndex_8e157 3 RJ3 G ρ A) (hr : meth.sig.returnType = (some .int)) (hex : ∀ z ∈ c.exceptionTable.toList, False) : ∀ (v0 : Int32) (v1 : Int32) (v2 : Value) (h_v2 : v2.category = 1) (mm : (Nat → Nat → Int32)), B_MJ3_checkIndex_8e157_9 post v0 v1 v2 mm → LW p l e rm_MJ3_checkIndex_8e157 s m args below meth c (Qm below G ρ A (PI (fun u => (cm, u, oo)) post) noX args s 0 0) G ρ A 3 0 0 9 [(0, .int v0), (1, .int v1), (2, v2)] [] (cm, mm, oo) := by
  intro v0 v1 v2 h_v2 mm h
  unfold B_MJ3_checkIndex_8e157_9 at h
  exact False.elim h
set_option maxHeartbeats 4000000 in
set_option maxRecDepth 100000 in
theorem c_MJ3_checkIndex_8e157 (hl : l.stackTraces = false) {x0 : Int32} {x1 : Int32} {a2 : Value} (h_a2 : a2.category = 1) {mm : (Nat → Nat → Int32)} {post : Int32 → (Nat → Nat → Int32) → Prop} (h : w_MJ3_checkIndex_8e157 post x0 x1 a2 mm) : CT l yJ3_checkIndex_8e157 (.code yJ3_checkIndex_8e157 cJ3_checkIndex_8e157 3 (some .int)) rm_MJ3_checkIndex_8e157 0 0 G ρ [.int x0, .int x1, a2] (cm, mm, oo) (PI (fun u => (cm, u, oo)) post) noX := by
  refine CT_of hl (by decide +kernel) rfl (by simp [wv_cat, cat_r, cat_i, cat_l, h_a2]) (lv0 := [(0, .int x0), (1, .int x1), (2, a2)]) (by simp [lv_args, wv_cat, cat_r, cat_i, cat_l, h_a2]) (fun p e s m args below meth c A X hr hex hnm => ?_)
  unfold w_MJ3_checkIndex_8e157 at h
  refine L_iload_n (pc := 0) X d_MJ3_checkIndex_8e157_0 rfl 0 rfl ?_
  refine L_if_lt (pc := 1) (tgt := 9) X d_MJ3_checkIndex_8e157_1 (by decide) (fun c1 => ?_) (fun c1 => ?_)
  · replace h := h.1 c1
    refine LW.sub [0, 1, 2] rfl ?_
    exact T_MJ3_checkIndex_8e157_9 hl X hr hex _ _ _ h_a2 _ h
  · replace h := h.2 c1
    refine L_iload_n (pc := 4) X d_MJ3_checkIndex_8e157_4 rfl 0 rfl ?_
    refine L_iload_n (pc := 5) X d_MJ3_checkIndex_8e157_5 rfl 1 rfl ?_
    refine L_icmp_lt (pc := 6) (tgt := 16) X d_MJ3_checkIndex_8e157_6 (by decide) (fun c6 => ?_) (fun c6 => ?_)
    · replace h := h.1 c6
      refine L_iload_n (pc := 16) X d_MJ3_checkIndex_8e157_16 rfl 0 rfl ?_
      exact L_iret (pc := 17) X hr d_MJ3_checkIndex_8e157_17 (by decide) (by decide) ⟨_, _, rfl, rfl, h⟩
    · replace h := h.2 c6
      refine LW.sub [0, 1, 2] rfl ?_
      exact T_MJ3_checkIndex_8e157_9 hl X hr hex _ _ _ h_a2 _ h
end G_MJ3_checkIndex_8e157
theorem d_MJ0_checkIndex_df160_0 : decode cJ0_checkIndex_df160 0 = .ok (.iload_n 0, 1) := by decide +kernel
theorem d_MJ0_checkIndex_df160_1 : decode cJ0_checkIndex_df160 1 = .ok (.iload_n 1, 1) := by decide +kernel
theorem d_MJ0_checkIndex_df160_2 : decode cJ0_checkIndex_df160 2 = .ok (.getstatic 1053, 3) := by decide +kernel
theorem d_MJ0_checkIndex_df160_5 : decode cJ0_checkIndex_df160 5 = .ok (.invokestatic 1059, 3) := by decide +kernel
theorem d_MJ0_checkIndex_df160_8 : decode cJ0_checkIndex_df160 8 = .ok (.pop, 1) := by decide +kernel
theorem d_MJ0_checkIndex_df160_9 : decode cJ0_checkIndex_df160 9 = .ok (.return_, 1) := by decide +kernel
abbrev rm_MJ0_checkIndex_df160 : Room := { frames := 1, cells := 0, slots := 0, locals := 22 }
def w_MJ0_checkIndex_df160 (post : (Nat → Nat → Int32) → Prop) (x0 : Int32) (x1 : Int32) (mm : (Nat → Nat → Int32)) : Prop := ∀ nv1 : Value, nv1.category = 1 → w_MJ3_checkIndex_8e157 (fun (r2 : Int32) (u3 : (Nat → Nat → Int32)) => post u3) x0 x1 nv1 mm
section G_MJ0_checkIndex_df160
variable {p : Program} {l : Launch} {e : Env} {s : State} {m : MethodId} {args : Array Value} {below : List Frame} {meth : Method} {c : Code} {G : Gd} {ρ : Nat → Nat} {A : Nat → Prop} {cm : CMu} {oo : Nat → Int64}
set_option maxHeartbeats 4000000 in
set_option maxRecDepth 100000 in
theorem c_MJ0_checkIndex_df160 (hl : l.stackTraces = false) {x0 : Int32} {x1 : Int32} {mm : (Nat → Nat → Int32)} {post : (Nat → Nat → Int32) → Prop} (h : w_MJ0_checkIndex_df160 post x0 x1 mm) : CT l yJ0_checkIndex_df160 (.code yJ0_checkIndex_df160 cJ0_checkIndex_df160 2 none) rm_MJ0_checkIndex_df160 0 0 G ρ [.int x0, .int x1] (cm, mm, oo) (PV (fun u => (cm, u, oo)) post) noX := by
  refine CT_of hl (by decide +kernel) rfl (Nat.le_of_ble_eq_true rfl) (lv0 := [(0, .int x0), (1, .int x1)]) rfl (fun p e s m args below meth c A X hr hex hnm => ?_)
  unfold w_MJ0_checkIndex_df160 at h
  refine L_iload_n (pc := 0) X d_MJ0_checkIndex_df160_0 rfl 0 rfl ?_
  refine L_iload_n (pc := 1) X d_MJ0_checkIndex_df160_1 rfl 1 rfl ?_
  refine L_getsSI (pc := 2) X d_MJ0_checkIndex_df160_2 tw_645 (fun nv1 h_nv1 => ?_)
  replace h := h nv1 h_nv1
  refine L_callSI (pc := 5) X lk_J0_1059 (c_MJ3_checkIndex_8e157 X.hst h_nv1 h) rfl rfl rfl ⟨by decide, by decide⟩ ⟨by decide, by decide⟩ (Nat.zero_le _) d_MJ0_checkIndex_df160_5 rfl (fun x κ1 hx => L_nox hx) (fun r2 u3 h => ?_)
  refine L_pop (pc := 8) X d_MJ0_checkIndex_df160_8 rfl ?_
  exact L_vret (pc := 9) X hr d_MJ0_checkIndex_df160_9 (by decide) (by decide) ⟨_, rfl, rfl, h⟩
end G_MJ0_checkIndex_df160
theorem d_MJ1_charAt_3b067_0 : decode cJ1_charAt_3b067 0 = .ok (.iload_n 1, 1) := by decide +kernel
theorem d_MJ1_charAt_3b067_1 : decode cJ1_charAt_3b067 1 = .ok (.aload_n 0, 1) := by decide +kernel
theorem d_MJ1_charAt_3b067_2 : decode cJ1_charAt_3b067 2 = .ok (.arraylength, 1) := by decide +kernel
theorem d_MJ1_charAt_3b067_3 : decode cJ1_charAt_3b067 3 = .ok (.invokestatic 9, 3) := by decide +kernel
theorem d_MJ1_charAt_3b067_6 : decode cJ1_charAt_3b067 6 = .ok (.aload_n 0, 1) := by decide +kernel
theorem d_MJ1_charAt_3b067_7 : decode cJ1_charAt_3b067 7 = .ok (.iload_n 1, 1) := by decide +kernel
theorem d_MJ1_charAt_3b067_8 : decode cJ1_charAt_3b067 8 = .ok (.baload, 1) := by decide +kernel
theorem d_MJ1_charAt_3b067_9 : decode cJ1_charAt_3b067 9 = .ok (.sipush 255, 3) := by decide +kernel
theorem d_MJ1_charAt_3b067_12 : decode cJ1_charAt_3b067 12 = .ok (.iand, 1) := by decide +kernel
theorem d_MJ1_charAt_3b067_13 : decode cJ1_charAt_3b067 13 = .ok (.i2c, 1) := by decide +kernel
theorem d_MJ1_charAt_3b067_14 : decode cJ1_charAt_3b067 14 = .ok (.ireturn, 1) := by decide +kernel
abbrev rm_MJ1_charAt_3b067 : Room := { frames := 2, cells := 0, slots := 0, locals := 43 }
def w_MJ1_charAt_3b067 (post : Int32 → (Nat → Nat → Int32) → Prop) (a0 : Nat) (x1 : Int32) (mm : (Nat → Nat → Int32)) : Prop := w_MJ0_checkIndex_df160 (fun (u2 : (Nat → Nat → Int32)) => (vp_in x1 (slen.getD a0 0)) ∧ (narrow .char (.int (UInt32.toInt32 (Int32.toUInt32 (((sbyt.getD a0 []).getD (Int32.toNatClampNeg x1) 0) &&& 255) % 65536))) = .int (UInt32.toInt32 (Int32.toUInt32 (((sbyt.getD a0 []).getD (Int32.toNatClampNeg x1) 0) &&& 255) % 65536))) ∧ post (UInt32.toInt32 (Int32.toUInt32 (((sbyt.getD a0 []).getD (Int32.toNatClampNeg x1) 0) &&& 255) % 65536)) u2) x1 (Int32.ofNat (slen.getD a0 0)) mm
section G_MJ1_charAt_3b067
variable {p : Program} {l : Launch} {e : Env} {s : State} {m : MethodId} {args : Array Value} {below : List Frame} {meth : Method} {c : Code} {G : Gd} {ρ : Nat → Nat} {A : Nat → Prop} {cm : CMu} {oo : Nat → Int64}
set_option maxHeartbeats 4000000 in
set_option maxRecDepth 100000 in
theorem c_MJ1_charAt_3b067 (hl : l.stackTraces = false) {a0 : Nat} {x1 : Int32} (h_a0 : a0 < 30) {mm : (Nat → Nat → Int32)} {post : Int32 → (Nat → Nat → Int32) → Prop} (h : w_MJ1_charAt_3b067 post a0 x1 mm) : CT l yJ1_charAt_3b067 (.code yJ1_charAt_3b067 cJ1_charAt_3b067 2 (some .char)) rm_MJ1_charAt_3b067 0 0 G ρ [.ref (3001 + a0), .int x1] (cm, mm, oo) (PI (fun u => (cm, u, oo)) post) noX := by
  refine CT_of hl (by decide +kernel) rfl (Nat.le_of_ble_eq_true rfl) (lv0 := [(0, .ref (3001 + a0)), (1, .int x1)]) rfl (fun p e s m args below meth c A X hr hex hnm => ?_)
  unfold w_MJ1_charAt_3b067 at h
  refine L_iload_n (pc := 0) X d_MJ1_charAt_3b067_0 rfl 1 rfl ?_
  refine L_aload_n (pc := 1) X d_MJ1_charAt_3b067_1 rfl 0 rfl ?_
  refine L_bytN (pc := 2) X h_a0 d_MJ1_charAt_3b067_2 ?_
  refine L_callSV (pc := 3) X lk_J1_9 (c_MJ0_checkIndex_df160 X.hst  h) rfl rfl rfl ⟨by decide, by decide⟩ ⟨by decide, by decide⟩ (Nat.zero_le _) d_MJ1_charAt_3b067_3 rfl (fun x κ1 hx => L_nox hx) (fun u2 h => ?_)
  refine L_aload_n (pc := 6) X d_MJ1_charAt_3b067_6 rfl 0 rfl ?_
  refine L_iload_n (pc := 7) X d_MJ1_charAt_3b067_7 rfl 1 rfl ?_
  obtain ⟨q3, h⟩ := h
  refine L_bytL (pc := 8) X h_a0 q3 d_MJ1_charAt_3b067_8 ?_
  refine L_sipush (pc := 9) (v := 255) X d_MJ1_charAt_3b067_9 (by decide) ?_
  refine L_iand (pc := 12) X d_MJ1_charAt_3b067_12 ?_
  refine L_i2c (pc := 13) X d_MJ1_charAt_3b067_13 ?_
  obtain ⟨q4, h⟩ := h
  exact L_nret (pc := 14) X hr d_MJ1_charAt_3b067_14 q4 (by decide) (by decide) ⟨_, _, rfl, rfl, h⟩
end G_MJ1_charAt_3b067
theorem d_MJ0_charAt_5068e_0 : decode cJ0_charAt_5068e 0 = .ok (.aload_n 0, 1) := by decide +kernel
theorem d_MJ0_charAt_5068e_1 : decode cJ0_charAt_5068e 1 = .ok (.invokevirtual 492, 3) := by decide +kernel
theorem d_MJ0_charAt_5068e_4 : decode cJ0_charAt_5068e 4 = .ok (.ifCond .eq 12, 3) := by decide +kernel
theorem d_MJ0_charAt_5068e_7 : decode cJ0_charAt_5068e 7 = .ok (.aload_n 0, 1) := by decide +kernel
theorem d_MJ0_charAt_5068e_8 : decode cJ0_charAt_5068e 8 = .ok (.getfield 9, 3) := by decide +kernel
theorem d_MJ0_charAt_5068e_11 : decode cJ0_charAt_5068e 11 = .ok (.iload_n 1, 1) := by decide +kernel
theorem d_MJ0_charAt_5068e_12 : decode cJ0_charAt_5068e 12 = .ok (.invokestatic 495, 3) := by decide +kernel
theorem d_MJ0_charAt_5068e_15 : decode cJ0_charAt_5068e 15 = .ok (.ireturn, 1) := by decide +kernel
abbrev rm_MJ0_charAt_5068e : Room := { frames := 3, cells := 0, slots := 0, locals := 64 }
def w_MJ0_charAt_5068e (post : Int32 → (Nat → Nat → Int32) → Prop) (a0 : Nat) (x1 : Int32) (mm : (Nat → Nat → Int32)) : Prop := w_MJ0_isLatin1_aae02 (fun (r1 : Bool) (u2 : (Nat → Nat → Int32)) => r1 = true ∧ (w_MJ1_charAt_3b067 (fun (r3 : Int32) (u4 : (Nat → Nat → Int32)) => (narrow .char (.int r3) = .int r3) ∧ post r3 u4) a0 x1 u2)) a0 mm
section G_MJ0_charAt_5068e
variable {p : Program} {l : Launch} {e : Env} {s : State} {m : MethodId} {args : Array Value} {below : List Frame} {meth : Method} {c : Code} {G : Gd} {ρ : Nat → Nat} {A : Nat → Prop} {cm : CMu} {oo : Nat → Int64}
set_option maxHeartbeats 4000000 in
set_option maxRecDepth 100000 in
theorem c_MJ0_charAt_5068e (hl : l.stackTraces = false) {a0 : Nat} {x1 : Int32} (h_a0 : a0 < 30) {mm : (Nat → Nat → Int32)} {post : Int32 → (Nat → Nat → Int32) → Prop} (h : w_MJ0_charAt_5068e post a0 x1 mm) : CT l yJ0_charAt_5068e (.code yJ0_charAt_5068e cJ0_charAt_5068e 2 (some .char)) rm_MJ0_charAt_5068e 0 0 G ρ [.ref (2001 + a0), .int x1] (cm, mm, oo) (PI (fun u => (cm, u, oo)) post) noX := by
  refine CT_of hl (by decide +kernel) rfl (Nat.le_of_ble_eq_true rfl) (lv0 := [(0, .ref (2001 + a0)), (1, .int x1)]) rfl (fun p e s m args below meth c A X hr hex hnm => ?_)
  unfold w_MJ0_charAt_5068e at h
  refine L_aload_n (pc := 0) X d_MJ0_charAt_5068e_0 rfl 0 rfl ?_
  refine L_callVRZ (pc := 1) X rfl (X.rvS h_a0) lk_J0_492 (c_MJ0_isLatin1_aae02 X.hst h_a0 h) rfl rfl rfl ⟨by decide, by decide⟩ ⟨by decide, by decide⟩ (Nat.zero_le _) d_MJ0_charAt_5068e_1 rfl (fun r1 u2 h => ?_)
  obtain ⟨rfl, h⟩ := h
  refine L_if_eq (pc := 4) (tgt := 16) X d_MJ0_charAt_5068e_4 (by decide) (fun c4 => absurd c4 (by decide)) (fun c4 => ?_)
  refine L_aload_n (pc := 7) X d_MJ0_charAt_5068e_7 rfl 0 rfl ?_
  refine L_strV (pc := 8) X h_a0 d_MJ0_charAt_5068e_8 tw_1626 ?_
  refine L_iload_n (pc := 11) X d_MJ0_charAt_5068e_11 rfl 1 rfl ?_
  refine L_callSI (pc := 12) X lk_J0_495 (c_MJ1_charAt_3b067 X.hst h_a0 h) rfl rfl rfl ⟨by decide, by decide⟩ ⟨by decide, by decide⟩ (Nat.zero_le _) d_MJ0_charAt_5068e_12 rfl (fun x κ1 hx => L_nox hx) (fun r3 u4 h => ?_)
  obtain ⟨q5, h⟩ := h
  exact L_nret (pc := 15) X hr d_MJ0_charAt_5068e_15 q5 (by decide) (by decide) ⟨_, _, rfl, rfl, h⟩
end G_MJ0_charAt_5068e
theorem lk_X13_73 : LinkV RX13 73 RJ0 yJ0_length_8abf5 (.code yJ0_length_8abf5 cJ0_length_8abf5 1 (some .int)) 0 := ⟨tw_1358, tw_622, tw_623, tw_87, tw_624, yk_J0_length_8abf5⟩
theorem lk_X13_79 : LinkV RX13 79 RJ0 yJ0_charAt_5068e (.code yJ0_charAt_5068e cJ0_charAt_5068e 2 (some .char)) 1 := ⟨tw_1359, tw_632, tw_633, tw_87, tw_634, yk_J0_charAt_5068e⟩
theorem d_X13_has_0 : decode cX13_has 0 = .ok (.aload_n 0, 1) := by decide +kernel
theorem d_X13_has_1 : decode cX13_has 1 = .ok (.invokevirtual 70, 3) := by decide +kernel
theorem d_X13_has_4 : decode cX13_has 4 = .ok (.aload_n 0, 1) := by decide +kernel
theorem d_X13_has_5 : decode cX13_has 5 = .ok (.getfield 60, 3) := by decide +kernel
theorem d_X13_has_8 : decode cX13_has 8 = .ok (.istore_n 2, 1) := by decide +kernel
theorem d_X13_has_9 : decode cX13_has 9 = .ok (.iload_n 2, 1) := by decide +kernel
theorem d_X13_has_10 : decode cX13_has 10 = .ok (.aload_n 0, 1) := by decide +kernel
theorem d_X13_has_11 : decode cX13_has 11 = .ok (.getfield 63, 3) := by decide +kernel
theorem d_X13_has_14 : decode cX13_has 14 = .ok (.if_icmp .ge 24, 3) := by decide +kernel
theorem d_X13_has_17 : decode cX13_has 17 = .ok (.aload_n 0, 1) := by decide +kernel
theorem d_X13_has_18 : decode cX13_has 18 = .ok (.iload_n 2, 1) := by decide +kernel
theorem d_X13_has_19 : decode cX13_has 19 = .ok (.invokevirtual 66, 3) := by decide +kernel
theorem d_X13_has_22 : decode cX13_has 22 = .ok (.bipush 97, 2) := by decide +kernel
theorem d_X13_has_24 : decode cX13_has 24 = .ok (.bipush 122, 2) := by decide +kernel
theorem d_X13_has_26 : decode cX13_has 26 = .ok (.invokestatic 50, 3) := by decide +kernel
theorem d_X13_has_29 : decode cX13_has 29 = .ok (.ifCond .eq 9, 3) := by decide +kernel
theorem d_X13_has_32 : decode cX13_has 32 = .ok (.iinc 2 1, 3) := by decide +kernel
theorem d_X13_has_35 : decode cX13_has 35 = .ok (.goto (-26), 3) := by decide +kernel
theorem d_X13_has_38 : decode cX13_has 38 = .ok (.iload_n 2, 1) := by decide +kernel
theorem d_X13_has_39 : decode cX13_has 39 = .ok (.aload_n 0, 1) := by decide +kernel
theorem d_X13_has_40 : decode cX13_has 40 = .ok (.getfield 60, 3) := by decide +kernel
theorem d_X13_has_43 : decode cX13_has 43 = .ok (.isub, 1) := by decide +kernel
theorem d_X13_has_44 : decode cX13_has 44 = .ok (.aload_n 1, 1) := by decide +kernel
theorem d_X13_has_45 : decode cX13_has 45 = .ok (.invokevirtual 73, 3) := by decide +kernel
theorem d_X13_has_48 : decode cX13_has 48 = .ok (.if_icmp .eq 5, 3) := by decide +kernel
theorem d_X13_has_51 : decode cX13_has 51 = .ok (.iconst 0, 1) := by decide +kernel
theorem d_X13_has_52 : decode cX13_has 52 = .ok (.ireturn, 1) := by decide +kernel
theorem d_X13_has_53 : decode cX13_has 53 = .ok (.iconst 0, 1) := by decide +kernel
theorem d_X13_has_54 : decode cX13_has 54 = .ok (.istore_n 3, 1) := by decide +kernel
theorem d_X13_has_55 : decode cX13_has 55 = .ok (.iload_n 3, 1) := by decide +kernel
theorem d_X13_has_56 : decode cX13_has 56 = .ok (.aload_n 1, 1) := by decide +kernel
theorem d_X13_has_57 : decode cX13_has 57 = .ok (.invokevirtual 73, 3) := by decide +kernel
theorem d_X13_has_60 : decode cX13_has 60 = .ok (.if_icmp .ge 29, 3) := by decide +kernel
theorem d_X13_has_63 : decode cX13_has 63 = .ok (.aload_n 0, 1) := by decide +kernel
theorem d_X13_has_64 : decode cX13_has 64 = .ok (.aload_n 0, 1) := by decide +kernel
theorem d_X13_has_65 : decode cX13_has 65 = .ok (.getfield 60, 3) := by decide +kernel
theorem d_X13_has_68 : decode cX13_has 68 = .ok (.iload_n 3, 1) := by decide +kernel
theorem d_X13_has_69 : decode cX13_has 69 = .ok (.iadd, 1) := by decide +kernel
theorem d_X13_has_70 : decode cX13_has 70 = .ok (.invokevirtual 66, 3) := by decide +kernel
theorem d_X13_has_73 : decode cX13_has 73 = .ok (.aload_n 1, 1) := by decide +kernel
theorem d_X13_has_74 : decode cX13_has 74 = .ok (.iload_n 3, 1) := by decide +kernel
theorem d_X13_has_75 : decode cX13_has 75 = .ok (.invokevirtual 79, 3) := by decide +kernel
theorem d_X13_has_78 : decode cX13_has 78 = .ok (.if_icmp .eq 5, 3) := by decide +kernel
theorem d_X13_has_81 : decode cX13_has 81 = .ok (.iconst 0, 1) := by decide +kernel
theorem d_X13_has_82 : decode cX13_has 82 = .ok (.ireturn, 1) := by decide +kernel
theorem d_X13_has_83 : decode cX13_has 83 = .ok (.iinc 3 1, 3) := by decide +kernel
theorem d_X13_has_86 : decode cX13_has 86 = .ok (.goto (-31), 3) := by decide +kernel
theorem d_X13_has_89 : decode cX13_has 89 = .ok (.aload_n 0, 1) := by decide +kernel
theorem d_X13_has_90 : decode cX13_has 90 = .ok (.iload_n 2, 1) := by decide +kernel
theorem d_X13_has_91 : decode cX13_has 91 = .ok (.putfield 60, 3) := by decide +kernel
theorem d_X13_has_94 : decode cX13_has 94 = .ok (.iconst 1, 1) := by decide +kernel
theorem d_X13_has_95 : decode cX13_has 95 = .ok (.ireturn, 1) := by decide +kernel
abbrev rm_X13_has : Room := { frames := 4, cells := 0, slots := 0, locals := 85 }
def B_X13_has_55 (post : Bool → (Nat → Nat → Int32) → Prop) : Nat → Nat → Int32 → Int32 → (Nat → Nat → Int32) → Prop
  | 0 => fun _ _ _ _ => False
  | n + 1 => fun v1 v2 v3 mm => w_MJ0_length_8abf5 (fun (r9 : Int32) (u10 : (Nat → Nat → Int32)) => (r9 ≤ v3 → (post true (up2 u10 0 9 v2))) ∧ (¬ r9 ≤ v3 → (w_X13_letter (fun (r11 : Int32) (u12 : (Nat → Nat → Int32)) => w_MJ0_charAt_5068e (fun (r13 : Int32) (u14 : (Nat → Nat → Int32)) => (r11 = r13 → (B_X13_has_55 post n v1 v2 (v3 + 1) u14)) ∧ (¬ r11 = r13 → (post false u14))) v1 v3 u12) ((u10 0 9) + v3) u10))) v1 mm
def B_X13_has_38 (post : Bool → (Nat → Nat → Int32) → Prop) (v1 : Nat) (v2 : Int32) (mm : (Nat → Nat → Int32)) : Prop := w_MJ0_length_8abf5 (fun (r7 : Int32) (u8 : (Nat → Nat → Int32)) => ((v2 - (mm 0 9)) = r7 → (∃ n55, B_X13_has_55 post n55 v1 v2 0 u8)) ∧ (¬ (v2 - (mm 0 9)) = r7 → (post false u8))) v1 mm
def B_X13_has_9 (post : Bool → (Nat → Nat → Int32) → Prop) : Nat → Nat → Int32 → (Nat → Nat → Int32) → Prop
  | 0 => fun _ _ _ => False
  | n + 1 => fun v1 v2 mm => ((mm 0 8) ≤ v2 → (B_X13_has_38 post v1 v2 mm)) ∧ (¬ (mm 0 8) ≤ v2 → (w_X13_letter (fun (r3 : Int32) (u4 : (Nat → Nat → Int32)) => w_X13_isIn (fun (r5 : Bool) (u6 : (Nat → Nat → Int32)) => ((r5 = false) → (B_X13_has_38 post v1 v2 u6)) ∧ (¬ (r5 = false) → (B_X13_has_9 post n v1 (v2 + 1) u6))) r3 97 122 u4) v2 mm))
def w_X13_has (post : Bool → (Nat → Nat → Int32) → Prop) (a1 : Nat) (mm : (Nat → Nat → Int32)) : Prop := w_X13_skip (fun (u2 : (Nat → Nat → Int32)) => ∃ n9, B_X13_has_9 post n9 a1 (u2 0 9) u2)  mm
section G_X13_has
variable {p : Program} {l : Launch} {e : Env} {s : State} {m : MethodId} {args : Array Value} {below : List Frame} {meth : Method} {c : Code} {G : Gd} {ρ : Nat → Nat} {A : Nat → Prop} {cm : CMu} {oo : Nat → Int64}
set_option maxHeartbeats 4000000 in
set_option maxRecDepth 100000 in
theorem T_X13_has_55 {post : Bool → (Nat → Nat → Int32) → Prop} (hl : l.stackTraces = false) (X : MC p l s m args meth c cX13_has 4 RX13 G ρ A) (hr : meth.sig.returnType = (some .boolean)) (hex : ∀ z ∈ c.exceptionTable.toList, False) (n : Nat) : ∀ (v1 : Nat) (v2 : Int32) (v3 : Int32) (h_v1 : v1 < 30) (mm : (Nat → Nat → Int32)), B_X13_has_55 post n v1 v2 v3 mm → LW p l e rm_X13_has s m args below meth c (Qm below G ρ A (PZ (fun u => (cm, u, oo)) post) noX args s 0 0) G ρ A 4 0 0 55 [(0, .ref 703), (1, .ref (2001 + v1)), (2, .int v2), (3, .int v3)] [] (cm, mm, oo) := by
  induction n with
  | zero =>
    intro v1 v2 v3 h_v1 mm h
    exact False.elim h
  | succ n ih =>
    intro v1 v2 v3 h_v1 mm h
    unfold B_X13_has_55 at h
    refine L_iload_n (pc := 55) X d_X13_has_55 rfl 3 rfl ?_
    refine L_aload_n (pc := 56) X d_X13_has_56 rfl 1 rfl ?_
    refine L_callVRI (pc := 57) X rfl (X.rvS h_v1) lk_X13_73 (c_MJ0_length_8abf5 X.hst h_v1 h) rfl rfl rfl ⟨by decide, by decide⟩ ⟨by decide, by decide⟩ (Nat.le_of_ble_eq_true rfl) d_X13_has_57 rfl (fun r9 u10 h => ?_)
    refine L_icmp_ge (pc := 60) (tgt := 89) X d_X13_has_60 (by decide) (fun c60 => ?_) (fun c60 => ?_)
    · replace h := h.1 c60
      refine L_aload_n (pc := 89) X d_X13_has_89 rfl 0 rfl ?_
      refine L_iload_n (pc := 90) X d_X13_has_90 rfl 2 rfl ?_
      refine pf_X13_60 (pc := 91) X d_X13_has_91 ?_
      refine L_iconst (pc := 94) (v := 1) X d_X13_has_94 (by decide) ?_
      exact L_zretB (pc := 95) X hr d_X13_has_95 true rfl (by decide) (by decide) ⟨_, _, rfl, rfl, h⟩
    · replace h := h.2 c60
      refine L_aload_n (pc := 63) X d_X13_has_63 rfl 0 rfl ?_
      refine L_aload_n (pc := 64) X d_X13_has_64 rfl 0 rfl ?_
      refine gf_X13_60 (pc := 65) X d_X13_has_65 ?_
      refine L_iload_n (pc := 68) X d_X13_has_68 rfl 3 rfl ?_
      refine L_iadd (pc := 69) X d_X13_has_69 ?_
      refine L_callVI (pc := 70) X lk_X13_66 (c_X13_letter X.hst  h) rfl rfl kd_703 (by decide) rfl rfl ⟨by decide, by decide⟩ ⟨by decide, by decide⟩ (Nat.zero_le _) d_X13_has_70 rfl (fun x κ1 hx => L_nox hx) (fun r11 u12 h => ?_)
      refine L_aload_n (pc := 73) X d_X13_has_73 rfl 1 rfl ?_
      refine L_iload_n (pc := 74) X d_X13_has_74 rfl 3 rfl ?_
      refine L_callVRI (pc := 75) X rfl (X.rvS h_v1) lk_X13_79 (c_MJ0_charAt_5068e X.hst h_v1 h) rfl rfl rfl ⟨by decide, by decide⟩ ⟨by decide, by decide⟩ (Nat.le_of_ble_eq_true rfl) d_X13_has_75 rfl (fun r13 u14 h => ?_)
      refine L_icmp_eq (pc := 78) (tgt := 83) X d_X13_has_78 (by decide) (fun c78 => ?_) (fun c78 => ?_)
      · replace h := h.1 c78
        refine L_iinc (pc := 83) (v := v3 + 1) (lv2 := [(3, .int (v3 + 1)), (0, .ref 703), (1, .ref (2001 + v1)), (2, .int v2)]) X d_X13_has_83 3 rfl rfl (by decide) rfl ?_
        refine L_goto (pc := 86) (tgt := 55) X d_X13_has_86 (by decide) ?_
        refine LW.sub [1, 2, 3, 0] rfl ?_
        exact ih _ _ _ h_v1 _ h
      · replace h := h.2 c78
        refine L_iconst (pc := 81) (v := 0) X d_X13_has_81 (by decide) ?_
        exact L_zretB (pc := 82) X hr d_X13_has_82 false rfl (by decide) (by decide) ⟨_, _, rfl, rfl, h⟩
set_option maxHeartbeats 4000000 in
set_option maxRecDepth 100000 in
theorem T_X13_has_38 {post : Bool → (Nat → Nat → Int32) → Prop} (hl : l.stackTraces = false) (X : MC p l s m args meth c cX13_has 4 RX13 G ρ A) (hr : meth.sig.returnType = (some .boolean)) (hex : ∀ z ∈ c.exceptionTable.toList, False) : ∀ (v1 : Nat) (v2 : Int32) (h_v1 : v1 < 30) (mm : (Nat → Nat → Int32)), B_X13_has_38 post v1 v2 mm → LW p l e rm_X13_has s m args below meth c (Qm below G ρ A (PZ (fun u => (cm, u, oo)) post) noX args s 0 0) G ρ A 4 0 0 38 [(0, .ref 703), (1, .ref (2001 + v1)), (2, .int v2)] [] (cm, mm, oo) := by
  intro v1 v2 h_v1 mm h
  unfold B_X13_has_38 at h
  refine L_iload_n (pc := 38) X d_X13_has_38 rfl 2 rfl ?_
  refine L_aload_n (pc := 39) X d_X13_has_39 rfl 0 rfl ?_
  refine gf_X13_60 (pc := 40) X d_X13_has_40 ?_
  refine L_isub (pc := 43) X d_X13_has_43 ?_
  refine L_aload_n (pc := 44) X d_X13_has_44 rfl 1 rfl ?_
  refine L_callVRI (pc := 45) X rfl (X.rvS h_v1) lk_X13_73 (c_MJ0_length_8abf5 X.hst h_v1 h) rfl rfl rfl ⟨by decide, by decide⟩ ⟨by decide, by decide⟩ (Nat.le_of_ble_eq_true rfl) d_X13_has_45 rfl (fun r7 u8 h => ?_)
  refine L_icmp_eq (pc := 48) (tgt := 53) X d_X13_has_48 (by decide) (fun c48 => ?_) (fun c48 => ?_)
  · replace h := h.1 c48
    refine L_iconst (pc := 53) (v := 0) X d_X13_has_53 (by decide) ?_
    refine L_istore_n (pc := 54) (lv2 := [(3, .int 0), (0, .ref 703), (1, .ref (2001 + v1)), (2, .int v2)]) X d_X13_has_54 rfl (by decide) rfl ?_
    obtain ⟨n55, h⟩ := h
    refine LW.sub [1, 2, 3, 0] rfl ?_
    exact T_X13_has_55 hl X hr hex n55 _ _ _ h_v1 _ h
  · replace h := h.2 c48
    refine L_iconst (pc := 51) (v := 0) X d_X13_has_51 (by decide) ?_
    exact L_zretB (pc := 52) X hr d_X13_has_52 false rfl (by decide) (by decide) ⟨_, _, rfl, rfl, h⟩
set_option maxHeartbeats 4000000 in
set_option maxRecDepth 100000 in
theorem T_X13_has_9 {post : Bool → (Nat → Nat → Int32) → Prop} (hl : l.stackTraces = false) (X : MC p l s m args meth c cX13_has 4 RX13 G ρ A) (hr : meth.sig.returnType = (some .boolean)) (hex : ∀ z ∈ c.exceptionTable.toList, False) (n : Nat) : ∀ (v1 : Nat) (v2 : Int32) (h_v1 : v1 < 30) (mm : (Nat → Nat → Int32)), B_X13_has_9 post n v1 v2 mm → LW p l e rm_X13_has s m args below meth c (Qm below G ρ A (PZ (fun u => (cm, u, oo)) post) noX args s 0 0) G ρ A 4 0 0 9 [(0, .ref 703), (1, .ref (2001 + v1)), (2, .int v2)] [] (cm, mm, oo) := by
  induction n with
  | zero =>
    intro v1 v2 h_v1 mm h
    exact False.elim h
  | succ n ih =>
    intro v1 v2 h_v1 mm h
    unfold B_X13_has_9 at h
    refine L_iload_n (pc := 9) X d_X13_has_9 rfl 2 rfl ?_
    refine L_aload_n (pc := 10) X d_X13_has_10 rfl 0 rfl ?_
    refine gf_X13_63 (pc := 11) X d_X13_has_11 ?_
    refine L_icmp_ge (pc := 14) (tgt := 38) X d_X13_has_14 (by decide) (fun c14 => ?_) (fun c14 => ?_)
    · replace h := h.1 c14
      refine LW.sub [0, 1, 2] rfl ?_
      exact T_X13_has_38 hl X hr hex _ _ h_v1 _ h
    · replace h := h.2 c14
      refine L_aload_n (pc := 17) X d_X13_has_17 rfl 0 rfl ?_
      refine L_iload_n (pc := 18) X d_X13_has_18 rfl 2 rfl ?_
      refine L_callVI (pc := 19) X lk_X13_66 (c_X13_letter X.hst  h) rfl rfl kd_703 (by decide) rfl rfl ⟨by decide, by decide⟩ ⟨by decide, by decide⟩ (Nat.zero_le _) d_X13_has_19 rfl (fun x κ1 hx => L_nox hx) (fun r3 u4 h => ?_)
      refine L_bipush (pc := 22) (v := 97) X d_X13_has_22 (by decide) ?_
      refine L_bipush (pc := 24) (v := 122) X d_X13_has_24 (by decide) ?_
      refine L_callSZ (pc := 26) X lk_X13_50 (c_X13_isIn X.hst  h) rfl rfl rfl ⟨by decide, by decide⟩ ⟨by decide, by decide⟩ (Nat.zero_le _) d_X13_has_26 rfl (fun x κ1 hx => L_nox hx) (fun r5 u6 h => ?_)
      refine L_if_eq (pc := 29) (tgt := 38) X d_X13_has_29 (by decide) (fun c29 => ?_) (fun c29 => ?_)
      · replace h := h.1 ((b2_0 _).mp c29)
        refine LW.sub [0, 1, 2] rfl ?_
        exact T_X13_has_38 hl X hr hex _ _ h_v1 _ h
      · replace h := h.2 (fun z => c29 ((b2_0 _).mpr z))
        refine L_iinc (pc := 32) (v := v2 + 1) (lv2 := [(2, .int (v2 + 1)), (0, .ref 703), (1, .ref (2001 + v1))]) X d_X13_has_32 2 rfl rfl (by decide) rfl ?_
        refine L_goto (pc := 35) (tgt := 9) X d_X13_has_35 (by decide) ?_
        refine LW.sub [1, 2, 0] rfl ?_
        exact ih _ _ h_v1 _ h
set_option maxHeartbeats 4000000 in
set_option maxRecDepth 100000 in
theorem c_X13_has (hl : l.stackTraces = false) {a1 : Nat} (h_a1 : a1 < 30) {mm : (Nat → Nat → Int32)} {post : Bool → (Nat → Nat → Int32) → Prop} (h : w_X13_has post a1 mm) : CT l yX13_has (.code yX13_has cX13_has 4 (some .boolean)) rm_X13_has 0 0 G ρ [.ref 703, .ref (2001 + a1)] (cm, mm, oo) (PZ (fun u => (cm, u, oo)) post) noX := by
  refine CT_of hl (by decide +kernel) rfl (Nat.le_of_ble_eq_true rfl) (lv0 := [(0, .ref 703), (1, .ref (2001 + a1))]) rfl (fun p e s m args below meth c A X hr hex hnm => ?_)
  unfold w_X13_has at h
  refine L_aload_n (pc := 0) X d_X13_has_0 rfl 0 rfl ?_
  refine L_callVV (pc := 1) X lk_X13_70 (c_X13_skip X.hst  h) rfl rfl kd_703 (by decide) rfl rfl ⟨by decide, by decide⟩ ⟨by decide, by decide⟩ (Nat.zero_le _) d_X13_has_1 rfl (fun x κ1 hx => L_nox hx) (fun u2 h => ?_)
  refine L_aload_n (pc := 4) X d_X13_has_4 rfl 0 rfl ?_
  refine gf_X13_60 (pc := 5) X d_X13_has_5 ?_
  refine L_istore_n (pc := 8) (lv2 := [(2, .int (u2 0 9)), (0, .ref 703), (1, .ref (2001 + a1))]) X d_X13_has_8 rfl (by decide) rfl ?_
  obtain ⟨n9, h⟩ := h
  refine LW.sub [1, 2, 0] rfl ?_
  exact T_X13_has_9 hl X hr hex n9 _ _ h_a1 _ h
end G_X13_has
theorem d_X13_wrong_0 : decode cX13_wrong 0 = .ok (.aload_n 0, 1) := by decide +kernel
theorem d_X13_wrong_1 : decode cX13_wrong 1 = .ok (.getfield 22, 3) := by decide +kernel
theorem d_X13_wrong_4 : decode cX13_wrong 4 = .ok (.iconst (-1), 1) := by decide +kernel
theorem d_X13_wrong_5 : decode cX13_wrong 5 = .ok (.if_icmp .ne 8, 3) := by decide +kernel
theorem d_X13_wrong_8 : decode cX13_wrong 8 = .ok (.aload_n 0, 1) := by decide +kernel
theorem d_X13_wrong_9 : decode cX13_wrong 9 = .ok (.iload_n 1, 1) := by decide +kernel
theorem d_X13_wrong_10 : decode cX13_wrong 10 = .ok (.putfield 22, 3) := by decide +kernel
theorem d_X13_wrong_13 : decode cX13_wrong 13 = .ok (.return_, 1) := by decide +kernel
abbrev rm_X13_wrong : Room := { frames := 0, cells := 0, slots := 0, locals := 0 }
def B_X13_wrong_13 (post : (Nat → Nat → Int32) → Prop) (mm : (Nat → Nat → Int32)) : Prop := post mm
def w_X13_wrong (post : (Nat → Nat → Int32) → Prop) (x1 : Int32) (mm : (Nat → Nat → Int32)) : Prop := (¬ (mm 0 10) = (-1) → (B_X13_wrong_13 post mm)) ∧ ((mm 0 10) = (-1) → (B_X13_wrong_13 post (up2 mm 0 10 x1)))
section G_X13_wrong
variable {p : Program} {l : Launch} {e : Env} {s : State} {m : MethodId} {args : Array Value} {below : List Frame} {meth : Method} {c : Code} {G : Gd} {ρ : Nat → Nat} {A : Nat → Prop} {cm : CMu} {oo : Nat → Int64}
set_option maxHeartbeats 4000000 in
set_option maxRecDepth 100000 in
theorem T_X13_wrong_13 {post : (Nat → Nat → Int32) → Prop} (hl : l.stackTraces = false) (X : MC p l s m args meth c cX13_wrong 2 RX13 G ρ A) (hr : meth.sig.returnType = none) (hex : ∀ z ∈ c.exceptionTable.toList, False) : ∀ (mm : (Nat → Nat → Int32)), B_X13_wrong_13 post mm → LW p l e rm_X13_wrong s m args below meth c (Qm below G ρ A (PV (fun u => (cm, u, oo)) post) noX args s 0 0) G ρ A 2 0 0 13 [] [] (cm, mm, oo) := by
  intro mm h
  unfold B_X13_wrong_13 at h
  exact L_vret (pc := 13) X hr d_X13_wrong_13 (by decide) (by decide) ⟨_, rfl, rfl, h⟩
set_option maxHeartbeats 4000000 in
set_option maxRecDepth 100000 in
theorem c_X13_wrong (hl : l.stackTraces = false) {x1 : Int32} {mm : (Nat → Nat → Int32)} {post : (Nat → Nat → Int32) → Prop} (h : w_X13_wrong post x1 mm) : CT l yX13_wrong (.code yX13_wrong cX13_wrong 2 none) rm_X13_wrong 0 0 G ρ [.ref 703, .int x1] (cm, mm, oo) (PV (fun u => (cm, u, oo)) post) noX := by
  refine CT_of hl (by decide +kernel) rfl (Nat.le_of_ble_eq_true rfl) (lv0 := [(0, .ref 703), (1, .int x1)]) rfl (fun p e s m args below meth c A X hr hex hnm => ?_)
  unfold w_X13_wrong at h
  refine L_aload_n (pc := 0) X d_X13_wrong_0 rfl 0 rfl ?_
  refine gf_X13_22 (pc := 1) X d_X13_wrong_1 ?_
  refine L_iconst (pc := 4) (v := (-1)) X d_X13_wrong_4 (by decide) ?_
  refine L_icmp_ne (pc := 5) (tgt := 13) X d_X13_wrong_5 (by decide) (fun c5 => ?_) (fun c5 => ?_)
  · replace h := h.1 c5
    refine LW.sub [] rfl ?_
    exact T_X13_wrong_13 hl X hr hex   _ h
  · replace h := h.2 c5
    refine L_aload_n (pc := 8) X d_X13_wrong_8 rfl 0 rfl ?_
    refine L_iload_n (pc := 9) X d_X13_wrong_9 rfl 1 rfl ?_
    refine pf_X13_22 (pc := 10) X d_X13_wrong_10 ?_
    refine LW.sub [] rfl ?_
    exact T_X13_wrong_13 hl X hr hex   _ h
end G_X13_wrong
theorem yk_X13_wrong : yX13_wrong.cls = RX13 ∧ yX13_wrong.cls ≠ "java/lang/invoke/MethodHandle" ∧ yX13_wrong.cls ≠ "java/lang/invoke/VarHandle" ∧ (parseMethodDescriptor yX13_wrong.desc).map (fun d => d.parameters.length) = some 1 := by decide +kernel
theorem lk_X13_83 : LinkV RX13 83 RX13 yX13_wrong (.code yX13_wrong cX13_wrong 2 none) 1 := ⟨tw_1345, tw_1347, tw_37, tw_83, tw_1348, yk_X13_wrong⟩
theorem d_X13_figures_0 : decode cX13_figures 0 = .ok (.aload_n 0, 1) := by decide +kernel
theorem d_X13_figures_1 : decode cX13_figures 1 = .ok (.getfield 22, 3) := by decide +kernel
theorem d_X13_figures_4 : decode cX13_figures 4 = .ok (.iconst (-1), 1) := by decide +kernel
theorem d_X13_figures_5 : decode cX13_figures 5 = .ok (.if_icmp .eq 5, 3) := by decide +kernel
theorem d_X13_figures_8 : decode cX13_figures 8 = .ok (.iconst 0, 1) := by decide +kernel
theorem d_X13_figures_9 : decode cX13_figures 9 = .ok (.ireturn, 1) := by decide +kernel
theorem d_X13_figures_10 : decode cX13_figures 10 = .ok (.aload_n 0, 1) := by decide +kernel
theorem d_X13_figures_11 : decode cX13_figures 11 = .ok (.invokevirtual 70, 3) := by decide +kernel
theorem d_X13_figures_14 : decode cX13_figures 14 = .ok (.aload_n 0, 1) := by decide +kernel
theorem d_X13_figures_15 : decode cX13_figures 15 = .ok (.getfield 60, 3) := by decide +kernel
theorem d_X13_figures_18 : decode cX13_figures 18 = .ok (.istore_n 3, 1) := by decide +kernel
theorem d_X13_figures_19 : decode cX13_figures 19 = .ok (.iconst 0, 1) := by decide +kernel
theorem d_X13_figures_20 : decode cX13_figures 20 = .ok (.istore 4, 2) := by decide +kernel
theorem d_X13_figures_22 : decode cX13_figures 22 = .ok (.aload_n 0, 1) := by decide +kernel
theorem d_X13_figures_23 : decode cX13_figures 23 = .ok (.getfield 60, 3) := by decide +kernel
theorem d_X13_figures_26 : decode cX13_figures 26 = .ok (.aload_n 0, 1) := by decide +kernel
theorem d_X13_figures_27 : decode cX13_figures 27 = .ok (.getfield 63, 3) := by decide +kernel
theorem d_X13_figures_30 : decode cX13_figures 30 = .ok (.if_icmp .ge 63, 3) := by decide +kernel
theorem d_X13_figures_33 : decode cX13_figures 33 = .ok (.aload_n 0, 1) := by decide +kernel
theorem d_X13_figures_34 : decode cX13_figures 34 = .ok (.aload_n 0, 1) := by decide +kernel
theorem d_X13_figures_35 : decode cX13_figures 35 = .ok (.getfield 60, 3) := by decide +kernel
theorem d_X13_figures_38 : decode cX13_figures 38 = .ok (.invokevirtual 66, 3) := by decide +kernel
theorem d_X13_figures_41 : decode cX13_figures 41 = .ok (.bipush 48, 2) := by decide +kernel
theorem d_X13_figures_43 : decode cX13_figures 43 = .ok (.bipush 57, 2) := by decide +kernel
theorem d_X13_figures_45 : decode cX13_figures 45 = .ok (.invokestatic 50, 3) := by decide +kernel
theorem d_X13_figures_48 : decode cX13_figures 48 = .ok (.ifCond .eq 45, 3) := by decide +kernel
theorem d_X13_figures_51 : decode cX13_figures 51 = .ok (.aload_n 0, 1) := by decide +kernel
theorem d_X13_figures_52 : decode cX13_figures 52 = .ok (.getfield 60, 3) := by decide +kernel
theorem d_X13_figures_55 : decode cX13_figures 55 = .ok (.iload_n 3, 1) := by decide +kernel
theorem d_X13_figures_56 : decode cX13_figures 56 = .ok (.isub, 1) := by decide +kernel
theorem d_X13_figures_57 : decode cX13_figures 57 = .ok (.iconst 4, 1) := by decide +kernel
theorem d_X13_figures_58 : decode cX13_figures 58 = .ok (.if_icmp .ge 35, 3) := by decide +kernel
theorem d_X13_figures_61 : decode cX13_figures 61 = .ok (.bipush 10, 2) := by decide +kernel
theorem d_X13_figures_63 : decode cX13_figures 63 = .ok (.iload 4, 2) := by decide +kernel
theorem d_X13_figures_65 : decode cX13_figures 65 = .ok (.imul, 1) := by decide +kernel
theorem d_X13_figures_66 : decode cX13_figures 66 = .ok (.aload_n 0, 1) := by decide +kernel
theorem d_X13_figures_67 : decode cX13_figures 67 = .ok (.aload_n 0, 1) := by decide +kernel
theorem d_X13_figures_68 : decode cX13_figures 68 = .ok (.getfield 60, 3) := by decide +kernel
theorem d_X13_figures_71 : decode cX13_figures 71 = .ok (.invokevirtual 66, 3) := by decide +kernel
theorem d_X13_figures_74 : decode cX13_figures 74 = .ok (.iadd, 1) := by decide +kernel
theorem d_X13_figures_75 : decode cX13_figures 75 = .ok (.bipush 48, 2) := by decide +kernel
theorem d_X13_figures_77 : decode cX13_figures 77 = .ok (.isub, 1) := by decide +kernel
theorem d_X13_figures_78 : decode cX13_figures 78 = .ok (.istore 4, 2) := by decide +kernel
theorem d_X13_figures_80 : decode cX13_figures 80 = .ok (.aload_n 0, 1) := by decide +kernel
theorem d_X13_figures_81 : decode cX13_figures 81 = .ok (.dup, 1) := by decide +kernel
theorem d_X13_figures_82 : decode cX13_figures 82 = .ok (.getfield 60, 3) := by decide +kernel
theorem d_X13_figures_85 : decode cX13_figures 85 = .ok (.iconst 1, 1) := by decide +kernel
theorem d_X13_figures_86 : decode cX13_figures 86 = .ok (.iadd, 1) := by decide +kernel
theorem d_X13_figures_87 : decode cX13_figures 87 = .ok (.putfield 60, 3) := by decide +kernel
theorem d_X13_figures_90 : decode cX13_figures 90 = .ok (.goto (-68), 3) := by decide +kernel
theorem d_X13_figures_93 : decode cX13_figures 93 = .ok (.aload_n 0, 1) := by decide +kernel
theorem d_X13_figures_94 : decode cX13_figures 94 = .ok (.getfield 60, 3) := by decide +kernel
theorem d_X13_figures_97 : decode cX13_figures 97 = .ok (.iload_n 3, 1) := by decide +kernel
theorem d_X13_figures_98 : decode cX13_figures 98 = .ok (.if_icmp .eq 25, 3) := by decide +kernel
theorem d_X13_figures_101 : decode cX13_figures 101 = .ok (.aload_n 0, 1) := by decide +kernel
theorem d_X13_figures_102 : decode cX13_figures 102 = .ok (.getfield 60, 3) := by decide +kernel
theorem d_X13_figures_105 : decode cX13_figures 105 = .ok (.iload_n 3, 1) := by decide +kernel
theorem d_X13_figures_106 : decode cX13_figures 106 = .ok (.isub, 1) := by decide +kernel
theorem d_X13_figures_107 : decode cX13_figures 107 = .ok (.iconst 3, 1) := by decide +kernel
theorem d_X13_figures_108 : decode cX13_figures 108 = .ok (.if_icmp .gt 15, 3) := by decide +kernel
theorem d_X13_figures_111 : decode cX13_figures 111 = .ok (.iload 4, 2) := by decide +kernel
theorem d_X13_figures_113 : decode cX13_figures 113 = .ok (.iload_n 1, 1) := by decide +kernel
theorem d_X13_figures_114 : decode cX13_figures 114 = .ok (.if_icmp .lt 9, 3) := by decide +kernel
theorem d_X13_figures_117 : decode cX13_figures 117 = .ok (.iload 4, 2) := by decide +kernel
theorem d_X13_figures_119 : decode cX13_figures 119 = .ok (.iload_n 2, 1) := by decide +kernel
theorem d_X13_figures_120 : decode cX13_figures 120 = .ok (.if_icmp .le 8, 3) := by decide +kernel
theorem d_X13_figures_123 : decode cX13_figures 123 = .ok (.aload_n 0, 1) := by decide +kernel
theorem d_X13_figures_124 : decode cX13_figures 124 = .ok (.iload_n 3, 1) := by decide +kernel
theorem d_X13_figures_125 : decode cX13_figures 125 = .ok (.invokevirtual 83, 3) := by decide +kernel
theorem d_X13_figures_128 : decode cX13_figures 128 = .ok (.iload 4, 2) := by decide +kernel
theorem d_X13_figures_130 : decode cX13_figures 130 = .ok (.ireturn, 1) := by decide +kernel
abbrev rm_X13_figures : Room := { frames := 2, cells := 0, slots := 0, locals := 41 }
def B_X13_figures_128 (post : Int32 → (Nat → Nat → Int32) → Prop) (v4 : Int32) (mm : (Nat → Nat → Int32)) : Prop := post v4 mm
def B_X13_figures_123 (post : Int32 → (Nat → Nat → Int32) → Prop) (v3 : Int32) (v4 : Int32) (mm : (Nat → Nat → Int32)) : Prop := w_X13_wrong (fun (u10 : (Nat → Nat → Int32)) => B_X13_figures_128 post v4 u10) v3 mm
def B_X13_figures_93 (post : Int32 → (Nat → Nat → Int32) → Prop) (v1 : Int32) (v2 : Int32) (v3 : Int32) (v4 : Int32) (mm : (Nat → Nat → Int32)) : Prop := ((mm 0 9) = v3 → (B_X13_figures_123 post v3 v4 mm)) ∧ (¬ (mm 0 9) = v3 → ((3 < ((mm 0 9) - v3) → (B_X13_figures_123 post v3 v4 mm)) ∧ (¬ 3 < ((mm 0 9) - v3) → ((v4 < v1 → (B_X13_figures_123 post v3 v4 mm)) ∧ (¬ v4 < v1 → ((v4 ≤ v2 → (B_X13_figures_128 post v4 mm)) ∧ (¬ v4 ≤ v2 → (B_X13_figures_123 post v3 v4 mm))))))))
def B_X13_figures_22 (post : Int32 → (Nat → Nat → Int32) → Prop) : Nat → Int32 → Int32 → Int32 → Int32 → (Nat → Nat → Int32) → Prop
  | 0 => fun _ _ _ _ _ => False
  | n + 1 => fun v1 v2 v3 v4 mm => ((mm 0 8) ≤ (mm 0 9) → (B_X13_figures_93 post v1 v2 v3 v4 mm)) ∧ (¬ (mm 0 8) ≤ (mm 0 9) → (w_X13_letter (fun (r3 : Int32) (u4 : (Nat → Nat → Int32)) => w_X13_isIn (fun (r5 : Bool) (u6 : (Nat → Nat → Int32)) => ((r5 = false) → (B_X13_figures_93 post v1 v2 v3 v4 u6)) ∧ (¬ (r5 = false) → ((4 ≤ ((u6 0 9) - v3) → (B_X13_figures_93 post v1 v2 v3 v4 u6)) ∧ (¬ 4 ≤ ((u6 0 9) - v3) → (w_X13_letter (fun (r7 : Int32) (u8 : (Nat → Nat → Int32)) => B_X13_figures_22 post n v1 v2 v3 (((10 * v4) + r7) - 48) (up2 u8 0 9 ((u8 0 9) + 1))) (u6 0 9) u6))))) r3 48 57 u4) (mm 0 9) mm))
def w_X13_figures (post : Int32 → (Nat → Nat → Int32) → Prop) (x1 : Int32) (x2 : Int32) (mm : (Nat → Nat → Int32)) : Prop := ((mm 0 10) = (-1) → (w_X13_skip (fun (u2 : (Nat → Nat → Int32)) => ∃ n22, B_X13_figures_22 post n22 x1 x2 (u2 0 9) 0 u2)  mm)) ∧ (¬ (mm 0 10) = (-1) → (post 0 mm))
section G_X13_figures
variable {p : Program} {l : Launch} {e : Env} {s : State} {m : MethodId} {args : Array Value} {below : List Frame} {meth : Method} {c : Code} {G : Gd} {ρ : Nat → Nat} {A : Nat → Prop} {cm : CMu} {oo : Nat → Int64}
set_option maxHeartbeats 4000000 in
set_option maxRecDepth 100000 in
theorem T_X13_figures_128 {post : Int32 → (Nat → Nat → Int32) → Prop} (hl : l.stackTraces = false) (X : MC p l s m args meth c cX13_figures 5 RX13 G ρ A) (hr : meth.sig.returnType = (some .int)) (hex : ∀ z ∈ c.exceptionTable.toList, False) : ∀ (v4 : Int32) (mm : (Nat → Nat → Int32)), B_X13_figures_128 post v4 mm → LW p l e rm_X13_figures s m args below meth c (Qm below G ρ A (PI (fun u => (cm, u, oo)) post) noX args s 0 0) G ρ A 5 0 0 128 [(4, .int v4)] [] (cm, mm, oo) := by
  intro v4 mm h
  unfold B_X13_figures_128 at h
  refine L_iload (pc := 128) X d_X13_figures_128 0 rfl ?_
  exact L_iret (pc := 130) X hr d_X13_figures_130 (by decide) (by decide) ⟨_, _, rfl, rfl, h⟩
set_option maxHeartbeats 4000000 in
set_option maxRecDepth 100000 in
theorem T_X13_figures_123 {post : Int32 → (Nat → Nat → Int32) → Prop} (hl : l.stackTraces = false) (X : MC p l s m args meth c cX13_figures 5 RX13 G ρ A) (hr : meth.sig.returnType = (some .int)) (hex : ∀ z ∈ c.exceptionTable.toList, False) : ∀ (v3 : Int32) (v4 : Int32) (mm : (Nat → Nat → Int32)), B_X13_figures_123 post v3 v4 mm → LW p l e rm_X13_figures s m args below meth c (Qm below G ρ A (PI (fun u => (cm, u, oo)) post) noX args s 0 0) G ρ A 5 0 0 123 [(0, .ref 703), (3, .int v3), (4, .int v4)] [] (cm, mm, oo) := by
  intro v3 v4 mm h
  unfold B_X13_figures_123 at h
  refine L_aload_n (pc := 123) X d_X13_figures_123 rfl 0 rfl ?_
  refine L_iload_n (pc := 124) X d_X13_figures_124 rfl 1 rfl ?_
  refine L_callVV (pc := 125) X lk_X13_83 (c_X13_wrong X.hst  h) rfl rfl kd_703 (by decide) rfl rfl ⟨by decide, by decide⟩ ⟨by decide, by decide⟩ (Nat.zero_le _) d_X13_figures_125 rfl (fun x κ1 hx => L_nox hx) (fun u10 h => ?_)
  refine LW.sub [2] rfl ?_
  exact T_X13_figures_128 hl X hr hex _  _ h
set_option maxHeartbeats 4000000 in
set_option maxRecDepth 100000 in
theorem T_X13_figures_93 {post : Int32 → (Nat → Nat → Int32) → Prop} (hl : l.stackTraces = false) (X : MC p l s m args meth c cX13_figures 5 RX13 G ρ A) (hr : meth.sig.returnType = (some .int)) (hex : ∀ z ∈ c.exceptionTable.toList, False) : ∀ (v1 : Int32) (v2 : Int32) (v3 : Int32) (v4 : Int32) (mm : (Nat → Nat → Int32)), B_X13_figures_93 post v1 v2 v3 v4 mm → LW p l e rm_X13_figures s m args below meth c (Qm below G ρ A (PI (fun u => (cm, u, oo)) post) noX args s 0 0) G ρ A 5 0 0 93 [(0, .ref 703), (1, .int v1), (2, .int v2), (3, .int v3), (4, .int v4)] [] (cm, mm, oo) := by
  intro v1 v2 v3 v4 mm h
  unfold B_X13_figures_93 at h
  refine L_aload_n (pc := 93) X d_X13_figures_93 rfl 0 rfl ?_
  refine gf_X13_60 (pc := 94) X d_X13_figures_94 ?_
  refine L_iload_n (pc := 97) X d_X13_figures_97 rfl 3 rfl ?_
  refine L_icmp_eq (pc := 98) (tgt := 123) X d_X13_figures_98 (by decide) (fun c98 => ?_) (fun c98 => ?_)
  · replace h := h.1 c98
    refine LW.sub [0, 3, 4] rfl ?_
    exact T_X13_figures_123 hl X hr hex _ _  _ h
  · replace h := h.2 c98
    refine L_aload_n (pc := 101) X d_X13_figures_101 rfl 0 rfl ?_
    refine gf_X13_60 (pc := 102) X d_X13_figures_102 ?_
    refine L_iload_n (pc := 105) X d_X13_figures_105 rfl 3 rfl ?_
    refine L_isub (pc := 106) X d_X13_figures_106 ?_
    refine L_iconst (pc := 107) (v := 3) X d_X13_figures_107 (by decide) ?_
    refine L_icmp_gt (pc := 108) (tgt := 123) X d_X13_figures_108 (by decide) (fun c108 => ?_) (fun c108 => ?_)
    · replace h := h.1 c108
      refine LW.sub [0, 3, 4] rfl ?_
      exact T_X13_figures_123 hl X hr hex _ _  _ h
    · replace h := h.2 c108
      refine L_iload (pc := 111) X d_X13_figures_111 4 rfl ?_
      refine L_iload_n (pc := 113) X d_X13_figures_113 rfl 1 rfl ?_
      refine L_icmp_lt (pc := 114) (tgt := 123) X d_X13_figures_114 (by decide) (fun c114 => ?_) (fun c114 => ?_)
      · replace h := h.1 c114
        refine LW.sub [0, 3, 4] rfl ?_
        exact T_X13_figures_123 hl X hr hex _ _  _ h
      · replace h := h.2 c114
        refine L_iload (pc := 117) X d_X13_figures_117 4 rfl ?_
        refine L_iload_n (pc := 119) X d_X13_figures_119 rfl 2 rfl ?_
        refine L_icmp_le (pc := 120) (tgt := 128) X d_X13_figures_120 (by decide) (fun c120 => ?_) (fun c120 => ?_)
        · replace h := h.1 c120
          refine LW.sub [4] rfl ?_
          exact T_X13_figures_128 hl X hr hex _  _ h
        · replace h := h.2 c120
          refine LW.sub [0, 3, 4] rfl ?_
          exact T_X13_figures_123 hl X hr hex _ _  _ h
set_option maxHeartbeats 4000000 in
set_option maxRecDepth 100000 in
theorem T_X13_figures_22 {post : Int32 → (Nat → Nat → Int32) → Prop} (hl : l.stackTraces = false) (X : MC p l s m args meth c cX13_figures 5 RX13 G ρ A) (hr : meth.sig.returnType = (some .int)) (hex : ∀ z ∈ c.exceptionTable.toList, False) (n : Nat) : ∀ (v1 : Int32) (v2 : Int32) (v3 : Int32) (v4 : Int32) (mm : (Nat → Nat → Int32)), B_X13_figures_22 post n v1 v2 v3 v4 mm → LW p l e rm_X13_figures s m args below meth c (Qm below G ρ A (PI (fun u => (cm, u, oo)) post) noX args s 0 0) G ρ A 5 0 0 22 [(0, .ref 703), (1, .int v1), (2, .int v2), (3, .int v3), (4, .int v4)] [] (cm, mm, oo) := by
  induction n with
  | zero =>
    intro v1 v2 v3 v4 mm h
    exact False.elim h
  | succ n ih =>
    intro v1 v2 v3 v4 mm h
    unfold B_X13_figures_22 at h
    refine L_aload_n (pc := 22) X d_X13_figures_22 rfl 0 rfl ?_
    refine gf_X13_60 (pc := 23) X d_X13_figures_23 ?_
    refine L_aload_n (pc := 26) X d_X13_figures_26 rfl 0 rfl ?_
    refine gf_X13_63 (pc := 27) X d_X13_figures_27 ?_
    refine L_icmp_ge (pc := 30) (tgt := 93) X d_X13_figures_30 (by decide) (fun c30 => ?_) (fun c30 => ?_)
    · replace h := h.1 c30
      refine LW.sub [0, 1, 2, 3, 4] rfl ?_
      exact T_X13_figures_93 hl X hr hex _ _ _ _  _ h
    · replace h := h.2 c30
      refine L_aload_n (pc := 33) X d_X13_figures_33 rfl 0 rfl ?_
      refine L_aload_n (pc := 34) X d_X13_figures_34 rfl 0 rfl ?_
      refine gf_X13_60 (pc := 35) X d_X13_figures_35 ?_
      refine L_callVI (pc := 38) X lk_X13_66 (c_X13_letter X.hst  h) rfl rfl kd_703 (by decide) rfl rfl ⟨by decide, by decide⟩ ⟨by decide, by decide⟩ (Nat.zero_le _) d_X13_figures_38 rfl (fun x κ1 hx => L_nox hx) (fun r3 u4 h => ?_)
      refine L_bipush (pc := 41) (v := 48) X d_X13_figures_41 (by decide) ?_
      refine L_bipush (pc := 43) (v := 57) X d_X13_figures_43 (by decide) ?_
      refine L_callSZ (pc := 45) X lk_X13_50 (c_X13_isIn X.hst  h) rfl rfl rfl ⟨by decide, by decide⟩ ⟨by decide, by decide⟩ (Nat.zero_le _) d_X13_figures_45 rfl (fun x κ1 hx => L_nox hx) (fun r5 u6 h => ?_)
      refine L_if_eq (pc := 48) (tgt := 93) X d_X13_figures_48 (by decide) (fun c48 => ?_) (fun c48 => ?_)
      · replace h := h.1 ((b2_0 _).mp c48)
        refine LW.sub [0, 1, 2, 3, 4] rfl ?_
        exact T_X13_figures_93 hl X hr hex _ _ _ _  _ h
      · replace h := h.2 (fun z => c48 ((b2_0 _).mpr z))
        refine L_aload_n (pc := 51) X d_X13_figures_51 rfl 0 rfl ?_
        refine gf_X13_60 (pc := 52) X d_X13_figures_52 ?_
        refine L_iload_n (pc := 55) X d_X13_figures_55 rfl 3 rfl ?_
        refine L_isub (pc := 56) X d_X13_figures_56 ?_
        refine L_iconst (pc := 57) (v := 4) X d_X13_figures_57 (by decide) ?_
        refine L_icmp_ge (pc := 58) (tgt := 93) X d_X13_figures_58 (by decide) (fun c58 => ?_) (fun c58 => ?_)
        · replace h := h.1 c58
          refine LW.sub [0, 1, 2, 3, 4] rfl ?_
          exact T_X13_figures_93 hl X hr hex _ _ _ _  _ h
        · replace h := h.2 c58
          refine L_bipush (pc := 61) (v := 10) X d_X13_figures_61 (by decide) ?_
          refine L_iload (pc := 63) X d_X13_figures_63 4 rfl ?_
          refine L_imul (pc := 65) X d_X13_figures_65 ?_
          refine L_aload_n (pc := 66) X d_X13_figures_66 rfl 0 rfl ?_
          refine L_aload_n (pc := 67) X d_X13_figures_67 rfl 0 rfl ?_
          refine gf_X13_60 (pc := 68) X d_X13_figures_68 ?_
          refine L_callVI (pc := 71) X lk_X13_66 (c_X13_letter X.hst  h) rfl rfl kd_703 (by decide) rfl rfl ⟨by decide, by decide⟩ ⟨by decide, by decide⟩ (Nat.le_of_ble_eq_true rfl) d_X13_figures_71 rfl (fun x κ1 hx => L_nox hx) (fun r7 u8 h => ?_)
          refine L_iadd (pc := 74) X d_X13_figures_74 ?_
          refine L_bipush (pc := 75) (v := 48) X d_X13_figures_75 (by decide) ?_
          refine L_isub (pc := 77) X d_X13_figures_77 ?_
          refine L_istore (pc := 78) (lv2 := [(4, .int (((10 * v4) + r7) - 48)), (0, .ref 703), (1, .int v1), (2, .int v2), (3, .int v3)]) X d_X13_figures_78 (by decide) rfl ?_
          refine L_aload_n (pc := 80) X d_X13_figures_80 rfl 1 rfl ?_
          refine L_dup (pc := 81) X d_X13_figures_81 rfl ?_
          refine gf_X13_60 (pc := 82) X d_X13_figures_82 ?_
          refine L_iconst (pc := 85) (v := 1) X d_X13_figures_85 (by decide) ?_
          refine L_iadd (pc := 86) X d_X13_figures_86 ?_
          refine pf_X13_60 (pc := 87) X d_X13_figures_87 ?_
          refine L_goto (pc := 90) (tgt := 22) X d_X13_figures_90 (by decide) ?_
          refine LW.sub [1, 2, 3, 4, 0] rfl ?_
          exact ih _ _ _ _  _ h
set_option maxHeartbeats 4000000 in
set_option maxRecDepth 100000 in
theorem c_X13_figures (hl : l.stackTraces = false) {x1 : Int32} {x2 : Int32} {mm : (Nat → Nat → Int32)} {post : Int32 → (Nat → Nat → Int32) → Prop} (h : w_X13_figures post x1 x2 mm) : CT l yX13_figures (.code yX13_figures cX13_figures 5 (some .int)) rm_X13_figures 0 0 G ρ [.ref 703, .int x1, .int x2] (cm, mm, oo) (PI (fun u => (cm, u, oo)) post) noX := by
  refine CT_of hl (by decide +kernel) rfl (Nat.le_of_ble_eq_true rfl) (lv0 := [(0, .ref 703), (1, .int x1), (2, .int x2)]) rfl (fun p e s m args below meth c A X hr hex hnm => ?_)
  unfold w_X13_figures at h
  refine L_aload_n (pc := 0) X d_X13_figures_0 rfl 0 rfl ?_
  refine gf_X13_22 (pc := 1) X d_X13_figures_1 ?_
  refine L_iconst (pc := 4) (v := (-1)) X d_X13_figures_4 (by decide) ?_
  refine L_icmp_eq (pc := 5) (tgt := 10) X d_X13_figures_5 (by decide) (fun c5 => ?_) (fun c5 => ?_)
  · replace h := h.1 c5
    refine L_aload_n (pc := 10) X d_X13_figures_10 rfl 0 rfl ?_
    refine L_callVV (pc := 11) X lk_X13_70 (c_X13_skip X.hst  h) rfl rfl kd_703 (by decide) rfl rfl ⟨by decide, by decide⟩ ⟨by decide, by decide⟩ (Nat.zero_le _) d_X13_figures_11 rfl (fun x κ1 hx => L_nox hx) (fun u2 h => ?_)
    refine L_aload_n (pc := 14) X d_X13_figures_14 rfl 0 rfl ?_
    refine gf_X13_60 (pc := 15) X d_X13_figures_15 ?_
    refine L_istore_n (pc := 18) (lv2 := [(3, .int (u2 0 9)), (0, .ref 703), (1, .int x1), (2, .int x2)]) X d_X13_figures_18 rfl (by decide) rfl ?_
    refine L_iconst (pc := 19) (v := 0) X d_X13_figures_19 (by decide) ?_
    refine L_istore (pc := 20) (lv2 := [(4, .int 0), (3, .int (u2 0 9)), (0, .ref 703), (1, .int x1), (2, .int x2)]) X d_X13_figures_20 (by decide) rfl ?_
    obtain ⟨n22, h⟩ := h
    refine LW.sub [2, 3, 4, 1, 0] rfl ?_
    exact T_X13_figures_22 hl X hr hex n22 _ _ _ _  _ h
  · replace h := h.2 c5
    refine L_iconst (pc := 8) (v := 0) X d_X13_figures_8 (by decide) ?_
    exact L_iret (pc := 9) X hr d_X13_figures_9 (by decide) (by decide) ⟨_, _, rfl, rfl, h⟩
end G_X13_figures
theorem d_X13_begins_0 : decode cX13_begins 0 = .ok (.aload_n 0, 1) := by decide +kernel
theorem d_X13_begins_1 : decode cX13_begins 1 = .ok (.iconst (-1), 1) := by decide +kernel
theorem d_X13_begins_2 : decode cX13_begins 2 = .ok (.putfield 22, 3) := by decide +kernel
theorem d_X13_begins_5 : decode cX13_begins 5 = .ok (.aload_n 0, 1) := by decide +kernel
theorem d_X13_begins_6 : decode cX13_begins 6 = .ok (.iconst (-1), 1) := by decide +kernel
theorem d_X13_begins_7 : decode cX13_begins 7 = .ok (.putfield 57, 3) := by decide +kernel
theorem d_X13_begins_10 : decode cX13_begins 10 = .ok (.aload_n 0, 1) := by decide +kernel
theorem d_X13_begins_11 : decode cX13_begins 11 = .ok (.aload_n 0, 1) := by decide +kernel
theorem d_X13_begins_12 : decode cX13_begins 12 = .ok (.getfield 54, 3) := by decide +kernel
theorem d_X13_begins_15 : decode cX13_begins 15 = .ok (.putfield 63, 3) := by decide +kernel
theorem d_X13_begins_18 : decode cX13_begins 18 = .ok (.aload_n 0, 1) := by decide +kernel
theorem d_X13_begins_19 : decode cX13_begins 19 = .ok (.iconst 0, 1) := by decide +kernel
theorem d_X13_begins_20 : decode cX13_begins 20 = .ok (.putfield 54, 3) := by decide +kernel
theorem d_X13_begins_23 : decode cX13_begins 23 = .ok (.aload_n 0, 1) := by decide +kernel
theorem d_X13_begins_24 : decode cX13_begins 24 = .ok (.iconst 0, 1) := by decide +kernel
theorem d_X13_begins_25 : decode cX13_begins 25 = .ok (.putfield 60, 3) := by decide +kernel
theorem d_X13_begins_28 : decode cX13_begins 28 = .ok (.aload_n 0, 1) := by decide +kernel
theorem d_X13_begins_29 : decode cX13_begins 29 = .ok (.iconst 0, 1) := by decide +kernel
theorem d_X13_begins_30 : decode cX13_begins 30 = .ok (.putfield 109, 3) := by decide +kernel
theorem d_X13_begins_33 : decode cX13_begins 33 = .ok (.return_, 1) := by decide +kernel
abbrev rm_X13_begins : Room := { frames := 0, cells := 0, slots := 0, locals := 0 }
def w_X13_begins (post : (Nat → Nat → Int32) → Prop) (mm : (Nat → Nat → Int32)) : Prop := post (up2 (up2 (up2 (up2 (up2 (up2 mm 0 10 (-1)) 0 7 (-1)) 0 8 ((up2 (up2 mm 0 10 (-1)) 0 7 (-1)) 0 6)) 0 6 0) 0 9 0) 0 11 0)
section G_X13_begins
variable {p : Program} {l : Launch} {e : Env} {s : State} {m : MethodId} {args : Array Value} {below : List Frame} {meth : Method} {c : Code} {G : Gd} {ρ : Nat → Nat} {A : Nat → Prop} {cm : CMu} {oo : Nat → Int64}
set_option maxHeartbeats 4000000 in
set_option maxRecDepth 100000 in
theorem c_X13_begins (hl : l.stackTraces = false) {mm : (Nat → Nat → Int32)} {post : (Nat → Nat → Int32) → Prop} (h : w_X13_begins post mm) : CT l yX13_begins (.code yX13_begins cX13_begins 1 none) rm_X13_begins 0 0 G ρ [.ref 703] (cm, mm, oo) (PV (fun u => (cm, u, oo)) post) noX := by
  refine CT_of hl (by decide +kernel) rfl (Nat.le_of_ble_eq_true rfl) (lv0 := [(0, .ref 703)]) rfl (fun p e s m args below meth c A X hr hex hnm => ?_)
  unfold w_X13_begins at h
  refine L_aload_n (pc := 0) X d_X13_begins_0 rfl 0 rfl ?_
  refine L_iconst (pc := 1) (v := (-1)) X d_X13_begins_1 (by decide) ?_
  refine pf_X13_22 (pc := 2) X d_X13_begins_2 ?_
  refine L_aload_n (pc := 5) X d_X13_begins_5 rfl 0 rfl ?_
  refine L_iconst (pc := 6) (v := (-1)) X d_X13_begins_6 (by decide) ?_
  refine pf_X13_57 (pc := 7) X d_X13_begins_7 ?_
  refine L_aload_n (pc := 10) X d_X13_begins_10 rfl 0 rfl ?_
  refine L_aload_n (pc := 11) X d_X13_begins_11 rfl 0 rfl ?_
  refine gf_X13_54 (pc := 12) X d_X13_begins_12 ?_
  refine pf_X13_63 (pc := 15) X d_X13_begins_15 ?_
  refine L_aload_n (pc := 18) X d_X13_begins_18 rfl 0 rfl ?_
  refine L_iconst (pc := 19) (v := 0) X d_X13_begins_19 (by decide) ?_
  refine pf_X13_54 (pc := 20) X d_X13_begins_20 ?_
  refine L_aload_n (pc := 23) X d_X13_begins_23 rfl 0 rfl ?_
  refine L_iconst (pc := 24) (v := 0) X d_X13_begins_24 (by decide) ?_
  refine pf_X13_60 (pc := 25) X d_X13_begins_25 ?_
  refine L_aload_n (pc := 28) X d_X13_begins_28 rfl 0 rfl ?_
  refine L_iconst (pc := 29) (v := 0) X d_X13_begins_29 (by decide) ?_
  refine pf_X13_109 (pc := 30) X d_X13_begins_30 ?_
  exact L_vret (pc := 33) X hr d_X13_begins_33 (by decide) (by decide) ⟨_, rfl, rfl, h⟩
end G_X13_begins
theorem d_X13_fault_0 : decode cX13_fault 0 = .ok (.aload_n 0, 1) := by decide +kernel
theorem d_X13_fault_1 : decode cX13_fault 1 = .ok (.iconst 0, 1) := by decide +kernel
theorem d_X13_fault_2 : decode cX13_fault 2 = .ok (.putfield 47, 3) := by decide +kernel
theorem d_X13_fault_5 : decode cX13_fault 5 = .ok (.aload_n 0, 1) := by decide +kernel
theorem d_X13_fault_6 : decode cX13_fault 6 = .ok (.getfield 22, 3) := by decide +kernel
theorem d_X13_fault_9 : decode cX13_fault 9 = .ok (.ireturn, 1) := by decide +kernel
abbrev rm_X13_fault : Room := { frames := 0, cells := 0, slots := 0, locals := 0 }
def w_X13_fault (post : Int32 → (Nat → Nat → Int32) → Prop) (mm : (Nat → Nat → Int32)) : Prop := post ((up2 mm 0 0 0) 0 10) (up2 mm 0 0 0)
section G_X13_fault
variable {p : Program} {l : Launch} {e : Env} {s : State} {m : MethodId} {args : Array Value} {below : List Frame} {meth : Method} {c : Code} {G : Gd} {ρ : Nat → Nat} {A : Nat → Prop} {cm : CMu} {oo : Nat → Int64}
set_option maxHeartbeats 4000000 in
set_option maxRecDepth 100000 in
theorem c_X13_fault (hl : l.stackTraces = false) {mm : (Nat → Nat → Int32)} {post : Int32 → (Nat → Nat → Int32) → Prop} (h : w_X13_fault post mm) : CT l yX13_fault (.code yX13_fault cX13_fault 1 (some .int)) rm_X13_fault 0 0 G ρ [.ref 703] (cm, mm, oo) (PI (fun u => (cm, u, oo)) post) noX := by
  refine CT_of hl (by decide +kernel) rfl (Nat.le_of_ble_eq_true rfl) (lv0 := [(0, .ref 703)]) rfl (fun p e s m args below meth c A X hr hex hnm => ?_)
  unfold w_X13_fault at h
  refine L_aload_n (pc := 0) X d_X13_fault_0 rfl 0 rfl ?_
  refine L_iconst (pc := 1) (v := 0) X d_X13_fault_1 (by decide) ?_
  refine pf_X13_47 (pc := 2) X d_X13_fault_2 ?_
  refine L_aload_n (pc := 5) X d_X13_fault_5 rfl 0 rfl ?_
  refine gf_X13_22 (pc := 6) X d_X13_fault_6 ?_
  exact L_iret (pc := 9) X hr d_X13_fault_9 (by decide) (by decide) ⟨_, _, rfl, rfl, h⟩
end G_X13_fault
theorem yk_X13_sets : yX13_sets.cls = RX13 ∧ yX13_sets.cls ≠ "java/lang/invoke/MethodHandle" ∧ yX13_sets.cls ≠ "java/lang/invoke/VarHandle" ∧ (parseMethodDescriptor yX13_sets.desc).map (fun d => d.parameters.length) = some 3 := by decide +kernel
theorem lk_X13_202 : LinkV RX13 202 RX13 yX13_sets (.code yX13_sets cX13_sets 4 none) 3 := ⟨tw_1455, tw_1457, tw_56, tw_83, tw_1458, yk_X13_sets⟩
theorem d_X13_adds_0 : decode cX13_adds 0 = .ok (.aload_n 0, 1) := by decide +kernel
theorem d_X13_adds_1 : decode cX13_adds 1 = .ok (.getfield 7, 3) := by decide +kernel
theorem d_X13_adds_4 : decode cX13_adds 4 = .ok (.iconst 2, 1) := by decide +kernel
theorem d_X13_adds_5 : decode cX13_adds 5 = .ok (.iaload, 1) := by decide +kernel
theorem d_X13_adds_6 : decode cX13_adds 6 = .ok (.istore 5, 2) := by decide +kernel
theorem d_X13_adds_8 : decode cX13_adds 8 = .ok (.aload_n 0, 1) := by decide +kernel
theorem d_X13_adds_9 : decode cX13_adds 9 = .ok (.getfield 7, 3) := by decide +kernel
theorem d_X13_adds_12 : decode cX13_adds 12 = .ok (.iconst 2, 1) := by decide +kernel
theorem d_X13_adds_13 : decode cX13_adds 13 = .ok (.dup2, 1) := by decide +kernel
theorem d_X13_adds_14 : decode cX13_adds 14 = .ok (.iaload, 1) := by decide +kernel
theorem d_X13_adds_15 : decode cX13_adds 15 = .ok (.iconst 1, 1) := by decide +kernel
theorem d_X13_adds_16 : decode cX13_adds 16 = .ok (.iadd, 1) := by decide +kernel
theorem d_X13_adds_17 : decode cX13_adds 17 = .ok (.iastore, 1) := by decide +kernel
theorem d_X13_adds_18 : decode cX13_adds 18 = .ok (.iconst 0, 1) := by decide +kernel
theorem d_X13_adds_19 : decode cX13_adds 19 = .ok (.istore 6, 2) := by decide +kernel
theorem d_X13_adds_21 : decode cX13_adds 21 = .ok (.iload 6, 2) := by decide +kernel
theorem d_X13_adds_23 : decode cX13_adds 23 = .ok (.bipush 8, 2) := by decide +kernel
theorem d_X13_adds_25 : decode cX13_adds 25 = .ok (.if_icmp .ge 18, 3) := by decide +kernel
theorem d_X13_adds_28 : decode cX13_adds 28 = .ok (.aload_n 0, 1) := by decide +kernel
theorem d_X13_adds_29 : decode cX13_adds 29 = .ok (.iload 5, 2) := by decide +kernel
theorem d_X13_adds_31 : decode cX13_adds 31 = .ok (.iload 6, 2) := by decide +kernel
theorem d_X13_adds_33 : decode cX13_adds 33 = .ok (.iconst 0, 1) := by decide +kernel
theorem d_X13_adds_34 : decode cX13_adds 34 = .ok (.invokevirtual 202, 3) := by decide +kernel
theorem d_X13_adds_37 : decode cX13_adds 37 = .ok (.iinc 6 1, 3) := by decide +kernel
theorem d_X13_adds_40 : decode cX13_adds 40 = .ok (.goto (-19), 3) := by decide +kernel
theorem d_X13_adds_43 : decode cX13_adds 43 = .ok (.aload_n 0, 1) := by decide +kernel
theorem d_X13_adds_44 : decode cX13_adds 44 = .ok (.iload 5, 2) := by decide +kernel
theorem d_X13_adds_46 : decode cX13_adds 46 = .ok (.iconst 1, 1) := by decide +kernel
theorem d_X13_adds_47 : decode cX13_adds 47 = .ok (.iload_n 1, 1) := by decide +kernel
theorem d_X13_adds_48 : decode cX13_adds 48 = .ok (.invokevirtual 202, 3) := by decide +kernel
theorem d_X13_adds_51 : decode cX13_adds 51 = .ok (.aload_n 0, 1) := by decide +kernel
theorem d_X13_adds_52 : decode cX13_adds 52 = .ok (.iload 5, 2) := by decide +kernel
theorem d_X13_adds_54 : decode cX13_adds 54 = .ok (.iconst 3, 1) := by decide +kernel
theorem d_X13_adds_55 : decode cX13_adds 55 = .ok (.iload_n 2, 1) := by decide +kernel
theorem d_X13_adds_56 : decode cX13_adds 56 = .ok (.invokevirtual 202, 3) := by decide +kernel
theorem d_X13_adds_59 : decode cX13_adds 59 = .ok (.aload_n 0, 1) := by decide +kernel
theorem d_X13_adds_60 : decode cX13_adds 60 = .ok (.iload 5, 2) := by decide +kernel
theorem d_X13_adds_62 : decode cX13_adds 62 = .ok (.iconst 4, 1) := by decide +kernel
theorem d_X13_adds_63 : decode cX13_adds 63 = .ok (.aload_n 0, 1) := by decide +kernel
theorem d_X13_adds_64 : decode cX13_adds 64 = .ok (.getfield 7, 3) := by decide +kernel
theorem d_X13_adds_67 : decode cX13_adds 67 = .ok (.iconst 4, 1) := by decide +kernel
theorem d_X13_adds_68 : decode cX13_adds 68 = .ok (.iaload, 1) := by decide +kernel
theorem d_X13_adds_69 : decode cX13_adds 69 = .ok (.invokevirtual 202, 3) := by decide +kernel
theorem d_X13_adds_72 : decode cX13_adds 72 = .ok (.aload_n 0, 1) := by decide +kernel
theorem d_X13_adds_73 : decode cX13_adds 73 = .ok (.iload 5, 2) := by decide +kernel
theorem d_X13_adds_75 : decode cX13_adds 75 = .ok (.iconst 5, 1) := by decide +kernel
theorem d_X13_adds_76 : decode cX13_adds 76 = .ok (.iload_n 3, 1) := by decide +kernel
theorem d_X13_adds_77 : decode cX13_adds 77 = .ok (.invokevirtual 202, 3) := by decide +kernel
theorem d_X13_adds_80 : decode cX13_adds 80 = .ok (.aload_n 0, 1) := by decide +kernel
theorem d_X13_adds_81 : decode cX13_adds 81 = .ok (.iload 5, 2) := by decide +kernel
theorem d_X13_adds_83 : decode cX13_adds 83 = .ok (.bipush 7, 2) := by decide +kernel
theorem d_X13_adds_85 : decode cX13_adds 85 = .ok (.iload 4, 2) := by decide +kernel
theorem d_X13_adds_87 : decode cX13_adds 87 = .ok (.invokevirtual 202, 3) := by decide +kernel
theorem d_X13_adds_90 : decode cX13_adds 90 = .ok (.iload 5, 2) := by decide +kernel
theorem d_X13_adds_92 : decode cX13_adds 92 = .ok (.ireturn, 1) := by decide +kernel
abbrev rm_X13_adds : Room := { frames := 1, cells := 0, slots := 0, locals := 23 }
def B_X13_adds_21 (post : Int32 → (Nat → Nat → Int32) → Prop) : Nat → Int32 → Int32 → Int32 → Int32 → Int32 → Int32 → (Nat → Nat → Int32) → Prop
  | 0 => fun _ _ _ _ _ _ _ => False
  | n + 1 => fun v1 v2 v3 v4 v5 v6 mm => (8 ≤ v6 → (w_X13_sets (fun (u2 : (Nat → Nat → Int32)) => w_X13_sets (fun (u4 : (Nat → Nat → Int32)) => w_X13_sets (fun (u6 : (Nat → Nat → Int32)) => w_X13_sets (fun (u8 : (Nat → Nat → Int32)) => w_X13_sets (fun (u10 : (Nat → Nat → Int32)) => post v5 u10) v5 7 v4 u8) v5 5 v3 u6) v5 4 (u4 1 (Int32.toNatClampNeg (4 : Int32))) u4) v5 3 v2 u2) v5 1 v1 mm)) ∧ (¬ 8 ≤ v6 → (w_X13_sets (fun (u12 : (Nat → Nat → Int32)) => B_X13_adds_21 post n v1 v2 v3 v4 v5 (v6 + 1) u12) v5 v6 0 mm))
def w_X13_adds (post : Int32 → (Nat → Nat → Int32) → Prop) (x1 : Int32) (x2 : Int32) (x3 : Int32) (x4 : Int32) (mm : (Nat → Nat → Int32)) : Prop := ∃ n21, B_X13_adds_21 post n21 x1 x2 x3 x4 (mm 1 (Int32.toNatClampNeg (2 : Int32))) 0 (up2 mm 1 (Int32.toNatClampNeg (2 : Int32)) ((mm 1 (Int32.toNatClampNeg (2 : Int32))) + 1))
section G_X13_adds
variable {p : Program} {l : Launch} {e : Env} {s : State} {m : MethodId} {args : Array Value} {below : List Frame} {meth : Method} {c : Code} {G : Gd} {ρ : Nat → Nat} {A : Nat → Prop} {cm : CMu} {oo : Nat → Int64}
set_option maxHeartbeats 4000000 in
set_option maxRecDepth 100000 in
theorem T_X13_adds_21 {post : Int32 → (Nat → Nat → Int32) → Prop} (hl : l.stackTraces = false) (X : MC p l s m args meth c cX13_adds 7 RX13 G ρ A) (hr : meth.sig.returnType = (some .int)) (hex : ∀ z ∈ c.exceptionTable.toList, False) (n : Nat) : ∀ (v1 : Int32) (v2 : Int32) (v3 : Int32) (v4 : Int32) (v5 : Int32) (v6 : Int32) (mm : (Nat → Nat → Int32)), B_X13_adds_21 post n v1 v2 v3 v4 v5 v6 mm → LW p l e rm_X13_adds s m args below meth c (Qm below G ρ A (PI (fun u => (cm, u, oo)) post) noX args s 0 0) G ρ A 7 0 0 21 [(0, .ref 703), (1, .int v1), (2, .int v2), (3, .int v3), (4, .int v4), (5, .int v5), (6, .int v6)] [] (cm, mm, oo) := by
  induction n with
  | zero =>
    intro v1 v2 v3 v4 v5 v6 mm h
    exact False.elim h
  | succ n ih =>
    intro v1 v2 v3 v4 v5 v6 mm h
    unfold B_X13_adds_21 at h
    refine L_iload (pc := 21) X d_X13_adds_21 6 rfl ?_
    refine L_bipush (pc := 23) (v := 8) X d_X13_adds_23 (by decide) ?_
    refine L_icmp_ge (pc := 25) (tgt := 43) X d_X13_adds_25 (by decide) (fun c25 => ?_) (fun c25 => ?_)
    · replace h := h.1 c25
      refine L_aload_n (pc := 43) X d_X13_adds_43 rfl 0 rfl ?_
      refine L_iload (pc := 44) X d_X13_adds_44 5 rfl ?_
      refine L_iconst (pc := 46) (v := 1) X d_X13_adds_46 (by decide) ?_
      refine L_iload_n (pc := 47) X d_X13_adds_47 rfl 1 rfl ?_
      refine L_callVV (pc := 48) X lk_X13_202 (c_X13_sets X.hst  h) rfl rfl kd_703 (by decide) rfl rfl ⟨by decide, by decide⟩ ⟨by decide, by decide⟩ (Nat.zero_le _) d_X13_adds_48 rfl (fun x κ1 hx => L_nox hx) (fun u2 h => ?_)
      refine L_aload_n (pc := 51) X d_X13_adds_51 rfl 0 rfl ?_
      refine L_iload (pc := 52) X d_X13_adds_52 5 rfl ?_
      refine L_iconst (pc := 54) (v := 3) X d_X13_adds_54 (by decide) ?_
      refine L_iload_n (pc := 55) X d_X13_adds_55 rfl 2 rfl ?_
      refine L_callVV (pc := 56) X lk_X13_202 (c_X13_sets X.hst  h) rfl rfl kd_703 (by decide) rfl rfl ⟨by decide, by decide⟩ ⟨by decide, by decide⟩ (Nat.zero_le _) d_X13_adds_56 rfl (fun x κ1 hx => L_nox hx) (fun u4 h => ?_)
      refine L_aload_n (pc := 59) X d_X13_adds_59 rfl 0 rfl ?_
      refine L_iload (pc := 60) X d_X13_adds_60 5 rfl ?_
      refine L_iconst (pc := 62) (v := 4) X d_X13_adds_62 (by decide) ?_
      refine L_aload_n (pc := 63) X d_X13_adds_63 rfl 0 rfl ?_
      refine gf_X13_7 (pc := 64) X d_X13_adds_64 ?_
      refine L_iconst (pc := 67) (v := 4) X d_X13_adds_67 (by decide) ?_
      refine L_ialdM (pc := 68) (a := 1) X d_X13_adds_68 kd_704 (by unfold vp_in; decide) ?_
      refine L_callVV (pc := 69) X lk_X13_202 (c_X13_sets X.hst  h) rfl rfl kd_703 (by decide) rfl rfl ⟨by decide, by decide⟩ ⟨by decide, by decide⟩ (Nat.zero_le _) d_X13_adds_69 rfl (fun x κ1 hx => L_nox hx) (fun u6 h => ?_)
      refine L_aload_n (pc := 72) X d_X13_adds_72 rfl 0 rfl ?_
      refine L_iload (pc := 73) X d_X13_adds_73 5 rfl ?_
      refine L_iconst (pc := 75) (v := 5) X d_X13_adds_75 (by decide) ?_
      refine L_iload_n (pc := 76) X d_X13_adds_76 rfl 3 rfl ?_
      refine L_callVV (pc := 77) X lk_X13_202 (c_X13_sets X.hst  h) rfl rfl kd_703 (by decide) rfl rfl ⟨by decide, by decide⟩ ⟨by decide, by decide⟩ (Nat.zero_le _) d_X13_adds_77 rfl (fun x κ1 hx => L_nox hx) (fun u8 h => ?_)
      refine L_aload_n (pc := 80) X d_X13_adds_80 rfl 0 rfl ?_
      refine L_iload (pc := 81) X d_X13_adds_81 5 rfl ?_
      refine L_bipush (pc := 83) (v := 7) X d_X13_adds_83 (by decide) ?_
      refine L_iload (pc := 85) X d_X13_adds_85 4 rfl ?_
      refine L_callVV (pc := 87) X lk_X13_202 (c_X13_sets X.hst  h) rfl rfl kd_703 (by decide) rfl rfl ⟨by decide, by decide⟩ ⟨by decide, by decide⟩ (Nat.zero_le _) d_X13_adds_87 rfl (fun x κ1 hx => L_nox hx) (fun u10 h => ?_)
      refine L_iload (pc := 90) X d_X13_adds_90 5 rfl ?_
      exact L_iret (pc := 92) X hr d_X13_adds_92 (by decide) (by decide) ⟨_, _, rfl, rfl, h⟩
    · replace h := h.2 c25
      refine L_aload_n (pc := 28) X d_X13_adds_28 rfl 0 rfl ?_
      refine L_iload (pc := 29) X d_X13_adds_29 5 rfl ?_
      refine L_iload (pc := 31) X d_X13_adds_31 6 rfl ?_
      refine L_iconst (pc := 33) (v := 0) X d_X13_adds_33 (by decide) ?_
      refine L_callVV (pc := 34) X lk_X13_202 (c_X13_sets X.hst  h) rfl rfl kd_703 (by decide) rfl rfl ⟨by decide, by decide⟩ ⟨by decide, by decide⟩ (Nat.zero_le _) d_X13_adds_34 rfl (fun x κ1 hx => L_nox hx) (fun u12 h => ?_)
      refine L_iinc (pc := 37) (v := v6 + 1) (lv2 := [(6, .int (v6 + 1)), (0, .ref 703), (1, .int v1), (2, .int v2), (3, .int v3), (4, .int v4), (5, .int v5)]) X d_X13_adds_37 6 rfl rfl (by decide) rfl ?_
      refine L_goto (pc := 40) (tgt := 21) X d_X13_adds_40 (by decide) ?_
      refine LW.sub [1, 2, 3, 4, 5, 6, 0] rfl ?_
      exact ih _ _ _ _ _ _  _ h
set_option maxHeartbeats 4000000 in
set_option maxRecDepth 100000 in
theorem c_X13_adds (hl : l.stackTraces = false) {x1 : Int32} {x2 : Int32} {x3 : Int32} {x4 : Int32} {mm : (Nat → Nat → Int32)} {post : Int32 → (Nat → Nat → Int32) → Prop} (h : w_X13_adds post x1 x2 x3 x4 mm) : CT l yX13_adds (.code yX13_adds cX13_adds 7 (some .int)) rm_X13_adds 0 0 G ρ [.ref 703, .int x1, .int x2, .int x3, .int x4] (cm, mm, oo) (PI (fun u => (cm, u, oo)) post) noX := by
  refine CT_of hl (by decide +kernel) rfl (Nat.le_of_ble_eq_true rfl) (lv0 := [(0, .ref 703), (1, .int x1), (2, .int x2), (3, .int x3), (4, .int x4)]) rfl (fun p e s m args below meth c A X hr hex hnm => ?_)
  unfold w_X13_adds at h
  refine L_aload_n (pc := 0) X d_X13_adds_0 rfl 0 rfl ?_
  refine gf_X13_7 (pc := 1) X d_X13_adds_1 ?_
  refine L_iconst (pc := 4) (v := 2) X d_X13_adds_4 (by decide) ?_
  refine L_ialdM (pc := 5) (a := 1) X d_X13_adds_5 kd_704 (by unfold vp_in; decide) ?_
  refine L_istore (pc := 6) (lv2 := [(5, .int (mm 1 (Int32.toNatClampNeg (2 : Int32)))), (0, .ref 703), (1, .int x1), (2, .int x2), (3, .int x3), (4, .int x4)]) X d_X13_adds_6 (by decide) rfl ?_
  refine L_aload_n (pc := 8) X d_X13_adds_8 rfl 1 rfl ?_
  refine gf_X13_7 (pc := 9) X d_X13_adds_9 ?_
  refine L_iconst (pc := 12) (v := 2) X d_X13_adds_12 (by decide) ?_
  refine L_dup2 (pc := 13) X d_X13_adds_13 rfl rfl ?_
  refine L_ialdM (pc := 14) (a := 1) X d_X13_adds_14 kd_704 (by unfold vp_in; decide) ?_
  refine L_iconst (pc := 15) (v := 1) X d_X13_adds_15 (by decide) ?_
  refine L_iadd (pc := 16) X d_X13_adds_16 ?_
  refine L_iastM (pc := 17) (a := 1) X d_X13_adds_17 kd_704 (by unfold vp_in; decide) ?_
  refine L_iconst (pc := 18) (v := 0) X d_X13_adds_18 (by decide) ?_
  refine L_istore (pc := 19) (lv2 := [(6, .int 0), (5, .int (mm 1 (Int32.toNatClampNeg (2 : Int32)))), (0, .ref 703), (1, .int x1), (2, .int x2), (3, .int x3), (4, .int x4)]) X d_X13_adds_19 (by decide) rfl ?_
  obtain ⟨n21, h⟩ := h
  refine LW.sub [2, 3, 4, 5, 6, 1, 0] rfl ?_
  exact T_X13_adds_21 hl X hr hex n21 _ _ _ _ _ _  _ h
end G_X13_adds
theorem yk_X13_chipOf : yX13_chipOf.cls = RX13 ∧ yX13_chipOf.cls ≠ "java/lang/invoke/MethodHandle" ∧ yX13_chipOf.cls ≠ "java/lang/invoke/VarHandle" ∧ (parseMethodDescriptor yX13_chipOf.desc).map (fun d => d.parameters.length) = some 2 := by decide +kernel
theorem lk_X13_132 : LinkV RX13 132 RX13 yX13_chipOf (.code yX13_chipOf cX13_chipOf 3 (some .int)) 2 := ⟨tw_1406, tw_1408, tw_46, tw_83, tw_1409, yk_X13_chipOf⟩
theorem d_X13_inReach_0 : decode cX13_inReach 0 = .ok (.iconst 0, 1) := by decide +kernel
theorem d_X13_inReach_1 : decode cX13_inReach 1 = .ok (.istore_n 2, 1) := by decide +kernel
theorem d_X13_inReach_2 : decode cX13_inReach 2 = .ok (.iconst 0, 1) := by decide +kernel
theorem d_X13_inReach_3 : decode cX13_inReach 3 = .ok (.istore_n 3, 1) := by decide +kernel
theorem d_X13_inReach_4 : decode cX13_inReach 4 = .ok (.iload_n 3, 1) := by decide +kernel
theorem d_X13_inReach_5 : decode cX13_inReach 5 = .ok (.aload_n 0, 1) := by decide +kernel
theorem d_X13_inReach_6 : decode cX13_inReach 6 = .ok (.getfield 7, 3) := by decide +kernel
theorem d_X13_inReach_9 : decode cX13_inReach 9 = .ok (.iconst 2, 1) := by decide +kernel
theorem d_X13_inReach_10 : decode cX13_inReach 10 = .ok (.iaload, 1) := by decide +kernel
theorem d_X13_inReach_11 : decode cX13_inReach 11 = .ok (.if_icmp .ge 47, 3) := by decide +kernel
theorem d_X13_inReach_14 : decode cX13_inReach 14 = .ok (.iload_n 2, 1) := by decide +kernel
theorem d_X13_inReach_15 : decode cX13_inReach 15 = .ok (.aload_n 0, 1) := by decide +kernel
theorem d_X13_inReach_16 : decode cX13_inReach 16 = .ok (.iload_n 3, 1) := by decide +kernel
theorem d_X13_inReach_17 : decode cX13_inReach 17 = .ok (.iconst 0, 1) := by decide +kernel
theorem d_X13_inReach_18 : decode cX13_inReach 18 = .ok (.invokevirtual 132, 3) := by decide +kernel
theorem d_X13_inReach_21 : decode cX13_inReach 21 = .ok (.iconst 1, 1) := by decide +kernel
theorem d_X13_inReach_22 : decode cX13_inReach 22 = .ok (.if_icmp .eq 13, 3) := by decide +kernel
theorem d_X13_inReach_25 : decode cX13_inReach 25 = .ok (.aload_n 0, 1) := by decide +kernel
theorem d_X13_inReach_26 : decode cX13_inReach 26 = .ok (.iload_n 3, 1) := by decide +kernel
theorem d_X13_inReach_27 : decode cX13_inReach 27 = .ok (.iconst 0, 1) := by decide +kernel
theorem d_X13_inReach_28 : decode cX13_inReach 28 = .ok (.invokevirtual 132, 3) := by decide +kernel
theorem d_X13_inReach_31 : decode cX13_inReach 31 = .ok (.iconst 2, 1) := by decide +kernel
theorem d_X13_inReach_32 : decode cX13_inReach 32 = .ok (.if_icmp .ne 17, 3) := by decide +kernel
theorem d_X13_inReach_35 : decode cX13_inReach 35 = .ok (.aload_n 0, 1) := by decide +kernel
theorem d_X13_inReach_36 : decode cX13_inReach 36 = .ok (.iload_n 3, 1) := by decide +kernel
theorem d_X13_inReach_37 : decode cX13_inReach 37 = .ok (.iconst 1, 1) := by decide +kernel
theorem d_X13_inReach_38 : decode cX13_inReach 38 = .ok (.invokevirtual 132, 3) := by decide +kernel
theorem d_X13_inReach_41 : decode cX13_inReach 41 = .ok (.iload_n 1, 1) := by decide +kernel
theorem d_X13_inReach_42 : decode cX13_inReach 42 = .ok (.if_icmp .ne 7, 3) := by decide +kernel
theorem d_X13_inReach_45 : decode cX13_inReach 45 = .ok (.iconst 1, 1) := by decide +kernel
theorem d_X13_inReach_46 : decode cX13_inReach 46 = .ok (.goto 4, 3) := by decide +kernel
theorem d_X13_inReach_49 : decode cX13_inReach 49 = .ok (.iconst 0, 1) := by decide +kernel
theorem d_X13_inReach_50 : decode cX13_inReach 50 = .ok (.iadd, 1) := by decide +kernel
theorem d_X13_inReach_51 : decode cX13_inReach 51 = .ok (.istore_n 2, 1) := by decide +kernel
theorem d_X13_inReach_52 : decode cX13_inReach 52 = .ok (.iinc 3 1, 3) := by decide +kernel
theorem d_X13_inReach_55 : decode cX13_inReach 55 = .ok (.goto (-51), 3) := by decide +kernel
theorem d_X13_inReach_58 : decode cX13_inReach 58 = .ok (.iload_n 2, 1) := by decide +kernel
theorem d_X13_inReach_59 : decode cX13_inReach 59 = .ok (.ireturn, 1) := by decide +kernel
abbrev rm_X13_inReach : Room := { frames := 1, cells := 0, slots := 0, locals := 22 }
def B_X13_inReach_50 (post : Int32 → (Nat → Nat → Int32) → Prop) (k4 : Int32 → Int32 → Int32 → (Nat → Nat → Int32) → Prop) (v1 : Int32) (v3 : Int32) (s0 : Bool) (s1 : Int32) (mm : (Nat → Nat → Int32)) : Prop := k4 v1 (s1 + (b2 s0)) (v3 + 1) mm
def B_X13_inReach_49 (post : Int32 → (Nat → Nat → Int32) → Prop) (k4 : Int32 → Int32 → Int32 → (Nat → Nat → Int32) → Prop) (v1 : Int32) (v3 : Int32) (s0 : Int32) (mm : (Nat → Nat → Int32)) : Prop := B_X13_inReach_50 post k4 v1 v3 false s0 mm
def B_X13_inReach_35 (post : Int32 → (Nat → Nat → Int32) → Prop) (k4 : Int32 → Int32 → Int32 → (Nat → Nat → Int32) → Prop) (v1 : Int32) (v3 : Int32) (s0 : Int32) (mm : (Nat → Nat → Int32)) : Prop := w_X13_chipOf (fun (r5 : Int32) (u6 : (Nat → Nat → Int32)) => (¬ r5 = v1 → (B_X13_inReach_49 post k4 v1 v3 s0 u6)) ∧ (r5 = v1 → (B_X13_inReach_50 post k4 v1 v3 true s0 u6))) v3 1 mm
def B_X13_inReach_4 (post : Int32 → (Nat → Nat → Int32) → Prop) : Nat → Int32 → Int32 → Int32 → (Nat → Nat → Int32) → Prop
  | 0 => fun _ _ _ _ => False
  | n + 1 => fun v1 v2 v3 mm => ((mm 1 (Int32.toNatClampNeg (2 : Int32))) ≤ v3 → (post v2 mm)) ∧ (¬ (mm 1 (Int32.toNatClampNeg (2 : Int32))) ≤ v3 → (w_X13_chipOf (fun (r1 : Int32) (u2 : (Nat → Nat → Int32)) => (r1 = 1 → (B_X13_inReach_35 post (B_X13_inReach_4 post n) v1 v3 v2 u2)) ∧ (¬ r1 = 1 → (w_X13_chipOf (fun (r3 : Int32) (u4 : (Nat → Nat → Int32)) => (¬ r3 = 2 → (B_X13_inReach_49 post (B_X13_inReach_4 post n) v1 v3 v2 u4)) ∧ (r3 = 2 → (B_X13_inReach_35 post (B_X13_inReach_4 post n) v1 v3 v2 u4))) v3 0 u2))) v3 0 mm))
def w_X13_inReach (post : Int32 → (Nat → Nat → Int32) → Prop) (x1 : Int32) (mm : (Nat → Nat → Int32)) : Prop := ∃ n4, B_X13_inReach_4 post n4 x1 0 0 mm
section G_X13_inReach
variable {p : Program} {l : Launch} {e : Env} {s : State} {m : MethodId} {args : Array Value} {below : List Frame} {meth : Method} {c : Code} {G : Gd} {ρ : Nat → Nat} {A : Nat → Prop} {cm : CMu} {oo : Nat → Int64}
set_option maxHeartbeats 4000000 in
set_option maxRecDepth 100000 in
theorem T_X13_inReach_50 {post : Int32 → (Nat → Nat → Int32) → Prop} {k4 : Int32 → Int32 → Int32 → (Nat → Nat → Int32) → Prop} (hl : l.stackTraces = false) (X : MC p l s m args meth c cX13_inReach 4 RX13 G ρ A) (hr : meth.sig.returnType = (some .int)) (hex : ∀ z ∈ c.exceptionTable.toList, False)
    (hk4 : ∀ (v1 : Int32) (v2 : Int32) (v3 : Int32) (mm : (Nat → Nat → Int32)), k4 v1 v2 v3 mm → LW p l e rm_X13_inReach s m args below meth c (Qm below G ρ A (PI (fun u => (cm, u, oo)) post) noX args s 0 0) G ρ A 4 0 0 4 [(0, .ref 703), (1, .int v1), (2, .int v2), (3, .int v3)] [] (cm, mm, oo)) : ∀ (v1 : Int32) (v3 : Int32) (s0 : Bool) (s1 : Int32) (mm : (Nat → Nat → Int32)), B_X13_inReach_50 post k4 v1 v3 s0 s1 mm → LW p l e rm_X13_inReach s m args below meth c (Qm below G ρ A (PI (fun u => (cm, u, oo)) post) noX args s 0 0) G ρ A 4 0 0 50 [(0, .ref 703), (1, .int v1), (3, .int v3)] [.int (b2 s0), .int s1] (cm, mm, oo) := by
  intro v1 v3 s0 s1 mm h
  unfold B_X13_inReach_50 at h
  refine L_iadd (pc := 50) X d_X13_inReach_50 ?_
  refine L_istore_n (pc := 51) (lv2 := [(2, .int (s1 + (b2 s0))), (0, .ref 703), (1, .int v1), (3, .int v3)]) X d_X13_inReach_51 rfl (by decide) rfl ?_
  refine L_iinc (pc := 52) (v := v3 + 1) (lv2 := [(3, .int (v3 + 1)), (2, .int (s1 + (b2 s0))), (0, .ref 703), (1, .int v1)]) X d_X13_inReach_52 3 rfl rfl (by decide) rfl ?_
  refine L_goto (pc := 55) (tgt := 4) X d_X13_inReach_55 (by decide) ?_
  refine LW.sub [2, 3, 1, 0] rfl ?_
  exact hk4 _ _ _  _ h
set_option maxHeartbeats 4000000 in
set_option maxRecDepth 100000 in
theorem T_X13_inReach_49 {post : Int32 → (Nat → Nat → Int32) → Prop} {k4 : Int32 → Int32 → Int32 → (Nat → Nat → Int32) → Prop} (hl : l.stackTraces = false) (X : MC p l s m args meth c cX13_inReach 4 RX13 G ρ A) (hr : meth.sig.returnType = (some .int)) (hex : ∀ z ∈ c.exceptionTable.toList, False)
    (hk4 : ∀ (v1 : Int32) (v2 : Int32) (v3 : Int32) (mm : (Nat → Nat → Int32)), k4 v1 v2 v3 mm → LW p l e rm_X13_inReach s m args below meth c (Qm below G ρ A (PI (fun u => (cm, u, oo)) post) noX args s 0 0) G ρ A 4 0 0 4 [(0, .ref 703), (1, .int v1), (2, .int v2), (3, .int v3)] [] (cm, mm, oo)) : ∀ (v1 : Int32) (v3 : Int32) (s0 : Int32) (mm : (Nat → Nat → Int32)), B_X13_inReach_49 post k4 v1 v3 s0 mm → LW p l e rm_X13_inReach s m args below meth c (Qm below G ρ A (PI (fun u => (cm, u, oo)) post) noX args s 0 0) G ρ A 4 0 0 49 [(0, .ref 703), (1, .int v1), (3, .int v3)] [.int s0] (cm, mm, oo) := by
  intro v1 v3 s0 mm h
  unfold B_X13_inReach_49 at h
  refine L_iconst (pc := 49) (v := 0) X d_X13_inReach_49 (by decide) ?_
  refine LW.sub [0, 1, 2] rfl ?_
  exact T_X13_inReach_50 hl X hr hex hk4 _ _ _ _  _ h
set_option maxHeartbeats 4000000 in
set_option maxRecDepth 100000 in
theorem T_X13_inReach_35 {post : Int32 → (Nat → Nat → Int32) → Prop} {k4 : Int32 → Int32 → Int32 → (Nat → Nat → Int32) → Prop} (hl : l.stackTraces = false) (X : MC p l s m args meth c cX13_inReach 4 RX13 G ρ A) (hr : meth.sig.returnType = (some .int)) (hex : ∀ z ∈ c.exceptionTable.toList, False)
    (hk4 : ∀ (v1 : Int32) (v2 : Int32) (v3 : Int32) (mm : (Nat → Nat → Int32)), k4 v1 v2 v3 mm → LW p l e rm_X13_inReach s m args below meth c (Qm below G ρ A (PI (fun u => (cm, u, oo)) post) noX args s 0 0) G ρ A 4 0 0 4 [(0, .ref 703), (1, .int v1), (2, .int v2), (3, .int v3)] [] (cm, mm, oo)) : ∀ (v1 : Int32) (v3 : Int32) (s0 : Int32) (mm : (Nat → Nat → Int32)), B_X13_inReach_35 post k4 v1 v3 s0 mm → LW p l e rm_X13_inReach s m args below meth c (Qm below G ρ A (PI (fun u => (cm, u, oo)) post) noX args s 0 0) G ρ A 4 0 0 35 [(0, .ref 703), (1, .int v1), (3, .int v3)] [.int s0] (cm, mm, oo) := by
  intro v1 v3 s0 mm h
  unfold B_X13_inReach_35 at h
  refine L_aload_n (pc := 35) X d_X13_inReach_35 rfl 0 rfl ?_
  refine L_iload_n (pc := 36) X d_X13_inReach_36 rfl 2 rfl ?_
  refine L_iconst (pc := 37) (v := 1) X d_X13_inReach_37 (by decide) ?_
  refine L_callVI (pc := 38) X lk_X13_132 (c_X13_chipOf X.hst  h) rfl rfl kd_703 (by decide) rfl rfl ⟨by decide, by decide⟩ ⟨by decide, by decide⟩ (Nat.le_of_ble_eq_true rfl) d_X13_inReach_38 rfl (fun x κ1 hx => L_nox hx) (fun r5 u6 h => ?_)
  refine L_iload_n (pc := 41) X d_X13_inReach_41 rfl 1 rfl ?_
  refine L_icmp_ne (pc := 42) (tgt := 49) X d_X13_inReach_42 (by decide) (fun c42 => ?_) (fun c42 => ?_)
  · replace h := h.1 c42
    refine LW.sub [0, 1, 2] rfl ?_
    exact T_X13_inReach_49 hl X hr hex hk4 _ _ _  _ h
  · replace h := h.2 c42
    refine L_iconst (pc := 45) (v := 1) X d_X13_inReach_45 (by decide) ?_
    refine L_goto (pc := 46) (tgt := 50) X d_X13_inReach_46 (by decide) ?_
    refine LW.sub [0, 1, 2] rfl ?_
    exact T_X13_inReach_50 hl X hr hex hk4 _ _ _ _  _ h
set_option maxHeartbeats 4000000 in
set_option maxRecDepth 100000 in
theorem T_X13_inReach_4 {post : Int32 → (Nat → Nat → Int32) → Prop} (hl : l.stackTraces = false) (X : MC p l s m args meth c cX13_inReach 4 RX13 G ρ A) (hr : meth.sig.returnType = (some .int)) (hex : ∀ z ∈ c.exceptionTable.toList, False) (n : Nat) : ∀ (v1 : Int32) (v2 : Int32) (v3 : Int32) (mm : (Nat → Nat → Int32)), B_X13_inReach_4 post n v1 v2 v3 mm → LW p l e rm_X13_inReach s m args below meth c (Qm below G ρ A (PI (fun u => (cm, u, oo)) post) noX args s 0 0) G ρ A 4 0 0 4 [(0, .ref 703), (1, .int v1), (2, .int v2), (3, .int v3)] [] (cm, mm, oo) := by
  induction n with
  | zero =>
    intro v1 v2 v3 mm h
    exact False.elim h
  | succ n ih =>
    intro v1 v2 v3 mm h
    unfold B_X13_inReach_4 at h
    refine L_iload_n (pc := 4) X d_X13_inReach_4 rfl 3 rfl ?_
    refine L_aload_n (pc := 5) X d_X13_inReach_5 rfl 0 rfl ?_
    refine gf_X13_7 (pc := 6) X d_X13_inReach_6 ?_
    refine L_iconst (pc := 9) (v := 2) X d_X13_inReach_9 (by decide) ?_
    refine L_ialdM (pc := 10) (a := 1) X d_X13_inReach_10 kd_704 (by unfold vp_in; decide) ?_
    refine L_icmp_ge (pc := 11) (tgt := 58) X d_X13_inReach_11 (by decide) (fun c11 => ?_) (fun c11 => ?_)
    · replace h := h.1 c11
      refine L_iload_n (pc := 58) X d_X13_inReach_58 rfl 2 rfl ?_
      exact L_iret (pc := 59) X hr d_X13_inReach_59 (by decide) (by decide) ⟨_, _, rfl, rfl, h⟩
    · replace h := h.2 c11
      refine L_iload_n (pc := 14) X d_X13_inReach_14 rfl 2 rfl ?_
      refine L_aload_n (pc := 15) X d_X13_inReach_15 rfl 0 rfl ?_
      refine L_iload_n (pc := 16) X d_X13_inReach_16 rfl 3 rfl ?_
      refine L_iconst (pc := 17) (v := 0) X d_X13_inReach_17 (by decide) ?_
      refine L_callVI (pc := 18) X lk_X13_132 (c_X13_chipOf X.hst  h) rfl rfl kd_703 (by decide) rfl rfl ⟨by decide, by decide⟩ ⟨by decide, by decide⟩ (Nat.le_of_ble_eq_true rfl) d_X13_inReach_18 rfl (fun x κ1 hx => L_nox hx) (fun r1 u2 h => ?_)
      refine L_iconst (pc := 21) (v := 1) X d_X13_inReach_21 (by decide) ?_
      refine L_icmp_eq (pc := 22) (tgt := 35) X d_X13_inReach_22 (by decide) (fun c22 => ?_) (fun c22 => ?_)
      · replace h := h.1 c22
        refine LW.sub [0, 1, 3] rfl ?_
        exact T_X13_inReach_35 hl X hr hex ih _ _ _  _ h
      · replace h := h.2 c22
        refine L_aload_n (pc := 25) X d_X13_inReach_25 rfl 0 rfl ?_
        refine L_iload_n (pc := 26) X d_X13_inReach_26 rfl 3 rfl ?_
        refine L_iconst (pc := 27) (v := 0) X d_X13_inReach_27 (by decide) ?_
        refine L_callVI (pc := 28) X lk_X13_132 (c_X13_chipOf X.hst  h) rfl rfl kd_703 (by decide) rfl rfl ⟨by decide, by decide⟩ ⟨by decide, by decide⟩ (Nat.le_of_ble_eq_true rfl) d_X13_inReach_28 rfl (fun x κ1 hx => L_nox hx) (fun r3 u4 h => ?_)
        refine L_iconst (pc := 31) (v := 2) X d_X13_inReach_31 (by decide) ?_
        refine L_icmp_ne (pc := 32) (tgt := 49) X d_X13_inReach_32 (by decide) (fun c32 => ?_) (fun c32 => ?_)
        · replace h := h.1 c32
          refine LW.sub [0, 1, 3] rfl ?_
          exact T_X13_inReach_49 hl X hr hex ih _ _ _  _ h
        · replace h := h.2 c32
          refine LW.sub [0, 1, 3] rfl ?_
          exact T_X13_inReach_35 hl X hr hex ih _ _ _  _ h
set_option maxHeartbeats 4000000 in
set_option maxRecDepth 100000 in
theorem c_X13_inReach (hl : l.stackTraces = false) {x1 : Int32} {mm : (Nat → Nat → Int32)} {post : Int32 → (Nat → Nat → Int32) → Prop} (h : w_X13_inReach post x1 mm) : CT l yX13_inReach (.code yX13_inReach cX13_inReach 4 (some .int)) rm_X13_inReach 0 0 G ρ [.ref 703, .int x1] (cm, mm, oo) (PI (fun u => (cm, u, oo)) post) noX := by
  refine CT_of hl (by decide +kernel) rfl (Nat.le_of_ble_eq_true rfl) (lv0 := [(0, .ref 703), (1, .int x1)]) rfl (fun p e s m args below meth c A X hr hex hnm => ?_)
  unfold w_X13_inReach at h
  refine L_iconst (pc := 0) (v := 0) X d_X13_inReach_0 (by decide) ?_
  refine L_istore_n (pc := 1) (lv2 := [(2, .int 0), (0, .ref 703), (1, .int x1)]) X d_X13_inReach_1 rfl (by decide) rfl ?_
  refine L_iconst (pc := 2) (v := 0) X d_X13_inReach_2 (by decide) ?_
  refine L_istore_n (pc := 3) (lv2 := [(3, .int 0), (2, .int 0), (0, .ref 703), (1, .int x1)]) X d_X13_inReach_3 rfl (by decide) rfl ?_
  obtain ⟨n4, h⟩ := h
  refine LW.sub [2, 3, 1, 0] rfl ?_
  exact T_X13_inReach_4 hl X hr hex n4 _ _ _  _ h
end G_X13_inReach
theorem d_X13_nextAt_0 : decode cX13_nextAt 0 = .ok (.iconst (-1), 1) := by decide +kernel
theorem d_X13_nextAt_1 : decode cX13_nextAt 1 = .ok (.istore_n 2, 1) := by decide +kernel
theorem d_X13_nextAt_2 : decode cX13_nextAt 2 = .ok (.iconst 0, 1) := by decide +kernel
theorem d_X13_nextAt_3 : decode cX13_nextAt 3 = .ok (.istore_n 3, 1) := by decide +kernel
theorem d_X13_nextAt_4 : decode cX13_nextAt 4 = .ok (.iload_n 3, 1) := by decide +kernel
theorem d_X13_nextAt_5 : decode cX13_nextAt 5 = .ok (.aload_n 0, 1) := by decide +kernel
theorem d_X13_nextAt_6 : decode cX13_nextAt 6 = .ok (.getfield 7, 3) := by decide +kernel
theorem d_X13_nextAt_9 : decode cX13_nextAt 9 = .ok (.iconst 2, 1) := by decide +kernel
theorem d_X13_nextAt_10 : decode cX13_nextAt 10 = .ok (.iaload, 1) := by decide +kernel
theorem d_X13_nextAt_11 : decode cX13_nextAt 11 = .ok (.if_icmp .ge 53, 3) := by decide +kernel
theorem d_X13_nextAt_14 : decode cX13_nextAt 14 = .ok (.aload_n 0, 1) := by decide +kernel
theorem d_X13_nextAt_15 : decode cX13_nextAt 15 = .ok (.iload_n 3, 1) := by decide +kernel
theorem d_X13_nextAt_16 : decode cX13_nextAt 16 = .ok (.iconst 0, 1) := by decide +kernel
theorem d_X13_nextAt_17 : decode cX13_nextAt 17 = .ok (.invokevirtual 132, 3) := by decide +kernel
theorem d_X13_nextAt_20 : decode cX13_nextAt 20 = .ok (.ifCond .ne 38, 3) := by decide +kernel
theorem d_X13_nextAt_23 : decode cX13_nextAt 23 = .ok (.aload_n 0, 1) := by decide +kernel
theorem d_X13_nextAt_24 : decode cX13_nextAt 24 = .ok (.iload_n 3, 1) := by decide +kernel
theorem d_X13_nextAt_25 : decode cX13_nextAt 25 = .ok (.iconst 1, 1) := by decide +kernel
theorem d_X13_nextAt_26 : decode cX13_nextAt 26 = .ok (.invokevirtual 132, 3) := by decide +kernel
theorem d_X13_nextAt_29 : decode cX13_nextAt 29 = .ok (.iload_n 1, 1) := by decide +kernel
theorem d_X13_nextAt_30 : decode cX13_nextAt 30 = .ok (.if_icmp .eq 6, 3) := by decide +kernel
theorem d_X13_nextAt_33 : decode cX13_nextAt 33 = .ok (.goto 25, 3) := by decide +kernel
theorem d_X13_nextAt_36 : decode cX13_nextAt 36 = .ok (.iload_n 2, 1) := by decide +kernel
theorem d_X13_nextAt_37 : decode cX13_nextAt 37 = .ok (.iconst (-1), 1) := by decide +kernel
theorem d_X13_nextAt_38 : decode cX13_nextAt 38 = .ok (.if_icmp .eq 18, 3) := by decide +kernel
theorem d_X13_nextAt_41 : decode cX13_nextAt 41 = .ok (.aload_n 0, 1) := by decide +kernel
theorem d_X13_nextAt_42 : decode cX13_nextAt 42 = .ok (.iload_n 3, 1) := by decide +kernel
theorem d_X13_nextAt_43 : decode cX13_nextAt 43 = .ok (.iconst 4, 1) := by decide +kernel
theorem d_X13_nextAt_44 : decode cX13_nextAt 44 = .ok (.invokevirtual 132, 3) := by decide +kernel
theorem d_X13_nextAt_47 : decode cX13_nextAt 47 = .ok (.aload_n 0, 1) := by decide +kernel
theorem d_X13_nextAt_48 : decode cX13_nextAt 48 = .ok (.iload_n 2, 1) := by decide +kernel
theorem d_X13_nextAt_49 : decode cX13_nextAt 49 = .ok (.iconst 4, 1) := by decide +kernel
theorem d_X13_nextAt_50 : decode cX13_nextAt 50 = .ok (.invokevirtual 132, 3) := by decide +kernel
theorem d_X13_nextAt_53 : decode cX13_nextAt 53 = .ok (.if_icmp .ge 5, 3) := by decide +kernel
theorem d_X13_nextAt_56 : decode cX13_nextAt 56 = .ok (.iload_n 3, 1) := by decide +kernel
theorem d_X13_nextAt_57 : decode cX13_nextAt 57 = .ok (.istore_n 2, 1) := by decide +kernel
theorem d_X13_nextAt_58 : decode cX13_nextAt 58 = .ok (.iinc 3 1, 3) := by decide +kernel
theorem d_X13_nextAt_61 : decode cX13_nextAt 61 = .ok (.goto (-57), 3) := by decide +kernel
theorem d_X13_nextAt_64 : decode cX13_nextAt 64 = .ok (.iload_n 2, 1) := by decide +kernel
theorem d_X13_nextAt_65 : decode cX13_nextAt 65 = .ok (.ireturn, 1) := by decide +kernel
abbrev rm_X13_nextAt : Room := { frames := 1, cells := 0, slots := 0, locals := 22 }
def B_X13_nextAt_58 (post : Int32 → (Nat → Nat → Int32) → Prop) (k4 : Int32 → Int32 → Int32 → (Nat → Nat → Int32) → Prop) (v1 : Int32) (v2 : Int32) (v3 : Int32) (mm : (Nat → Nat → Int32)) : Prop := k4 v1 v2 (v3 + 1) mm
def B_X13_nextAt_56 (post : Int32 → (Nat → Nat → Int32) → Prop) (k4 : Int32 → Int32 → Int32 → (Nat → Nat → Int32) → Prop) (v1 : Int32) (v3 : Int32) (mm : (Nat → Nat → Int32)) : Prop := B_X13_nextAt_58 post k4 v1 v3 v3 mm
def B_X13_nextAt_4 (post : Int32 → (Nat → Nat → Int32) → Prop) : Nat → Int32 → Int32 → Int32 → (Nat → Nat → Int32) → Prop
  | 0 => fun _ _ _ _ => False
  | n + 1 => fun v1 v2 v3 mm => ((mm 1 (Int32.toNatClampNeg (2 : Int32))) ≤ v3 → (post v2 mm)) ∧ (¬ (mm 1 (Int32.toNatClampNeg (2 : Int32))) ≤ v3 → (w_X13_chipOf (fun (r1 : Int32) (u2 : (Nat → Nat → Int32)) => (¬ r1 = 0 → (B_X13_nextAt_58 post (B_X13_nextAt_4 post n) v1 v2 v3 u2)) ∧ (r1 = 0 → (w_X13_chipOf (fun (r3 : Int32) (u4 : (Nat → Nat → Int32)) => (r3 = v1 → ((v2 = (-1) → (B_X13_nextAt_56 post (B_X13_nextAt_4 post n) v1 v3 u4)) ∧ (¬ v2 = (-1) → (w_X13_chipOf (fun (r5 : Int32) (u6 : (Nat → Nat → Int32)) => w_X13_chipOf (fun (r7 : Int32) (u8 : (Nat → Nat → Int32)) => (r7 ≤ r5 → (B_X13_nextAt_58 post (B_X13_nextAt_4 post n) v1 v2 v3 u8)) ∧ (¬ r7 ≤ r5 → (B_X13_nextAt_56 post (B_X13_nextAt_4 post n) v1 v3 u8))) v2 4 u6) v3 4 u4)))) ∧ (¬ r3 = v1 → (B_X13_nextAt_58 post (B_X13_nextAt_4 post n) v1 v2 v3 u4))) v3 1 u2))) v3 0 mm))
def w_X13_nextAt (post : Int32 → (Nat → Nat → Int32) → Prop) (x1 : Int32) (mm : (Nat → Nat → Int32)) : Prop := ∃ n4, B_X13_nextAt_4 post n4 x1 (-1) 0 mm
section G_X13_nextAt
variable {p : Program} {l : Launch} {e : Env} {s : State} {m : MethodId} {args : Array Value} {below : List Frame} {meth : Method} {c : Code} {G : Gd} {ρ : Nat → Nat} {A : Nat → Prop} {cm : CMu} {oo : Nat → Int64}
set_option maxHeartbeats 4000000 in
set_option maxRecDepth 100000 in
theorem T_X13_nextAt_58 {post : Int32 → (Nat → Nat → Int32) → Prop} {k4 : Int32 → Int32 → Int32 → (Nat → Nat → Int32) → Prop} (hl : l.stackTraces = false) (X : MC p l s m args meth c cX13_nextAt 4 RX13 G ρ A) (hr : meth.sig.returnType = (some .int)) (hex : ∀ z ∈ c.exceptionTable.toList, False)
    (hk4 : ∀ (v1 : Int32) (v2 : Int32) (v3 : Int32) (mm : (Nat → Nat → Int32)), k4 v1 v2 v3 mm → LW p l e rm_X13_nextAt s m args below meth c (Qm below G ρ A (PI (fun u => (cm, u, oo)) post) noX args s 0 0) G ρ A 4 0 0 4 [(0, .ref 703), (1, .int v1), (2, .int v2), (3, .int v3)] [] (cm, mm, oo)) : ∀ (v1 : Int32) (v2 : Int32) (v3 : Int32) (mm : (Nat → Nat → Int32)), B_X13_nextAt_58 post k4 v1 v2 v3 mm → LW p l e rm_X13_nextAt s m args below meth c (Qm below G ρ A (PI (fun u => (cm, u, oo)) post) noX args s 0 0) G ρ A 4 0 0 58 [(0, .ref 703), (1, .int v1), (2, .int v2), (3, .int v3)] [] (cm, mm, oo) := by
  intro v1 v2 v3 mm h
  unfold B_X13_nextAt_58 at h
  refine L_iinc (pc := 58) (v := v3 + 1) (lv2 := [(3, .int (v3 + 1)), (0, .ref 703), (1, .int v1), (2, .int v2)]) X d_X13_nextAt_58 3 rfl rfl (by decide) rfl ?_
  refine L_goto (pc := 61) (tgt := 4) X d_X13_nextAt_61 (by decide) ?_
  refine LW.sub [1, 2, 3, 0] rfl ?_
  exact hk4 _ _ _  _ h
set_option maxHeartbeats 4000000 in
set_option maxRecDepth 100000 in
theorem T_X13_nextAt_56 {post : Int32 → (Nat → Nat → Int32) → Prop} {k4 : Int32 → Int32 → Int32 → (Nat → Nat → Int32) → Prop} (hl : l.stackTraces = false) (X : MC p l s m args meth c cX13_nextAt 4 RX13 G ρ A) (hr : meth.sig.returnType = (some .int)) (hex : ∀ z ∈ c.exceptionTable.toList, False)
    (hk4 : ∀ (v1 : Int32) (v2 : Int32) (v3 : Int32) (mm : (Nat → Nat → Int32)), k4 v1 v2 v3 mm → LW p l e rm_X13_nextAt s m args below meth c (Qm below G ρ A (PI (fun u => (cm, u, oo)) post) noX args s 0 0) G ρ A 4 0 0 4 [(0, .ref 703), (1, .int v1), (2, .int v2), (3, .int v3)] [] (cm, mm, oo)) : ∀ (v1 : Int32) (v3 : Int32) (mm : (Nat → Nat → Int32)), B_X13_nextAt_56 post k4 v1 v3 mm → LW p l e rm_X13_nextAt s m args below meth c (Qm below G ρ A (PI (fun u => (cm, u, oo)) post) noX args s 0 0) G ρ A 4 0 0 56 [(0, .ref 703), (1, .int v1), (3, .int v3)] [] (cm, mm, oo) := by
  intro v1 v3 mm h
  unfold B_X13_nextAt_56 at h
  refine L_iload_n (pc := 56) X d_X13_nextAt_56 rfl 2 rfl ?_
  refine L_istore_n (pc := 57) (lv2 := [(2, .int v3), (0, .ref 703), (1, .int v1), (3, .int v3)]) X d_X13_nextAt_57 rfl (by decide) rfl ?_
  refine LW.sub [1, 2, 0, 3] rfl ?_
  exact T_X13_nextAt_58 hl X hr hex hk4 _ _ _  _ h
set_option maxHeartbeats 4000000 in
set_option maxRecDepth 100000 in
theorem T_X13_nextAt_4 {post : Int32 → (Nat → Nat → Int32) → Prop} (hl : l.stackTraces = false) (X : MC p l s m args meth c cX13_nextAt 4 RX13 G ρ A) (hr : meth.sig.returnType = (some .int)) (hex : ∀ z ∈ c.exceptionTable.toList, False) (n : Nat) : ∀ (v1 : Int32) (v2 : Int32) (v3 : Int32) (mm : (Nat → Nat → Int32)), B_X13_nextAt_4 post n v1 v2 v3 mm → LW p l e rm_X13_nextAt s m args below meth c (Qm below G ρ A (PI (fun u => (cm, u, oo)) post) noX args s 0 0) G ρ A 4 0 0 4 [(0, .ref 703), (1, .int v1), (2, .int v2), (3, .int v3)] [] (cm, mm, oo) := by
  induction n with
  | zero =>
    intro v1 v2 v3 mm h
    exact False.elim h
  | succ n ih =>
    intro v1 v2 v3 mm h
    unfold B_X13_nextAt_4 at h
    refine L_iload_n (pc := 4) X d_X13_nextAt_4 rfl 3 rfl ?_
    refine L_aload_n (pc := 5) X d_X13_nextAt_5 rfl 0 rfl ?_
    refine gf_X13_7 (pc := 6) X d_X13_nextAt_6 ?_
    refine L_iconst (pc := 9) (v := 2) X d_X13_nextAt_9 (by decide) ?_
    refine L_ialdM (pc := 10) (a := 1) X d_X13_nextAt_10 kd_704 (by unfold vp_in; decide) ?_
    refine L_icmp_ge (pc := 11) (tgt := 64) X d_X13_nextAt_11 (by decide) (fun c11 => ?_) (fun c11 => ?_)
    · replace h := h.1 c11
      refine L_iload_n (pc := 64) X d_X13_nextAt_64 rfl 2 rfl ?_
      exact L_iret (pc := 65) X hr d_X13_nextAt_65 (by decide) (by decide) ⟨_, _, rfl, rfl, h⟩
    · replace h := h.2 c11
      refine L_aload_n (pc := 14) X d_X13_nextAt_14 rfl 0 rfl ?_
      refine L_iload_n (pc := 15) X d_X13_nextAt_15 rfl 3 rfl ?_
      refine L_iconst (pc := 16) (v := 0) X d_X13_nextAt_16 (by decide) ?_
      refine L_callVI (pc := 17) X lk_X13_132 (c_X13_chipOf X.hst  h) rfl rfl kd_703 (by decide) rfl rfl ⟨by decide, by decide⟩ ⟨by decide, by decide⟩ (Nat.zero_le _) d_X13_nextAt_17 rfl (fun x κ1 hx => L_nox hx) (fun r1 u2 h => ?_)
      refine L_if_ne (pc := 20) (tgt := 58) X d_X13_nextAt_20 (by decide) (fun c20 => ?_) (fun c20 => ?_)
      · replace h := h.1 c20
        refine LW.sub [0, 1, 2, 3] rfl ?_
        exact T_X13_nextAt_58 hl X hr hex ih _ _ _  _ h
      · replace h := h.2 c20
        refine L_aload_n (pc := 23) X d_X13_nextAt_23 rfl 0 rfl ?_
        refine L_iload_n (pc := 24) X d_X13_nextAt_24 rfl 3 rfl ?_
        refine L_iconst (pc := 25) (v := 1) X d_X13_nextAt_25 (by decide) ?_
        refine L_callVI (pc := 26) X lk_X13_132 (c_X13_chipOf X.hst  h) rfl rfl kd_703 (by decide) rfl rfl ⟨by decide, by decide⟩ ⟨by decide, by decide⟩ (Nat.zero_le _) d_X13_nextAt_26 rfl (fun x κ1 hx => L_nox hx) (fun r3 u4 h => ?_)
        refine L_iload_n (pc := 29) X d_X13_nextAt_29 rfl 1 rfl ?_
        refine L_icmp_eq (pc := 30) (tgt := 36) X d_X13_nextAt_30 (by decide) (fun c30 => ?_) (fun c30 => ?_)
        · replace h := h.1 c30
          refine L_iload_n (pc := 36) X d_X13_nextAt_36 rfl 2 rfl ?_
          refine L_iconst (pc := 37) (v := (-1)) X d_X13_nextAt_37 (by decide) ?_
          refine L_icmp_eq (pc := 38) (tgt := 56) X d_X13_nextAt_38 (by decide) (fun c38 => ?_) (fun c38 => ?_)
          · replace h := h.1 c38
            refine LW.sub [0, 1, 3] rfl ?_
            exact T_X13_nextAt_56 hl X hr hex ih _ _  _ h
          · replace h := h.2 c38
            refine L_aload_n (pc := 41) X d_X13_nextAt_41 rfl 0 rfl ?_
            refine L_iload_n (pc := 42) X d_X13_nextAt_42 rfl 3 rfl ?_
            refine L_iconst (pc := 43) (v := 4) X d_X13_nextAt_43 (by decide) ?_
            refine L_callVI (pc := 44) X lk_X13_132 (c_X13_chipOf X.hst  h) rfl rfl kd_703 (by decide) rfl rfl ⟨by decide, by decide⟩ ⟨by decide, by decide⟩ (Nat.zero_le _) d_X13_nextAt_44 rfl (fun x κ1 hx => L_nox hx) (fun r5 u6 h => ?_)
            refine L_aload_n (pc := 47) X d_X13_nextAt_47 rfl 0 rfl ?_
            refine L_iload_n (pc := 48) X d_X13_nextAt_48 rfl 2 rfl ?_
            refine L_iconst (pc := 49) (v := 4) X d_X13_nextAt_49 (by decide) ?_
            refine L_callVI (pc := 50) X lk_X13_132 (c_X13_chipOf X.hst  h) rfl rfl kd_703 (by decide) rfl rfl ⟨by decide, by decide⟩ ⟨by decide, by decide⟩ (Nat.le_of_ble_eq_true rfl) d_X13_nextAt_50 rfl (fun x κ1 hx => L_nox hx) (fun r7 u8 h => ?_)
            refine L_icmp_ge (pc := 53) (tgt := 58) X d_X13_nextAt_53 (by decide) (fun c53 => ?_) (fun c53 => ?_)
            · replace h := h.1 c53
              refine LW.sub [0, 1, 2, 3] rfl ?_
              exact T_X13_nextAt_58 hl X hr hex ih _ _ _  _ h
            · replace h := h.2 c53
              refine LW.sub [0, 1, 3] rfl ?_
              exact T_X13_nextAt_56 hl X hr hex ih _ _  _ h
        · replace h := h.2 c30
          refine L_goto (pc := 33) (tgt := 58) X d_X13_nextAt_33 (by decide) ?_
          refine LW.sub [0, 1, 2, 3] rfl ?_
          exact T_X13_nextAt_58 hl X hr hex ih _ _ _  _ h
set_option maxHeartbeats 4000000 in
set_option maxRecDepth 100000 in
theorem c_X13_nextAt (hl : l.stackTraces = false) {x1 : Int32} {mm : (Nat → Nat → Int32)} {post : Int32 → (Nat → Nat → Int32) → Prop} (h : w_X13_nextAt post x1 mm) : CT l yX13_nextAt (.code yX13_nextAt cX13_nextAt 4 (some .int)) rm_X13_nextAt 0 0 G ρ [.ref 703, .int x1] (cm, mm, oo) (PI (fun u => (cm, u, oo)) post) noX := by
  refine CT_of hl (by decide +kernel) rfl (Nat.le_of_ble_eq_true rfl) (lv0 := [(0, .ref 703), (1, .int x1)]) rfl (fun p e s m args below meth c A X hr hex hnm => ?_)
  unfold w_X13_nextAt at h
  refine L_iconst (pc := 0) (v := (-1)) X d_X13_nextAt_0 (by decide) ?_
  refine L_istore_n (pc := 1) (lv2 := [(2, .int (-1)), (0, .ref 703), (1, .int x1)]) X d_X13_nextAt_1 rfl (by decide) rfl ?_
  refine L_iconst (pc := 2) (v := 0) X d_X13_nextAt_2 (by decide) ?_
  refine L_istore_n (pc := 3) (lv2 := [(3, .int 0), (2, .int (-1)), (0, .ref 703), (1, .int x1)]) X d_X13_nextAt_3 rfl (by decide) rfl ?_
  obtain ⟨n4, h⟩ := h
  refine LW.sub [2, 3, 1, 0] rfl ?_
  exact T_X13_nextAt_4 hl X hr hex n4 _ _ _  _ h
end G_X13_nextAt
theorem d_X13_timeOf_0 : decode cX13_timeOf 0 = .ok (.iload_n 0, 1) := by decide +kernel
theorem d_X13_timeOf_1 : decode cX13_timeOf 1 = .ok (.iload_n 1, 1) := by decide +kernel
theorem d_X13_timeOf_2 : decode cX13_timeOf 2 = .ok (.bipush 10, 2) := by decide +kernel
theorem d_X13_timeOf_4 : decode cX13_timeOf 4 = .ok (.iadd, 1) := by decide +kernel
theorem d_X13_timeOf_5 : decode cX13_timeOf 5 = .ok (.iload_n 2, 1) := by decide +kernel
theorem d_X13_timeOf_6 : decode cX13_timeOf 6 = .ok (.isub, 1) := by decide +kernel
theorem d_X13_timeOf_7 : decode cX13_timeOf 7 = .ok (.imul, 1) := by decide +kernel
theorem d_X13_timeOf_8 : decode cX13_timeOf 8 = .ok (.ireturn, 1) := by decide +kernel
abbrev rm_X13_timeOf : Room := { frames := 0, cells := 0, slots := 0, locals := 0 }
def w_X13_timeOf (post : Int32 → (Nat → Nat → Int32) → Prop) (x0 : Int32) (x1 : Int32) (x2 : Int32) (mm : (Nat → Nat → Int32)) : Prop := post (x0 * ((x1 + 10) - x2)) mm
section G_X13_timeOf
variable {p : Program} {l : Launch} {e : Env} {s : State} {m : MethodId} {args : Array Value} {below : List Frame} {meth : Method} {c : Code} {G : Gd} {ρ : Nat → Nat} {A : Nat → Prop} {cm : CMu} {oo : Nat → Int64}
set_option maxHeartbeats 4000000 in
set_option maxRecDepth 100000 in
theorem c_X13_timeOf (hl : l.stackTraces = false) {x0 : Int32} {x1 : Int32} {x2 : Int32} {mm : (Nat → Nat → Int32)} {post : Int32 → (Nat → Nat → Int32) → Prop} (h : w_X13_timeOf post x0 x1 x2 mm) : CT l yX13_timeOf (.code yX13_timeOf cX13_timeOf 3 (some .int)) rm_X13_timeOf 0 0 G ρ [.int x0, .int x1, .int x2] (cm, mm, oo) (PI (fun u => (cm, u, oo)) post) noX := by
  refine CT_of hl (by decide +kernel) rfl (Nat.le_of_ble_eq_true rfl) (lv0 := [(0, .int x0), (1, .int x1), (2, .int x2)]) rfl (fun p e s m args below meth c A X hr hex hnm => ?_)
  unfold w_X13_timeOf at h
  refine L_iload_n (pc := 0) X d_X13_timeOf_0 rfl 0 rfl ?_
  refine L_iload_n (pc := 1) X d_X13_timeOf_1 rfl 1 rfl ?_
  refine L_bipush (pc := 2) (v := 10) X d_X13_timeOf_2 (by decide) ?_
  refine L_iadd (pc := 4) X d_X13_timeOf_4 ?_
  refine L_iload_n (pc := 5) X d_X13_timeOf_5 rfl 2 rfl ?_
  refine L_isub (pc := 6) X d_X13_timeOf_6 ?_
  refine L_imul (pc := 7) X d_X13_timeOf_7 ?_
  exact L_iret (pc := 8) X hr d_X13_timeOf_8 (by decide) (by decide) ⟨_, _, rfl, rfl, h⟩
end G_X13_timeOf
theorem yk_X13_isStation : yX13_isStation.cls = RX13 ∧ yX13_isStation.cls ≠ "java/lang/invoke/MethodHandle" ∧ yX13_isStation.cls ≠ "java/lang/invoke/VarHandle" ∧ (parseMethodDescriptor yX13_isStation.desc).map (fun d => d.parameters.length) = some 2 := by decide +kernel
theorem lk_X13_206 : LinkV RX13 206 RX13 yX13_isStation (.code yX13_isStation cX13_isStation 3 (some .boolean)) 2 := ⟨tw_1383, tw_1385, tw_42, tw_83, tw_1386, yk_X13_isStation⟩
theorem d_X13_pole_0 : decode cX13_pole 0 = .ok (.aload_n 0, 1) := by decide +kernel
theorem d_X13_pole_1 : decode cX13_pole 1 = .ok (.aload_n 0, 1) := by decide +kernel
theorem d_X13_pole_2 : decode cX13_pole 2 = .ok (.iload_n 1, 1) := by decide +kernel
theorem d_X13_pole_3 : decode cX13_pole 3 = .ok (.aload_n 0, 1) := by decide +kernel
theorem d_X13_pole_4 : decode cX13_pole 4 = .ok (.getfield 7, 3) := by decide +kernel
theorem d_X13_pole_7 : decode cX13_pole 7 = .ok (.iconst 1, 1) := by decide +kernel
theorem d_X13_pole_8 : decode cX13_pole 8 = .ok (.iaload, 1) := by decide +kernel
theorem d_X13_pole_9 : decode cX13_pole 9 = .ok (.invokevirtual 206, 3) := by decide +kernel
theorem d_X13_pole_12 : decode cX13_pole 12 = .ok (.ifCond .ne 7, 3) := by decide +kernel
theorem d_X13_pole_15 : decode cX13_pole 15 = .ok (.iconst 1, 1) := by decide +kernel
theorem d_X13_pole_16 : decode cX13_pole 16 = .ok (.goto 4, 3) := by decide +kernel
theorem d_X13_pole_19 : decode cX13_pole 19 = .ok (.iconst 0, 1) := by decide +kernel
theorem d_X13_pole_20 : decode cX13_pole 20 = .ok (.putfield 47, 3) := by decide +kernel
theorem d_X13_pole_23 : decode cX13_pole 23 = .ok (.aload_n 0, 1) := by decide +kernel
theorem d_X13_pole_24 : decode cX13_pole 24 = .ok (.getfield 47, 3) := by decide +kernel
theorem d_X13_pole_27 : decode cX13_pole 27 = .ok (.ifCond .le 5, 3) := by decide +kernel
theorem d_X13_pole_30 : decode cX13_pole 30 = .ok (.iconst 0, 1) := by decide +kernel
theorem d_X13_pole_31 : decode cX13_pole 31 = .ok (.ireturn, 1) := by decide +kernel
theorem d_X13_pole_32 : decode cX13_pole 32 = .ok (.iconst 0, 1) := by decide +kernel
theorem d_X13_pole_33 : decode cX13_pole 33 = .ok (.istore_n 2, 1) := by decide +kernel
theorem d_X13_pole_34 : decode cX13_pole 34 = .ok (.iconst 0, 1) := by decide +kernel
theorem d_X13_pole_35 : decode cX13_pole 35 = .ok (.istore_n 3, 1) := by decide +kernel
theorem d_X13_pole_36 : decode cX13_pole 36 = .ok (.iload_n 3, 1) := by decide +kernel
theorem d_X13_pole_37 : decode cX13_pole 37 = .ok (.aload_n 0, 1) := by decide +kernel
theorem d_X13_pole_38 : decode cX13_pole 38 = .ok (.getfield 7, 3) := by decide +kernel
theorem d_X13_pole_41 : decode cX13_pole 41 = .ok (.iconst 2, 1) := by decide +kernel
theorem d_X13_pole_42 : decode cX13_pole 42 = .ok (.iaload, 1) := by decide +kernel
theorem d_X13_pole_43 : decode cX13_pole 43 = .ok (.if_icmp .ge 42, 3) := by decide +kernel
theorem d_X13_pole_46 : decode cX13_pole 46 = .ok (.aload_n 0, 1) := by decide +kernel
theorem d_X13_pole_47 : decode cX13_pole 47 = .ok (.iload_n 3, 1) := by decide +kernel
theorem d_X13_pole_48 : decode cX13_pole 48 = .ok (.iconst 0, 1) := by decide +kernel
theorem d_X13_pole_49 : decode cX13_pole 49 = .ok (.invokevirtual 132, 3) := by decide +kernel
theorem d_X13_pole_52 : decode cX13_pole 52 = .ok (.iconst 2, 1) := by decide +kernel
theorem d_X13_pole_53 : decode cX13_pole 53 = .ok (.if_icmp .ne 26, 3) := by decide +kernel
theorem d_X13_pole_56 : decode cX13_pole 56 = .ok (.aload_n 0, 1) := by decide +kernel
theorem d_X13_pole_57 : decode cX13_pole 57 = .ok (.iload_n 3, 1) := by decide +kernel
theorem d_X13_pole_58 : decode cX13_pole 58 = .ok (.iconst 1, 1) := by decide +kernel
theorem d_X13_pole_59 : decode cX13_pole 59 = .ok (.invokevirtual 132, 3) := by decide +kernel
theorem d_X13_pole_62 : decode cX13_pole 62 = .ok (.iload_n 1, 1) := by decide +kernel
theorem d_X13_pole_63 : decode cX13_pole 63 = .ok (.if_icmp .eq 6, 3) := by decide +kernel
theorem d_X13_pole_66 : decode cX13_pole 66 = .ok (.goto 13, 3) := by decide +kernel
theorem d_X13_pole_69 : decode cX13_pole 69 = .ok (.aload_n 0, 1) := by decide +kernel
theorem d_X13_pole_70 : decode cX13_pole 70 = .ok (.iload_n 3, 1) := by decide +kernel
theorem d_X13_pole_71 : decode cX13_pole 71 = .ok (.iconst 0, 1) := by decide +kernel
theorem d_X13_pole_72 : decode cX13_pole 72 = .ok (.iconst 1, 1) := by decide +kernel
theorem d_X13_pole_73 : decode cX13_pole 73 = .ok (.invokevirtual 202, 3) := by decide +kernel
theorem d_X13_pole_76 : decode cX13_pole 76 = .ok (.iinc 2 1, 3) := by decide +kernel
theorem d_X13_pole_79 : decode cX13_pole 79 = .ok (.iinc 3 1, 3) := by decide +kernel
theorem d_X13_pole_82 : decode cX13_pole 82 = .ok (.goto (-46), 3) := by decide +kernel
theorem d_X13_pole_85 : decode cX13_pole 85 = .ok (.iload_n 2, 1) := by decide +kernel
theorem d_X13_pole_86 : decode cX13_pole 86 = .ok (.ireturn, 1) := by decide +kernel
abbrev rm_X13_pole : Room := { frames := 2, cells := 0, slots := 0, locals := 44 }
def B_X13_pole_36 (post : Int32 → (Nat → Nat → Int32) → Prop) : Nat → Int32 → Int32 → Int32 → (Nat → Nat → Int32) → Prop
  | 0 => fun _ _ _ _ => False
  | n + 1 => fun v1 v2 v3 mm => ((mm 1 (Int32.toNatClampNeg (2 : Int32))) ≤ v3 → (post v2 mm)) ∧ (¬ (mm 1 (Int32.toNatClampNeg (2 : Int32))) ≤ v3 → (w_X13_chipOf (fun (r3 : Int32) (u4 : (Nat → Nat → Int32)) => (¬ r3 = 2 → (B_X13_pole_36 post n v1 v2 (v3 + 1) u4)) ∧ (r3 = 2 → (w_X13_chipOf (fun (r5 : Int32) (u6 : (Nat → Nat → Int32)) => (r5 = v1 → (w_X13_sets (fun (u8 : (Nat → Nat → Int32)) => B_X13_pole_36 post n v1 (v2 + 1) (v3 + 1) u8) v3 0 1 u6)) ∧ (¬ r5 = v1 → (B_X13_pole_36 post n v1 v2 (v3 + 1) u6))) v3 1 u4))) v3 0 mm))
def w_X13_pole (post : Int32 → (Nat → Nat → Int32) → Prop) (x1 : Int32) (mm : (Nat → Nat → Int32)) : Prop := w_X13_isStation (fun (r1 : Bool) (u2 : (Nat → Nat → Int32)) => (¬ (r1 = false) → ((((up2 u2 0 0 0) 0 0) ≤ 0 → (∃ n36, B_X13_pole_36 post n36 x1 0 0 (up2 u2 0 0 0))) ∧ (¬ ((up2 u2 0 0 0) 0 0) ≤ 0 → (post 0 (up2 u2 0 0 0))))) ∧ ((r1 = false) → ((((up2 u2 0 0 1) 0 0) ≤ 0 → (∃ n36, B_X13_pole_36 post n36 x1 0 0 (up2 u2 0 0 1))) ∧ (¬ ((up2 u2 0 0 1) 0 0) ≤ 0 → (post 0 (up2 u2 0 0 1)))))) x1 (mm 1 (Int32.toNatClampNeg (1 : Int32))) mm
section G_X13_pole
variable {p : Program} {l : Launch} {e : Env} {s : State} {m : MethodId} {args : Array Value} {below : List Frame} {meth : Method} {c : Code} {G : Gd} {ρ : Nat → Nat} {A : Nat → Prop} {cm : CMu} {oo : Nat → Int64}
set_option maxHeartbeats 4000000 in
set_option maxRecDepth 100000 in
theorem T_X13_pole_36 {post : Int32 → (Nat → Nat → Int32) → Prop} (hl : l.stackTraces = false) (X : MC p l s m args meth c cX13_pole 4 RX13 G ρ A) (hr : meth.sig.returnType = (some .int)) (hex : ∀ z ∈ c.exceptionTable.toList, False) (n : Nat) : ∀ (v1 : Int32) (v2 : Int32) (v3 : Int32) (mm : (Nat → Nat → Int32)), B_X13_pole_36 post n v1 v2 v3 mm → LW p l e rm_X13_pole s m args below meth c (Qm below G ρ A (PI (fun u => (cm, u, oo)) post) noX args s 0 0) G ρ A 4 0 0 36 [(0, .ref 703), (1, .int v1), (2, .int v2), (3, .int v3)] [] (cm, mm, oo) := by
  induction n with
  | zero =>
    intro v1 v2 v3 mm h
    exact False.elim h
  | succ n ih =>
    intro v1 v2 v3 mm h
    unfold B_X13_pole_36 at h
    refine L_iload_n (pc := 36) X d_X13_pole_36 rfl 3 rfl ?_
    refine L_aload_n (pc := 37) X d_X13_pole_37 rfl 0 rfl ?_
    refine gf_X13_7 (pc := 38) X d_X13_pole_38 ?_
    refine L_iconst (pc := 41) (v := 2) X d_X13_pole_41 (by decide) ?_
    refine L_ialdM (pc := 42) (a := 1) X d_X13_pole_42 kd_704 (by unfold vp_in; decide) ?_
    refine L_icmp_ge (pc := 43) (tgt := 85) X d_X13_pole_43 (by decide) (fun c43 => ?_) (fun c43 => ?_)
    · replace h := h.1 c43
      refine L_iload_n (pc := 85) X d_X13_pole_85 rfl 2 rfl ?_
      exact L_iret (pc := 86) X hr d_X13_pole_86 (by decide) (by decide) ⟨_, _, rfl, rfl, h⟩
    · replace h := h.2 c43
      refine L_aload_n (pc := 46) X d_X13_pole_46 rfl 0 rfl ?_
      refine L_iload_n (pc := 47) X d_X13_pole_47 rfl 3 rfl ?_
      refine L_iconst (pc := 48) (v := 0) X d_X13_pole_48 (by decide) ?_
      refine L_callVI (pc := 49) X lk_X13_132 (c_X13_chipOf X.hst  h) rfl rfl kd_703 (by decide) rfl rfl ⟨by decide, by decide⟩ ⟨by decide, by decide⟩ (Nat.zero_le _) d_X13_pole_49 rfl (fun x κ1 hx => L_nox hx) (fun r3 u4 h => ?_)
      refine L_iconst (pc := 52) (v := 2) X d_X13_pole_52 (by decide) ?_
      refine L_icmp_ne (pc := 53) (tgt := 79) X d_X13_pole_53 (by decide) (fun c53 => ?_) (fun c53 => ?_)
      · replace h := h.1 c53
        refine L_iinc (pc := 79) (v := v3 + 1) (lv2 := [(3, .int (v3 + 1)), (0, .ref 703), (1, .int v1), (2, .int v2)]) X d_X13_pole_79 3 rfl rfl (by decide) rfl ?_
        refine L_goto (pc := 82) (tgt := 36) X d_X13_pole_82 (by decide) ?_
        refine LW.sub [1, 2, 3, 0] rfl ?_
        exact ih _ _ _  _ h
      · replace h := h.2 c53
        refine L_aload_n (pc := 56) X d_X13_pole_56 rfl 0 rfl ?_
        refine L_iload_n (pc := 57) X d_X13_pole_57 rfl 3 rfl ?_
        refine L_iconst (pc := 58) (v := 1) X d_X13_pole_58 (by decide) ?_
        refine L_callVI (pc := 59) X lk_X13_132 (c_X13_chipOf X.hst  h) rfl rfl kd_703 (by decide) rfl rfl ⟨by decide, by decide⟩ ⟨by decide, by decide⟩ (Nat.zero_le _) d_X13_pole_59 rfl (fun x κ1 hx => L_nox hx) (fun r5 u6 h => ?_)
        refine L_iload_n (pc := 62) X d_X13_pole_62 rfl 1 rfl ?_
        refine L_icmp_eq (pc := 63) (tgt := 69) X d_X13_pole_63 (by decide) (fun c63 => ?_) (fun c63 => ?_)
        · replace h := h.1 c63
          refine L_aload_n (pc := 69) X d_X13_pole_69 rfl 0 rfl ?_
          refine L_iload_n (pc := 70) X d_X13_pole_70 rfl 3 rfl ?_
          refine L_iconst (pc := 71) (v := 0) X d_X13_pole_71 (by decide) ?_
          refine L_iconst (pc := 72) (v := 1) X d_X13_pole_72 (by decide) ?_
          refine L_callVV (pc := 73) X lk_X13_202 (c_X13_sets X.hst  h) rfl rfl kd_703 (by decide) rfl rfl ⟨by decide, by decide⟩ ⟨by decide, by decide⟩ (Nat.zero_le _) d_X13_pole_73 rfl (fun x κ1 hx => L_nox hx) (fun u8 h => ?_)
          refine L_iinc (pc := 76) (v := v2 + 1) (lv2 := [(2, .int (v2 + 1)), (0, .ref 703), (1, .int v1), (3, .int v3)]) X d_X13_pole_76 2 rfl rfl (by decide) rfl ?_
          refine L_iinc (pc := 79) (v := v3 + 1) (lv2 := [(3, .int (v3 + 1)), (2, .int (v2 + 1)), (0, .ref 703), (1, .int v1)]) X d_X13_pole_79 3 rfl rfl (by decide) rfl ?_
          refine L_goto (pc := 82) (tgt := 36) X d_X13_pole_82 (by decide) ?_
          refine LW.sub [2, 3, 1, 0] rfl ?_
          exact ih _ _ _  _ h
        · replace h := h.2 c63
          refine L_goto (pc := 66) (tgt := 79) X d_X13_pole_66 (by decide) ?_
          refine L_iinc (pc := 79) (v := v3 + 1) (lv2 := [(3, .int (v3 + 1)), (0, .ref 703), (1, .int v1), (2, .int v2)]) X d_X13_pole_79 3 rfl rfl (by decide) rfl ?_
          refine L_goto (pc := 82) (tgt := 36) X d_X13_pole_82 (by decide) ?_
          refine LW.sub [1, 2, 3, 0] rfl ?_
          exact ih _ _ _  _ h
set_option maxHeartbeats 4000000 in
set_option maxRecDepth 100000 in
theorem c_X13_pole (hl : l.stackTraces = false) {x1 : Int32} {mm : (Nat → Nat → Int32)} {post : Int32 → (Nat → Nat → Int32) → Prop} (h : w_X13_pole post x1 mm) : CT l yX13_pole (.code yX13_pole cX13_pole 4 (some .int)) rm_X13_pole 0 0 G ρ [.ref 703, .int x1] (cm, mm, oo) (PI (fun u => (cm, u, oo)) post) noX := by
  refine CT_of hl (by decide +kernel) rfl (Nat.le_of_ble_eq_true rfl) (lv0 := [(0, .ref 703), (1, .int x1)]) rfl (fun p e s m args below meth c A X hr hex hnm => ?_)
  unfold w_X13_pole at h
  refine L_aload_n (pc := 0) X d_X13_pole_0 rfl 0 rfl ?_
  refine L_aload_n (pc := 1) X d_X13_pole_1 rfl 0 rfl ?_
  refine L_iload_n (pc := 2) X d_X13_pole_2 rfl 1 rfl ?_
  refine L_aload_n (pc := 3) X d_X13_pole_3 rfl 0 rfl ?_
  refine gf_X13_7 (pc := 4) X d_X13_pole_4 ?_
  refine L_iconst (pc := 7) (v := 1) X d_X13_pole_7 (by decide) ?_
  refine L_ialdM (pc := 8) (a := 1) X d_X13_pole_8 kd_704 (by unfold vp_in; decide) ?_
  refine L_callVZ (pc := 9) X lk_X13_206 (c_X13_isStation X.hst  h) rfl rfl kd_703 (by decide) rfl rfl ⟨by decide, by decide⟩ ⟨by decide, by decide⟩ (Nat.le_of_ble_eq_true rfl) d_X13_pole_9 rfl (fun x κ1 hx => L_nox hx) (fun r1 u2 h => ?_)
  refine L_if_ne (pc := 12) (tgt := 19) X d_X13_pole_12 (by decide) (fun c12 => ?_) (fun c12 => ?_)
  · replace h := h.1 (fun z => c12 ((b2_0 _).mpr z))
    refine L_iconst (pc := 19) (v := 0) X d_X13_pole_19 (by decide) ?_
    refine pf_X13_47 (pc := 20) X d_X13_pole_20 ?_
    refine L_aload_n (pc := 23) X d_X13_pole_23 rfl 0 rfl ?_
    refine gf_X13_47 (pc := 24) X d_X13_pole_24 ?_
    refine L_if_le (pc := 27) (tgt := 32) X d_X13_pole_27 (by decide) (fun c27 => ?_) (fun c27 => ?_)
    · replace h := h.1 c27
      refine L_iconst (pc := 32) (v := 0) X d_X13_pole_32 (by decide) ?_
      refine L_istore_n (pc := 33) (lv2 := [(2, .int 0), (0, .ref 703), (1, .int x1)]) X d_X13_pole_33 rfl (by decide) rfl ?_
      refine L_iconst (pc := 34) (v := 0) X d_X13_pole_34 (by decide) ?_
      refine L_istore_n (pc := 35) (lv2 := [(3, .int 0), (2, .int 0), (0, .ref 703), (1, .int x1)]) X d_X13_pole_35 rfl (by decide) rfl ?_
      obtain ⟨n36, h⟩ := h
      refine LW.sub [2, 3, 1, 0] rfl ?_
      exact T_X13_pole_36 hl X hr hex n36 _ _ _  _ h
    · replace h := h.2 c27
      refine L_iconst (pc := 30) (v := 0) X d_X13_pole_30 (by decide) ?_
      exact L_iret (pc := 31) X hr d_X13_pole_31 (by decide) (by decide) ⟨_, _, rfl, rfl, h⟩
  · replace h := h.2 ((b2_0 _).mp c12)
    refine L_iconst (pc := 15) (v := 1) X d_X13_pole_15 (by decide) ?_
    refine L_goto (pc := 16) (tgt := 20) X d_X13_pole_16 (by decide) ?_
    refine pf_X13_47 (pc := 20) X d_X13_pole_20 ?_
    refine L_aload_n (pc := 23) X d_X13_pole_23 rfl 0 rfl ?_
    refine gf_X13_47 (pc := 24) X d_X13_pole_24 ?_
    refine L_if_le (pc := 27) (tgt := 32) X d_X13_pole_27 (by decide) (fun c27 => ?_) (fun c27 => ?_)
    · replace h := h.1 c27
      refine L_iconst (pc := 32) (v := 0) X d_X13_pole_32 (by decide) ?_
      refine L_istore_n (pc := 33) (lv2 := [(2, .int 0), (0, .ref 703), (1, .int x1)]) X d_X13_pole_33 rfl (by decide) rfl ?_
      refine L_iconst (pc := 34) (v := 0) X d_X13_pole_34 (by decide) ?_
      refine L_istore_n (pc := 35) (lv2 := [(3, .int 0), (2, .int 0), (0, .ref 703), (1, .int x1)]) X d_X13_pole_35 rfl (by decide) rfl ?_
      obtain ⟨n36, h⟩ := h
      refine LW.sub [2, 3, 1, 0] rfl ?_
      exact T_X13_pole_36 hl X hr hex n36 _ _ _  _ h
    · replace h := h.2 c27
      refine L_iconst (pc := 30) (v := 0) X d_X13_pole_30 (by decide) ?_
      exact L_iret (pc := 31) X hr d_X13_pole_31 (by decide) (by decide) ⟨_, _, rfl, rfl, h⟩
end G_X13_pole
theorem d_X13_water_0 : decode cX13_water 0 = .ok (.aload_n 0, 1) := by decide +kernel
theorem d_X13_water_1 : decode cX13_water 1 = .ok (.iload_n 1, 1) := by decide +kernel
theorem d_X13_water_2 : decode cX13_water 2 = .ok (.iconst 1, 1) := by decide +kernel
theorem d_X13_water_3 : decode cX13_water 3 = .ok (.bipush 9, 2) := by decide +kernel
theorem d_X13_water_5 : decode cX13_water 5 = .ok (.invokestatic 50, 3) := by decide +kernel
theorem d_X13_water_8 : decode cX13_water 8 = .ok (.ifCond .ne 7, 3) := by decide +kernel
theorem d_X13_water_11 : decode cX13_water 11 = .ok (.iconst 1, 1) := by decide +kernel
theorem d_X13_water_12 : decode cX13_water 12 = .ok (.goto 4, 3) := by decide +kernel
theorem d_X13_water_15 : decode cX13_water 15 = .ok (.iconst 0, 1) := by decide +kernel
theorem d_X13_water_16 : decode cX13_water 16 = .ok (.putfield 47, 3) := by decide +kernel
theorem d_X13_water_19 : decode cX13_water 19 = .ok (.aload_n 0, 1) := by decide +kernel
theorem d_X13_water_20 : decode cX13_water 20 = .ok (.getfield 47, 3) := by decide +kernel
theorem d_X13_water_23 : decode cX13_water 23 = .ok (.ifCond .le 5, 3) := by decide +kernel
theorem d_X13_water_26 : decode cX13_water 26 = .ok (.iconst 0, 1) := by decide +kernel
theorem d_X13_water_27 : decode cX13_water 27 = .ok (.ireturn, 1) := by decide +kernel
theorem d_X13_water_28 : decode cX13_water 28 = .ok (.aload_n 0, 1) := by decide +kernel
theorem d_X13_water_29 : decode cX13_water 29 = .ok (.getfield 7, 3) := by decide +kernel
theorem d_X13_water_32 : decode cX13_water 32 = .ok (.iconst 5, 1) := by decide +kernel
theorem d_X13_water_33 : decode cX13_water 33 = .ok (.iaload, 1) := by decide +kernel
theorem d_X13_water_34 : decode cX13_water 34 = .ok (.istore_n 2, 1) := by decide +kernel
theorem d_X13_water_35 : decode cX13_water 35 = .ok (.aload_n 0, 1) := by decide +kernel
theorem d_X13_water_36 : decode cX13_water 36 = .ok (.getfield 7, 3) := by decide +kernel
theorem d_X13_water_39 : decode cX13_water 39 = .ok (.iconst 5, 1) := by decide +kernel
theorem d_X13_water_40 : decode cX13_water 40 = .ok (.iload_n 1, 1) := by decide +kernel
theorem d_X13_water_41 : decode cX13_water 41 = .ok (.iastore, 1) := by decide +kernel
theorem d_X13_water_42 : decode cX13_water 42 = .ok (.iload_n 2, 1) := by decide +kernel
theorem d_X13_water_43 : decode cX13_water 43 = .ok (.ireturn, 1) := by decide +kernel
abbrev rm_X13_water : Room := { frames := 1, cells := 0, slots := 0, locals := 22 }
def w_X13_water (post : Int32 → (Nat → Nat → Int32) → Prop) (x1 : Int32) (mm : (Nat → Nat → Int32)) : Prop := w_X13_isIn (fun (r1 : Bool) (u2 : (Nat → Nat → Int32)) => (¬ (r1 = false) → ((((up2 u2 0 0 0) 0 0) ≤ 0 → (post ((up2 u2 0 0 0) 1 (Int32.toNatClampNeg (5 : Int32))) (up2 (up2 u2 0 0 0) 1 (Int32.toNatClampNeg (5 : Int32)) x1))) ∧ (¬ ((up2 u2 0 0 0) 0 0) ≤ 0 → (post 0 (up2 u2 0 0 0))))) ∧ ((r1 = false) → ((((up2 u2 0 0 1) 0 0) ≤ 0 → (post ((up2 u2 0 0 1) 1 (Int32.toNatClampNeg (5 : Int32))) (up2 (up2 u2 0 0 1) 1 (Int32.toNatClampNeg (5 : Int32)) x1))) ∧ (¬ ((up2 u2 0 0 1) 0 0) ≤ 0 → (post 0 (up2 u2 0 0 1)))))) x1 1 9 mm
section G_X13_water
variable {p : Program} {l : Launch} {e : Env} {s : State} {m : MethodId} {args : Array Value} {below : List Frame} {meth : Method} {c : Code} {G : Gd} {ρ : Nat → Nat} {A : Nat → Prop} {cm : CMu} {oo : Nat → Int64}
set_option maxHeartbeats 4000000 in
set_option maxRecDepth 100000 in
theorem c_X13_water (hl : l.stackTraces = false) {x1 : Int32} {mm : (Nat → Nat → Int32)} {post : Int32 → (Nat → Nat → Int32) → Prop} (h : w_X13_water post x1 mm) : CT l yX13_water (.code yX13_water cX13_water 3 (some .int)) rm_X13_water 0 0 G ρ [.ref 703, .int x1] (cm, mm, oo) (PI (fun u => (cm, u, oo)) post) noX := by
  refine CT_of hl (by decide +kernel) rfl (Nat.le_of_ble_eq_true rfl) (lv0 := [(0, .ref 703), (1, .int x1)]) rfl (fun p e s m args below meth c A X hr hex hnm => ?_)
  unfold w_X13_water at h
  refine L_aload_n (pc := 0) X d_X13_water_0 rfl 0 rfl ?_
  refine L_iload_n (pc := 1) X d_X13_water_1 rfl 1 rfl ?_
  refine L_iconst (pc := 2) (v := 1) X d_X13_water_2 (by decide) ?_
  refine L_bipush (pc := 3) (v := 9) X d_X13_water_3 (by decide) ?_
  refine L_callSZ (pc := 5) X lk_X13_50 (c_X13_isIn X.hst  h) rfl rfl rfl ⟨by decide, by decide⟩ ⟨by decide, by decide⟩ (Nat.le_of_ble_eq_true rfl) d_X13_water_5 rfl (fun x κ1 hx => L_nox hx) (fun r1 u2 h => ?_)
  refine L_if_ne (pc := 8) (tgt := 15) X d_X13_water_8 (by decide) (fun c8 => ?_) (fun c8 => ?_)
  · replace h := h.1 (fun z => c8 ((b2_0 _).mpr z))
    refine L_iconst (pc := 15) (v := 0) X d_X13_water_15 (by decide) ?_
    refine pf_X13_47 (pc := 16) X d_X13_water_16 ?_
    refine L_aload_n (pc := 19) X d_X13_water_19 rfl 0 rfl ?_
    refine gf_X13_47 (pc := 20) X d_X13_water_20 ?_
    refine L_if_le (pc := 23) (tgt := 28) X d_X13_water_23 (by decide) (fun c23 => ?_) (fun c23 => ?_)
    · replace h := h.1 c23
      refine L_aload_n (pc := 28) X d_X13_water_28 rfl 0 rfl ?_
      refine gf_X13_7 (pc := 29) X d_X13_water_29 ?_
      refine L_iconst (pc := 32) (v := 5) X d_X13_water_32 (by decide) ?_
      refine L_ialdM (pc := 33) (a := 1) X d_X13_water_33 kd_704 (by unfold vp_in; decide) ?_
      refine L_istore_n (pc := 34) (lv2 := [(2, .int ((up2 u2 0 0 0) 1 (Int32.toNatClampNeg (5 : Int32)))), (0, .ref 703), (1, .int x1)]) X d_X13_water_34 rfl (by decide) rfl ?_
      refine L_aload_n (pc := 35) X d_X13_water_35 rfl 1 rfl ?_
      refine gf_X13_7 (pc := 36) X d_X13_water_36 ?_
      refine L_iconst (pc := 39) (v := 5) X d_X13_water_39 (by decide) ?_
      refine L_iload_n (pc := 40) X d_X13_water_40 rfl 2 rfl ?_
      refine L_iastM (pc := 41) (a := 1) X d_X13_water_41 kd_704 (by unfold vp_in; decide) ?_
      refine L_iload_n (pc := 42) X d_X13_water_42 rfl 0 rfl ?_
      exact L_iret (pc := 43) X hr d_X13_water_43 (by decide) (by decide) ⟨_, _, rfl, rfl, h⟩
    · replace h := h.2 c23
      refine L_iconst (pc := 26) (v := 0) X d_X13_water_26 (by decide) ?_
      exact L_iret (pc := 27) X hr d_X13_water_27 (by decide) (by decide) ⟨_, _, rfl, rfl, h⟩
  · replace h := h.2 ((b2_0 _).mp c8)
    refine L_iconst (pc := 11) (v := 1) X d_X13_water_11 (by decide) ?_
    refine L_goto (pc := 12) (tgt := 16) X d_X13_water_12 (by decide) ?_
    refine pf_X13_47 (pc := 16) X d_X13_water_16 ?_
    refine L_aload_n (pc := 19) X d_X13_water_19 rfl 0 rfl ?_
    refine gf_X13_47 (pc := 20) X d_X13_water_20 ?_
    refine L_if_le (pc := 23) (tgt := 28) X d_X13_water_23 (by decide) (fun c23 => ?_) (fun c23 => ?_)
    · replace h := h.1 c23
      refine L_aload_n (pc := 28) X d_X13_water_28 rfl 0 rfl ?_
      refine gf_X13_7 (pc := 29) X d_X13_water_29 ?_
      refine L_iconst (pc := 32) (v := 5) X d_X13_water_32 (by decide) ?_
      refine L_ialdM (pc := 33) (a := 1) X d_X13_water_33 kd_704 (by unfold vp_in; decide) ?_
      refine L_istore_n (pc := 34) (lv2 := [(2, .int ((up2 u2 0 0 1) 1 (Int32.toNatClampNeg (5 : Int32)))), (0, .ref 703), (1, .int x1)]) X d_X13_water_34 rfl (by decide) rfl ?_
      refine L_aload_n (pc := 35) X d_X13_water_35 rfl 1 rfl ?_
      refine gf_X13_7 (pc := 36) X d_X13_water_36 ?_
      refine L_iconst (pc := 39) (v := 5) X d_X13_water_39 (by decide) ?_
      refine L_iload_n (pc := 40) X d_X13_water_40 rfl 2 rfl ?_
      refine L_iastM (pc := 41) (a := 1) X d_X13_water_41 kd_704 (by unfold vp_in; decide) ?_
      refine L_iload_n (pc := 42) X d_X13_water_42 rfl 0 rfl ?_
      exact L_iret (pc := 43) X hr d_X13_water_43 (by decide) (by decide) ⟨_, _, rfl, rfl, h⟩
    · replace h := h.2 c23
      refine L_iconst (pc := 26) (v := 0) X d_X13_water_26 (by decide) ?_
      exact L_iret (pc := 27) X hr d_X13_water_27 (by decide) (by decide) ⟨_, _, rfl, rfl, h⟩
end G_X13_water
theorem d_X13_look_0 : decode cX13_look 0 = .ok (.aload_n 0, 1) := by decide +kernel
theorem d_X13_look_1 : decode cX13_look 1 = .ok (.iload_n 1, 1) := by decide +kernel
theorem d_X13_look_2 : decode cX13_look 2 = .ok (.iconst 0, 1) := by decide +kernel
theorem d_X13_look_3 : decode cX13_look 3 = .ok (.aload_n 0, 1) := by decide +kernel
theorem d_X13_look_4 : decode cX13_look 4 = .ok (.getfield 7, 3) := by decide +kernel
theorem d_X13_look_7 : decode cX13_look 7 = .ok (.iconst 2, 1) := by decide +kernel
theorem d_X13_look_8 : decode cX13_look 8 = .ok (.iaload, 1) := by decide +kernel
theorem d_X13_look_9 : decode cX13_look 9 = .ok (.iconst 1, 1) := by decide +kernel
theorem d_X13_look_10 : decode cX13_look 10 = .ok (.isub, 1) := by decide +kernel
theorem d_X13_look_11 : decode cX13_look 11 = .ok (.invokestatic 50, 3) := by decide +kernel
theorem d_X13_look_14 : decode cX13_look 14 = .ok (.ifCond .ne 7, 3) := by decide +kernel
theorem d_X13_look_17 : decode cX13_look 17 = .ok (.iconst 1, 1) := by decide +kernel
theorem d_X13_look_18 : decode cX13_look 18 = .ok (.goto 17, 3) := by decide +kernel
theorem d_X13_look_21 : decode cX13_look 21 = .ok (.iload_n 2, 1) := by decide +kernel
theorem d_X13_look_22 : decode cX13_look 22 = .ok (.iconst 0, 1) := by decide +kernel
theorem d_X13_look_23 : decode cX13_look 23 = .ok (.iconst 5, 1) := by decide +kernel
theorem d_X13_look_24 : decode cX13_look 24 = .ok (.invokestatic 50, 3) := by decide +kernel
theorem d_X13_look_27 : decode cX13_look 27 = .ok (.ifCond .ne 7, 3) := by decide +kernel
theorem d_X13_look_30 : decode cX13_look 30 = .ok (.iconst 2, 1) := by decide +kernel
theorem d_X13_look_31 : decode cX13_look 31 = .ok (.goto 4, 3) := by decide +kernel
theorem d_X13_look_34 : decode cX13_look 34 = .ok (.iconst 0, 1) := by decide +kernel
theorem d_X13_look_35 : decode cX13_look 35 = .ok (.putfield 47, 3) := by decide +kernel
theorem d_X13_look_38 : decode cX13_look 38 = .ok (.aload_n 0, 1) := by decide +kernel
theorem d_X13_look_39 : decode cX13_look 39 = .ok (.getfield 47, 3) := by decide +kernel
theorem d_X13_look_42 : decode cX13_look 42 = .ok (.ifCond .le 5, 3) := by decide +kernel
theorem d_X13_look_45 : decode cX13_look 45 = .ok (.iconst 0, 1) := by decide +kernel
theorem d_X13_look_46 : decode cX13_look 46 = .ok (.ireturn, 1) := by decide +kernel
theorem d_X13_look_47 : decode cX13_look 47 = .ok (.aload_n 0, 1) := by decide +kernel
theorem d_X13_look_48 : decode cX13_look 48 = .ok (.iload_n 1, 1) := by decide +kernel
theorem d_X13_look_49 : decode cX13_look 49 = .ok (.iload_n 2, 1) := by decide +kernel
theorem d_X13_look_50 : decode cX13_look 50 = .ok (.invokevirtual 132, 3) := by decide +kernel
theorem d_X13_look_53 : decode cX13_look 53 = .ok (.ireturn, 1) := by decide +kernel
abbrev rm_X13_look : Room := { frames := 1, cells := 0, slots := 0, locals := 22 }
def w_X13_look (post : Int32 → (Nat → Nat → Int32) → Prop) (x1 : Int32) (x2 : Int32) (mm : (Nat → Nat → Int32)) : Prop := w_X13_isIn (fun (r1 : Bool) (u2 : (Nat → Nat → Int32)) => (¬ (r1 = false) → (w_X13_isIn (fun (r3 : Bool) (u4 : (Nat → Nat → Int32)) => (¬ (r3 = false) → ((((up2 u4 0 0 0) 0 0) ≤ 0 → (w_X13_chipOf (fun (r5 : Int32) (u6 : (Nat → Nat → Int32)) => post r5 u6) x1 x2 (up2 u4 0 0 0))) ∧ (¬ ((up2 u4 0 0 0) 0 0) ≤ 0 → (post 0 (up2 u4 0 0 0))))) ∧ ((r3 = false) → ((((up2 u4 0 0 2) 0 0) ≤ 0 → (w_X13_chipOf (fun (r7 : Int32) (u8 : (Nat → Nat → Int32)) => post r7 u8) x1 x2 (up2 u4 0 0 2))) ∧ (¬ ((up2 u4 0 0 2) 0 0) ≤ 0 → (post 0 (up2 u4 0 0 2)))))) x2 0 5 u2)) ∧ ((r1 = false) → ((((up2 u2 0 0 1) 0 0) ≤ 0 → (w_X13_chipOf (fun (r9 : Int32) (u10 : (Nat → Nat → Int32)) => post r9 u10) x1 x2 (up2 u2 0 0 1))) ∧ (¬ ((up2 u2 0 0 1) 0 0) ≤ 0 → (post 0 (up2 u2 0 0 1)))))) x1 0 ((mm 1 (Int32.toNatClampNeg (2 : Int32))) - 1) mm
section G_X13_look
variable {p : Program} {l : Launch} {e : Env} {s : State} {m : MethodId} {args : Array Value} {below : List Frame} {meth : Method} {c : Code} {G : Gd} {ρ : Nat → Nat} {A : Nat → Prop} {cm : CMu} {oo : Nat → Int64}
set_option maxHeartbeats 4000000 in
set_option maxRecDepth 100000 in
theorem c_X13_look (hl : l.stackTraces = false) {x1 : Int32} {x2 : Int32} {mm : (Nat → Nat → Int32)} {post : Int32 → (Nat → Nat → Int32) → Prop} (h : w_X13_look post x1 x2 mm) : CT l yX13_look (.code yX13_look cX13_look 3 (some .int)) rm_X13_look 0 0 G ρ [.ref 703, .int x1, .int x2] (cm, mm, oo) (PI (fun u => (cm, u, oo)) post) noX := by
  refine CT_of hl (by decide +kernel) rfl (Nat.le_of_ble_eq_true rfl) (lv0 := [(0, .ref 703), (1, .int x1), (2, .int x2)]) rfl (fun p e s m args below meth c A X hr hex hnm => ?_)
  unfold w_X13_look at h
  refine L_aload_n (pc := 0) X d_X13_look_0 rfl 0 rfl ?_
  refine L_iload_n (pc := 1) X d_X13_look_1 rfl 1 rfl ?_
  refine L_iconst (pc := 2) (v := 0) X d_X13_look_2 (by decide) ?_
  refine L_aload_n (pc := 3) X d_X13_look_3 rfl 0 rfl ?_
  refine gf_X13_7 (pc := 4) X d_X13_look_4 ?_
  refine L_iconst (pc := 7) (v := 2) X d_X13_look_7 (by decide) ?_
  refine L_ialdM (pc := 8) (a := 1) X d_X13_look_8 kd_704 (by unfold vp_in; decide) ?_
  refine L_iconst (pc := 9) (v := 1) X d_X13_look_9 (by decide) ?_
  refine L_isub (pc := 10) X d_X13_look_10 ?_
  refine L_callSZ (pc := 11) X lk_X13_50 (c_X13_isIn X.hst  h) rfl rfl rfl ⟨by decide, by decide⟩ ⟨by decide, by decide⟩ (Nat.le_of_ble_eq_true rfl) d_X13_look_11 rfl (fun x κ1 hx => L_nox hx) (fun r1 u2 h => ?_)
  refine L_if_ne (pc := 14) (tgt := 21) X d_X13_look_14 (by decide) (fun c14 => ?_) (fun c14 => ?_)
  · replace h := h.1 (fun z => c14 ((b2_0 _).mpr z))
    refine L_iload_n (pc := 21) X d_X13_look_21 rfl 2 rfl ?_
    refine L_iconst (pc := 22) (v := 0) X d_X13_look_22 (by decide) ?_
    refine L_iconst (pc := 23) (v := 5) X d_X13_look_23 (by decide) ?_
    refine L_callSZ (pc := 24) X lk_X13_50 (c_X13_isIn X.hst  h) rfl rfl rfl ⟨by decide, by decide⟩ ⟨by decide, by decide⟩ (Nat.le_of_ble_eq_true rfl) d_X13_look_24 rfl (fun x κ1 hx => L_nox hx) (fun r3 u4 h => ?_)
    refine L_if_ne (pc := 27) (tgt := 34) X d_X13_look_27 (by decide) (fun c27 => ?_) (fun c27 => ?_)
    · replace h := h.1 (fun z => c27 ((b2_0 _).mpr z))
      refine L_iconst (pc := 34) (v := 0) X d_X13_look_34 (by decide) ?_
      refine pf_X13_47 (pc := 35) X d_X13_look_35 ?_
      refine L_aload_n (pc := 38) X d_X13_look_38 rfl 0 rfl ?_
      refine gf_X13_47 (pc := 39) X d_X13_look_39 ?_
      refine L_if_le (pc := 42) (tgt := 47) X d_X13_look_42 (by decide) (fun c42 => ?_) (fun c42 => ?_)
      · replace h := h.1 c42
        refine L_aload_n (pc := 47) X d_X13_look_47 rfl 0 rfl ?_
        refine L_iload_n (pc := 48) X d_X13_look_48 rfl 1 rfl ?_
        refine L_iload_n (pc := 49) X d_X13_look_49 rfl 2 rfl ?_
        refine L_callVI (pc := 50) X lk_X13_132 (c_X13_chipOf X.hst  h) rfl rfl kd_703 (by decide) rfl rfl ⟨by decide, by decide⟩ ⟨by decide, by decide⟩ (Nat.zero_le _) d_X13_look_50 rfl (fun x κ1 hx => L_nox hx) (fun r5 u6 h => ?_)
        exact L_iret (pc := 53) X hr d_X13_look_53 (by decide) (by decide) ⟨_, _, rfl, rfl, h⟩
      · replace h := h.2 c42
        refine L_iconst (pc := 45) (v := 0) X d_X13_look_45 (by decide) ?_
        exact L_iret (pc := 46) X hr d_X13_look_46 (by decide) (by decide) ⟨_, _, rfl, rfl, h⟩
    · replace h := h.2 ((b2_0 _).mp c27)
      refine L_iconst (pc := 30) (v := 2) X d_X13_look_30 (by decide) ?_
      refine L_goto (pc := 31) (tgt := 35) X d_X13_look_31 (by decide) ?_
      refine pf_X13_47 (pc := 35) X d_X13_look_35 ?_
      refine L_aload_n (pc := 38) X d_X13_look_38 rfl 0 rfl ?_
      refine gf_X13_47 (pc := 39) X d_X13_look_39 ?_
      refine L_if_le (pc := 42) (tgt := 47) X d_X13_look_42 (by decide) (fun c42 => ?_) (fun c42 => ?_)
      · replace h := h.1 c42
        refine L_aload_n (pc := 47) X d_X13_look_47 rfl 0 rfl ?_
        refine L_iload_n (pc := 48) X d_X13_look_48 rfl 1 rfl ?_
        refine L_iload_n (pc := 49) X d_X13_look_49 rfl 2 rfl ?_
        refine L_callVI (pc := 50) X lk_X13_132 (c_X13_chipOf X.hst  h) rfl rfl kd_703 (by decide) rfl rfl ⟨by decide, by decide⟩ ⟨by decide, by decide⟩ (Nat.zero_le _) d_X13_look_50 rfl (fun x κ1 hx => L_nox hx) (fun r7 u8 h => ?_)
        exact L_iret (pc := 53) X hr d_X13_look_53 (by decide) (by decide) ⟨_, _, rfl, rfl, h⟩
      · replace h := h.2 c42
        refine L_iconst (pc := 45) (v := 0) X d_X13_look_45 (by decide) ?_
        exact L_iret (pc := 46) X hr d_X13_look_46 (by decide) (by decide) ⟨_, _, rfl, rfl, h⟩
  · replace h := h.2 ((b2_0 _).mp c14)
    refine L_iconst (pc := 17) (v := 1) X d_X13_look_17 (by decide) ?_
    refine L_goto (pc := 18) (tgt := 35) X d_X13_look_18 (by decide) ?_
    refine pf_X13_47 (pc := 35) X d_X13_look_35 ?_
    refine L_aload_n (pc := 38) X d_X13_look_38 rfl 0 rfl ?_
    refine gf_X13_47 (pc := 39) X d_X13_look_39 ?_
    refine L_if_le (pc := 42) (tgt := 47) X d_X13_look_42 (by decide) (fun c42 => ?_) (fun c42 => ?_)
    · replace h := h.1 c42
      refine L_aload_n (pc := 47) X d_X13_look_47 rfl 0 rfl ?_
      refine L_iload_n (pc := 48) X d_X13_look_48 rfl 1 rfl ?_
      refine L_iload_n (pc := 49) X d_X13_look_49 rfl 2 rfl ?_
      refine L_callVI (pc := 50) X lk_X13_132 (c_X13_chipOf X.hst  h) rfl rfl kd_703 (by decide) rfl rfl ⟨by decide, by decide⟩ ⟨by decide, by decide⟩ (Nat.zero_le _) d_X13_look_50 rfl (fun x κ1 hx => L_nox hx) (fun r9 u10 h => ?_)
      exact L_iret (pc := 53) X hr d_X13_look_53 (by decide) (by decide) ⟨_, _, rfl, rfl, h⟩
    · replace h := h.2 c42
      refine L_iconst (pc := 45) (v := 0) X d_X13_look_45 (by decide) ?_
      exact L_iret (pc := 46) X hr d_X13_look_46 (by decide) (by decide) ⟨_, _, rfl, rfl, h⟩
end G_X13_look
theorem d_X13_isCamp_0 : decode cX13_isCamp 0 = .ok (.iload_n 1, 1) := by decide +kernel
theorem d_X13_isCamp_1 : decode cX13_isCamp 1 = .ok (.iconst 1, 1) := by decide +kernel
theorem d_X13_isCamp_2 : decode cX13_isCamp 2 = .ok (.aload_n 0, 1) := by decide +kernel
theorem d_X13_isCamp_3 : decode cX13_isCamp 3 = .ok (.getfield 7, 3) := by decide +kernel
theorem d_X13_isCamp_6 : decode cX13_isCamp 6 = .ok (.iconst 1, 1) := by decide +kernel
theorem d_X13_isCamp_7 : decode cX13_isCamp 7 = .ok (.iaload, 1) := by decide +kernel
theorem d_X13_isCamp_8 : decode cX13_isCamp 8 = .ok (.invokestatic 50, 3) := by decide +kernel
theorem d_X13_isCamp_11 : decode cX13_isCamp 11 = .ok (.ireturn, 1) := by decide +kernel
abbrev rm_X13_isCamp : Room := { frames := 1, cells := 0, slots := 0, locals := 22 }
def w_X13_isCamp (post : Bool → (Nat → Nat → Int32) → Prop) (x1 : Int32) (mm : (Nat → Nat → Int32)) : Prop := w_X13_isIn (fun (r1 : Bool) (u2 : (Nat → Nat → Int32)) => post r1 u2) x1 1 (mm 1 (Int32.toNatClampNeg (1 : Int32))) mm
section G_X13_isCamp
variable {p : Program} {l : Launch} {e : Env} {s : State} {m : MethodId} {args : Array Value} {below : List Frame} {meth : Method} {c : Code} {G : Gd} {ρ : Nat → Nat} {A : Nat → Prop} {cm : CMu} {oo : Nat → Int64}
set_option maxHeartbeats 4000000 in
set_option maxRecDepth 100000 in
theorem c_X13_isCamp (hl : l.stackTraces = false) {x1 : Int32} {mm : (Nat → Nat → Int32)} {post : Bool → (Nat → Nat → Int32) → Prop} (h : w_X13_isCamp post x1 mm) : CT l yX13_isCamp (.code yX13_isCamp cX13_isCamp 2 (some .boolean)) rm_X13_isCamp 0 0 G ρ [.ref 703, .int x1] (cm, mm, oo) (PZ (fun u => (cm, u, oo)) post) noX := by
  refine CT_of hl (by decide +kernel) rfl (Nat.le_of_ble_eq_true rfl) (lv0 := [(0, .ref 703), (1, .int x1)]) rfl (fun p e s m args below meth c A X hr hex hnm => ?_)
  unfold w_X13_isCamp at h
  refine L_iload_n (pc := 0) X d_X13_isCamp_0 rfl 1 rfl ?_
  refine L_iconst (pc := 1) (v := 1) X d_X13_isCamp_1 (by decide) ?_
  refine L_aload_n (pc := 2) X d_X13_isCamp_2 rfl 0 rfl ?_
  refine gf_X13_7 (pc := 3) X d_X13_isCamp_3 ?_
  refine L_iconst (pc := 6) (v := 1) X d_X13_isCamp_6 (by decide) ?_
  refine L_ialdM (pc := 7) (a := 1) X d_X13_isCamp_7 kd_704 (by unfold vp_in; decide) ?_
  refine L_callSZ (pc := 8) X lk_X13_50 (c_X13_isIn X.hst  h) rfl rfl rfl ⟨by decide, by decide⟩ ⟨by decide, by decide⟩ (Nat.zero_le _) d_X13_isCamp_8 rfl (fun x κ1 hx => L_nox hx) (fun r1 u2 h => ?_)
  exact L_zretB (pc := 11) X hr d_X13_isCamp_11 r1 rfl (by decide) (by decide) ⟨_, _, rfl, rfl, h⟩
end G_X13_isCamp
theorem yk_X13_isCamp : yX13_isCamp.cls = RX13 ∧ yX13_isCamp.cls ≠ "java/lang/invoke/MethodHandle" ∧ yX13_isCamp.cls ≠ "java/lang/invoke/VarHandle" ∧ (parseMethodDescriptor yX13_isCamp.desc).map (fun d => d.parameters.length) = some 1 := by decide +kernel
theorem lk_X13_244 : LinkV RX13 244 RX13 yX13_isCamp (.code yX13_isCamp cX13_isCamp 2 (some .boolean)) 1 := ⟨tw_1511, tw_1513, tw_64, tw_83, tw_1514, yk_X13_isCamp⟩
theorem d_X13_camp_0 : decode cX13_camp 0 = .ok (.aload_n 0, 1) := by decide +kernel
theorem d_X13_camp_1 : decode cX13_camp 1 = .ok (.aload_n 0, 1) := by decide +kernel
theorem d_X13_camp_2 : decode cX13_camp 2 = .ok (.iload_n 1, 1) := by decide +kernel
theorem d_X13_camp_3 : decode cX13_camp 3 = .ok (.invokevirtual 244, 3) := by decide +kernel
theorem d_X13_camp_6 : decode cX13_camp 6 = .ok (.ifCond .ne 7, 3) := by decide +kernel
theorem d_X13_camp_9 : decode cX13_camp 9 = .ok (.iconst 1, 1) := by decide +kernel
theorem d_X13_camp_10 : decode cX13_camp 10 = .ok (.goto 17, 3) := by decide +kernel
theorem d_X13_camp_13 : decode cX13_camp 13 = .ok (.iload_n 2, 1) := by decide +kernel
theorem d_X13_camp_14 : decode cX13_camp 14 = .ok (.iconst 0, 1) := by decide +kernel
theorem d_X13_camp_15 : decode cX13_camp 15 = .ok (.iconst 3, 1) := by decide +kernel
theorem d_X13_camp_16 : decode cX13_camp 16 = .ok (.invokestatic 50, 3) := by decide +kernel
theorem d_X13_camp_19 : decode cX13_camp 19 = .ok (.ifCond .ne 7, 3) := by decide +kernel
theorem d_X13_camp_22 : decode cX13_camp 22 = .ok (.iconst 2, 1) := by decide +kernel
theorem d_X13_camp_23 : decode cX13_camp 23 = .ok (.goto 4, 3) := by decide +kernel
theorem d_X13_camp_26 : decode cX13_camp 26 = .ok (.iconst 0, 1) := by decide +kernel
theorem d_X13_camp_27 : decode cX13_camp 27 = .ok (.putfield 47, 3) := by decide +kernel
theorem d_X13_camp_30 : decode cX13_camp 30 = .ok (.aload_n 0, 1) := by decide +kernel
theorem d_X13_camp_31 : decode cX13_camp 31 = .ok (.getfield 47, 3) := by decide +kernel
theorem d_X13_camp_34 : decode cX13_camp 34 = .ok (.ifCond .le 5, 3) := by decide +kernel
theorem d_X13_camp_37 : decode cX13_camp 37 = .ok (.iconst 0, 1) := by decide +kernel
theorem d_X13_camp_38 : decode cX13_camp 38 = .ok (.ireturn, 1) := by decide +kernel
theorem d_X13_camp_39 : decode cX13_camp 39 = .ok (.aload_n 0, 1) := by decide +kernel
theorem d_X13_camp_40 : decode cX13_camp 40 = .ok (.getfield 7, 3) := by decide +kernel
theorem d_X13_camp_43 : decode cX13_camp 43 = .ok (.bipush 46, 2) := by decide +kernel
theorem d_X13_camp_45 : decode cX13_camp 45 = .ok (.iconst 4, 1) := by decide +kernel
theorem d_X13_camp_46 : decode cX13_camp 46 = .ok (.iload_n 1, 1) := by decide +kernel
theorem d_X13_camp_47 : decode cX13_camp 47 = .ok (.imul, 1) := by decide +kernel
theorem d_X13_camp_48 : decode cX13_camp 48 = .ok (.iadd, 1) := by decide +kernel
theorem d_X13_camp_49 : decode cX13_camp 49 = .ok (.iload_n 2, 1) := by decide +kernel
theorem d_X13_camp_50 : decode cX13_camp 50 = .ok (.iadd, 1) := by decide +kernel
theorem d_X13_camp_51 : decode cX13_camp 51 = .ok (.iaload, 1) := by decide +kernel
theorem d_X13_camp_52 : decode cX13_camp 52 = .ok (.ireturn, 1) := by decide +kernel
abbrev rm_X13_camp : Room := { frames := 2, cells := 0, slots := 0, locals := 43 }
def w_X13_camp (post : Int32 → (Nat → Nat → Int32) → Prop) (x1 : Int32) (x2 : Int32) (mm : (Nat → Nat → Int32)) : Prop := w_X13_isCamp (fun (r1 : Bool) (u2 : (Nat → Nat → Int32)) => (¬ (r1 = false) → (w_X13_isIn (fun (r3 : Bool) (u4 : (Nat → Nat → Int32)) => (¬ (r3 = false) → ((((up2 u4 0 0 0) 0 0) ≤ 0 → ((vp_in ((46 + (4 * x1)) + x2) 25530) ∧ post ((up2 u4 0 0 0) 1 (Int32.toNatClampNeg ((46 + (4 * x1)) + x2))) (up2 u4 0 0 0))) ∧ (¬ ((up2 u4 0 0 0) 0 0) ≤ 0 → (post 0 (up2 u4 0 0 0))))) ∧ ((r3 = false) → ((((up2 u4 0 0 2) 0 0) ≤ 0 → ((vp_in ((46 + (4 * x1)) + x2) 25530) ∧ post ((up2 u4 0 0 2) 1 (Int32.toNatClampNeg ((46 + (4 * x1)) + x2))) (up2 u4 0 0 2))) ∧ (¬ ((up2 u4 0 0 2) 0 0) ≤ 0 → (post 0 (up2 u4 0 0 2)))))) x2 0 3 u2)) ∧ ((r1 = false) → ((((up2 u2 0 0 1) 0 0) ≤ 0 → ((vp_in ((46 + (4 * x1)) + x2) 25530) ∧ post ((up2 u2 0 0 1) 1 (Int32.toNatClampNeg ((46 + (4 * x1)) + x2))) (up2 u2 0 0 1))) ∧ (¬ ((up2 u2 0 0 1) 0 0) ≤ 0 → (post 0 (up2 u2 0 0 1)))))) x1 mm
section G_X13_camp
variable {p : Program} {l : Launch} {e : Env} {s : State} {m : MethodId} {args : Array Value} {below : List Frame} {meth : Method} {c : Code} {G : Gd} {ρ : Nat → Nat} {A : Nat → Prop} {cm : CMu} {oo : Nat → Int64}
set_option maxHeartbeats 4000000 in
set_option maxRecDepth 100000 in
theorem c_X13_camp (hl : l.stackTraces = false) {x1 : Int32} {x2 : Int32} {mm : (Nat → Nat → Int32)} {post : Int32 → (Nat → Nat → Int32) → Prop} (h : w_X13_camp post x1 x2 mm) : CT l yX13_camp (.code yX13_camp cX13_camp 3 (some .int)) rm_X13_camp 0 0 G ρ [.ref 703, .int x1, .int x2] (cm, mm, oo) (PI (fun u => (cm, u, oo)) post) noX := by
  refine CT_of hl (by decide +kernel) rfl (Nat.le_of_ble_eq_true rfl) (lv0 := [(0, .ref 703), (1, .int x1), (2, .int x2)]) rfl (fun p e s m args below meth c A X hr hex hnm => ?_)
  unfold w_X13_camp at h
  refine L_aload_n (pc := 0) X d_X13_camp_0 rfl 0 rfl ?_
  refine L_aload_n (pc := 1) X d_X13_camp_1 rfl 0 rfl ?_
  refine L_iload_n (pc := 2) X d_X13_camp_2 rfl 1 rfl ?_
  refine L_callVZ (pc := 3) X lk_X13_244 (c_X13_isCamp X.hst  h) rfl rfl kd_703 (by decide) rfl rfl ⟨by decide, by decide⟩ ⟨by decide, by decide⟩ (Nat.le_of_ble_eq_true rfl) d_X13_camp_3 rfl (fun x κ1 hx => L_nox hx) (fun r1 u2 h => ?_)
  refine L_if_ne (pc := 6) (tgt := 13) X d_X13_camp_6 (by decide) (fun c6 => ?_) (fun c6 => ?_)
  · replace h := h.1 (fun z => c6 ((b2_0 _).mpr z))
    refine L_iload_n (pc := 13) X d_X13_camp_13 rfl 2 rfl ?_
    refine L_iconst (pc := 14) (v := 0) X d_X13_camp_14 (by decide) ?_
    refine L_iconst (pc := 15) (v := 3) X d_X13_camp_15 (by decide) ?_
    refine L_callSZ (pc := 16) X lk_X13_50 (c_X13_isIn X.hst  h) rfl rfl rfl ⟨by decide, by decide⟩ ⟨by decide, by decide⟩ (Nat.le_of_ble_eq_true rfl) d_X13_camp_16 rfl (fun x κ1 hx => L_nox hx) (fun r3 u4 h => ?_)
    refine L_if_ne (pc := 19) (tgt := 26) X d_X13_camp_19 (by decide) (fun c19 => ?_) (fun c19 => ?_)
    · replace h := h.1 (fun z => c19 ((b2_0 _).mpr z))
      refine L_iconst (pc := 26) (v := 0) X d_X13_camp_26 (by decide) ?_
      refine pf_X13_47 (pc := 27) X d_X13_camp_27 ?_
      refine L_aload_n (pc := 30) X d_X13_camp_30 rfl 0 rfl ?_
      refine gf_X13_47 (pc := 31) X d_X13_camp_31 ?_
      refine L_if_le (pc := 34) (tgt := 39) X d_X13_camp_34 (by decide) (fun c34 => ?_) (fun c34 => ?_)
      · replace h := h.1 c34
        refine L_aload_n (pc := 39) X d_X13_camp_39 rfl 0 rfl ?_
        refine gf_X13_7 (pc := 40) X d_X13_camp_40 ?_
        refine L_bipush (pc := 43) (v := 46) X d_X13_camp_43 (by decide) ?_
        refine L_iconst (pc := 45) (v := 4) X d_X13_camp_45 (by decide) ?_
        refine L_iload_n (pc := 46) X d_X13_camp_46 rfl 1 rfl ?_
        refine L_imul (pc := 47) X d_X13_camp_47 ?_
        refine L_iadd (pc := 48) X d_X13_camp_48 ?_
        refine L_iload_n (pc := 49) X d_X13_camp_49 rfl 2 rfl ?_
        refine L_iadd (pc := 50) X d_X13_camp_50 ?_
        obtain ⟨q5, h⟩ := h
        refine L_ialdM (pc := 51) (a := 1) X d_X13_camp_51 kd_704 q5 ?_
        exact L_iret (pc := 52) X hr d_X13_camp_52 (by decide) (by decide) ⟨_, _, rfl, rfl, h⟩
      · replace h := h.2 c34
        refine L_iconst (pc := 37) (v := 0) X d_X13_camp_37 (by decide) ?_
        exact L_iret (pc := 38) X hr d_X13_camp_38 (by decide) (by decide) ⟨_, _, rfl, rfl, h⟩
    · replace h := h.2 ((b2_0 _).mp c19)
      refine L_iconst (pc := 22) (v := 2) X d_X13_camp_22 (by decide) ?_
      refine L_goto (pc := 23) (tgt := 27) X d_X13_camp_23 (by decide) ?_
      refine pf_X13_47 (pc := 27) X d_X13_camp_27 ?_
      refine L_aload_n (pc := 30) X d_X13_camp_30 rfl 0 rfl ?_
      refine gf_X13_47 (pc := 31) X d_X13_camp_31 ?_
      refine L_if_le (pc := 34) (tgt := 39) X d_X13_camp_34 (by decide) (fun c34 => ?_) (fun c34 => ?_)
      · replace h := h.1 c34
        refine L_aload_n (pc := 39) X d_X13_camp_39 rfl 0 rfl ?_
        refine gf_X13_7 (pc := 40) X d_X13_camp_40 ?_
        refine L_bipush (pc := 43) (v := 46) X d_X13_camp_43 (by decide) ?_
        refine L_iconst (pc := 45) (v := 4) X d_X13_camp_45 (by decide) ?_
        refine L_iload_n (pc := 46) X d_X13_camp_46 rfl 1 rfl ?_
        refine L_imul (pc := 47) X d_X13_camp_47 ?_
        refine L_iadd (pc := 48) X d_X13_camp_48 ?_
        refine L_iload_n (pc := 49) X d_X13_camp_49 rfl 2 rfl ?_
        refine L_iadd (pc := 50) X d_X13_camp_50 ?_
        obtain ⟨q6, h⟩ := h
        refine L_ialdM (pc := 51) (a := 1) X d_X13_camp_51 kd_704 q6 ?_
        exact L_iret (pc := 52) X hr d_X13_camp_52 (by decide) (by decide) ⟨_, _, rfl, rfl, h⟩
      · replace h := h.2 c34
        refine L_iconst (pc := 37) (v := 0) X d_X13_camp_37 (by decide) ?_
        exact L_iret (pc := 38) X hr d_X13_camp_38 (by decide) (by decide) ⟨_, _, rfl, rfl, h⟩
  · replace h := h.2 ((b2_0 _).mp c6)
    refine L_iconst (pc := 9) (v := 1) X d_X13_camp_9 (by decide) ?_
    refine L_goto (pc := 10) (tgt := 27) X d_X13_camp_10 (by decide) ?_
    refine pf_X13_47 (pc := 27) X d_X13_camp_27 ?_
    refine L_aload_n (pc := 30) X d_X13_camp_30 rfl 0 rfl ?_
    refine gf_X13_47 (pc := 31) X d_X13_camp_31 ?_
    refine L_if_le (pc := 34) (tgt := 39) X d_X13_camp_34 (by decide) (fun c34 => ?_) (fun c34 => ?_)
    · replace h := h.1 c34
      refine L_aload_n (pc := 39) X d_X13_camp_39 rfl 0 rfl ?_
      refine gf_X13_7 (pc := 40) X d_X13_camp_40 ?_
      refine L_bipush (pc := 43) (v := 46) X d_X13_camp_43 (by decide) ?_
      refine L_iconst (pc := 45) (v := 4) X d_X13_camp_45 (by decide) ?_
      refine L_iload_n (pc := 46) X d_X13_camp_46 rfl 1 rfl ?_
      refine L_imul (pc := 47) X d_X13_camp_47 ?_
      refine L_iadd (pc := 48) X d_X13_camp_48 ?_
      refine L_iload_n (pc := 49) X d_X13_camp_49 rfl 2 rfl ?_
      refine L_iadd (pc := 50) X d_X13_camp_50 ?_
      obtain ⟨q7, h⟩ := h
      refine L_ialdM (pc := 51) (a := 1) X d_X13_camp_51 kd_704 q7 ?_
      exact L_iret (pc := 52) X hr d_X13_camp_52 (by decide) (by decide) ⟨_, _, rfl, rfl, h⟩
    · replace h := h.2 c34
      refine L_iconst (pc := 37) (v := 0) X d_X13_camp_37 (by decide) ?_
      exact L_iret (pc := 38) X hr d_X13_camp_38 (by decide) (by decide) ⟨_, _, rfl, rfl, h⟩
end G_X13_camp
theorem yk_X13_reachOf : yX13_reachOf.cls = RX13 ∧ yX13_reachOf.cls ≠ "java/lang/invoke/MethodHandle" ∧ yX13_reachOf.cls ≠ "java/lang/invoke/VarHandle" ∧ (parseMethodDescriptor yX13_reachOf.desc).map (fun d => d.parameters.length) = some 2 := by decide +kernel
theorem lk_X13_224 : LinkV RX13 224 RX13 yX13_reachOf (.code yX13_reachOf cX13_reachOf 3 (some .int)) 2 := ⟨tw_1483, tw_1485, tw_62, tw_83, tw_1486, yk_X13_reachOf⟩
theorem yk_X13_inReach : yX13_inReach.cls = RX13 ∧ yX13_inReach.cls ≠ "java/lang/invoke/MethodHandle" ∧ yX13_inReach.cls ≠ "java/lang/invoke/VarHandle" ∧ (parseMethodDescriptor yX13_inReach.desc).map (fun d => d.parameters.length) = some 1 := by decide +kernel
theorem lk_X13_227 : LinkV RX13 227 RX13 yX13_inReach (.code yX13_inReach cX13_inReach 4 (some .int)) 1 := ⟨tw_1487, tw_1489, tw_63, tw_83, tw_1490, yk_X13_inReach⟩
theorem d_X13_reach_0 : decode cX13_reach 0 = .ok (.aload_n 0, 1) := by decide +kernel
theorem d_X13_reach_1 : decode cX13_reach 1 = .ok (.aload_n 0, 1) := by decide +kernel
theorem d_X13_reach_2 : decode cX13_reach 2 = .ok (.iload_n 1, 1) := by decide +kernel
theorem d_X13_reach_3 : decode cX13_reach 3 = .ok (.aload_n 0, 1) := by decide +kernel
theorem d_X13_reach_4 : decode cX13_reach 4 = .ok (.getfield 7, 3) := by decide +kernel
theorem d_X13_reach_7 : decode cX13_reach 7 = .ok (.iconst 1, 1) := by decide +kernel
theorem d_X13_reach_8 : decode cX13_reach 8 = .ok (.iaload, 1) := by decide +kernel
theorem d_X13_reach_9 : decode cX13_reach 9 = .ok (.invokevirtual 206, 3) := by decide +kernel
theorem d_X13_reach_12 : decode cX13_reach 12 = .ok (.ifCond .ne 7, 3) := by decide +kernel
theorem d_X13_reach_15 : decode cX13_reach 15 = .ok (.iconst 1, 1) := by decide +kernel
theorem d_X13_reach_16 : decode cX13_reach 16 = .ok (.goto 17, 3) := by decide +kernel
theorem d_X13_reach_19 : decode cX13_reach 19 = .ok (.iload_n 2, 1) := by decide +kernel
theorem d_X13_reach_20 : decode cX13_reach 20 = .ok (.iconst 0, 1) := by decide +kernel
theorem d_X13_reach_21 : decode cX13_reach 21 = .ok (.iconst 3, 1) := by decide +kernel
theorem d_X13_reach_22 : decode cX13_reach 22 = .ok (.invokestatic 50, 3) := by decide +kernel
theorem d_X13_reach_25 : decode cX13_reach 25 = .ok (.ifCond .ne 7, 3) := by decide +kernel
theorem d_X13_reach_28 : decode cX13_reach 28 = .ok (.iconst 2, 1) := by decide +kernel
theorem d_X13_reach_29 : decode cX13_reach 29 = .ok (.goto 4, 3) := by decide +kernel
theorem d_X13_reach_32 : decode cX13_reach 32 = .ok (.iconst 0, 1) := by decide +kernel
theorem d_X13_reach_33 : decode cX13_reach 33 = .ok (.putfield 47, 3) := by decide +kernel
theorem d_X13_reach_36 : decode cX13_reach 36 = .ok (.aload_n 0, 1) := by decide +kernel
theorem d_X13_reach_37 : decode cX13_reach 37 = .ok (.getfield 47, 3) := by decide +kernel
theorem d_X13_reach_40 : decode cX13_reach 40 = .ok (.ifCond .le 5, 3) := by decide +kernel
theorem d_X13_reach_43 : decode cX13_reach 43 = .ok (.iconst 0, 1) := by decide +kernel
theorem d_X13_reach_44 : decode cX13_reach 44 = .ok (.ireturn, 1) := by decide +kernel
theorem d_X13_reach_45 : decode cX13_reach 45 = .ok (.iload_n 2, 1) := by decide +kernel
theorem d_X13_reach_46 : decode cX13_reach 46 = .ok (.iconst 3, 1) := by decide +kernel
theorem d_X13_reach_47 : decode cX13_reach 47 = .ok (.if_icmp .ne 11, 3) := by decide +kernel
theorem d_X13_reach_50 : decode cX13_reach 50 = .ok (.aload_n 0, 1) := by decide +kernel
theorem d_X13_reach_51 : decode cX13_reach 51 = .ok (.iload_n 1, 1) := by decide +kernel
theorem d_X13_reach_52 : decode cX13_reach 52 = .ok (.invokevirtual 227, 3) := by decide +kernel
theorem d_X13_reach_55 : decode cX13_reach 55 = .ok (.goto 9, 3) := by decide +kernel
theorem d_X13_reach_58 : decode cX13_reach 58 = .ok (.aload_n 0, 1) := by decide +kernel
theorem d_X13_reach_59 : decode cX13_reach 59 = .ok (.iload_n 1, 1) := by decide +kernel
theorem d_X13_reach_60 : decode cX13_reach 60 = .ok (.iload_n 2, 1) := by decide +kernel
theorem d_X13_reach_61 : decode cX13_reach 61 = .ok (.invokevirtual 224, 3) := by decide +kernel
theorem d_X13_reach_64 : decode cX13_reach 64 = .ok (.ireturn, 1) := by decide +kernel
abbrev rm_X13_reach : Room := { frames := 2, cells := 0, slots := 0, locals := 45 }
def w_X13_reach (post : Int32 → (Nat → Nat → Int32) → Prop) (x1 : Int32) (x2 : Int32) (mm : (Nat → Nat → Int32)) : Prop := w_X13_isStation (fun (r1 : Bool) (u2 : (Nat → Nat → Int32)) => (¬ (r1 = false) → (w_X13_isIn (fun (r3 : Bool) (u4 : (Nat → Nat → Int32)) => (¬ (r3 = false) → ((((up2 u4 0 0 0) 0 0) ≤ 0 → ((¬ x2 = 3 → (w_X13_reachOf (fun (r5 : Int32) (u6 : (Nat → Nat → Int32)) => post r5 u6) x1 x2 (up2 u4 0 0 0))) ∧ (x2 = 3 → (w_X13_inReach (fun (r7 : Int32) (u8 : (Nat → Nat → Int32)) => post r7 u8) x1 (up2 u4 0 0 0))))) ∧ (¬ ((up2 u4 0 0 0) 0 0) ≤ 0 → (post 0 (up2 u4 0 0 0))))) ∧ ((r3 = false) → ((((up2 u4 0 0 2) 0 0) ≤ 0 → ((¬ x2 = 3 → (w_X13_reachOf (fun (r9 : Int32) (u10 : (Nat → Nat → Int32)) => post r9 u10) x1 x2 (up2 u4 0 0 2))) ∧ (x2 = 3 → (w_X13_inReach (fun (r11 : Int32) (u12 : (Nat → Nat → Int32)) => post r11 u12) x1 (up2 u4 0 0 2))))) ∧ (¬ ((up2 u4 0 0 2) 0 0) ≤ 0 → (post 0 (up2 u4 0 0 2)))))) x2 0 3 u2)) ∧ ((r1 = false) → ((((up2 u2 0 0 1) 0 0) ≤ 0 → ((¬ x2 = 3 → (w_X13_reachOf (fun (r13 : Int32) (u14 : (Nat → Nat → Int32)) => post r13 u14) x1 x2 (up2 u2 0 0 1))) ∧ (x2 = 3 → (w_X13_inReach (fun (r15 : Int32) (u16 : (Nat → Nat → Int32)) => post r15 u16) x1 (up2 u2 0 0 1))))) ∧ (¬ ((up2 u2 0 0 1) 0 0) ≤ 0 → (post 0 (up2 u2 0 0 1)))))) x1 (mm 1 (Int32.toNatClampNeg (1 : Int32))) mm
section G_X13_reach
variable {p : Program} {l : Launch} {e : Env} {s : State} {m : MethodId} {args : Array Value} {below : List Frame} {meth : Method} {c : Code} {G : Gd} {ρ : Nat → Nat} {A : Nat → Prop} {cm : CMu} {oo : Nat → Int64}
set_option maxHeartbeats 4000000 in
set_option maxRecDepth 100000 in
theorem c_X13_reach (hl : l.stackTraces = false) {x1 : Int32} {x2 : Int32} {mm : (Nat → Nat → Int32)} {post : Int32 → (Nat → Nat → Int32) → Prop} (h : w_X13_reach post x1 x2 mm) : CT l yX13_reach (.code yX13_reach cX13_reach 3 (some .int)) rm_X13_reach 0 0 G ρ [.ref 703, .int x1, .int x2] (cm, mm, oo) (PI (fun u => (cm, u, oo)) post) noX := by
  refine CT_of hl (by decide +kernel) rfl (Nat.le_of_ble_eq_true rfl) (lv0 := [(0, .ref 703), (1, .int x1), (2, .int x2)]) rfl (fun p e s m args below meth c A X hr hex hnm => ?_)
  unfold w_X13_reach at h
  refine L_aload_n (pc := 0) X d_X13_reach_0 rfl 0 rfl ?_
  refine L_aload_n (pc := 1) X d_X13_reach_1 rfl 0 rfl ?_
  refine L_iload_n (pc := 2) X d_X13_reach_2 rfl 1 rfl ?_
  refine L_aload_n (pc := 3) X d_X13_reach_3 rfl 0 rfl ?_
  refine gf_X13_7 (pc := 4) X d_X13_reach_4 ?_
  refine L_iconst (pc := 7) (v := 1) X d_X13_reach_7 (by decide) ?_
  refine L_ialdM (pc := 8) (a := 1) X d_X13_reach_8 kd_704 (by unfold vp_in; decide) ?_
  refine L_callVZ (pc := 9) X lk_X13_206 (c_X13_isStation X.hst  h) rfl rfl kd_703 (by decide) rfl rfl ⟨by decide, by decide⟩ ⟨by decide, by decide⟩ (Nat.le_of_ble_eq_true rfl) d_X13_reach_9 rfl (fun x κ1 hx => L_nox hx) (fun r1 u2 h => ?_)
  refine L_if_ne (pc := 12) (tgt := 19) X d_X13_reach_12 (by decide) (fun c12 => ?_) (fun c12 => ?_)
  · replace h := h.1 (fun z => c12 ((b2_0 _).mpr z))
    refine L_iload_n (pc := 19) X d_X13_reach_19 rfl 2 rfl ?_
    refine L_iconst (pc := 20) (v := 0) X d_X13_reach_20 (by decide) ?_
    refine L_iconst (pc := 21) (v := 3) X d_X13_reach_21 (by decide) ?_
    refine L_callSZ (pc := 22) X lk_X13_50 (c_X13_isIn X.hst  h) rfl rfl rfl ⟨by decide, by decide⟩ ⟨by decide, by decide⟩ (Nat.le_of_ble_eq_true rfl) d_X13_reach_22 rfl (fun x κ1 hx => L_nox hx) (fun r3 u4 h => ?_)
    refine L_if_ne (pc := 25) (tgt := 32) X d_X13_reach_25 (by decide) (fun c25 => ?_) (fun c25 => ?_)
    · replace h := h.1 (fun z => c25 ((b2_0 _).mpr z))
      refine L_iconst (pc := 32) (v := 0) X d_X13_reach_32 (by decide) ?_
      refine pf_X13_47 (pc := 33) X d_X13_reach_33 ?_
      refine L_aload_n (pc := 36) X d_X13_reach_36 rfl 0 rfl ?_
      refine gf_X13_47 (pc := 37) X d_X13_reach_37 ?_
      refine L_if_le (pc := 40) (tgt := 45) X d_X13_reach_40 (by decide) (fun c40 => ?_) (fun c40 => ?_)
      · replace h := h.1 c40
        refine L_iload_n (pc := 45) X d_X13_reach_45 rfl 2 rfl ?_
        refine L_iconst (pc := 46) (v := 3) X d_X13_reach_46 (by decide) ?_
        refine L_icmp_ne (pc := 47) (tgt := 58) X d_X13_reach_47 (by decide) (fun c47 => ?_) (fun c47 => ?_)
        · replace h := h.1 c47
          refine L_aload_n (pc := 58) X d_X13_reach_58 rfl 0 rfl ?_
          refine L_iload_n (pc := 59) X d_X13_reach_59 rfl 1 rfl ?_
          refine L_iload_n (pc := 60) X d_X13_reach_60 rfl 2 rfl ?_
          refine L_callVI (pc := 61) X lk_X13_224 (c_X13_reachOf X.hst  h) rfl rfl kd_703 (by decide) rfl rfl ⟨by decide, by decide⟩ ⟨by decide, by decide⟩ (Nat.zero_le _) d_X13_reach_61 rfl (fun x κ1 hx => L_nox hx) (fun r5 u6 h => ?_)
          exact L_iret (pc := 64) X hr d_X13_reach_64 (by decide) (by decide) ⟨_, _, rfl, rfl, h⟩
        · replace h := h.2 c47
          refine L_aload_n (pc := 50) X d_X13_reach_50 rfl 0 rfl ?_
          refine L_iload_n (pc := 51) X d_X13_reach_51 rfl 1 rfl ?_
          refine L_callVI (pc := 52) X lk_X13_227 (c_X13_inReach X.hst  h) rfl rfl kd_703 (by decide) rfl rfl ⟨by decide, by decide⟩ ⟨by decide, by decide⟩ (Nat.zero_le _) d_X13_reach_52 rfl (fun x κ1 hx => L_nox hx) (fun r7 u8 h => ?_)
          refine L_goto (pc := 55) (tgt := 64) X d_X13_reach_55 (by decide) ?_
          exact L_iret (pc := 64) X hr d_X13_reach_64 (by decide) (by decide) ⟨_, _, rfl, rfl, h⟩
      · replace h := h.2 c40
        refine L_iconst (pc := 43) (v := 0) X d_X13_reach_43 (by decide) ?_
        exact L_iret (pc := 44) X hr d_X13_reach_44 (by decide) (by decide) ⟨_, _, rfl, rfl, h⟩
    · replace h := h.2 ((b2_0 _).mp c25)
      refine L_iconst (pc := 28) (v := 2) X d_X13_reach_28 (by decide) ?_
      refine L_goto (pc := 29) (tgt := 33) X d_X13_reach_29 (by decide) ?_
      refine pf_X13_47 (pc := 33) X d_X13_reach_33 ?_
      refine L_aload_n (pc := 36) X d_X13_reach_36 rfl 0 rfl ?_
      refine gf_X13_47 (pc := 37) X d_X13_reach_37 ?_
      refine L_if_le (pc := 40) (tgt := 45) X d_X13_reach_40 (by decide) (fun c40 => ?_) (fun c40 => ?_)
      · replace h := h.1 c40
        refine L_iload_n (pc := 45) X d_X13_reach_45 rfl 2 rfl ?_
        refine L_iconst (pc := 46) (v := 3) X d_X13_reach_46 (by decide) ?_
        refine L_icmp_ne (pc := 47) (tgt := 58) X d_X13_reach_47 (by decide) (fun c47 => ?_) (fun c47 => ?_)
        · replace h := h.1 c47
          refine L_aload_n (pc := 58) X d_X13_reach_58 rfl 0 rfl ?_
          refine L_iload_n (pc := 59) X d_X13_reach_59 rfl 1 rfl ?_
          refine L_iload_n (pc := 60) X d_X13_reach_60 rfl 2 rfl ?_
          refine L_callVI (pc := 61) X lk_X13_224 (c_X13_reachOf X.hst  h) rfl rfl kd_703 (by decide) rfl rfl ⟨by decide, by decide⟩ ⟨by decide, by decide⟩ (Nat.zero_le _) d_X13_reach_61 rfl (fun x κ1 hx => L_nox hx) (fun r9 u10 h => ?_)
          exact L_iret (pc := 64) X hr d_X13_reach_64 (by decide) (by decide) ⟨_, _, rfl, rfl, h⟩
        · replace h := h.2 c47
          refine L_aload_n (pc := 50) X d_X13_reach_50 rfl 0 rfl ?_
          refine L_iload_n (pc := 51) X d_X13_reach_51 rfl 1 rfl ?_
          refine L_callVI (pc := 52) X lk_X13_227 (c_X13_inReach X.hst  h) rfl rfl kd_703 (by decide) rfl rfl ⟨by decide, by decide⟩ ⟨by decide, by decide⟩ (Nat.zero_le _) d_X13_reach_52 rfl (fun x κ1 hx => L_nox hx) (fun r11 u12 h => ?_)
          refine L_goto (pc := 55) (tgt := 64) X d_X13_reach_55 (by decide) ?_
          exact L_iret (pc := 64) X hr d_X13_reach_64 (by decide) (by decide) ⟨_, _, rfl, rfl, h⟩
      · replace h := h.2 c40
        refine L_iconst (pc := 43) (v := 0) X d_X13_reach_43 (by decide) ?_
        exact L_iret (pc := 44) X hr d_X13_reach_44 (by decide) (by decide) ⟨_, _, rfl, rfl, h⟩
  · replace h := h.2 ((b2_0 _).mp c12)
    refine L_iconst (pc := 15) (v := 1) X d_X13_reach_15 (by decide) ?_
    refine L_goto (pc := 16) (tgt := 33) X d_X13_reach_16 (by decide) ?_
    refine pf_X13_47 (pc := 33) X d_X13_reach_33 ?_
    refine L_aload_n (pc := 36) X d_X13_reach_36 rfl 0 rfl ?_
    refine gf_X13_47 (pc := 37) X d_X13_reach_37 ?_
    refine L_if_le (pc := 40) (tgt := 45) X d_X13_reach_40 (by decide) (fun c40 => ?_) (fun c40 => ?_)
    · replace h := h.1 c40
      refine L_iload_n (pc := 45) X d_X13_reach_45 rfl 2 rfl ?_
      refine L_iconst (pc := 46) (v := 3) X d_X13_reach_46 (by decide) ?_
      refine L_icmp_ne (pc := 47) (tgt := 58) X d_X13_reach_47 (by decide) (fun c47 => ?_) (fun c47 => ?_)
      · replace h := h.1 c47
        refine L_aload_n (pc := 58) X d_X13_reach_58 rfl 0 rfl ?_
        refine L_iload_n (pc := 59) X d_X13_reach_59 rfl 1 rfl ?_
        refine L_iload_n (pc := 60) X d_X13_reach_60 rfl 2 rfl ?_
        refine L_callVI (pc := 61) X lk_X13_224 (c_X13_reachOf X.hst  h) rfl rfl kd_703 (by decide) rfl rfl ⟨by decide, by decide⟩ ⟨by decide, by decide⟩ (Nat.zero_le _) d_X13_reach_61 rfl (fun x κ1 hx => L_nox hx) (fun r13 u14 h => ?_)
        exact L_iret (pc := 64) X hr d_X13_reach_64 (by decide) (by decide) ⟨_, _, rfl, rfl, h⟩
      · replace h := h.2 c47
        refine L_aload_n (pc := 50) X d_X13_reach_50 rfl 0 rfl ?_
        refine L_iload_n (pc := 51) X d_X13_reach_51 rfl 1 rfl ?_
        refine L_callVI (pc := 52) X lk_X13_227 (c_X13_inReach X.hst  h) rfl rfl kd_703 (by decide) rfl rfl ⟨by decide, by decide⟩ ⟨by decide, by decide⟩ (Nat.zero_le _) d_X13_reach_52 rfl (fun x κ1 hx => L_nox hx) (fun r15 u16 h => ?_)
        refine L_goto (pc := 55) (tgt := 64) X d_X13_reach_55 (by decide) ?_
        exact L_iret (pc := 64) X hr d_X13_reach_64 (by decide) (by decide) ⟨_, _, rfl, rfl, h⟩
    · replace h := h.2 c40
      refine L_iconst (pc := 43) (v := 0) X d_X13_reach_43 (by decide) ?_
      exact L_iret (pc := 44) X hr d_X13_reach_44 (by decide) (by decide) ⟨_, _, rfl, rfl, h⟩
end G_X13_reach
theorem d_X13_out_0 : decode cX13_out 0 = .ok (.aload_n 0, 1) := by decide +kernel
theorem d_X13_out_1 : decode cX13_out 1 = .ok (.iconst 0, 1) := by decide +kernel
theorem d_X13_out_2 : decode cX13_out 2 = .ok (.putfield 47, 3) := by decide +kernel
theorem d_X13_out_5 : decode cX13_out 5 = .ok (.iload_n 1, 1) := by decide +kernel
theorem d_X13_out_6 : decode cX13_out 6 = .ok (.iconst 0, 1) := by decide +kernel
theorem d_X13_out_7 : decode cX13_out 7 = .ok (.aload_n 0, 1) := by decide +kernel
theorem d_X13_out_8 : decode cX13_out 8 = .ok (.getfield 7, 3) := by decide +kernel
theorem d_X13_out_11 : decode cX13_out 11 = .ok (.iconst 3, 1) := by decide +kernel
theorem d_X13_out_12 : decode cX13_out 12 = .ok (.iaload, 1) := by decide +kernel
theorem d_X13_out_13 : decode cX13_out 13 = .ok (.iconst 1, 1) := by decide +kernel
theorem d_X13_out_14 : decode cX13_out 14 = .ok (.isub, 1) := by decide +kernel
theorem d_X13_out_15 : decode cX13_out 15 = .ok (.invokestatic 50, 3) := by decide +kernel
theorem d_X13_out_18 : decode cX13_out 18 = .ok (.ifCond .eq 16, 3) := by decide +kernel
theorem d_X13_out_21 : decode cX13_out 21 = .ok (.aload_n 0, 1) := by decide +kernel
theorem d_X13_out_22 : decode cX13_out 22 = .ok (.getfield 7, 3) := by decide +kernel
theorem d_X13_out_25 : decode cX13_out 25 = .ok (.sipush 262, 3) := by decide +kernel
theorem d_X13_out_28 : decode cX13_out 28 = .ok (.iload_n 1, 1) := by decide +kernel
theorem d_X13_out_29 : decode cX13_out 29 = .ok (.iadd, 1) := by decide +kernel
theorem d_X13_out_30 : decode cX13_out 30 = .ok (.iaload, 1) := by decide +kernel
theorem d_X13_out_31 : decode cX13_out 31 = .ok (.goto 4, 3) := by decide +kernel
theorem d_X13_out_34 : decode cX13_out 34 = .ok (.iconst (-1), 1) := by decide +kernel
theorem d_X13_out_35 : decode cX13_out 35 = .ok (.ireturn, 1) := by decide +kernel
abbrev rm_X13_out : Room := { frames := 1, cells := 0, slots := 0, locals := 22 }
def w_X13_out (post : Int32 → (Nat → Nat → Int32) → Prop) (x1 : Int32) (mm : (Nat → Nat → Int32)) : Prop := w_X13_isIn (fun (r1 : Bool) (u2 : (Nat → Nat → Int32)) => ((r1 = false) → (post (-1) u2)) ∧ (¬ (r1 = false) → ((vp_in (262 + x1) 25530) ∧ post (u2 1 (Int32.toNatClampNeg (262 + x1))) u2))) x1 0 (((up2 mm 0 0 0) 1 (Int32.toNatClampNeg (3 : Int32))) - 1) (up2 mm 0 0 0)
section G_X13_out
variable {p : Program} {l : Launch} {e : Env} {s : State} {m : MethodId} {args : Array Value} {below : List Frame} {meth : Method} {c : Code} {G : Gd} {ρ : Nat → Nat} {A : Nat → Prop} {cm : CMu} {oo : Nat → Int64}
set_option maxHeartbeats 4000000 in
set_option maxRecDepth 100000 in
theorem c_X13_out (hl : l.stackTraces = false) {x1 : Int32} {mm : (Nat → Nat → Int32)} {post : Int32 → (Nat → Nat → Int32) → Prop} (h : w_X13_out post x1 mm) : CT l yX13_out (.code yX13_out cX13_out 2 (some .int)) rm_X13_out 0 0 G ρ [.ref 703, .int x1] (cm, mm, oo) (PI (fun u => (cm, u, oo)) post) noX := by
  refine CT_of hl (by decide +kernel) rfl (Nat.le_of_ble_eq_true rfl) (lv0 := [(0, .ref 703), (1, .int x1)]) rfl (fun p e s m args below meth c A X hr hex hnm => ?_)
  unfold w_X13_out at h
  refine L_aload_n (pc := 0) X d_X13_out_0 rfl 0 rfl ?_
  refine L_iconst (pc := 1) (v := 0) X d_X13_out_1 (by decide) ?_
  refine pf_X13_47 (pc := 2) X d_X13_out_2 ?_
  refine L_iload_n (pc := 5) X d_X13_out_5 rfl 1 rfl ?_
  refine L_iconst (pc := 6) (v := 0) X d_X13_out_6 (by decide) ?_
  refine L_aload_n (pc := 7) X d_X13_out_7 rfl 0 rfl ?_
  refine gf_X13_7 (pc := 8) X d_X13_out_8 ?_
  refine L_iconst (pc := 11) (v := 3) X d_X13_out_11 (by decide) ?_
  refine L_ialdM (pc := 12) (a := 1) X d_X13_out_12 kd_704 (by unfold vp_in; decide) ?_
  refine L_iconst (pc := 13) (v := 1) X d_X13_out_13 (by decide) ?_
  refine L_isub (pc := 14) X d_X13_out_14 ?_
  refine L_callSZ (pc := 15) X lk_X13_50 (c_X13_isIn X.hst  h) rfl rfl rfl ⟨by decide, by decide⟩ ⟨by decide, by decide⟩ (Nat.zero_le _) d_X13_out_15 rfl (fun x κ1 hx => L_nox hx) (fun r1 u2 h => ?_)
  refine L_if_eq (pc := 18) (tgt := 34) X d_X13_out_18 (by decide) (fun c18 => ?_) (fun c18 => ?_)
  · replace h := h.1 ((b2_0 _).mp c18)
    refine L_iconst (pc := 34) (v := (-1)) X d_X13_out_34 (by decide) ?_
    exact L_iret (pc := 35) X hr d_X13_out_35 (by decide) (by decide) ⟨_, _, rfl, rfl, h⟩
  · replace h := h.2 (fun z => c18 ((b2_0 _).mpr z))
    refine L_aload_n (pc := 21) X d_X13_out_21 rfl 0 rfl ?_
    refine gf_X13_7 (pc := 22) X d_X13_out_22 ?_
    refine L_sipush (pc := 25) (v := 262) X d_X13_out_25 (by decide) ?_
    refine L_iload_n (pc := 28) X d_X13_out_28 rfl 1 rfl ?_
    refine L_iadd (pc := 29) X d_X13_out_29 ?_
    obtain ⟨q3, h⟩ := h
    refine L_ialdM (pc := 30) (a := 1) X d_X13_out_30 kd_704 q3 ?_
    refine L_goto (pc := 31) (tgt := 35) X d_X13_out_31 (by decide) ?_
    exact L_iret (pc := 35) X hr d_X13_out_35 (by decide) (by decide) ⟨_, _, rfl, rfl, h⟩
end G_X13_out
