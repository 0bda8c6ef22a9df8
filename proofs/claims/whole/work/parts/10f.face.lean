theorem d_X12_minutesFor_0 : decode cX12_minutesFor 0 = .ok (.iload_n 0, 1) := by decide +kernel
theorem d_X12_minutesFor_1 : decode cX12_minutesFor 1 = .ok (.iload_n 1, 1) := by decide +kernel
theorem d_X12_minutesFor_2 : decode cX12_minutesFor 2 = .ok (.bipush 10, 2) := by decide +kernel
theorem d_X12_minutesFor_4 : decode cX12_minutesFor 4 = .ok (.iadd, 1) := by decide +kernel
theorem d_X12_minutesFor_5 : decode cX12_minutesFor 5 = .ok (.iload_n 2, 1) := by decide +kernel
theorem d_X12_minutesFor_6 : decode cX12_minutesFor 6 = .ok (.isub, 1) := by decide +kernel
theorem d_X12_minutesFor_7 : decode cX12_minutesFor 7 = .ok (.imul, 1) := by decide +kernel
theorem d_X12_minutesFor_8 : decode cX12_minutesFor 8 = .ok (.ireturn, 1) := by decide +kernel
abbrev rm_X12_minutesFor : Room := { frames := 0, cells := 0, slots := 0, locals := 0 }
def w_X12_minutesFor (post : Int32 → CMu → Prop) (x0 : Int32) (x1 : Int32) (x2 : Int32) (cm : CMu) : Prop := post (x0 * ((x1 + 10) - x2)) cm
section G_X12_minutesFor
variable {p : Program} {l : Launch} {e : Env} {s : State} {m : MethodId} {args : Array Value} {below : List Frame} {meth : Method} {c : Code} {G : Gd} {ρ : Nat → Nat} {A : Nat → Prop} {mm : Nat → Nat → Int32} {oo : Nat → Int64}
set_option maxHeartbeats 4000000 in
set_option maxRecDepth 100000 in
theorem c_X12_minutesFor (hl : l.stackTraces = false) {x0 : Int32} {x1 : Int32} {x2 : Int32} {cm : CMu} {post : Int32 → CMu → Prop} (h : w_X12_minutesFor post x0 x1 x2 cm) : CT l yX12_minutesFor (.code yX12_minutesFor cX12_minutesFor 3 (some .int)) rm_X12_minutesFor 0 0 G ρ [.int x0, .int x1, .int x2] (cm, mm, oo) (PI (fun u => (u, mm, oo)) post) noX := by
  refine CT_of hl (by decide +kernel) rfl (Nat.le_of_ble_eq_true rfl) (lv0 := [(0, .int x0), (1, .int x1), (2, .int x2)]) rfl (fun p e s m args below meth c A X hr hex hnm => ?_)
  unfold w_X12_minutesFor at h
  refine L_iload_n (pc := 0) X d_X12_minutesFor_0 rfl 0 rfl ?_
  refine L_iload_n (pc := 1) X d_X12_minutesFor_1 rfl 1 rfl ?_
  refine L_bipush (pc := 2) (v := 10) X d_X12_minutesFor_2 (by decide) ?_
  refine L_iadd (pc := 4) X d_X12_minutesFor_4 ?_
  refine L_iload_n (pc := 5) X d_X12_minutesFor_5 rfl 2 rfl ?_
  refine L_isub (pc := 6) X d_X12_minutesFor_6 ?_
  refine L_imul (pc := 7) X d_X12_minutesFor_7 ?_
  exact L_iret (pc := 8) X hr d_X12_minutesFor_8 (by decide) (by decide) ⟨_, _, rfl, rfl, h⟩
end G_X12_minutesFor
theorem yk_X9_add : yX9_add.cls = RX9 ∧ yX9_add.cls ≠ "java/lang/invoke/MethodHandle" ∧ yX9_add.cls ≠ "java/lang/invoke/VarHandle" ∧ (parseMethodDescriptor yX9_add.desc).map (fun d => d.parameters.length) = some 1 := by decide +kernel
theorem lk_X12_54 : LinkV RX12 54 RX9 yX9_add (.code yX9_add cX9_add 3 none) 1 := ⟨tw_489, tw_490, tw_491, tw_73, tw_492, yk_X9_add⟩
theorem d_X12_feed_0 : decode cX12_feed 0 = .ok (.aload_n 0, 1) := by decide +kernel
theorem d_X12_feed_1 : decode cX12_feed 1 = .ok (.getfield 10, 3) := by decide +kernel
theorem d_X12_feed_4 : decode cX12_feed 4 = .ok (.getfield 50, 3) := by decide +kernel
theorem d_X12_feed_7 : decode cX12_feed 7 = .ok (.sipush 380, 3) := by decide +kernel
theorem d_X12_feed_10 : decode cX12_feed 10 = .ok (.if_icmp .le 5, 3) := by decide +kernel
theorem d_X12_feed_13 : decode cX12_feed 13 = .ok (.iconst (-1), 1) := by decide +kernel
theorem d_X12_feed_14 : decode cX12_feed 14 = .ok (.ireturn, 1) := by decide +kernel
theorem d_X12_feed_15 : decode cX12_feed 15 = .ok (.aload_n 0, 1) := by decide +kernel
theorem d_X12_feed_16 : decode cX12_feed 16 = .ok (.getfield 10, 3) := by decide +kernel
theorem d_X12_feed_19 : decode cX12_feed 19 = .ok (.iload_n 1, 1) := by decide +kernel
theorem d_X12_feed_20 : decode cX12_feed 20 = .ok (.invokevirtual 54, 3) := by decide +kernel
theorem d_X12_feed_23 : decode cX12_feed 23 = .ok (.aload_n 0, 1) := by decide +kernel
theorem d_X12_feed_24 : decode cX12_feed 24 = .ok (.getfield 10, 3) := by decide +kernel
theorem d_X12_feed_27 : decode cX12_feed 27 = .ok (.iload_n 2, 1) := by decide +kernel
theorem d_X12_feed_28 : decode cX12_feed 28 = .ok (.invokevirtual 54, 3) := by decide +kernel
theorem d_X12_feed_31 : decode cX12_feed 31 = .ok (.aload_n 0, 1) := by decide +kernel
theorem d_X12_feed_32 : decode cX12_feed 32 = .ok (.getfield 10, 3) := by decide +kernel
theorem d_X12_feed_35 : decode cX12_feed 35 = .ok (.iload_n 3, 1) := by decide +kernel
theorem d_X12_feed_36 : decode cX12_feed 36 = .ok (.invokevirtual 54, 3) := by decide +kernel
theorem d_X12_feed_39 : decode cX12_feed 39 = .ok (.aload_n 0, 1) := by decide +kernel
theorem d_X12_feed_40 : decode cX12_feed 40 = .ok (.getfield 10, 3) := by decide +kernel
theorem d_X12_feed_43 : decode cX12_feed 43 = .ok (.iload 4, 2) := by decide +kernel
theorem d_X12_feed_45 : decode cX12_feed 45 = .ok (.invokevirtual 54, 3) := by decide +kernel
theorem d_X12_feed_48 : decode cX12_feed 48 = .ok (.aload_n 0, 1) := by decide +kernel
theorem d_X12_feed_49 : decode cX12_feed 49 = .ok (.getfield 10, 3) := by decide +kernel
theorem d_X12_feed_52 : decode cX12_feed 52 = .ok (.iload 5, 2) := by decide +kernel
theorem d_X12_feed_54 : decode cX12_feed 54 = .ok (.invokevirtual 54, 3) := by decide +kernel
theorem d_X12_feed_57 : decode cX12_feed 57 = .ok (.aload_n 0, 1) := by decide +kernel
theorem d_X12_feed_58 : decode cX12_feed 58 = .ok (.getfield 10, 3) := by decide +kernel
theorem d_X12_feed_61 : decode cX12_feed 61 = .ok (.getfield 50, 3) := by decide +kernel
theorem d_X12_feed_64 : decode cX12_feed 64 = .ok (.ireturn, 1) := by decide +kernel
abbrev rm_X12_feed : Room := { frames := 1, cells := 0, slots := 0, locals := 22 }
def w_X12_feed (post : Int32 → CMu → Prop) (x1 : Int32) (x2 : Int32) (x3 : Int32) (x4 : Int32) (x5 : Int32) (cm : CMu) : Prop := ((gI cm 2 1) ≤ 380 → (w_X9_add (fun (u2 : CMu) => w_X9_add (fun (u4 : CMu) => w_X9_add (fun (u6 : CMu) => w_X9_add (fun (u8 : CMu) => w_X9_add (fun (u10 : CMu) => post (gI u10 2 1) u10) x5 u8) x4 u6) x3 u4) x2 u2) x1 cm)) ∧ (¬ (gI cm 2 1) ≤ 380 → (post (-1) cm))
section G_X12_feed
variable {p : Program} {l : Launch} {e : Env} {s : State} {m : MethodId} {args : Array Value} {below : List Frame} {meth : Method} {c : Code} {G : Gd} {ρ : Nat → Nat} {A : Nat → Prop} {mm : Nat → Nat → Int32} {oo : Nat → Int64}
set_option maxHeartbeats 4000000 in
set_option maxRecDepth 100000 in
theorem c_X12_feed (hl : l.stackTraces = false) {x1 : Int32} {x2 : Int32} {x3 : Int32} {x4 : Int32} {x5 : Int32} {cm : CMu} {post : Int32 → CMu → Prop} (h : w_X12_feed post x1 x2 x3 x4 x5 cm) : CT l yX12_feed (.code yX12_feed cX12_feed 6 (some .int)) rm_X12_feed 0 0 G ρ [.ref 1, .int x1, .int x2, .int x3, .int x4, .int x5] (cm, mm, oo) (PI (fun u => (u, mm, oo)) post) noX := by
  refine CT_of hl (by decide +kernel) rfl (Nat.le_of_ble_eq_true rfl) (lv0 := [(0, .ref 1), (1, .int x1), (2, .int x2), (3, .int x3), (4, .int x4), (5, .int x5)]) rfl (fun p e s m args below meth c A X hr hex hnm => ?_)
  unfold w_X12_feed at h
  refine L_aload_n (pc := 0) X d_X12_feed_0 rfl 0 rfl ?_
  refine gf_X12_10 (pc := 1) (b := 2) X d_X12_feed_1 kd_1 rfl ?_
  refine gf_X12_50 (pc := 4) X d_X12_feed_4 kd_2 ?_
  refine L_sipush (pc := 7) (v := 380) X d_X12_feed_7 (by decide) ?_
  refine L_icmp_le (pc := 10) (tgt := 15) X d_X12_feed_10 (by decide) (fun c10 => ?_) (fun c10 => ?_)
  · replace h := h.1 c10
    refine L_aload_n (pc := 15) X d_X12_feed_15 rfl 0 rfl ?_
    refine gf_X12_10 (pc := 16) (b := 2) X d_X12_feed_16 kd_1 rfl ?_
    refine L_iload_n (pc := 19) X d_X12_feed_19 rfl 1 rfl ?_
    refine L_callVV (pc := 20) X lk_X12_54 (c_X9_add X.hst  h) rfl rfl kd_2 (by decide) rfl rfl ⟨by decide, by decide⟩ ⟨by decide, by decide⟩ (Nat.zero_le _) d_X12_feed_20 rfl (fun x κ1 hx => L_nox hx) (fun u2 h => ?_)
    refine L_aload_n (pc := 23) X d_X12_feed_23 rfl 0 rfl ?_
    refine gf_X12_10 (pc := 24) (b := 2) X d_X12_feed_24 kd_1 rfl ?_
    refine L_iload_n (pc := 27) X d_X12_feed_27 rfl 2 rfl ?_
    refine L_callVV (pc := 28) X lk_X12_54 (c_X9_add X.hst  h) rfl rfl kd_2 (by decide) rfl rfl ⟨by decide, by decide⟩ ⟨by decide, by decide⟩ (Nat.zero_le _) d_X12_feed_28 rfl (fun x κ1 hx => L_nox hx) (fun u4 h => ?_)
    refine L_aload_n (pc := 31) X d_X12_feed_31 rfl 0 rfl ?_
    refine gf_X12_10 (pc := 32) (b := 2) X d_X12_feed_32 kd_1 rfl ?_
    refine L_iload_n (pc := 35) X d_X12_feed_35 rfl 3 rfl ?_
    refine L_callVV (pc := 36) X lk_X12_54 (c_X9_add X.hst  h) rfl rfl kd_2 (by decide) rfl rfl ⟨by decide, by decide⟩ ⟨by decide, by decide⟩ (Nat.zero_le _) d_X12_feed_36 rfl (fun x κ1 hx => L_nox hx) (fun u6 h => ?_)
    refine L_aload_n (pc := 39) X d_X12_feed_39 rfl 0 rfl ?_
    refine gf_X12_10 (pc := 40) (b := 2) X d_X12_feed_40 kd_1 rfl ?_
    refine L_iload (pc := 43) X d_X12_feed_43 4 rfl ?_
    refine L_callVV (pc := 45) X lk_X12_54 (c_X9_add X.hst  h) rfl rfl kd_2 (by decide) rfl rfl ⟨by decide, by decide⟩ ⟨by decide, by decide⟩ (Nat.zero_le _) d_X12_feed_45 rfl (fun x κ1 hx => L_nox hx) (fun u8 h => ?_)
    refine L_aload_n (pc := 48) X d_X12_feed_48 rfl 0 rfl ?_
    refine gf_X12_10 (pc := 49) (b := 2) X d_X12_feed_49 kd_1 rfl ?_
    refine L_iload (pc := 52) X d_X12_feed_52 5 rfl ?_
    refine L_callVV (pc := 54) X lk_X12_54 (c_X9_add X.hst  h) rfl rfl kd_2 (by decide) rfl rfl ⟨by decide, by decide⟩ ⟨by decide, by decide⟩ (Nat.zero_le _) d_X12_feed_54 rfl (fun x κ1 hx => L_nox hx) (fun u10 h => ?_)
    refine L_aload_n (pc := 57) X d_X12_feed_57 rfl 0 rfl ?_
    refine gf_X12_10 (pc := 58) (b := 2) X d_X12_feed_58 kd_1 rfl ?_
    refine gf_X12_50 (pc := 61) X d_X12_feed_61 kd_2 ?_
    exact L_iret (pc := 64) X hr d_X12_feed_64 (by decide) (by decide) ⟨_, _, rfl, rfl, h⟩
  · replace h := h.2 c10
    refine L_iconst (pc := 13) (v := (-1)) X d_X12_feed_13 (by decide) ?_
    exact L_iret (pc := 14) X hr d_X12_feed_14 (by decide) (by decide) ⟨_, _, rfl, rfl, h⟩
end G_X12_feed
theorem d_X12_end_0 : decode cX12_end 0 = .ok (.iload_n 1, 1) := by decide +kernel
theorem d_X12_end_1 : decode cX12_end 1 = .ok (.ifCond .lt 14, 3) := by decide +kernel
theorem d_X12_end_4 : decode cX12_end 4 = .ok (.iload_n 1, 1) := by decide +kernel
theorem d_X12_end_5 : decode cX12_end 5 = .ok (.aload_n 0, 1) := by decide +kernel
theorem d_X12_end_6 : decode cX12_end 6 = .ok (.getfield 10, 3) := by decide +kernel
theorem d_X12_end_9 : decode cX12_end 9 = .ok (.getfield 50, 3) := by decide +kernel
theorem d_X12_end_12 : decode cX12_end 12 = .ok (.if_icmp .le 5, 3) := by decide +kernel
theorem d_X12_end_15 : decode cX12_end 15 = .ok (.iconst 0, 1) := by decide +kernel
theorem d_X12_end_16 : decode cX12_end 16 = .ok (.ireturn, 1) := by decide +kernel
theorem d_X12_end_17 : decode cX12_end 17 = .ok (.aload_n 0, 1) := by decide +kernel
theorem d_X12_end_18 : decode cX12_end 18 = .ok (.getfield 10, 3) := by decide +kernel
theorem d_X12_end_21 : decode cX12_end 21 = .ok (.iload_n 1, 1) := by decide +kernel
theorem d_X12_end_22 : decode cX12_end 22 = .ok (.putfield 50, 3) := by decide +kernel
theorem d_X12_end_25 : decode cX12_end 25 = .ok (.iconst 1, 1) := by decide +kernel
theorem d_X12_end_26 : decode cX12_end 26 = .ok (.ireturn, 1) := by decide +kernel
abbrev rm_X12_end : Room := { frames := 0, cells := 0, slots := 0, locals := 0 }
def B_X12_end_15 (post : Bool → CMu → Prop) (cm : CMu) : Prop := post false cm
def w_X12_end (post : Bool → CMu → Prop) (x1 : Int32) (cm : CMu) : Prop := (x1 < 0 → (B_X12_end_15 post cm)) ∧ (¬ x1 < 0 → ((x1 ≤ (gI cm 2 1) → (post true (uI cm 2 1 x1))) ∧ (¬ x1 ≤ (gI cm 2 1) → (B_X12_end_15 post cm))))
section G_X12_end
variable {p : Program} {l : Launch} {e : Env} {s : State} {m : MethodId} {args : Array Value} {below : List Frame} {meth : Method} {c : Code} {G : Gd} {ρ : Nat → Nat} {A : Nat → Prop} {mm : Nat → Nat → Int32} {oo : Nat → Int64}
set_option maxHeartbeats 4000000 in
set_option maxRecDepth 100000 in
theorem T_X12_end_15 {post : Bool → CMu → Prop} (hl : l.stackTraces = false) (X : MC p l s m args meth c cX12_end 2 RX12 G ρ A) (hr : meth.sig.returnType = (some .boolean)) (hex : ∀ z ∈ c.exceptionTable.toList, False) : ∀ (cm : CMu), B_X12_end_15 post cm → LW p l e rm_X12_end s m args below meth c (Qm below G ρ A (PZ (fun u => (u, mm, oo)) post) noX args s 0 0) G ρ A 2 0 0 15 [] [] (cm, mm, oo) := by
  intro cm h
  unfold B_X12_end_15 at h
  refine L_iconst (pc := 15) (v := 0) X d_X12_end_15 (by decide) ?_
  exact L_zretB (pc := 16) X hr d_X12_end_16 false rfl (by decide) (by decide) ⟨_, _, rfl, rfl, h⟩
set_option maxHeartbeats 4000000 in
set_option maxRecDepth 100000 in
theorem c_X12_end (hl : l.stackTraces = false) {x1 : Int32} {cm : CMu} {post : Bool → CMu → Prop} (h : w_X12_end post x1 cm) : CT l yX12_end (.code yX12_end cX12_end 2 (some .boolean)) rm_X12_end 0 0 G ρ [.ref 1, .int x1] (cm, mm, oo) (PZ (fun u => (u, mm, oo)) post) noX := by
  refine CT_of hl (by decide +kernel) rfl (Nat.le_of_ble_eq_true rfl) (lv0 := [(0, .ref 1), (1, .int x1)]) rfl (fun p e s m args below meth c A X hr hex hnm => ?_)
  unfold w_X12_end at h
  refine L_iload_n (pc := 0) X d_X12_end_0 rfl 1 rfl ?_
  refine L_if_lt (pc := 1) (tgt := 15) X d_X12_end_1 (by decide) (fun c1 => ?_) (fun c1 => ?_)
  · replace h := h.1 c1
    refine LW.sub [] rfl ?_
    exact T_X12_end_15 hl X hr hex   _ h
  · replace h := h.2 c1
    refine L_iload_n (pc := 4) X d_X12_end_4 rfl 1 rfl ?_
    refine L_aload_n (pc := 5) X d_X12_end_5 rfl 0 rfl ?_
    refine gf_X12_10 (pc := 6) (b := 2) X d_X12_end_6 kd_1 rfl ?_
    refine gf_X12_50 (pc := 9) X d_X12_end_9 kd_2 ?_
    refine L_icmp_le (pc := 12) (tgt := 17) X d_X12_end_12 (by decide) (fun c12 => ?_) (fun c12 => ?_)
    · replace h := h.1 c12
      refine L_aload_n (pc := 17) X d_X12_end_17 rfl 0 rfl ?_
      refine gf_X12_10 (pc := 18) (b := 2) X d_X12_end_18 kd_1 rfl ?_
      refine L_iload_n (pc := 21) X d_X12_end_21 rfl 1 rfl ?_
      refine pf_X12_50 (pc := 22) X d_X12_end_22 kd_2 ?_
      refine L_iconst (pc := 25) (v := 1) X d_X12_end_25 (by decide) ?_
      exact L_zretB (pc := 26) X hr d_X12_end_26 true rfl (by decide) (by decide) ⟨_, _, rfl, rfl, h⟩
    · replace h := h.2 c12
      refine LW.sub [] rfl ?_
      exact T_X12_end_15 hl X hr hex   _ h
end G_X12_end
theorem d_X12_fault_0 : decode cX12_fault 0 = .ok (.aload_n 0, 1) := by decide +kernel
theorem d_X12_fault_1 : decode cX12_fault 1 = .ok (.getfield 19, 3) := by decide +kernel
theorem d_X12_fault_4 : decode cX12_fault 4 = .ok (.getfield 117, 3) := by decide +kernel
theorem d_X12_fault_7 : decode cX12_fault 7 = .ok (.ireturn, 1) := by decide +kernel
abbrev rm_X12_fault : Room := { frames := 0, cells := 0, slots := 0, locals := 0 }
def w_X12_fault (post : Int32 → CMu → Prop) (cm : CMu) : Prop := post (gI cm 4 7) cm
section G_X12_fault
variable {p : Program} {l : Launch} {e : Env} {s : State} {m : MethodId} {args : Array Value} {below : List Frame} {meth : Method} {c : Code} {G : Gd} {ρ : Nat → Nat} {A : Nat → Prop} {mm : Nat → Nat → Int32} {oo : Nat → Int64}
set_option maxHeartbeats 4000000 in
set_option maxRecDepth 100000 in
theorem c_X12_fault (hl : l.stackTraces = false) {cm : CMu} {post : Int32 → CMu → Prop} (h : w_X12_fault post cm) : CT l yX12_fault (.code yX12_fault cX12_fault 1 (some .int)) rm_X12_fault 0 0 G ρ [.ref 1] (cm, mm, oo) (PI (fun u => (u, mm, oo)) post) noX := by
  refine CT_of hl (by decide +kernel) rfl (Nat.le_of_ble_eq_true rfl) (lv0 := [(0, .ref 1)]) rfl (fun p e s m args below meth c A X hr hex hnm => ?_)
  unfold w_X12_fault at h
  refine L_aload_n (pc := 0) X d_X12_fault_0 rfl 0 rfl ?_
  refine gf_X12_19 (pc := 1) (b := 4) X d_X12_fault_1 kd_1 rfl ?_
  refine gf_X12_117 (pc := 4) X d_X12_fault_4 kd_4 ?_
  exact L_iret (pc := 7) X hr d_X12_fault_7 (by decide) (by decide) ⟨_, _, rfl, rfl, h⟩
end G_X12_fault
theorem d_X12_demandStation_0 : decode cX12_demandStation 0 = .ok (.iload_n 1, 1) := by decide +kernel
theorem d_X12_demandStation_1 : decode cX12_demandStation 1 = .ok (.ifCond .lt 16, 3) := by decide +kernel
theorem d_X12_demandStation_4 : decode cX12_demandStation 4 = .ok (.iload_n 1, 1) := by decide +kernel
theorem d_X12_demandStation_5 : decode cX12_demandStation 5 = .ok (.aload_n 0, 1) := by decide +kernel
theorem d_X12_demandStation_6 : decode cX12_demandStation 6 = .ok (.getfield 40, 3) := by decide +kernel
theorem d_X12_demandStation_9 : decode cX12_demandStation 9 = .ok (.getfield 91, 3) := by decide +kernel
theorem d_X12_demandStation_12 : decode cX12_demandStation 12 = .ok (.iconst 1, 1) := by decide +kernel
theorem d_X12_demandStation_13 : decode cX12_demandStation 13 = .ok (.iadd, 1) := by decide +kernel
theorem d_X12_demandStation_14 : decode cX12_demandStation 14 = .ok (.if_icmp .le 11, 3) := by decide +kernel
theorem d_X12_demandStation_17 : decode cX12_demandStation 17 = .ok (.new 94, 3) := by decide +kernel
theorem d_X12_demandStation_20 : decode cX12_demandStation 20 = .ok (.dup, 1) := by decide +kernel
theorem d_X12_demandStation_21 : decode cX12_demandStation 21 = .ok (.invokespecial 96, 3) := by decide +kernel
theorem d_X12_demandStation_24 : decode cX12_demandStation 24 = .ok (.athrow, 1) := by decide +kernel
theorem d_X12_demandStation_25 : decode cX12_demandStation 25 = .ok (.return_, 1) := by decide +kernel
abbrev rm_X12_demandStation : Room := { frames := 6, cells := 1, slots := 6, locals := 100 }
def B_X12_demandStation_17 (post : CMu → Prop) (px : Nat → CMu → Prop) (cm : CMu) : Prop := px 1 cm
def w_X12_demandStation (post : CMu → Prop) (px : Nat → CMu → Prop) (x1 : Int32) (cm : CMu) : Prop := (x1 < 0 → (B_X12_demandStation_17 post px cm)) ∧ (¬ x1 < 0 → ((x1 ≤ ((gI cm 382 5) + 1) → (post cm)) ∧ (¬ x1 ≤ ((gI cm 382 5) + 1) → (B_X12_demandStation_17 post px cm))))
section G_X12_demandStation
variable {p : Program} {l : Launch} {e : Env} {s : State} {m : MethodId} {args : Array Value} {below : List Frame} {meth : Method} {c : Code} {G : Gd} {ρ : Nat → Nat} {A : Nat → Prop} {mm : Nat → Nat → Int32} {oo : Nat → Int64}
set_option maxHeartbeats 4000000 in
set_option maxRecDepth 100000 in
theorem T_X12_demandStation_17 {post : CMu → Prop} {px : Nat → CMu → Prop} (hl : l.stackTraces = false) (X : MC p l s m args meth c cX12_demandStation 2 RX12 G ρ A) (hr : meth.sig.returnType = none) (hex : ∀ z ∈ c.exceptionTable.toList, False) : ∀ (cm : CMu), B_X12_demandStation_17 post px cm → LW p l e rm_X12_demandStation s m args below meth c (Qm below G ρ A (PV (fun u => (u, mm, oo)) post) (PE (fun u => (u, mm, oo)) px) args s 1 6) G ρ A 2 0 0 17 [] [] (cm, mm, oo) := by
  intro cm h
  unfold B_X12_demandStation_17 at h
  exact L_throw1 (pc := 17) X hex d_X12_demandStation_17 d_X12_demandStation_20 d_X12_demandStation_21 d_X12_demandStation_24 (by decide) (by decide) (by decide) (by decide) (by decide) (by decide) ⟨_, rfl, h⟩
set_option maxHeartbeats 4000000 in
set_option maxRecDepth 100000 in
theorem c_X12_demandStation (hl : l.stackTraces = false) {x1 : Int32} {cm : CMu} {post : CMu → Prop} {px : Nat → CMu → Prop} (h : w_X12_demandStation post px x1 cm) : CT l yX12_demandStation (.code yX12_demandStation cX12_demandStation 2 none) rm_X12_demandStation 1 6 G ρ [.ref 1, .int x1] (cm, mm, oo) (PV (fun u => (u, mm, oo)) post) (PE (fun u => (u, mm, oo)) px) := by
  refine CT_of hl (by decide +kernel) rfl (Nat.le_of_ble_eq_true rfl) (lv0 := [(0, .ref 1), (1, .int x1)]) rfl (fun p e s m args below meth c A X hr hex hnm => ?_)
  unfold w_X12_demandStation at h
  refine L_iload_n (pc := 0) X d_X12_demandStation_0 rfl 1 rfl ?_
  refine L_if_lt (pc := 1) (tgt := 17) X d_X12_demandStation_1 (by decide) (fun c1 => ?_) (fun c1 => ?_)
  · replace h := h.1 c1
    refine LW.sub [] rfl ?_
    exact T_X12_demandStation_17 hl X hr hex   _ h
  · replace h := h.2 c1
    refine L_iload_n (pc := 4) X d_X12_demandStation_4 rfl 1 rfl ?_
    refine L_aload_n (pc := 5) X d_X12_demandStation_5 rfl 0 rfl ?_
    refine gf_X12_40 (pc := 6) (b := 382) X d_X12_demandStation_6 kd_1 rfl ?_
    refine gf_X12_91 (pc := 9) X d_X12_demandStation_9 kd_382 ?_
    refine L_iconst (pc := 12) (v := 1) X d_X12_demandStation_12 (by decide) ?_
    refine L_iadd (pc := 13) X d_X12_demandStation_13 ?_
    refine L_icmp_le (pc := 14) (tgt := 25) X d_X12_demandStation_14 (by decide) (fun c14 => ?_) (fun c14 => ?_)
    · replace h := h.1 c14
      exact L_vret (pc := 25) X hr d_X12_demandStation_25 (by decide) (by decide) ⟨_, rfl, rfl, h⟩
    · replace h := h.2 c14
      refine LW.sub [] rfl ?_
      exact T_X12_demandStation_17 hl X hr hex   _ h
end G_X12_demandStation
theorem d_X12_demandReach_0 : decode cX12_demandReach 0 = .ok (.iload_n 1, 1) := by decide +kernel
theorem d_X12_demandReach_1 : decode cX12_demandReach 1 = .ok (.ifCond .lt 14, 3) := by decide +kernel
theorem d_X12_demandReach_4 : decode cX12_demandReach 4 = .ok (.iload_n 1, 1) := by decide +kernel
theorem d_X12_demandReach_5 : decode cX12_demandReach 5 = .ok (.aload_n 0, 1) := by decide +kernel
theorem d_X12_demandReach_6 : decode cX12_demandReach 6 = .ok (.getfield 40, 3) := by decide +kernel
theorem d_X12_demandReach_9 : decode cX12_demandReach 9 = .ok (.getfield 91, 3) := by decide +kernel
theorem d_X12_demandReach_12 : decode cX12_demandReach 12 = .ok (.if_icmp .le 11, 3) := by decide +kernel
theorem d_X12_demandReach_15 : decode cX12_demandReach 15 = .ok (.new 94, 3) := by decide +kernel
theorem d_X12_demandReach_18 : decode cX12_demandReach 18 = .ok (.dup, 1) := by decide +kernel
theorem d_X12_demandReach_19 : decode cX12_demandReach 19 = .ok (.invokespecial 96, 3) := by decide +kernel
theorem d_X12_demandReach_22 : decode cX12_demandReach 22 = .ok (.athrow, 1) := by decide +kernel
theorem d_X12_demandReach_23 : decode cX12_demandReach 23 = .ok (.return_, 1) := by decide +kernel
abbrev rm_X12_demandReach : Room := { frames := 6, cells := 1, slots := 6, locals := 100 }
def B_X12_demandReach_15 (post : CMu → Prop) (px : Nat → CMu → Prop) (cm : CMu) : Prop := px 1 cm
def w_X12_demandReach (post : CMu → Prop) (px : Nat → CMu → Prop) (x1 : Int32) (cm : CMu) : Prop := (x1 < 0 → (B_X12_demandReach_15 post px cm)) ∧ (¬ x1 < 0 → ((x1 ≤ (gI cm 382 5) → (post cm)) ∧ (¬ x1 ≤ (gI cm 382 5) → (B_X12_demandReach_15 post px cm))))
section G_X12_demandReach
variable {p : Program} {l : Launch} {e : Env} {s : State} {m : MethodId} {args : Array Value} {below : List Frame} {meth : Method} {c : Code} {G : Gd} {ρ : Nat → Nat} {A : Nat → Prop} {mm : Nat → Nat → Int32} {oo : Nat → Int64}
set_option maxHeartbeats 4000000 in
set_option maxRecDepth 100000 in
theorem T_X12_demandReach_15 {post : CMu → Prop} {px : Nat → CMu → Prop} (hl : l.stackTraces = false) (X : MC p l s m args meth c cX12_demandReach 2 RX12 G ρ A) (hr : meth.sig.returnType = none) (hex : ∀ z ∈ c.exceptionTable.toList, False) : ∀ (cm : CMu), B_X12_demandReach_15 post px cm → LW p l e rm_X12_demandReach s m args below meth c (Qm below G ρ A (PV (fun u => (u, mm, oo)) post) (PE (fun u => (u, mm, oo)) px) args s 1 6) G ρ A 2 0 0 15 [] [] (cm, mm, oo) := by
  intro cm h
  unfold B_X12_demandReach_15 at h
  exact L_throw1 (pc := 15) X hex d_X12_demandReach_15 d_X12_demandReach_18 d_X12_demandReach_19 d_X12_demandReach_22 (by decide) (by decide) (by decide) (by decide) (by decide) (by decide) ⟨_, rfl, h⟩
set_option maxHeartbeats 4000000 in
set_option maxRecDepth 100000 in
theorem c_X12_demandReach (hl : l.stackTraces = false) {x1 : Int32} {cm : CMu} {post : CMu → Prop} {px : Nat → CMu → Prop} (h : w_X12_demandReach post px x1 cm) : CT l yX12_demandReach (.code yX12_demandReach cX12_demandReach 2 none) rm_X12_demandReach 1 6 G ρ [.ref 1, .int x1] (cm, mm, oo) (PV (fun u => (u, mm, oo)) post) (PE (fun u => (u, mm, oo)) px) := by
  refine CT_of hl (by decide +kernel) rfl (Nat.le_of_ble_eq_true rfl) (lv0 := [(0, .ref 1), (1, .int x1)]) rfl (fun p e s m args below meth c A X hr hex hnm => ?_)
  unfold w_X12_demandReach at h
  refine L_iload_n (pc := 0) X d_X12_demandReach_0 rfl 1 rfl ?_
  refine L_if_lt (pc := 1) (tgt := 15) X d_X12_demandReach_1 (by decide) (fun c1 => ?_) (fun c1 => ?_)
  · replace h := h.1 c1
    refine LW.sub [] rfl ?_
    exact T_X12_demandReach_15 hl X hr hex   _ h
  · replace h := h.2 c1
    refine L_iload_n (pc := 4) X d_X12_demandReach_4 rfl 1 rfl ?_
    refine L_aload_n (pc := 5) X d_X12_demandReach_5 rfl 0 rfl ?_
    refine gf_X12_40 (pc := 6) (b := 382) X d_X12_demandReach_6 kd_1 rfl ?_
    refine gf_X12_91 (pc := 9) X d_X12_demandReach_9 kd_382 ?_
    refine L_icmp_le (pc := 12) (tgt := 23) X d_X12_demandReach_12 (by decide) (fun c12 => ?_) (fun c12 => ?_)
    · replace h := h.1 c12
      exact L_vret (pc := 23) X hr d_X12_demandReach_23 (by decide) (by decide) ⟨_, rfl, rfl, h⟩
    · replace h := h.2 c12
      refine LW.sub [] rfl ?_
      exact T_X12_demandReach_15 hl X hr hex   _ h
end G_X12_demandReach
theorem d_X12_demandCamp_0 : decode cX12_demandCamp 0 = .ok (.iload_n 1, 1) := by decide +kernel
theorem d_X12_demandCamp_1 : decode cX12_demandCamp 1 = .ok (.iconst 1, 1) := by decide +kernel
theorem d_X12_demandCamp_2 : decode cX12_demandCamp 2 = .ok (.if_icmp .lt 14, 3) := by decide +kernel
theorem d_X12_demandCamp_5 : decode cX12_demandCamp 5 = .ok (.iload_n 1, 1) := by decide +kernel
theorem d_X12_demandCamp_6 : decode cX12_demandCamp 6 = .ok (.aload_n 0, 1) := by decide +kernel
theorem d_X12_demandCamp_7 : decode cX12_demandCamp 7 = .ok (.getfield 40, 3) := by decide +kernel
theorem d_X12_demandCamp_10 : decode cX12_demandCamp 10 = .ok (.getfield 91, 3) := by decide +kernel
theorem d_X12_demandCamp_13 : decode cX12_demandCamp 13 = .ok (.if_icmp .le 11, 3) := by decide +kernel
theorem d_X12_demandCamp_16 : decode cX12_demandCamp 16 = .ok (.new 94, 3) := by decide +kernel
theorem d_X12_demandCamp_19 : decode cX12_demandCamp 19 = .ok (.dup, 1) := by decide +kernel
theorem d_X12_demandCamp_20 : decode cX12_demandCamp 20 = .ok (.invokespecial 96, 3) := by decide +kernel
theorem d_X12_demandCamp_23 : decode cX12_demandCamp 23 = .ok (.athrow, 1) := by decide +kernel
theorem d_X12_demandCamp_24 : decode cX12_demandCamp 24 = .ok (.return_, 1) := by decide +kernel
abbrev rm_X12_demandCamp : Room := { frames := 6, cells := 1, slots := 6, locals := 100 }
def B_X12_demandCamp_16 (post : CMu → Prop) (px : Nat → CMu → Prop) (cm : CMu) : Prop := px 1 cm
def w_X12_demandCamp (post : CMu → Prop) (px : Nat → CMu → Prop) (x1 : Int32) (cm : CMu) : Prop := (x1 < 1 → (B_X12_demandCamp_16 post px cm)) ∧ (¬ x1 < 1 → ((x1 ≤ (gI cm 382 5) → (post cm)) ∧ (¬ x1 ≤ (gI cm 382 5) → (B_X12_demandCamp_16 post px cm))))
section G_X12_demandCamp
variable {p : Program} {l : Launch} {e : Env} {s : State} {m : MethodId} {args : Array Value} {below : List Frame} {meth : Method} {c : Code} {G : Gd} {ρ : Nat → Nat} {A : Nat → Prop} {mm : Nat → Nat → Int32} {oo : Nat → Int64}
set_option maxHeartbeats 4000000 in
set_option maxRecDepth 100000 in
theorem T_X12_demandCamp_16 {post : CMu → Prop} {px : Nat → CMu → Prop} (hl : l.stackTraces = false) (X : MC p l s m args meth c cX12_demandCamp 2 RX12 G ρ A) (hr : meth.sig.returnType = none) (hex : ∀ z ∈ c.exceptionTable.toList, False) : ∀ (cm : CMu), B_X12_demandCamp_16 post px cm → LW p l e rm_X12_demandCamp s m args below meth c (Qm below G ρ A (PV (fun u => (u, mm, oo)) post) (PE (fun u => (u, mm, oo)) px) args s 1 6) G ρ A 2 0 0 16 [] [] (cm, mm, oo) := by
  intro cm h
  unfold B_X12_demandCamp_16 at h
  exact L_throw1 (pc := 16) X hex d_X12_demandCamp_16 d_X12_demandCamp_19 d_X12_demandCamp_20 d_X12_demandCamp_23 (by decide) (by decide) (by decide) (by decide) (by decide) (by decide) ⟨_, rfl, h⟩
set_option maxHeartbeats 4000000 in
set_option maxRecDepth 100000 in
theorem c_X12_demandCamp (hl : l.stackTraces = false) {x1 : Int32} {cm : CMu} {post : CMu → Prop} {px : Nat → CMu → Prop} (h : w_X12_demandCamp post px x1 cm) : CT l yX12_demandCamp (.code yX12_demandCamp cX12_demandCamp 2 none) rm_X12_demandCamp 1 6 G ρ [.ref 1, .int x1] (cm, mm, oo) (PV (fun u => (u, mm, oo)) post) (PE (fun u => (u, mm, oo)) px) := by
  refine CT_of hl (by decide +kernel) rfl (Nat.le_of_ble_eq_true rfl) (lv0 := [(0, .ref 1), (1, .int x1)]) rfl (fun p e s m args below meth c A X hr hex hnm => ?_)
  unfold w_X12_demandCamp at h
  refine L_iload_n (pc := 0) X d_X12_demandCamp_0 rfl 1 rfl ?_
  refine L_iconst (pc := 1) (v := 1) X d_X12_demandCamp_1 (by decide) ?_
  refine L_icmp_lt (pc := 2) (tgt := 16) X d_X12_demandCamp_2 (by decide) (fun c2 => ?_) (fun c2 => ?_)
  · replace h := h.1 c2
    refine LW.sub [] rfl ?_
    exact T_X12_demandCamp_16 hl X hr hex   _ h
  · replace h := h.2 c2
    refine L_iload_n (pc := 5) X d_X12_demandCamp_5 rfl 1 rfl ?_
    refine L_aload_n (pc := 6) X d_X12_demandCamp_6 rfl 0 rfl ?_
    refine gf_X12_40 (pc := 7) (b := 382) X d_X12_demandCamp_7 kd_1 rfl ?_
    refine gf_X12_91 (pc := 10) X d_X12_demandCamp_10 kd_382 ?_
    refine L_icmp_le (pc := 13) (tgt := 24) X d_X12_demandCamp_13 (by decide) (fun c13 => ?_) (fun c13 => ?_)
    · replace h := h.1 c13
      exact L_vret (pc := 24) X hr d_X12_demandCamp_24 (by decide) (by decide) ⟨_, rfl, rfl, h⟩
    · replace h := h.2 c13
      refine LW.sub [] rfl ?_
      exact T_X12_demandCamp_16 hl X hr hex   _ h
end G_X12_demandCamp
theorem d_X12_demandOrder_0 : decode cX12_demandOrder 0 = .ok (.iload_n 1, 1) := by decide +kernel
theorem d_X12_demandOrder_1 : decode cX12_demandOrder 1 = .ok (.ifCond .lt 17, 3) := by decide +kernel
theorem d_X12_demandOrder_4 : decode cX12_demandOrder 4 = .ok (.iload_n 1, 1) := by decide +kernel
theorem d_X12_demandOrder_5 : decode cX12_demandOrder 5 = .ok (.aload_n 0, 1) := by decide +kernel
theorem d_X12_demandOrder_6 : decode cX12_demandOrder 6 = .ok (.getfield 40, 3) := by decide +kernel
theorem d_X12_demandOrder_9 : decode cX12_demandOrder 9 = .ok (.getfield 229, 3) := by decide +kernel
theorem d_X12_demandOrder_12 : decode cX12_demandOrder 12 = .ok (.getfield 233, 3) := by decide +kernel
theorem d_X12_demandOrder_15 : decode cX12_demandOrder 15 = .ok (.if_icmp .lt 11, 3) := by decide +kernel
theorem d_X12_demandOrder_18 : decode cX12_demandOrder 18 = .ok (.new 94, 3) := by decide +kernel
theorem d_X12_demandOrder_21 : decode cX12_demandOrder 21 = .ok (.dup, 1) := by decide +kernel
theorem d_X12_demandOrder_22 : decode cX12_demandOrder 22 = .ok (.invokespecial 96, 3) := by decide +kernel
theorem d_X12_demandOrder_25 : decode cX12_demandOrder 25 = .ok (.athrow, 1) := by decide +kernel
theorem d_X12_demandOrder_26 : decode cX12_demandOrder 26 = .ok (.return_, 1) := by decide +kernel
abbrev rm_X12_demandOrder : Room := { frames := 6, cells := 1, slots := 6, locals := 100 }
def B_X12_demandOrder_18 (post : CMu → Prop) (px : Nat → CMu → Prop) (cm : CMu) : Prop := px 1 cm
def w_X12_demandOrder (post : CMu → Prop) (px : Nat → CMu → Prop) (x1 : Int32) (cm : CMu) : Prop := (x1 < 0 → (B_X12_demandOrder_18 post px cm)) ∧ (¬ x1 < 0 → ((x1 < (gI cm 387 3) → (post cm)) ∧ (¬ x1 < (gI cm 387 3) → (B_X12_demandOrder_18 post px cm))))
section G_X12_demandOrder
variable {p : Program} {l : Launch} {e : Env} {s : State} {m : MethodId} {args : Array Value} {below : List Frame} {meth : Method} {c : Code} {G : Gd} {ρ : Nat → Nat} {A : Nat → Prop} {mm : Nat → Nat → Int32} {oo : Nat → Int64}
set_option maxHeartbeats 4000000 in
set_option maxRecDepth 100000 in
theorem T_X12_demandOrder_18 {post : CMu → Prop} {px : Nat → CMu → Prop} (hl : l.stackTraces = false) (X : MC p l s m args meth c cX12_demandOrder 2 RX12 G ρ A) (hr : meth.sig.returnType = none) (hex : ∀ z ∈ c.exceptionTable.toList, False) : ∀ (cm : CMu), B_X12_demandOrder_18 post px cm → LW p l e rm_X12_demandOrder s m args below meth c (Qm below G ρ A (PV (fun u => (u, mm, oo)) post) (PE (fun u => (u, mm, oo)) px) args s 1 6) G ρ A 2 0 0 18 [] [] (cm, mm, oo) := by
  intro cm h
  unfold B_X12_demandOrder_18 at h
  exact L_throw1 (pc := 18) X hex d_X12_demandOrder_18 d_X12_demandOrder_21 d_X12_demandOrder_22 d_X12_demandOrder_25 (by decide) (by decide) (by decide) (by decide) (by decide) (by decide) ⟨_, rfl, h⟩
set_option maxHeartbeats 4000000 in
set_option maxRecDepth 100000 in
theorem c_X12_demandOrder (hl : l.stackTraces = false) {x1 : Int32} {cm : CMu} {post : CMu → Prop} {px : Nat → CMu → Prop} (h : w_X12_demandOrder post px x1 cm) : CT l yX12_demandOrder (.code yX12_demandOrder cX12_demandOrder 2 none) rm_X12_demandOrder 1 6 G ρ [.ref 1, .int x1] (cm, mm, oo) (PV (fun u => (u, mm, oo)) post) (PE (fun u => (u, mm, oo)) px) := by
  refine CT_of hl (by decide +kernel) rfl (Nat.le_of_ble_eq_true rfl) (lv0 := [(0, .ref 1), (1, .int x1)]) rfl (fun p e s m args below meth c A X hr hex hnm => ?_)
  unfold w_X12_demandOrder at h
  refine L_iload_n (pc := 0) X d_X12_demandOrder_0 rfl 1 rfl ?_
  refine L_if_lt (pc := 1) (tgt := 18) X d_X12_demandOrder_1 (by decide) (fun c1 => ?_) (fun c1 => ?_)
  · replace h := h.1 c1
    refine LW.sub [] rfl ?_
    exact T_X12_demandOrder_18 hl X hr hex   _ h
  · replace h := h.2 c1
    refine L_iload_n (pc := 4) X d_X12_demandOrder_4 rfl 1 rfl ?_
    refine L_aload_n (pc := 5) X d_X12_demandOrder_5 rfl 0 rfl ?_
    refine gf_X12_40 (pc := 6) (b := 382) X d_X12_demandOrder_6 kd_1 rfl ?_
    refine gf_X12_229 (pc := 9) (b := 387) X d_X12_demandOrder_9 kd_382 rfl ?_
    refine gf_X12_233 (pc := 12) X d_X12_demandOrder_12 kd_387 ?_
    refine L_icmp_lt (pc := 15) (tgt := 26) X d_X12_demandOrder_15 (by decide) (fun c15 => ?_) (fun c15 => ?_)
    · replace h := h.1 c15
      exact L_vret (pc := 26) X hr d_X12_demandOrder_26 (by decide) (by decide) ⟨_, rfl, rfl, h⟩
    · replace h := h.2 c15
      refine LW.sub [] rfl ?_
      exact T_X12_demandOrder_18 hl X hr hex   _ h
end G_X12_demandOrder
theorem yk_X12_demandStation : yX12_demandStation.cls = RX12 ∧ yX12_demandStation.cls ≠ "java/lang/invoke/MethodHandle" ∧ yX12_demandStation.cls ≠ "java/lang/invoke/VarHandle" ∧ (parseMethodDescriptor yX12_demandStation.desc).map (fun d => d.parameters.length) = some 1 := by decide +kernel
theorem lk_X12_221 : LinkV RX12 221 RX12 yX12_demandStation (.code yX12_demandStation cX12_demandStation 2 none) 1 := ⟨tw_1100, tw_1102, tw_27, tw_72, tw_1103, yk_X12_demandStation⟩
theorem d_X12_demandWay_0 : decode cX12_demandWay 0 = .ok (.aload_n 0, 1) := by decide +kernel
theorem d_X12_demandWay_1 : decode cX12_demandWay 1 = .ok (.iload_n 1, 1) := by decide +kernel
theorem d_X12_demandWay_2 : decode cX12_demandWay 2 = .ok (.invokevirtual 221, 3) := by decide +kernel
theorem d_X12_demandWay_5 : decode cX12_demandWay 5 = .ok (.aload_n 0, 1) := by decide +kernel
theorem d_X12_demandWay_6 : decode cX12_demandWay 6 = .ok (.iload_n 2, 1) := by decide +kernel
theorem d_X12_demandWay_7 : decode cX12_demandWay 7 = .ok (.invokevirtual 221, 3) := by decide +kernel
theorem d_X12_demandWay_10 : decode cX12_demandWay 10 = .ok (.iload_n 2, 1) := by decide +kernel
theorem d_X12_demandWay_11 : decode cX12_demandWay 11 = .ok (.iload_n 1, 1) := by decide +kernel
theorem d_X12_demandWay_12 : decode cX12_demandWay 12 = .ok (.if_icmp .ge 11, 3) := by decide +kernel
theorem d_X12_demandWay_15 : decode cX12_demandWay 15 = .ok (.new 82, 3) := by decide +kernel
theorem d_X12_demandWay_18 : decode cX12_demandWay 18 = .ok (.dup, 1) := by decide +kernel
theorem d_X12_demandWay_19 : decode cX12_demandWay 19 = .ok (.invokespecial 84, 3) := by decide +kernel
theorem d_X12_demandWay_22 : decode cX12_demandWay 22 = .ok (.athrow, 1) := by decide +kernel
theorem d_X12_demandWay_23 : decode cX12_demandWay 23 = .ok (.return_, 1) := by decide +kernel
abbrev rm_X12_demandWay : Room := { frames := 7, cells := 3, slots := 18, locals := 121 }
def w_X12_demandWay (post : CMu → Prop) (px : Nat → CMu → Prop) (x1 : Int32) (x2 : Int32) (cm : CMu) : Prop := w_X12_demandStation (fun (u2 : CMu) => w_X12_demandStation (fun (u4 : CMu) => (x1 ≤ x2 → (post u4)) ∧ (¬ x1 ≤ x2 → (px 0 u4))) px x2 u2) px x1 cm
section G_X12_demandWay
variable {p : Program} {l : Launch} {e : Env} {s : State} {m : MethodId} {args : Array Value} {below : List Frame} {meth : Method} {c : Code} {G : Gd} {ρ : Nat → Nat} {A : Nat → Prop} {mm : Nat → Nat → Int32} {oo : Nat → Int64}
set_option maxHeartbeats 4000000 in
set_option maxRecDepth 100000 in
theorem c_X12_demandWay (hl : l.stackTraces = false) {x1 : Int32} {x2 : Int32} {cm : CMu} {post : CMu → Prop} {px : Nat → CMu → Prop} (h : w_X12_demandWay post px x1 x2 cm) : CT l yX12_demandWay (.code yX12_demandWay cX12_demandWay 3 none) rm_X12_demandWay 3 18 G ρ [.ref 1, .int x1, .int x2] (cm, mm, oo) (PV (fun u => (u, mm, oo)) post) (PE (fun u => (u, mm, oo)) px) := by
  refine CT_of hl (by decide +kernel) rfl (Nat.le_of_ble_eq_true rfl) (lv0 := [(0, .ref 1), (1, .int x1), (2, .int x2)]) rfl (fun p e s m args below meth c A X hr hex hnm => ?_)
  unfold w_X12_demandWay at h
  refine L_aload_n (pc := 0) X d_X12_demandWay_0 rfl 0 rfl ?_
  refine L_iload_n (pc := 1) X d_X12_demandWay_1 rfl 1 rfl ?_
  refine L_callVV (pc := 2) X lk_X12_221 (c_X12_demandStation X.hst  h) rfl rfl kd_1 (by decide) rfl rfl ⟨by decide, by decide⟩ ⟨by decide, by decide⟩ (Nat.zero_le _) d_X12_demandWay_2 rfl (fun x κ1 hx => L_pass X hex hx (by decide) (by decide)) (fun u2 h => ?_)
  refine L_aload_n (pc := 5) X d_X12_demandWay_5 rfl 0 rfl ?_
  refine L_iload_n (pc := 6) X d_X12_demandWay_6 rfl 2 rfl ?_
  refine L_callVV (pc := 7) X lk_X12_221 (c_X12_demandStation X.hst  h) rfl rfl kd_1 (by decide) rfl rfl ⟨by decide, by decide⟩ ⟨by decide, by decide⟩ (Nat.zero_le _) d_X12_demandWay_7 rfl (fun x κ1 hx => L_pass X hex hx (by decide) (by decide)) (fun u4 h => ?_)
  refine L_iload_n (pc := 10) X d_X12_demandWay_10 rfl 2 rfl ?_
  refine L_iload_n (pc := 11) X d_X12_demandWay_11 rfl 1 rfl ?_
  refine L_icmp_ge (pc := 12) (tgt := 23) X d_X12_demandWay_12 (by decide) (fun c12 => ?_) (fun c12 => ?_)
  · replace h := h.1 c12
    exact L_vret (pc := 23) X hr d_X12_demandWay_23 (by decide) (by decide) ⟨_, rfl, rfl, h⟩
  · replace h := h.2 c12
    exact L_throw0 (pc := 15) X hex d_X12_demandWay_15 d_X12_demandWay_18 d_X12_demandWay_19 d_X12_demandWay_22 (by decide) (by decide) (by decide) (by decide) (by decide) (by decide) ⟨_, rfl, h⟩
end G_X12_demandWay
theorem d_X12_demandWeight_0 : decode cX12_demandWeight 0 = .ok (.iload_n 0, 1) := by decide +kernel
theorem d_X12_demandWeight_1 : decode cX12_demandWeight 1 = .ok (.iconst 1, 1) := by decide +kernel
theorem d_X12_demandWeight_2 : decode cX12_demandWeight 2 = .ok (.if_icmp .lt 9, 3) := by decide +kernel
theorem d_X12_demandWeight_5 : decode cX12_demandWeight 5 = .ok (.iload_n 0, 1) := by decide +kernel
theorem d_X12_demandWeight_6 : decode cX12_demandWeight 6 = .ok (.bipush 9, 2) := by decide +kernel
theorem d_X12_demandWeight_8 : decode cX12_demandWeight 8 = .ok (.if_icmp .le 11, 3) := by decide +kernel
theorem d_X12_demandWeight_11 : decode cX12_demandWeight 11 = .ok (.new 82, 3) := by decide +kernel
theorem d_X12_demandWeight_14 : decode cX12_demandWeight 14 = .ok (.dup, 1) := by decide +kernel
theorem d_X12_demandWeight_15 : decode cX12_demandWeight 15 = .ok (.invokespecial 84, 3) := by decide +kernel
theorem d_X12_demandWeight_18 : decode cX12_demandWeight 18 = .ok (.athrow, 1) := by decide +kernel
theorem d_X12_demandWeight_19 : decode cX12_demandWeight 19 = .ok (.return_, 1) := by decide +kernel
abbrev rm_X12_demandWeight : Room := { frames := 6, cells := 1, slots := 6, locals := 100 }
def B_X12_demandWeight_11 (post : CMu → Prop) (px : Nat → CMu → Prop) (cm : CMu) : Prop := px 0 cm
def w_X12_demandWeight (post : CMu → Prop) (px : Nat → CMu → Prop) (x0 : Int32) (cm : CMu) : Prop := (x0 < 1 → (B_X12_demandWeight_11 post px cm)) ∧ (¬ x0 < 1 → ((x0 ≤ 9 → (post cm)) ∧ (¬ x0 ≤ 9 → (B_X12_demandWeight_11 post px cm))))
section G_X12_demandWeight
variable {p : Program} {l : Launch} {e : Env} {s : State} {m : MethodId} {args : Array Value} {below : List Frame} {meth : Method} {c : Code} {G : Gd} {ρ : Nat → Nat} {A : Nat → Prop} {mm : Nat → Nat → Int32} {oo : Nat → Int64}
set_option maxHeartbeats 4000000 in
set_option maxRecDepth 100000 in
theorem T_X12_demandWeight_11 {post : CMu → Prop} {px : Nat → CMu → Prop} (hl : l.stackTraces = false) (X : MC p l s m args meth c cX12_demandWeight 1 RX12 G ρ A) (hr : meth.sig.returnType = none) (hex : ∀ z ∈ c.exceptionTable.toList, False) : ∀ (cm : CMu), B_X12_demandWeight_11 post px cm → LW p l e rm_X12_demandWeight s m args below meth c (Qm below G ρ A (PV (fun u => (u, mm, oo)) post) (PE (fun u => (u, mm, oo)) px) args s 1 6) G ρ A 1 0 0 11 [] [] (cm, mm, oo) := by
  intro cm h
  unfold B_X12_demandWeight_11 at h
  exact L_throw0 (pc := 11) X hex d_X12_demandWeight_11 d_X12_demandWeight_14 d_X12_demandWeight_15 d_X12_demandWeight_18 (by decide) (by decide) (by decide) (by decide) (by decide) (by decide) ⟨_, rfl, h⟩
set_option maxHeartbeats 4000000 in
set_option maxRecDepth 100000 in
theorem c_X12_demandWeight (hl : l.stackTraces = false) {x0 : Int32} {cm : CMu} {post : CMu → Prop} {px : Nat → CMu → Prop} (h : w_X12_demandWeight post px x0 cm) : CT l yX12_demandWeight (.code yX12_demandWeight cX12_demandWeight 1 none) rm_X12_demandWeight 1 6 G ρ [.int x0] (cm, mm, oo) (PV (fun u => (u, mm, oo)) post) (PE (fun u => (u, mm, oo)) px) := by
  refine CT_of hl (by decide +kernel) rfl (Nat.le_of_ble_eq_true rfl) (lv0 := [(0, .int x0)]) rfl (fun p e s m args below meth c A X hr hex hnm => ?_)
  unfold w_X12_demandWeight at h
  refine L_iload_n (pc := 0) X d_X12_demandWeight_0 rfl 0 rfl ?_
  refine L_iconst (pc := 1) (v := 1) X d_X12_demandWeight_1 (by decide) ?_
  refine L_icmp_lt (pc := 2) (tgt := 11) X d_X12_demandWeight_2 (by decide) (fun c2 => ?_) (fun c2 => ?_)
  · replace h := h.1 c2
    refine LW.sub [] rfl ?_
    exact T_X12_demandWeight_11 hl X hr hex   _ h
  · replace h := h.2 c2
    refine L_iload_n (pc := 5) X d_X12_demandWeight_5 rfl 0 rfl ?_
    refine L_bipush (pc := 6) (v := 9) X d_X12_demandWeight_6 (by decide) ?_
    refine L_icmp_le (pc := 8) (tgt := 19) X d_X12_demandWeight_8 (by decide) (fun c8 => ?_) (fun c8 => ?_)
    · replace h := h.1 c8
      exact L_vret (pc := 19) X hr d_X12_demandWeight_19 (by decide) (by decide) ⟨_, rfl, rfl, h⟩
    · replace h := h.2 c8
      refine LW.sub [] rfl ?_
      exact T_X12_demandWeight_11 hl X hr hex   _ h
end G_X12_demandWeight
theorem d_X12_demandWater_0 : decode cX12_demandWater 0 = .ok (.iload_n 0, 1) := by decide +kernel
theorem d_X12_demandWater_1 : decode cX12_demandWater 1 = .ok (.iconst 1, 1) := by decide +kernel
theorem d_X12_demandWater_2 : decode cX12_demandWater 2 = .ok (.if_icmp .lt 9, 3) := by decide +kernel
theorem d_X12_demandWater_5 : decode cX12_demandWater 5 = .ok (.iload_n 0, 1) := by decide +kernel
theorem d_X12_demandWater_6 : decode cX12_demandWater 6 = .ok (.bipush 9, 2) := by decide +kernel
theorem d_X12_demandWater_8 : decode cX12_demandWater 8 = .ok (.if_icmp .le 11, 3) := by decide +kernel
theorem d_X12_demandWater_11 : decode cX12_demandWater 11 = .ok (.new 82, 3) := by decide +kernel
theorem d_X12_demandWater_14 : decode cX12_demandWater 14 = .ok (.dup, 1) := by decide +kernel
theorem d_X12_demandWater_15 : decode cX12_demandWater 15 = .ok (.invokespecial 84, 3) := by decide +kernel
theorem d_X12_demandWater_18 : decode cX12_demandWater 18 = .ok (.athrow, 1) := by decide +kernel
theorem d_X12_demandWater_19 : decode cX12_demandWater 19 = .ok (.return_, 1) := by decide +kernel
abbrev rm_X12_demandWater : Room := { frames := 6, cells := 1, slots := 6, locals := 100 }
def B_X12_demandWater_11 (post : CMu → Prop) (px : Nat → CMu → Prop) (cm : CMu) : Prop := px 0 cm
def w_X12_demandWater (post : CMu → Prop) (px : Nat → CMu → Prop) (x0 : Int32) (cm : CMu) : Prop := (x0 < 1 → (B_X12_demandWater_11 post px cm)) ∧ (¬ x0 < 1 → ((x0 ≤ 9 → (post cm)) ∧ (¬ x0 ≤ 9 → (B_X12_demandWater_11 post px cm))))
section G_X12_demandWater
variable {p : Program} {l : Launch} {e : Env} {s : State} {m : MethodId} {args : Array Value} {below : List Frame} {meth : Method} {c : Code} {G : Gd} {ρ : Nat → Nat} {A : Nat → Prop} {mm : Nat → Nat → Int32} {oo : Nat → Int64}
set_option maxHeartbeats 4000000 in
set_option maxRecDepth 100000 in
theorem T_X12_demandWater_11 {post : CMu → Prop} {px : Nat → CMu → Prop} (hl : l.stackTraces = false) (X : MC p l s m args meth c cX12_demandWater 1 RX12 G ρ A) (hr : meth.sig.returnType = none) (hex : ∀ z ∈ c.exceptionTable.toList, False) : ∀ (cm : CMu), B_X12_demandWater_11 post px cm → LW p l e rm_X12_demandWater s m args below meth c (Qm below G ρ A (PV (fun u => (u, mm, oo)) post) (PE (fun u => (u, mm, oo)) px) args s 1 6) G ρ A 1 0 0 11 [] [] (cm, mm, oo) := by
  intro cm h
  unfold B_X12_demandWater_11 at h
  exact L_throw0 (pc := 11) X hex d_X12_demandWater_11 d_X12_demandWater_14 d_X12_demandWater_15 d_X12_demandWater_18 (by decide) (by decide) (by decide) (by decide) (by decide) (by decide) ⟨_, rfl, h⟩
set_option maxHeartbeats 4000000 in
set_option maxRecDepth 100000 in
theorem c_X12_demandWater (hl : l.stackTraces = false) {x0 : Int32} {cm : CMu} {post : CMu → Prop} {px : Nat → CMu → Prop} (h : w_X12_demandWater post px x0 cm) : CT l yX12_demandWater (.code yX12_demandWater cX12_demandWater 1 none) rm_X12_demandWater 1 6 G ρ [.int x0] (cm, mm, oo) (PV (fun u => (u, mm, oo)) post) (PE (fun u => (u, mm, oo)) px) := by
  refine CT_of hl (by decide +kernel) rfl (Nat.le_of_ble_eq_true rfl) (lv0 := [(0, .int x0)]) rfl (fun p e s m args below meth c A X hr hex hnm => ?_)
  unfold w_X12_demandWater at h
  refine L_iload_n (pc := 0) X d_X12_demandWater_0 rfl 0 rfl ?_
  refine L_iconst (pc := 1) (v := 1) X d_X12_demandWater_1 (by decide) ?_
  refine L_icmp_lt (pc := 2) (tgt := 11) X d_X12_demandWater_2 (by decide) (fun c2 => ?_) (fun c2 => ?_)
  · replace h := h.1 c2
    refine LW.sub [] rfl ?_
    exact T_X12_demandWater_11 hl X hr hex   _ h
  · replace h := h.2 c2
    refine L_iload_n (pc := 5) X d_X12_demandWater_5 rfl 0 rfl ?_
    refine L_bipush (pc := 6) (v := 9) X d_X12_demandWater_6 (by decide) ?_
    refine L_icmp_le (pc := 8) (tgt := 19) X d_X12_demandWater_8 (by decide) (fun c8 => ?_) (fun c8 => ?_)
    · replace h := h.1 c8
      exact L_vret (pc := 19) X hr d_X12_demandWater_19 (by decide) (by decide) ⟨_, rfl, rfl, h⟩
    · replace h := h.2 c8
      refine LW.sub [] rfl ?_
      exact T_X12_demandWater_11 hl X hr hex   _ h
end G_X12_demandWater
theorem yk_X12_demandWater : yX12_demandWater.cls ≠ "java/lang/invoke/MethodHandle" ∧ yX12_demandWater.cls ≠ "java/lang/invoke/VarHandle" ∧ (parseMethodDescriptor yX12_demandWater.desc).map (fun d => d.parameters.length) = some 1 := by decide +kernel
theorem lk_X12_134 : LinkS RX12 134 yX12_demandWater (.code yX12_demandWater cX12_demandWater 1 none) 1 := ⟨tw_1045, tw_1046, tw_72, tw_1047, yk_X12_demandWater⟩
theorem d_X12_water_0 : decode cX12_water 0 = .ok (.iload_n 1, 1) := by decide +kernel
theorem d_X12_water_1 : decode cX12_water 1 = .ok (.invokestatic 134, 3) := by decide +kernel
theorem d_X12_water_4 : decode cX12_water 4 = .ok (.aload_n 0, 1) := by decide +kernel
theorem d_X12_water_5 : decode cX12_water 5 = .ok (.getfield 40, 3) := by decide +kernel
theorem d_X12_water_8 : decode cX12_water 8 = .ok (.getfield 137, 3) := by decide +kernel
theorem d_X12_water_11 : decode cX12_water 11 = .ok (.istore_n 2, 1) := by decide +kernel
theorem d_X12_water_12 : decode cX12_water 12 = .ok (.aload_n 0, 1) := by decide +kernel
theorem d_X12_water_13 : decode cX12_water 13 = .ok (.getfield 40, 3) := by decide +kernel
theorem d_X12_water_16 : decode cX12_water 16 = .ok (.iload_n 1, 1) := by decide +kernel
theorem d_X12_water_17 : decode cX12_water 17 = .ok (.putfield 137, 3) := by decide +kernel
theorem d_X12_water_20 : decode cX12_water 20 = .ok (.iload_n 2, 1) := by decide +kernel
theorem d_X12_water_21 : decode cX12_water 21 = .ok (.ireturn, 1) := by decide +kernel
abbrev rm_X12_water : Room := { frames := 7, cells := 1, slots := 6, locals := 120 }
def w_X12_water (post : Int32 → CMu → Prop) (px : Nat → CMu → Prop) (x1 : Int32) (cm : CMu) : Prop := w_X12_demandWater (fun (u2 : CMu) => post (gI u2 382 9) (uI u2 382 9 x1)) px x1 cm
section G_X12_water
variable {p : Program} {l : Launch} {e : Env} {s : State} {m : MethodId} {args : Array Value} {below : List Frame} {meth : Method} {c : Code} {G : Gd} {ρ : Nat → Nat} {A : Nat → Prop} {mm : Nat → Nat → Int32} {oo : Nat → Int64}
set_option maxHeartbeats 4000000 in
set_option maxRecDepth 100000 in
theorem c_X12_water (hl : l.stackTraces = false) {x1 : Int32} {cm : CMu} {post : Int32 → CMu → Prop} {px : Nat → CMu → Prop} (h : w_X12_water post px x1 cm) : CT l yX12_water (.code yX12_water cX12_water 3 (some .int)) rm_X12_water 1 6 G ρ [.ref 1, .int x1] (cm, mm, oo) (PI (fun u => (u, mm, oo)) post) (PE (fun u => (u, mm, oo)) px) := by
  refine CT_of hl (by decide +kernel) rfl (Nat.le_of_ble_eq_true rfl) (lv0 := [(0, .ref 1), (1, .int x1)]) rfl (fun p e s m args below meth c A X hr hex hnm => ?_)
  unfold w_X12_water at h
  refine L_iload_n (pc := 0) X d_X12_water_0 rfl 1 rfl ?_
  refine L_callSV (pc := 1) X lk_X12_134 (c_X12_demandWater X.hst  h) rfl rfl rfl ⟨by decide, by decide⟩ ⟨by decide, by decide⟩ (Nat.zero_le _) d_X12_water_1 rfl (fun x κ1 hx => L_pass X hex hx (by decide) (by decide)) (fun u2 h => ?_)
  refine L_aload_n (pc := 4) X d_X12_water_4 rfl 0 rfl ?_
  refine gf_X12_40 (pc := 5) (b := 382) X d_X12_water_5 kd_1 rfl ?_
  refine gf_X12_137 (pc := 8) X d_X12_water_8 kd_382 ?_
  refine L_istore_n (pc := 11) (lv2 := [(2, .int (gI u2 382 9)), (0, .ref 1), (1, .int x1)]) X d_X12_water_11 rfl (by decide) rfl ?_
  refine L_aload_n (pc := 12) X d_X12_water_12 rfl 1 rfl ?_
  refine gf_X12_40 (pc := 13) (b := 382) X d_X12_water_13 kd_1 rfl ?_
  refine L_iload_n (pc := 16) X d_X12_water_16 rfl 2 rfl ?_
  refine pf_X12_137 (pc := 17) X d_X12_water_17 kd_382 ?_
  refine L_iload_n (pc := 20) X d_X12_water_20 rfl 0 rfl ?_
  exact L_iret (pc := 21) X hr d_X12_water_21 (by decide) (by decide) ⟨_, _, rfl, rfl, h⟩
end G_X12_water
theorem d_X12_look_0 : decode cX12_look 0 = .ok (.iload_n 1, 1) := by decide +kernel
theorem d_X12_look_1 : decode cX12_look 1 = .ok (.ifCond .lt 14, 3) := by decide +kernel
theorem d_X12_look_4 : decode cX12_look 4 = .ok (.iload_n 1, 1) := by decide +kernel
theorem d_X12_look_5 : decode cX12_look 5 = .ok (.aload_n 0, 1) := by decide +kernel
theorem d_X12_look_6 : decode cX12_look 6 = .ok (.getfield 40, 3) := by decide +kernel
theorem d_X12_look_9 : decode cX12_look 9 = .ok (.getfield 104, 3) := by decide +kernel
theorem d_X12_look_12 : decode cX12_look 12 = .ok (.if_icmp .lt 11, 3) := by decide +kernel
theorem d_X12_look_15 : decode cX12_look 15 = .ok (.new 94, 3) := by decide +kernel
theorem d_X12_look_18 : decode cX12_look 18 = .ok (.dup, 1) := by decide +kernel
theorem d_X12_look_19 : decode cX12_look 19 = .ok (.invokespecial 96, 3) := by decide +kernel
theorem d_X12_look_22 : decode cX12_look 22 = .ok (.athrow, 1) := by decide +kernel
theorem d_X12_look_23 : decode cX12_look 23 = .ok (.aload_n 0, 1) := by decide +kernel
theorem d_X12_look_24 : decode cX12_look 24 = .ok (.getfield 40, 3) := by decide +kernel
theorem d_X12_look_27 : decode cX12_look 27 = .ok (.getfield 140, 3) := by decide +kernel
theorem d_X12_look_30 : decode cX12_look 30 = .ok (.iload_n 1, 1) := by decide +kernel
theorem d_X12_look_31 : decode cX12_look 31 = .ok (.aaload, 1) := by decide +kernel
theorem d_X12_look_32 : decode cX12_look 32 = .ok (.astore_n 3, 1) := by decide +kernel
theorem d_X12_look_33 : decode cX12_look 33 = .ok (.iload_n 2, 1) := by decide +kernel
theorem d_X12_look_34 : decode cX12_look 34 = .ok (.tableswitch 68 0 5 #[38, 43, 48, 53, 58, 63], 38) := by decide +kernel
theorem d_X12_look_72 : decode cX12_look 72 = .ok (.aload_n 3, 1) := by decide +kernel
theorem d_X12_look_73 : decode cX12_look 73 = .ok (.getfield 144, 3) := by decide +kernel
theorem d_X12_look_76 : decode cX12_look 76 = .ok (.ireturn, 1) := by decide +kernel
theorem d_X12_look_77 : decode cX12_look 77 = .ok (.aload_n 3, 1) := by decide +kernel
theorem d_X12_look_78 : decode cX12_look 78 = .ok (.getfield 149, 3) := by decide +kernel
theorem d_X12_look_81 : decode cX12_look 81 = .ok (.ireturn, 1) := by decide +kernel
theorem d_X12_look_82 : decode cX12_look 82 = .ok (.aload_n 3, 1) := by decide +kernel
theorem d_X12_look_83 : decode cX12_look 83 = .ok (.getfield 152, 3) := by decide +kernel
theorem d_X12_look_86 : decode cX12_look 86 = .ok (.ireturn, 1) := by decide +kernel
theorem d_X12_look_87 : decode cX12_look 87 = .ok (.aload_n 3, 1) := by decide +kernel
theorem d_X12_look_88 : decode cX12_look 88 = .ok (.getfield 155, 3) := by decide +kernel
theorem d_X12_look_91 : decode cX12_look 91 = .ok (.ireturn, 1) := by decide +kernel
theorem d_X12_look_92 : decode cX12_look 92 = .ok (.aload_n 3, 1) := by decide +kernel
theorem d_X12_look_93 : decode cX12_look 93 = .ok (.getfield 158, 3) := by decide +kernel
theorem d_X12_look_96 : decode cX12_look 96 = .ok (.ireturn, 1) := by decide +kernel
theorem d_X12_look_97 : decode cX12_look 97 = .ok (.aload_n 3, 1) := by decide +kernel
theorem d_X12_look_98 : decode cX12_look 98 = .ok (.getfield 161, 3) := by decide +kernel
theorem d_X12_look_101 : decode cX12_look 101 = .ok (.ireturn, 1) := by decide +kernel
theorem d_X12_look_102 : decode cX12_look 102 = .ok (.new 164, 3) := by decide +kernel
theorem d_X12_look_105 : decode cX12_look 105 = .ok (.dup, 1) := by decide +kernel
theorem d_X12_look_106 : decode cX12_look 106 = .ok (.invokespecial 166, 3) := by decide +kernel
theorem d_X12_look_109 : decode cX12_look 109 = .ok (.athrow, 1) := by decide +kernel
abbrev rm_X12_look : Room := { frames := 6, cells := 1, slots := 6, locals := 100 }
def B_X12_look_15 (post : Int32 → CMu → Prop) (px : Nat → CMu → Prop) (cm : CMu) : Prop := px 1 cm
def w_X12_look (post : Int32 → CMu → Prop) (px : Nat → CMu → Prop) (x1 : Int32) (x2 : Int32) (cm : CMu) : Prop := (x1 < 0 → (B_X12_look_15 post px cm)) ∧ (¬ x1 < 0 → ((x1 < (gI cm 382 6) → ((vp_in x1 60) ∧ ((Int32.toInt x2 < 0 ∨ 5 < Int32.toInt x2) → (px 3 cm)) ∧ (Int32.toInt x2 = 0 → (post (gI cm (429 + Int32.toNatClampNeg x1) 0) cm)) ∧ (Int32.toInt x2 = 1 → (post (gI cm (429 + Int32.toNatClampNeg x1) 1) cm)) ∧ (Int32.toInt x2 = 2 → (post (gI cm (429 + Int32.toNatClampNeg x1) 2) cm)) ∧ (Int32.toInt x2 = 3 → (post (gI cm (429 + Int32.toNatClampNeg x1) 3) cm)) ∧ (Int32.toInt x2 = 4 → (post (gI cm (429 + Int32.toNatClampNeg x1) 4) cm)) ∧ (Int32.toInt x2 = 5 → (post (gI cm (429 + Int32.toNatClampNeg x1) 5) cm)))) ∧ (¬ x1 < (gI cm 382 6) → (B_X12_look_15 post px cm))))
section G_X12_look
variable {p : Program} {l : Launch} {e : Env} {s : State} {m : MethodId} {args : Array Value} {below : List Frame} {meth : Method} {c : Code} {G : Gd} {ρ : Nat → Nat} {A : Nat → Prop} {mm : Nat → Nat → Int32} {oo : Nat → Int64}
set_option maxHeartbeats 4000000 in
set_option maxRecDepth 100000 in
theorem T_X12_look_15 {post : Int32 → CMu → Prop} {px : Nat → CMu → Prop} (hl : l.stackTraces = false) (X : MC p l s m args meth c cX12_look 4 RX12 G ρ A) (hr : meth.sig.returnType = (some .int)) (hex : ∀ z ∈ c.exceptionTable.toList, False) : ∀ (cm : CMu), B_X12_look_15 post px cm → LW p l e rm_X12_look s m args below meth c (Qm below G ρ A (PI (fun u => (u, mm, oo)) post) (PE (fun u => (u, mm, oo)) px) args s 1 6) G ρ A 4 0 0 15 [] [] (cm, mm, oo) := by
  intro cm h
  unfold B_X12_look_15 at h
  exact L_throw1 (pc := 15) X hex d_X12_look_15 d_X12_look_18 d_X12_look_19 d_X12_look_22 (by decide) (by decide) (by decide) (by decide) (by decide) (by decide) ⟨_, rfl, h⟩
set_option maxHeartbeats 4000000 in
set_option maxRecDepth 100000 in
theorem c_X12_look (hl : l.stackTraces = false) {x1 : Int32} {x2 : Int32} {cm : CMu} {post : Int32 → CMu → Prop} {px : Nat → CMu → Prop} (h : w_X12_look post px x1 x2 cm) : CT l yX12_look (.code yX12_look cX12_look 4 (some .int)) rm_X12_look 1 6 G ρ [.ref 1, .int x1, .int x2] (cm, mm, oo) (PI (fun u => (u, mm, oo)) post) (PE (fun u => (u, mm, oo)) px) := by
  refine CT_of hl (by decide +kernel) rfl (Nat.le_of_ble_eq_true rfl) (lv0 := [(0, .ref 1), (1, .int x1), (2, .int x2)]) rfl (fun p e s m args below meth c A X hr hex hnm => ?_)
  unfold w_X12_look at h
  refine L_iload_n (pc := 0) X d_X12_look_0 rfl 1 rfl ?_
  refine L_if_lt (pc := 1) (tgt := 15) X d_X12_look_1 (by decide) (fun c1 => ?_) (fun c1 => ?_)
  · replace h := h.1 c1
    refine LW.sub [] rfl ?_
    exact T_X12_look_15 hl X hr hex   _ h
  · replace h := h.2 c1
    refine L_iload_n (pc := 4) X d_X12_look_4 rfl 1 rfl ?_
    refine L_aload_n (pc := 5) X d_X12_look_5 rfl 0 rfl ?_
    refine gf_X12_40 (pc := 6) (b := 382) X d_X12_look_6 kd_1 rfl ?_
    refine gf_X12_104 (pc := 9) X d_X12_look_9 kd_382 ?_
    refine L_icmp_lt (pc := 12) (tgt := 23) X d_X12_look_12 (by decide) (fun c12 => ?_) (fun c12 => ?_)
    · replace h := h.1 c12
      refine L_aload_n (pc := 23) X d_X12_look_23 rfl 0 rfl ?_
      refine gf_X12_40 (pc := 24) (b := 382) X d_X12_look_24 kd_1 rfl ?_
      refine gf_X12_140 (pc := 27) (b := 385) X d_X12_look_27 kd_382 rfl ?_
      refine L_iload_n (pc := 30) X d_X12_look_30 rfl 1 rfl ?_
      obtain ⟨q1, h⟩ := h
      refine L_aald24 (pc := 31) (b := 429 + Int32.toNatClampNeg x1) X d_X12_look_31 kd_385 q1 rfl ?_
      refine L_astore_n (pc := 32) (lv2 := [(3, .ref (429 + Int32.toNatClampNeg x1)), (0, .ref 1), (1, .int x1), (2, .int x2)]) X d_X12_look_32 rfl (by decide) rfl ?_
      refine L_iload_n (pc := 33) X d_X12_look_33 rfl 3 rfl ?_
      by_cases ct1 : Int32.toInt x2 < 0
      · refine L_tableOut (pc := 34) (tgt := 102) X d_X12_look_34 (Or.inl ct1) (by decide) ?_
        replace h := h.1 (Or.inl ct1)
        exact L_throw3 (pc := 102) X hex d_X12_look_102 d_X12_look_105 d_X12_look_106 d_X12_look_109 (by decide) (by decide) (by decide) (by decide) (by decide) (by decide) ⟨_, rfl, h⟩
      by_cases ct2 : 5 < Int32.toInt x2
      · refine L_tableOut (pc := 34) (tgt := 102) X d_X12_look_34 (Or.inr ct2) (by decide) ?_
        replace h := h.1 (Or.inr ct2)
        exact L_throw3 (pc := 102) X hex d_X12_look_102 d_X12_look_105 d_X12_look_106 d_X12_look_109 (by decide) (by decide) (by decide) (by decide) (by decide) (by decide) ⟨_, rfl, h⟩
      have ct3 : Int32.toInt x2 = 0 ∨ Int32.toInt x2 = 1 ∨ Int32.toInt x2 = 2 ∨ Int32.toInt x2 = 3 ∨ Int32.toInt x2 = 4 ∨ Int32.toInt x2 = 5 := by omega
      rcases ct3 with ct3 | ct3 | ct3 | ct3 | ct3 | ct3
      · refine L_tableIn (pc := 34) (tgt := 72) (off := 38) X d_X12_look_34 ct1 ct2 (by rw [ct3]; rfl) (by decide) ?_
        replace h := h.2.1 ct3
        refine L_aload_n (pc := 72) X d_X12_look_72 rfl 0 rfl ?_
        refine gf_X12_144 (pc := 73) X d_X12_look_73 (ka_24 kd_385 (vin_lt q1)) ?_
        exact L_iret (pc := 76) X hr d_X12_look_76 (by decide) (by decide) ⟨_, _, rfl, rfl, h⟩
      · refine L_tableIn (pc := 34) (tgt := 77) (off := 43) X d_X12_look_34 ct1 ct2 (by rw [ct3]; rfl) (by decide) ?_
        replace h := h.2.2.1 ct3
        refine L_aload_n (pc := 77) X d_X12_look_77 rfl 0 rfl ?_
        refine gf_X12_149 (pc := 78) X d_X12_look_78 (ka_24 kd_385 (vin_lt q1)) ?_
        exact L_iret (pc := 81) X hr d_X12_look_81 (by decide) (by decide) ⟨_, _, rfl, rfl, h⟩
      · refine L_tableIn (pc := 34) (tgt := 82) (off := 48) X d_X12_look_34 ct1 ct2 (by rw [ct3]; rfl) (by decide) ?_
        replace h := h.2.2.2.1 ct3
        refine L_aload_n (pc := 82) X d_X12_look_82 rfl 0 rfl ?_
        refine gf_X12_152 (pc := 83) X d_X12_look_83 (ka_24 kd_385 (vin_lt q1)) ?_
        exact L_iret (pc := 86) X hr d_X12_look_86 (by decide) (by decide) ⟨_, _, rfl, rfl, h⟩
      · refine L_tableIn (pc := 34) (tgt := 87) (off := 53) X d_X12_look_34 ct1 ct2 (by rw [ct3]; rfl) (by decide) ?_
        replace h := h.2.2.2.2.1 ct3
        refine L_aload_n (pc := 87) X d_X12_look_87 rfl 0 rfl ?_
        refine gf_X12_155 (pc := 88) X d_X12_look_88 (ka_24 kd_385 (vin_lt q1)) ?_
        exact L_iret (pc := 91) X hr d_X12_look_91 (by decide) (by decide) ⟨_, _, rfl, rfl, h⟩
      · refine L_tableIn (pc := 34) (tgt := 92) (off := 58) X d_X12_look_34 ct1 ct2 (by rw [ct3]; rfl) (by decide) ?_
        replace h := h.2.2.2.2.2.1 ct3
        refine L_aload_n (pc := 92) X d_X12_look_92 rfl 0 rfl ?_
        refine gf_X12_158 (pc := 93) X d_X12_look_93 (ka_24 kd_385 (vin_lt q1)) ?_
        exact L_iret (pc := 96) X hr d_X12_look_96 (by decide) (by decide) ⟨_, _, rfl, rfl, h⟩
      · refine L_tableIn (pc := 34) (tgt := 97) (off := 63) X d_X12_look_34 ct1 ct2 (by rw [ct3]; rfl) (by decide) ?_
        replace h := h.2.2.2.2.2.2 ct3
        refine L_aload_n (pc := 97) X d_X12_look_97 rfl 0 rfl ?_
        refine gf_X12_161 (pc := 98) X d_X12_look_98 (ka_24 kd_385 (vin_lt q1)) ?_
        exact L_iret (pc := 101) X hr d_X12_look_101 (by decide) (by decide) ⟨_, _, rfl, rfl, h⟩
    · replace h := h.2 c12
      refine LW.sub [] rfl ?_
      exact T_X12_look_15 hl X hr hex   _ h
end G_X12_look
theorem yk_X12_demandCamp : yX12_demandCamp.cls = RX12 ∧ yX12_demandCamp.cls ≠ "java/lang/invoke/MethodHandle" ∧ yX12_demandCamp.cls ≠ "java/lang/invoke/VarHandle" ∧ (parseMethodDescriptor yX12_demandCamp.desc).map (fun d => d.parameters.length) = some 1 := by decide +kernel
theorem lk_X12_167 : LinkV RX12 167 RX12 yX12_demandCamp (.code yX12_demandCamp cX12_demandCamp 2 none) 1 := ⟨tw_1078, tw_1080, tw_25, tw_72, tw_1081, yk_X12_demandCamp⟩
theorem d_X12_camp_0 : decode cX12_camp 0 = .ok (.aload_n 0, 1) := by decide +kernel
theorem d_X12_camp_1 : decode cX12_camp 1 = .ok (.iload_n 1, 1) := by decide +kernel
theorem d_X12_camp_2 : decode cX12_camp 2 = .ok (.invokevirtual 167, 3) := by decide +kernel
theorem d_X12_camp_5 : decode cX12_camp 5 = .ok (.aload_n 0, 1) := by decide +kernel
theorem d_X12_camp_6 : decode cX12_camp 6 = .ok (.getfield 40, 3) := by decide +kernel
theorem d_X12_camp_9 : decode cX12_camp 9 = .ok (.getfield 170, 3) := by decide +kernel
theorem d_X12_camp_12 : decode cX12_camp 12 = .ok (.iload_n 1, 1) := by decide +kernel
theorem d_X12_camp_13 : decode cX12_camp 13 = .ok (.aaload, 1) := by decide +kernel
theorem d_X12_camp_14 : decode cX12_camp 14 = .ok (.astore_n 3, 1) := by decide +kernel
theorem d_X12_camp_15 : decode cX12_camp 15 = .ok (.iload_n 2, 1) := by decide +kernel
theorem d_X12_camp_16 : decode cX12_camp 16 = .ok (.tableswitch 52 0 3 #[32, 37, 42, 47], 32) := by decide +kernel
theorem d_X12_camp_48 : decode cX12_camp 48 = .ok (.aload_n 3, 1) := by decide +kernel
theorem d_X12_camp_49 : decode cX12_camp 49 = .ok (.getfield 174, 3) := by decide +kernel
theorem d_X12_camp_52 : decode cX12_camp 52 = .ok (.ireturn, 1) := by decide +kernel
theorem d_X12_camp_53 : decode cX12_camp 53 = .ok (.aload_n 3, 1) := by decide +kernel
theorem d_X12_camp_54 : decode cX12_camp 54 = .ok (.getfield 179, 3) := by decide +kernel
theorem d_X12_camp_57 : decode cX12_camp 57 = .ok (.ireturn, 1) := by decide +kernel
theorem d_X12_camp_58 : decode cX12_camp 58 = .ok (.aload_n 3, 1) := by decide +kernel
theorem d_X12_camp_59 : decode cX12_camp 59 = .ok (.getfield 182, 3) := by decide +kernel
theorem d_X12_camp_62 : decode cX12_camp 62 = .ok (.ireturn, 1) := by decide +kernel
theorem d_X12_camp_63 : decode cX12_camp 63 = .ok (.aload_n 3, 1) := by decide +kernel
theorem d_X12_camp_64 : decode cX12_camp 64 = .ok (.getfield 185, 3) := by decide +kernel
theorem d_X12_camp_67 : decode cX12_camp 67 = .ok (.ireturn, 1) := by decide +kernel
theorem d_X12_camp_68 : decode cX12_camp 68 = .ok (.new 164, 3) := by decide +kernel
theorem d_X12_camp_71 : decode cX12_camp 71 = .ok (.dup, 1) := by decide +kernel
theorem d_X12_camp_72 : decode cX12_camp 72 = .ok (.invokespecial 166, 3) := by decide +kernel
theorem d_X12_camp_75 : decode cX12_camp 75 = .ok (.athrow, 1) := by decide +kernel
abbrev rm_X12_camp : Room := { frames := 7, cells := 2, slots := 12, locals := 121 }
def w_X12_camp (post : Int32 → CMu → Prop) (px : Nat → CMu → Prop) (x1 : Int32) (x2 : Int32) (cm : CMu) : Prop := w_X12_demandCamp (fun (u2 : CMu) => (vp_in x1 12) ∧ ((Int32.toInt x2 < 0 ∨ 3 < Int32.toInt x2) → (px 3 u2)) ∧ (Int32.toInt x2 = 0 → (post (gI u2 (405 + 2 * Int32.toNatClampNeg x1) 0) u2)) ∧ (Int32.toInt x2 = 1 → (post (gI u2 (405 + 2 * Int32.toNatClampNeg x1) 1) u2)) ∧ (Int32.toInt x2 = 2 → (post (gI u2 (405 + 2 * Int32.toNatClampNeg x1) 2) u2)) ∧ (Int32.toInt x2 = 3 → (post (gI u2 (405 + 2 * Int32.toNatClampNeg x1) 3) u2))) px x1 cm
section G_X12_camp
variable {p : Program} {l : Launch} {e : Env} {s : State} {m : MethodId} {args : Array Value} {below : List Frame} {meth : Method} {c : Code} {G : Gd} {ρ : Nat → Nat} {A : Nat → Prop} {mm : Nat → Nat → Int32} {oo : Nat → Int64}
set_option maxHeartbeats 4000000 in
set_option maxRecDepth 100000 in
theorem c_X12_camp (hl : l.stackTraces = false) {x1 : Int32} {x2 : Int32} {cm : CMu} {post : Int32 → CMu → Prop} {px : Nat → CMu → Prop} (h : w_X12_camp post px x1 x2 cm) : CT l yX12_camp (.code yX12_camp cX12_camp 4 (some .int)) rm_X12_camp 2 12 G ρ [.ref 1, .int x1, .int x2] (cm, mm, oo) (PI (fun u => (u, mm, oo)) post) (PE (fun u => (u, mm, oo)) px) := by
  refine CT_of hl (by decide +kernel) rfl (Nat.le_of_ble_eq_true rfl) (lv0 := [(0, .ref 1), (1, .int x1), (2, .int x2)]) rfl (fun p e s m args below meth c A X hr hex hnm => ?_)
  unfold w_X12_camp at h
  refine L_aload_n (pc := 0) X d_X12_camp_0 rfl 0 rfl ?_
  refine L_iload_n (pc := 1) X d_X12_camp_1 rfl 1 rfl ?_
  refine L_callVV (pc := 2) X lk_X12_167 (c_X12_demandCamp X.hst  h) rfl rfl kd_1 (by decide) rfl rfl ⟨by decide, by decide⟩ ⟨by decide, by decide⟩ (Nat.zero_le _) d_X12_camp_2 rfl (fun x κ1 hx => L_pass X hex hx (by decide) (by decide)) (fun u2 h => ?_)
  refine L_aload_n (pc := 5) X d_X12_camp_5 rfl 0 rfl ?_
  refine gf_X12_40 (pc := 6) (b := 382) X d_X12_camp_6 kd_1 rfl ?_
  refine gf_X12_170 (pc := 9) (b := 383) X d_X12_camp_9 kd_382 rfl ?_
  refine L_iload_n (pc := 12) X d_X12_camp_12 rfl 1 rfl ?_
  obtain ⟨q3, h⟩ := h
  refine L_aald22 (pc := 13) (b := 405 + 2 * Int32.toNatClampNeg x1) X d_X12_camp_13 kd_383 q3 rfl ?_
  refine L_astore_n (pc := 14) (lv2 := [(3, .ref (405 + 2 * Int32.toNatClampNeg x1)), (0, .ref 1), (1, .int x1), (2, .int x2)]) X d_X12_camp_14 rfl (by decide) rfl ?_
  refine L_iload_n (pc := 15) X d_X12_camp_15 rfl 3 rfl ?_
  by_cases ct1 : Int32.toInt x2 < 0
  · refine L_tableOut (pc := 16) (tgt := 68) X d_X12_camp_16 (Or.inl ct1) (by decide) ?_
    replace h := h.1 (Or.inl ct1)
    exact L_throw3 (pc := 68) X hex d_X12_camp_68 d_X12_camp_71 d_X12_camp_72 d_X12_camp_75 (by decide) (by decide) (by decide) (by decide) (by decide) (by decide) ⟨_, rfl, h⟩
  by_cases ct2 : 3 < Int32.toInt x2
  · refine L_tableOut (pc := 16) (tgt := 68) X d_X12_camp_16 (Or.inr ct2) (by decide) ?_
    replace h := h.1 (Or.inr ct2)
    exact L_throw3 (pc := 68) X hex d_X12_camp_68 d_X12_camp_71 d_X12_camp_72 d_X12_camp_75 (by decide) (by decide) (by decide) (by decide) (by decide) (by decide) ⟨_, rfl, h⟩
  have ct3 : Int32.toInt x2 = 0 ∨ Int32.toInt x2 = 1 ∨ Int32.toInt x2 = 2 ∨ Int32.toInt x2 = 3 := by omega
  rcases ct3 with ct3 | ct3 | ct3 | ct3
  · refine L_tableIn (pc := 16) (tgt := 48) (off := 32) X d_X12_camp_16 ct1 ct2 (by rw [ct3]; rfl) (by decide) ?_
    replace h := h.2.1 ct3
    refine L_aload_n (pc := 48) X d_X12_camp_48 rfl 0 rfl ?_
    refine gf_X12_174 (pc := 49) X d_X12_camp_49 (ka_22 kd_383 (vin_lt q3)) ?_
    exact L_iret (pc := 52) X hr d_X12_camp_52 (by decide) (by decide) ⟨_, _, rfl, rfl, h⟩
  · refine L_tableIn (pc := 16) (tgt := 53) (off := 37) X d_X12_camp_16 ct1 ct2 (by rw [ct3]; rfl) (by decide) ?_
    replace h := h.2.2.1 ct3
    refine L_aload_n (pc := 53) X d_X12_camp_53 rfl 0 rfl ?_
    refine gf_X12_179 (pc := 54) X d_X12_camp_54 (ka_22 kd_383 (vin_lt q3)) ?_
    exact L_iret (pc := 57) X hr d_X12_camp_57 (by decide) (by decide) ⟨_, _, rfl, rfl, h⟩
  · refine L_tableIn (pc := 16) (tgt := 58) (off := 42) X d_X12_camp_16 ct1 ct2 (by rw [ct3]; rfl) (by decide) ?_
    replace h := h.2.2.2.1 ct3
    refine L_aload_n (pc := 58) X d_X12_camp_58 rfl 0 rfl ?_
    refine gf_X12_182 (pc := 59) X d_X12_camp_59 (ka_22 kd_383 (vin_lt q3)) ?_
    exact L_iret (pc := 62) X hr d_X12_camp_62 (by decide) (by decide) ⟨_, _, rfl, rfl, h⟩
  · refine L_tableIn (pc := 16) (tgt := 63) (off := 47) X d_X12_camp_16 ct1 ct2 (by rw [ct3]; rfl) (by decide) ?_
    replace h := h.2.2.2.2 ct3
    refine L_aload_n (pc := 63) X d_X12_camp_63 rfl 0 rfl ?_
    refine gf_X12_185 (pc := 64) X d_X12_camp_64 (ka_22 kd_383 (vin_lt q3)) ?_
    exact L_iret (pc := 67) X hr d_X12_camp_67 (by decide) (by decide) ⟨_, _, rfl, rfl, h⟩
end G_X12_camp
theorem yk_X12_demandReach : yX12_demandReach.cls = RX12 ∧ yX12_demandReach.cls ≠ "java/lang/invoke/MethodHandle" ∧ yX12_demandReach.cls ≠ "java/lang/invoke/VarHandle" ∧ (parseMethodDescriptor yX12_demandReach.desc).map (fun d => d.parameters.length) = some 1 := by decide +kernel
theorem lk_X12_127 : LinkV RX12 127 RX12 yX12_demandReach (.code yX12_demandReach cX12_demandReach 2 none) 1 := ⟨tw_1030, tw_1032, tw_24, tw_72, tw_1033, yk_X12_demandReach⟩
theorem d_X12_reach_0 : decode cX12_reach 0 = .ok (.aload_n 0, 1) := by decide +kernel
theorem d_X12_reach_1 : decode cX12_reach 1 = .ok (.iload_n 1, 1) := by decide +kernel
theorem d_X12_reach_2 : decode cX12_reach 2 = .ok (.invokevirtual 127, 3) := by decide +kernel
theorem d_X12_reach_5 : decode cX12_reach 5 = .ok (.aload_n 0, 1) := by decide +kernel
theorem d_X12_reach_6 : decode cX12_reach 6 = .ok (.getfield 40, 3) := by decide +kernel
theorem d_X12_reach_9 : decode cX12_reach 9 = .ok (.getfield 188, 3) := by decide +kernel
theorem d_X12_reach_12 : decode cX12_reach 12 = .ok (.iload_n 1, 1) := by decide +kernel
theorem d_X12_reach_13 : decode cX12_reach 13 = .ok (.aaload, 1) := by decide +kernel
theorem d_X12_reach_14 : decode cX12_reach 14 = .ok (.astore_n 3, 1) := by decide +kernel
theorem d_X12_reach_15 : decode cX12_reach 15 = .ok (.iload_n 2, 1) := by decide +kernel
theorem d_X12_reach_16 : decode cX12_reach 16 = .ok (.tableswitch 52 0 3 #[32, 37, 42, 47], 32) := by decide +kernel
theorem d_X12_reach_48 : decode cX12_reach 48 = .ok (.aload_n 3, 1) := by decide +kernel
theorem d_X12_reach_49 : decode cX12_reach 49 = .ok (.getfield 192, 3) := by decide +kernel
theorem d_X12_reach_52 : decode cX12_reach 52 = .ok (.ireturn, 1) := by decide +kernel
theorem d_X12_reach_53 : decode cX12_reach 53 = .ok (.aload_n 3, 1) := by decide +kernel
theorem d_X12_reach_54 : decode cX12_reach 54 = .ok (.getfield 197, 3) := by decide +kernel
theorem d_X12_reach_57 : decode cX12_reach 57 = .ok (.ireturn, 1) := by decide +kernel
theorem d_X12_reach_58 : decode cX12_reach 58 = .ok (.aload_n 3, 1) := by decide +kernel
theorem d_X12_reach_59 : decode cX12_reach 59 = .ok (.getfield 200, 3) := by decide +kernel
theorem d_X12_reach_62 : decode cX12_reach 62 = .ok (.ireturn, 1) := by decide +kernel
theorem d_X12_reach_63 : decode cX12_reach 63 = .ok (.aload_n 3, 1) := by decide +kernel
theorem d_X12_reach_64 : decode cX12_reach 64 = .ok (.getfield 203, 3) := by decide +kernel
theorem d_X12_reach_67 : decode cX12_reach 67 = .ok (.ireturn, 1) := by decide +kernel
theorem d_X12_reach_68 : decode cX12_reach 68 = .ok (.new 164, 3) := by decide +kernel
theorem d_X12_reach_71 : decode cX12_reach 71 = .ok (.dup, 1) := by decide +kernel
theorem d_X12_reach_72 : decode cX12_reach 72 = .ok (.invokespecial 166, 3) := by decide +kernel
theorem d_X12_reach_75 : decode cX12_reach 75 = .ok (.athrow, 1) := by decide +kernel
abbrev rm_X12_reach : Room := { frames := 7, cells := 2, slots := 12, locals := 121 }
def w_X12_reach (post : Int32 → CMu → Prop) (px : Nat → CMu → Prop) (x1 : Int32) (x2 : Int32) (cm : CMu) : Prop := w_X12_demandReach (fun (u2 : CMu) => (vp_in x1 12) ∧ ((Int32.toInt x2 < 0 ∨ 3 < Int32.toInt x2) → (px 3 u2)) ∧ (Int32.toInt x2 = 0 → (post (gI u2 (406 + 2 * Int32.toNatClampNeg x1) 0) u2)) ∧ (Int32.toInt x2 = 1 → (post (gI u2 (406 + 2 * Int32.toNatClampNeg x1) 1) u2)) ∧ (Int32.toInt x2 = 2 → (post (gI u2 (406 + 2 * Int32.toNatClampNeg x1) 2) u2)) ∧ (Int32.toInt x2 = 3 → (post (gI u2 (406 + 2 * Int32.toNatClampNeg x1) 3) u2))) px x1 cm
section G_X12_reach
variable {p : Program} {l : Launch} {e : Env} {s : State} {m : MethodId} {args : Array Value} {below : List Frame} {meth : Method} {c : Code} {G : Gd} {ρ : Nat → Nat} {A : Nat → Prop} {mm : Nat → Nat → Int32} {oo : Nat → Int64}
set_option maxHeartbeats 4000000 in
set_option maxRecDepth 100000 in
theorem c_X12_reach (hl : l.stackTraces = false) {x1 : Int32} {x2 : Int32} {cm : CMu} {post : Int32 → CMu → Prop} {px : Nat → CMu → Prop} (h : w_X12_reach post px x1 x2 cm) : CT l yX12_reach (.code yX12_reach cX12_reach 4 (some .int)) rm_X12_reach 2 12 G ρ [.ref 1, .int x1, .int x2] (cm, mm, oo) (PI (fun u => (u, mm, oo)) post) (PE (fun u => (u, mm, oo)) px) := by
  refine CT_of hl (by decide +kernel) rfl (Nat.le_of_ble_eq_true rfl) (lv0 := [(0, .ref 1), (1, .int x1), (2, .int x2)]) rfl (fun p e s m args below meth c A X hr hex hnm => ?_)
  unfold w_X12_reach at h
  refine L_aload_n (pc := 0) X d_X12_reach_0 rfl 0 rfl ?_
  refine L_iload_n (pc := 1) X d_X12_reach_1 rfl 1 rfl ?_
  refine L_callVV (pc := 2) X lk_X12_127 (c_X12_demandReach X.hst  h) rfl rfl kd_1 (by decide) rfl rfl ⟨by decide, by decide⟩ ⟨by decide, by decide⟩ (Nat.zero_le _) d_X12_reach_2 rfl (fun x κ1 hx => L_pass X hex hx (by decide) (by decide)) (fun u2 h => ?_)
  refine L_aload_n (pc := 5) X d_X12_reach_5 rfl 0 rfl ?_
  refine gf_X12_40 (pc := 6) (b := 382) X d_X12_reach_6 kd_1 rfl ?_
  refine gf_X12_188 (pc := 9) (b := 384) X d_X12_reach_9 kd_382 rfl ?_
  refine L_iload_n (pc := 12) X d_X12_reach_12 rfl 1 rfl ?_
  obtain ⟨q3, h⟩ := h
  refine L_aald23 (pc := 13) (b := 406 + 2 * Int32.toNatClampNeg x1) X d_X12_reach_13 kd_384 q3 rfl ?_
  refine L_astore_n (pc := 14) (lv2 := [(3, .ref (406 + 2 * Int32.toNatClampNeg x1)), (0, .ref 1), (1, .int x1), (2, .int x2)]) X d_X12_reach_14 rfl (by decide) rfl ?_
  refine L_iload_n (pc := 15) X d_X12_reach_15 rfl 3 rfl ?_
  by_cases ct1 : Int32.toInt x2 < 0
  · refine L_tableOut (pc := 16) (tgt := 68) X d_X12_reach_16 (Or.inl ct1) (by decide) ?_
    replace h := h.1 (Or.inl ct1)
    exact L_throw3 (pc := 68) X hex d_X12_reach_68 d_X12_reach_71 d_X12_reach_72 d_X12_reach_75 (by decide) (by decide) (by decide) (by decide) (by decide) (by decide) ⟨_, rfl, h⟩
  by_cases ct2 : 3 < Int32.toInt x2
  · refine L_tableOut (pc := 16) (tgt := 68) X d_X12_reach_16 (Or.inr ct2) (by decide) ?_
    replace h := h.1 (Or.inr ct2)
    exact L_throw3 (pc := 68) X hex d_X12_reach_68 d_X12_reach_71 d_X12_reach_72 d_X12_reach_75 (by decide) (by decide) (by decide) (by decide) (by decide) (by decide) ⟨_, rfl, h⟩
  have ct3 : Int32.toInt x2 = 0 ∨ Int32.toInt x2 = 1 ∨ Int32.toInt x2 = 2 ∨ Int32.toInt x2 = 3 := by omega
  rcases ct3 with ct3 | ct3 | ct3 | ct3
  · refine L_tableIn (pc := 16) (tgt := 48) (off := 32) X d_X12_reach_16 ct1 ct2 (by rw [ct3]; rfl) (by decide) ?_
    replace h := h.2.1 ct3
    refine L_aload_n (pc := 48) X d_X12_reach_48 rfl 0 rfl ?_
    refine gf_X12_192 (pc := 49) X d_X12_reach_49 (ka_23 kd_384 (vin_lt q3)) ?_
    exact L_iret (pc := 52) X hr d_X12_reach_52 (by decide) (by decide) ⟨_, _, rfl, rfl, h⟩
  · refine L_tableIn (pc := 16) (tgt := 53) (off := 37) X d_X12_reach_16 ct1 ct2 (by rw [ct3]; rfl) (by decide) ?_
    replace h := h.2.2.1 ct3
    refine L_aload_n (pc := 53) X d_X12_reach_53 rfl 0 rfl ?_
    refine gf_X12_197 (pc := 54) X d_X12_reach_54 (ka_23 kd_384 (vin_lt q3)) ?_
    exact L_iret (pc := 57) X hr d_X12_reach_57 (by decide) (by decide) ⟨_, _, rfl, rfl, h⟩
  · refine L_tableIn (pc := 16) (tgt := 58) (off := 42) X d_X12_reach_16 ct1 ct2 (by rw [ct3]; rfl) (by decide) ?_
    replace h := h.2.2.2.1 ct3
    refine L_aload_n (pc := 58) X d_X12_reach_58 rfl 0 rfl ?_
    refine gf_X12_200 (pc := 59) X d_X12_reach_59 (ka_23 kd_384 (vin_lt q3)) ?_
    exact L_iret (pc := 62) X hr d_X12_reach_62 (by decide) (by decide) ⟨_, _, rfl, rfl, h⟩
  · refine L_tableIn (pc := 16) (tgt := 63) (off := 47) X d_X12_reach_16 ct1 ct2 (by rw [ct3]; rfl) (by decide) ?_
    replace h := h.2.2.2.2 ct3
    refine L_aload_n (pc := 63) X d_X12_reach_63 rfl 0 rfl ?_
    refine gf_X12_203 (pc := 64) X d_X12_reach_64 (ka_23 kd_384 (vin_lt q3)) ?_
    exact L_iret (pc := 67) X hr d_X12_reach_67 (by decide) (by decide) ⟨_, _, rfl, rfl, h⟩
end G_X12_reach
theorem d_X12_out_0 : decode cX12_out 0 = .ok (.iload_n 1, 1) := by decide +kernel
theorem d_X12_out_1 : decode cX12_out 1 = .ok (.ifCond .lt 26, 3) := by decide +kernel
theorem d_X12_out_4 : decode cX12_out 4 = .ok (.iload_n 1, 1) := by decide +kernel
theorem d_X12_out_5 : decode cX12_out 5 = .ok (.aload_n 0, 1) := by decide +kernel
theorem d_X12_out_6 : decode cX12_out 6 = .ok (.getfield 40, 3) := by decide +kernel
theorem d_X12_out_9 : decode cX12_out 9 = .ok (.getfield 120, 3) := by decide +kernel
theorem d_X12_out_12 : decode cX12_out 12 = .ok (.if_icmp .ge 15, 3) := by decide +kernel
theorem d_X12_out_15 : decode cX12_out 15 = .ok (.aload_n 0, 1) := by decide +kernel
theorem d_X12_out_16 : decode cX12_out 16 = .ok (.getfield 40, 3) := by decide +kernel
theorem d_X12_out_19 : decode cX12_out 19 = .ok (.getfield 206, 3) := by decide +kernel
theorem d_X12_out_22 : decode cX12_out 22 = .ok (.iload_n 1, 1) := by decide +kernel
theorem d_X12_out_23 : decode cX12_out 23 = .ok (.iaload, 1) := by decide +kernel
theorem d_X12_out_24 : decode cX12_out 24 = .ok (.goto 4, 3) := by decide +kernel
theorem d_X12_out_27 : decode cX12_out 27 = .ok (.iconst (-1), 1) := by decide +kernel
theorem d_X12_out_28 : decode cX12_out 28 = .ok (.ireturn, 1) := by decide +kernel
abbrev rm_X12_out : Room := { frames := 0, cells := 0, slots := 0, locals := 0 }
def w_X12_out (post : Int32 → CMu → Prop) (x1 : Int32) (cm : CMu) : Prop := (x1 < 0 → (post (-1) cm)) ∧ (¬ x1 < 0 → (((gI cm 382 7) ≤ x1 → (post (-1) cm)) ∧ (¬ (gI cm 382 7) ≤ x1 → ((vp_in x1 60) ∧ post (gI cm 386 (Int32.toNatClampNeg x1)) cm))))
section G_X12_out
variable {p : Program} {l : Launch} {e : Env} {s : State} {m : MethodId} {args : Array Value} {below : List Frame} {meth : Method} {c : Code} {G : Gd} {ρ : Nat → Nat} {A : Nat → Prop} {mm : Nat → Nat → Int32} {oo : Nat → Int64}
set_option maxHeartbeats 4000000 in
set_option maxRecDepth 100000 in
theorem c_X12_out (hl : l.stackTraces = false) {x1 : Int32} {cm : CMu} {post : Int32 → CMu → Prop} (h : w_X12_out post x1 cm) : CT l yX12_out (.code yX12_out cX12_out 2 (some .int)) rm_X12_out 0 0 G ρ [.ref 1, .int x1] (cm, mm, oo) (PI (fun u => (u, mm, oo)) post) noX := by
  refine CT_of hl (by decide +kernel) rfl (Nat.le_of_ble_eq_true rfl) (lv0 := [(0, .ref 1), (1, .int x1)]) rfl (fun p e s m args below meth c A X hr hex hnm => ?_)
  unfold w_X12_out at h
  refine L_iload_n (pc := 0) X d_X12_out_0 rfl 1 rfl ?_
  refine L_if_lt (pc := 1) (tgt := 27) X d_X12_out_1 (by decide) (fun c1 => ?_) (fun c1 => ?_)
  · replace h := h.1 c1
    refine L_iconst (pc := 27) (v := (-1)) X d_X12_out_27 (by decide) ?_
    exact L_iret (pc := 28) X hr d_X12_out_28 (by decide) (by decide) ⟨_, _, rfl, rfl, h⟩
  · replace h := h.2 c1
    refine L_iload_n (pc := 4) X d_X12_out_4 rfl 1 rfl ?_
    refine L_aload_n (pc := 5) X d_X12_out_5 rfl 0 rfl ?_
    refine gf_X12_40 (pc := 6) (b := 382) X d_X12_out_6 kd_1 rfl ?_
    refine gf_X12_120 (pc := 9) X d_X12_out_9 kd_382 ?_
    refine L_icmp_ge (pc := 12) (tgt := 27) X d_X12_out_12 (by decide) (fun c12 => ?_) (fun c12 => ?_)
    · replace h := h.1 c12
      refine L_iconst (pc := 27) (v := (-1)) X d_X12_out_27 (by decide) ?_
      exact L_iret (pc := 28) X hr d_X12_out_28 (by decide) (by decide) ⟨_, _, rfl, rfl, h⟩
    · replace h := h.2 c12
      refine L_aload_n (pc := 15) X d_X12_out_15 rfl 0 rfl ?_
      refine gf_X12_40 (pc := 16) (b := 382) X d_X12_out_16 kd_1 rfl ?_
      refine gf_X12_206 (pc := 19) (b := 386) X d_X12_out_19 kd_382 rfl ?_
      refine L_iload_n (pc := 22) X d_X12_out_22 rfl 1 rfl ?_
      obtain ⟨q1, h⟩ := h
      refine L_iald (pc := 23) X d_X12_out_23 kd_386 q1 ?_
      refine L_goto (pc := 24) (tgt := 28) X d_X12_out_24 (by decide) ?_
      exact L_iret (pc := 28) X hr d_X12_out_28 (by decide) (by decide) ⟨_, _, rfl, rfl, h⟩
end G_X12_out
theorem yk_X12_demandWeight : yX12_demandWeight.cls ≠ "java/lang/invoke/MethodHandle" ∧ yX12_demandWeight.cls ≠ "java/lang/invoke/VarHandle" ∧ (parseMethodDescriptor yX12_demandWeight.desc).map (fun d => d.parameters.length) = some 1 := by decide +kernel
theorem lk_X12_97 : LinkS RX12 97 yX12_demandWeight (.code yX12_demandWeight cX12_demandWeight 1 none) 1 := ⟨tw_842, tw_843, tw_72, tw_844, yk_X12_demandWeight⟩
theorem yk_X12_demandWay : yX12_demandWay.cls = RX12 ∧ yX12_demandWay.cls ≠ "java/lang/invoke/MethodHandle" ∧ yX12_demandWay.cls ≠ "java/lang/invoke/VarHandle" ∧ (parseMethodDescriptor yX12_demandWay.desc).map (fun d => d.parameters.length) = some 2 := by decide +kernel
theorem lk_X12_209 : LinkV RX12 209 RX12 yX12_demandWay (.code yX12_demandWay cX12_demandWay 3 none) 2 := ⟨tw_1096, tw_1098, tw_26, tw_72, tw_1099, yk_X12_demandWay⟩
theorem yk_X4_lengthBetween : yX4_lengthBetween.cls = RX4 ∧ yX4_lengthBetween.cls ≠ "java/lang/invoke/MethodHandle" ∧ yX4_lengthBetween.cls ≠ "java/lang/invoke/VarHandle" ∧ (parseMethodDescriptor yX4_lengthBetween.desc).map (fun d => d.parameters.length) = some 2 := by decide +kernel
theorem lk_X12_213 : LinkV RX12 213 RX4 yX4_lengthBetween (.code yX4_lengthBetween cX4_lengthBetween 5 (some .int)) 2 := ⟨tw_1104, tw_1105, tw_1106, tw_78, tw_1107, yk_X4_lengthBetween⟩
theorem yk_X12_minutesFor : yX12_minutesFor.cls ≠ "java/lang/invoke/MethodHandle" ∧ yX12_minutesFor.cls ≠ "java/lang/invoke/VarHandle" ∧ (parseMethodDescriptor yX12_minutesFor.desc).map (fun d => d.parameters.length) = some 3 := by decide +kernel
theorem lk_X12_217 : LinkS RX12 217 yX12_minutesFor (.code yX12_minutesFor cX12_minutesFor 3 (some .int)) 3 := ⟨tw_1109, tw_1016, tw_72, tw_1017, yk_X12_minutesFor⟩
theorem d_X12_time_0 : decode cX12_time 0 = .ok (.aload_n 0, 1) := by decide +kernel
theorem d_X12_time_1 : decode cX12_time 1 = .ok (.iload_n 1, 1) := by decide +kernel
theorem d_X12_time_2 : decode cX12_time 2 = .ok (.iload_n 2, 1) := by decide +kernel
theorem d_X12_time_3 : decode cX12_time 3 = .ok (.invokevirtual 209, 3) := by decide +kernel
theorem d_X12_time_6 : decode cX12_time 6 = .ok (.iload_n 3, 1) := by decide +kernel
theorem d_X12_time_7 : decode cX12_time 7 = .ok (.invokestatic 97, 3) := by decide +kernel
theorem d_X12_time_10 : decode cX12_time 10 = .ok (.iload 4, 2) := by decide +kernel
theorem d_X12_time_12 : decode cX12_time 12 = .ok (.invokestatic 134, 3) := by decide +kernel
theorem d_X12_time_15 : decode cX12_time 15 = .ok (.aload_n 0, 1) := by decide +kernel
theorem d_X12_time_16 : decode cX12_time 16 = .ok (.getfield 40, 3) := by decide +kernel
theorem d_X12_time_19 : decode cX12_time 19 = .ok (.iload_n 1, 1) := by decide +kernel
theorem d_X12_time_20 : decode cX12_time 20 = .ok (.iload_n 2, 1) := by decide +kernel
theorem d_X12_time_21 : decode cX12_time 21 = .ok (.invokevirtual 213, 3) := by decide +kernel
theorem d_X12_time_24 : decode cX12_time 24 = .ok (.iload_n 3, 1) := by decide +kernel
theorem d_X12_time_25 : decode cX12_time 25 = .ok (.iload 4, 2) := by decide +kernel
theorem d_X12_time_27 : decode cX12_time 27 = .ok (.invokestatic 217, 3) := by decide +kernel
theorem d_X12_time_30 : decode cX12_time 30 = .ok (.ireturn, 1) := by decide +kernel
abbrev rm_X12_time : Room := { frames := 8, cells := 5, slots := 30, locals := 143 }
def w_X12_time (post : Int32 → CMu → Prop) (px : Nat → CMu → Prop) (x1 : Int32) (x2 : Int32) (x3 : Int32) (x4 : Int32) (cm : CMu) : Prop := w_X12_demandWay (fun (u2 : CMu) => w_X12_demandWeight (fun (u4 : CMu) => w_X12_demandWater (fun (u6 : CMu) => w_X4_lengthBetween (fun (r7 : Int32) (u8 : CMu) => w_X12_minutesFor (fun (r9 : Int32) (u10 : CMu) => post r9 u10) r7 x3 x4 u8) 382 x1 x2 u6) px x4 u4) px x3 u2) px x1 x2 cm
section G_X12_time
variable {p : Program} {l : Launch} {e : Env} {s : State} {m : MethodId} {args : Array Value} {below : List Frame} {meth : Method} {c : Code} {G : Gd} {ρ : Nat → Nat} {A : Nat → Prop} {mm : Nat → Nat → Int32} {oo : Nat → Int64}
set_option maxHeartbeats 4000000 in
set_option maxRecDepth 100000 in
theorem c_X12_time (hl : l.stackTraces = false) {x1 : Int32} {x2 : Int32} {x3 : Int32} {x4 : Int32} {cm : CMu} {post : Int32 → CMu → Prop} {px : Nat → CMu → Prop} (h : w_X12_time post px x1 x2 x3 x4 cm) : CT l yX12_time (.code yX12_time cX12_time 5 (some .int)) rm_X12_time 5 30 G ρ [.ref 1, .int x1, .int x2, .int x3, .int x4] (cm, mm, oo) (PI (fun u => (u, mm, oo)) post) (PE (fun u => (u, mm, oo)) px) := by
  refine CT_of hl (by decide +kernel) rfl (Nat.le_of_ble_eq_true rfl) (lv0 := [(0, .ref 1), (1, .int x1), (2, .int x2), (3, .int x3), (4, .int x4)]) rfl (fun p e s m args below meth c A X hr hex hnm => ?_)
  unfold w_X12_time at h
  refine L_aload_n (pc := 0) X d_X12_time_0 rfl 0 rfl ?_
  refine L_iload_n (pc := 1) X d_X12_time_1 rfl 1 rfl ?_
  refine L_iload_n (pc := 2) X d_X12_time_2 rfl 2 rfl ?_
  refine L_callVV (pc := 3) X lk_X12_209 (c_X12_demandWay X.hst  h) rfl rfl kd_1 (by decide) rfl rfl ⟨by decide, by decide⟩ ⟨by decide, by decide⟩ (Nat.zero_le _) d_X12_time_3 rfl (fun x κ1 hx => L_pass X hex hx (by decide) (by decide)) (fun u2 h => ?_)
  refine L_iload_n (pc := 6) X d_X12_time_6 rfl 3 rfl ?_
  refine L_callSV (pc := 7) X lk_X12_97 (c_X12_demandWeight X.hst  h) rfl rfl rfl ⟨by decide, by decide⟩ ⟨by decide, by decide⟩ (Nat.zero_le _) d_X12_time_7 rfl (fun x κ1 hx => L_pass X hex hx (by decide) (by decide)) (fun u4 h => ?_)
  refine L_iload (pc := 10) X d_X12_time_10 4 rfl ?_
  refine L_callSV (pc := 12) X lk_X12_134 (c_X12_demandWater X.hst  h) rfl rfl rfl ⟨by decide, by decide⟩ ⟨by decide, by decide⟩ (Nat.zero_le _) d_X12_time_12 rfl (fun x κ1 hx => L_pass X hex hx (by decide) (by decide)) (fun u6 h => ?_)
  refine L_aload_n (pc := 15) X d_X12_time_15 rfl 0 rfl ?_
  refine gf_X12_40 (pc := 16) (b := 382) X d_X12_time_16 kd_1 rfl ?_
  refine L_iload_n (pc := 19) X d_X12_time_19 rfl 1 rfl ?_
  refine L_iload_n (pc := 20) X d_X12_time_20 rfl 2 rfl ?_
  refine L_callVI (pc := 21) X lk_X12_213 (c_X4_lengthBetween X.hst kd_382 h) rfl rfl kd_382 (by decide) rfl rfl ⟨by decide, by decide⟩ ⟨by decide, by decide⟩ (Nat.zero_le _) d_X12_time_21 rfl (fun x κ1 hx => L_nox hx) (fun r7 u8 h => ?_)
  refine L_iload_n (pc := 24) X d_X12_time_24 rfl 3 rfl ?_
  refine L_iload (pc := 25) X d_X12_time_25 4 rfl ?_
  refine L_callSI (pc := 27) X lk_X12_217 (c_X12_minutesFor X.hst  h) rfl rfl rfl ⟨by decide, by decide⟩ ⟨by decide, by decide⟩ (Nat.zero_le _) d_X12_time_27 rfl (fun x κ1 hx => L_nox hx) (fun r9 u10 h => ?_)
  exact L_iret (pc := 30) X hr d_X12_time_30 (by decide) (by decide) ⟨_, _, rfl, rfl, h⟩
end G_X12_time
theorem d_X12_waits_0 : decode cX12_waits 0 = .ok (.aload_n 0, 1) := by decide +kernel
theorem d_X12_waits_1 : decode cX12_waits 1 = .ok (.iload_n 1, 1) := by decide +kernel
theorem d_X12_waits_2 : decode cX12_waits 2 = .ok (.invokevirtual 221, 3) := by decide +kernel
theorem d_X12_waits_5 : decode cX12_waits 5 = .ok (.iload_n 2, 1) := by decide +kernel
theorem d_X12_waits_6 : decode cX12_waits 6 = .ok (.invokestatic 97, 3) := by decide +kernel
theorem d_X12_waits_9 : decode cX12_waits 9 = .ok (.iload_n 3, 1) := by decide +kernel
theorem d_X12_waits_10 : decode cX12_waits 10 = .ok (.invokestatic 97, 3) := by decide +kernel
theorem d_X12_waits_13 : decode cX12_waits 13 = .ok (.iload 4, 2) := by decide +kernel
theorem d_X12_waits_15 : decode cX12_waits 15 = .ok (.invokestatic 134, 3) := by decide +kernel
theorem d_X12_waits_18 : decode cX12_waits 18 = .ok (.iload 5, 2) := by decide +kernel
theorem d_X12_waits_20 : decode cX12_waits 20 = .ok (.invokestatic 134, 3) := by decide +kernel
theorem d_X12_waits_23 : decode cX12_waits 23 = .ok (.iload 4, 2) := by decide +kernel
theorem d_X12_waits_25 : decode cX12_waits 25 = .ok (.iload 5, 2) := by decide +kernel
theorem d_X12_waits_27 : decode cX12_waits 27 = .ok (.if_icmp .le 11, 3) := by decide +kernel
theorem d_X12_waits_30 : decode cX12_waits 30 = .ok (.new 82, 3) := by decide +kernel
theorem d_X12_waits_33 : decode cX12_waits 33 = .ok (.dup, 1) := by decide +kernel
theorem d_X12_waits_34 : decode cX12_waits 34 = .ok (.invokespecial 84, 3) := by decide +kernel
theorem d_X12_waits_37 : decode cX12_waits 37 = .ok (.athrow, 1) := by decide +kernel
theorem d_X12_waits_38 : decode cX12_waits 38 = .ok (.aload_n 0, 1) := by decide +kernel
theorem d_X12_waits_39 : decode cX12_waits 39 = .ok (.getfield 40, 3) := by decide +kernel
theorem d_X12_waits_42 : decode cX12_waits 42 = .ok (.iconst 0, 1) := by decide +kernel
theorem d_X12_waits_43 : decode cX12_waits 43 = .ok (.iload_n 1, 1) := by decide +kernel
theorem d_X12_waits_44 : decode cX12_waits 44 = .ok (.invokevirtual 213, 3) := by decide +kernel
theorem d_X12_waits_47 : decode cX12_waits 47 = .ok (.istore 6, 2) := by decide +kernel
theorem d_X12_waits_49 : decode cX12_waits 49 = .ok (.iconst 0, 1) := by decide +kernel
theorem d_X12_waits_50 : decode cX12_waits 50 = .ok (.istore 7, 2) := by decide +kernel
theorem d_X12_waits_52 : decode cX12_waits 52 = .ok (.iload 4, 2) := by decide +kernel
theorem d_X12_waits_54 : decode cX12_waits 54 = .ok (.istore 8, 2) := by decide +kernel
theorem d_X12_waits_56 : decode cX12_waits 56 = .ok (.iload 8, 2) := by decide +kernel
theorem d_X12_waits_58 : decode cX12_waits 58 = .ok (.iload 5, 2) := by decide +kernel
theorem d_X12_waits_60 : decode cX12_waits 60 = .ok (.if_icmp .gt 39, 3) := by decide +kernel
theorem d_X12_waits_63 : decode cX12_waits 63 = .ok (.iload 6, 2) := by decide +kernel
theorem d_X12_waits_65 : decode cX12_waits 65 = .ok (.iload_n 2, 1) := by decide +kernel
theorem d_X12_waits_66 : decode cX12_waits 66 = .ok (.iload 8, 2) := by decide +kernel
theorem d_X12_waits_68 : decode cX12_waits 68 = .ok (.invokestatic 217, 3) := by decide +kernel
theorem d_X12_waits_71 : decode cX12_waits 71 = .ok (.iload 6, 2) := by decide +kernel
theorem d_X12_waits_73 : decode cX12_waits 73 = .ok (.iload_n 3, 1) := by decide +kernel
theorem d_X12_waits_74 : decode cX12_waits 74 = .ok (.iload 8, 2) := by decide +kernel
theorem d_X12_waits_76 : decode cX12_waits 76 = .ok (.invokestatic 217, 3) := by decide +kernel
theorem d_X12_waits_79 : decode cX12_waits 79 = .ok (.isub, 1) := by decide +kernel
theorem d_X12_waits_80 : decode cX12_waits 80 = .ok (.istore 9, 2) := by decide +kernel
theorem d_X12_waits_82 : decode cX12_waits 82 = .ok (.iload 7, 2) := by decide +kernel
theorem d_X12_waits_84 : decode cX12_waits 84 = .ok (.iload 9, 2) := by decide +kernel
theorem d_X12_waits_86 : decode cX12_waits 86 = .ok (.iconst 1, 1) := by decide +kernel
theorem d_X12_waits_87 : decode cX12_waits 87 = .ok (.iadd, 1) := by decide +kernel
theorem d_X12_waits_88 : decode cX12_waits 88 = .ok (.invokestatic 224, 3) := by decide +kernel
theorem d_X12_waits_91 : decode cX12_waits 91 = .ok (.istore 7, 2) := by decide +kernel
theorem d_X12_waits_93 : decode cX12_waits 93 = .ok (.iinc 8 1, 3) := by decide +kernel
theorem d_X12_waits_96 : decode cX12_waits 96 = .ok (.goto (-40), 3) := by decide +kernel
theorem d_X12_waits_99 : decode cX12_waits 99 = .ok (.iload 7, 2) := by decide +kernel
theorem d_X12_waits_101 : decode cX12_waits 101 = .ok (.ireturn, 1) := by decide +kernel
abbrev rm_X12_waits : Room := { frames := 7, cells := 6, slots := 36, locals := 121 }
def B_X12_waits_56 (post : Int32 → CMu → Prop) (px : Nat → CMu → Prop) : Nat → Int32 → Int32 → Int32 → Int32 → Int32 → Int32 → CMu → Prop
  | 0 => fun _ _ _ _ _ _ _ => False
  | n + 1 => fun v2 v3 v5 v6 v7 v8 cm => (v5 < v8 → (post v7 cm)) ∧ (¬ v5 < v8 → (w_X12_minutesFor (fun (r13 : Int32) (u14 : CMu) => w_X12_minutesFor (fun (r15 : Int32) (u16 : CMu) => B_X12_waits_56 post px n v2 v3 v5 v6 (jmax v7 ((r13 - r15) + 1)) (v8 + 1) u16) v6 v3 v8 u14) v6 v2 v8 cm))
def w_X12_waits (post : Int32 → CMu → Prop) (px : Nat → CMu → Prop) (x1 : Int32) (x2 : Int32) (x3 : Int32) (x4 : Int32) (x5 : Int32) (cm : CMu) : Prop := w_X12_demandStation (fun (u2 : CMu) => w_X12_demandWeight (fun (u4 : CMu) => w_X12_demandWeight (fun (u6 : CMu) => w_X12_demandWater (fun (u8 : CMu) => w_X12_demandWater (fun (u10 : CMu) => (x4 ≤ x5 → (w_X4_lengthBetween (fun (r11 : Int32) (u12 : CMu) => ∃ n56, B_X12_waits_56 post px n56 x2 x3 x5 r11 0 x4 u12) 382 0 x1 u10)) ∧ (¬ x4 ≤ x5 → (px 0 u10))) px x5 u8) px x4 u6) px x3 u4) px x2 u2) px x1 cm
section G_X12_waits
variable {p : Program} {l : Launch} {e : Env} {s : State} {m : MethodId} {args : Array Value} {below : List Frame} {meth : Method} {c : Code} {G : Gd} {ρ : Nat → Nat} {A : Nat → Prop} {mm : Nat → Nat → Int32} {oo : Nat → Int64}
set_option maxHeartbeats 4000000 in
set_option maxRecDepth 100000 in
theorem T_X12_waits_56 {post : Int32 → CMu → Prop} {px : Nat → CMu → Prop} (hl : l.stackTraces = false) (X : MC p l s m args meth c cX12_waits 10 RX12 G ρ A) (hr : meth.sig.returnType = (some .int)) (hex : ∀ z ∈ c.exceptionTable.toList, False) (n : Nat) : ∀ (v2 : Int32) (v3 : Int32) (v5 : Int32) (v6 : Int32) (v7 : Int32) (v8 : Int32) (cm : CMu), B_X12_waits_56 post px n v2 v3 v5 v6 v7 v8 cm → LW p l e rm_X12_waits s m args below meth c (Qm below G ρ A (PI (fun u => (u, mm, oo)) post) (PE (fun u => (u, mm, oo)) px) args s 6 36) G ρ A 10 5 30 56 [(2, .int v2), (3, .int v3), (5, .int v5), (6, .int v6), (7, .int v7), (8, .int v8)] [] (cm, mm, oo) := by
  induction n with
  | zero =>
    intro v2 v3 v5 v6 v7 v8 cm h
    exact False.elim h
  | succ n ih =>
    intro v2 v3 v5 v6 v7 v8 cm h
    unfold B_X12_waits_56 at h
    refine L_iload (pc := 56) X d_X12_waits_56 5 rfl ?_
    refine L_iload (pc := 58) X d_X12_waits_58 2 rfl ?_
    refine L_icmp_gt (pc := 60) (tgt := 99) X d_X12_waits_60 (by decide) (fun c60 => ?_) (fun c60 => ?_)
    · replace h := h.1 c60
      refine L_iload (pc := 99) X d_X12_waits_99 4 rfl ?_
      exact L_iret (pc := 101) X hr d_X12_waits_101 (by decide) (by decide) ⟨_, _, rfl, rfl, h⟩
    · replace h := h.2 c60
      refine L_iload (pc := 63) X d_X12_waits_63 3 rfl ?_
      refine L_iload_n (pc := 65) X d_X12_waits_65 rfl 0 rfl ?_
      refine L_iload (pc := 66) X d_X12_waits_66 5 rfl ?_
      refine L_callSI (pc := 68) X lk_X12_217 (c_X12_minutesFor X.hst  h) rfl rfl rfl ⟨by decide, by decide⟩ ⟨by decide, by decide⟩ (Nat.zero_le _) d_X12_waits_68 rfl (fun x κ1 hx => L_nox hx) (fun r13 u14 h => ?_)
      refine L_iload (pc := 71) X d_X12_waits_71 3 rfl ?_
      refine L_iload_n (pc := 73) X d_X12_waits_73 rfl 1 rfl ?_
      refine L_iload (pc := 74) X d_X12_waits_74 5 rfl ?_
      refine L_callSI (pc := 76) X lk_X12_217 (c_X12_minutesFor X.hst  h) rfl rfl rfl ⟨by decide, by decide⟩ ⟨by decide, by decide⟩ (Nat.le_of_ble_eq_true rfl) d_X12_waits_76 rfl (fun x κ1 hx => L_nox hx) (fun r15 u16 h => ?_)
      refine L_isub (pc := 79) X d_X12_waits_79 ?_
      refine L_istore (pc := 80) (lv2 := [(9, .int (r13 - r15)), (2, .int v2), (3, .int v3), (5, .int v5), (6, .int v6), (7, .int v7), (8, .int v8)]) X d_X12_waits_80 (by decide) rfl ?_
      refine L_iload (pc := 82) X d_X12_waits_82 5 rfl ?_
      refine L_iload (pc := 84) X d_X12_waits_84 0 rfl ?_
      refine L_iconst (pc := 86) (v := 1) X d_X12_waits_86 (by decide) ?_
      refine L_iadd (pc := 87) X d_X12_waits_87 ?_
      refine L_max (pc := 88) X d_X12_waits_88 tw_515 tw_516 tw_84 tw_517 (by decide) (by decide) (by decide) (by decide) ?_
      refine L_istore (pc := 91) (lv2 := [(7, .int (jmax v7 ((r13 - r15) + 1))), (9, .int (r13 - r15)), (2, .int v2), (3, .int v3), (5, .int v5), (6, .int v6), (8, .int v8)]) X d_X12_waits_91 (by decide) rfl ?_
      refine L_iinc (pc := 93) (v := v8 + 1) (lv2 := [(8, .int (v8 + 1)), (7, .int (jmax v7 ((r13 - r15) + 1))), (9, .int (r13 - r15)), (2, .int v2), (3, .int v3), (5, .int v5), (6, .int v6)]) X d_X12_waits_93 6 rfl rfl (by decide) rfl ?_
      refine L_goto (pc := 96) (tgt := 56) X d_X12_waits_96 (by decide) ?_
      refine LW.sub [3, 4, 5, 6, 1, 0] rfl ?_
      exact ih _ _ _ _ _ _  _ h
set_option maxHeartbeats 4000000 in
set_option maxRecDepth 100000 in
theorem c_X12_waits (hl : l.stackTraces = false) {x1 : Int32} {x2 : Int32} {x3 : Int32} {x4 : Int32} {x5 : Int32} {cm : CMu} {post : Int32 → CMu → Prop} {px : Nat → CMu → Prop} (h : w_X12_waits post px x1 x2 x3 x4 x5 cm) : CT l yX12_waits (.code yX12_waits cX12_waits 10 (some .int)) rm_X12_waits 6 36 G ρ [.ref 1, .int x1, .int x2, .int x3, .int x4, .int x5] (cm, mm, oo) (PI (fun u => (u, mm, oo)) post) (PE (fun u => (u, mm, oo)) px) := by
  refine CT_of hl (by decide +kernel) rfl (Nat.le_of_ble_eq_true rfl) (lv0 := [(0, .ref 1), (1, .int x1), (2, .int x2), (3, .int x3), (4, .int x4), (5, .int x5)]) rfl (fun p e s m args below meth c A X hr hex hnm => ?_)
  unfold w_X12_waits at h
  refine L_aload_n (pc := 0) X d_X12_waits_0 rfl 0 rfl ?_
  refine L_iload_n (pc := 1) X d_X12_waits_1 rfl 1 rfl ?_
  refine L_callVV (pc := 2) X lk_X12_221 (c_X12_demandStation X.hst  h) rfl rfl kd_1 (by decide) rfl rfl ⟨by decide, by decide⟩ ⟨by decide, by decide⟩ (Nat.zero_le _) d_X12_waits_2 rfl (fun x κ1 hx => L_pass X hex hx (by decide) (by decide)) (fun u2 h => ?_)
  refine L_iload_n (pc := 5) X d_X12_waits_5 rfl 2 rfl ?_
  refine L_callSV (pc := 6) X lk_X12_97 (c_X12_demandWeight X.hst  h) rfl rfl rfl ⟨by decide, by decide⟩ ⟨by decide, by decide⟩ (Nat.zero_le _) d_X12_waits_6 rfl (fun x κ1 hx => L_pass X hex hx (by decide) (by decide)) (fun u4 h => ?_)
  refine L_iload_n (pc := 9) X d_X12_waits_9 rfl 3 rfl ?_
  refine L_callSV (pc := 10) X lk_X12_97 (c_X12_demandWeight X.hst  h) rfl rfl rfl ⟨by decide, by decide⟩ ⟨by decide, by decide⟩ (Nat.zero_le _) d_X12_waits_10 rfl (fun x κ1 hx => L_pass X hex hx (by decide) (by decide)) (fun u6 h => ?_)
  refine L_iload (pc := 13) X d_X12_waits_13 4 rfl ?_
  refine L_callSV (pc := 15) X lk_X12_134 (c_X12_demandWater X.hst  h) rfl rfl rfl ⟨by decide, by decide⟩ ⟨by decide, by decide⟩ (Nat.zero_le _) d_X12_waits_15 rfl (fun x κ1 hx => L_pass X hex hx (by decide) (by decide)) (fun u8 h => ?_)
  refine L_iload (pc := 18) X d_X12_waits_18 5 rfl ?_
  refine L_callSV (pc := 20) X lk_X12_134 (c_X12_demandWater X.hst  h) rfl rfl rfl ⟨by decide, by decide⟩ ⟨by decide, by decide⟩ (Nat.zero_le _) d_X12_waits_20 rfl (fun x κ1 hx => L_pass X hex hx (by decide) (by decide)) (fun u10 h => ?_)
  refine L_iload (pc := 23) X d_X12_waits_23 4 rfl ?_
  refine L_iload (pc := 25) X d_X12_waits_25 5 rfl ?_
  refine L_icmp_le (pc := 27) (tgt := 38) X d_X12_waits_27 (by decide) (fun c27 => ?_) (fun c27 => ?_)
  · replace h := h.1 c27
    refine L_aload_n (pc := 38) X d_X12_waits_38 rfl 0 rfl ?_
    refine gf_X12_40 (pc := 39) (b := 382) X d_X12_waits_39 kd_1 rfl ?_
    refine L_iconst (pc := 42) (v := 0) X d_X12_waits_42 (by decide) ?_
    refine L_iload_n (pc := 43) X d_X12_waits_43 rfl 1 rfl ?_
    refine L_callVI (pc := 44) X lk_X12_213 (c_X4_lengthBetween X.hst kd_382 h) rfl rfl kd_382 (by decide) rfl rfl ⟨by decide, by decide⟩ ⟨by decide, by decide⟩ (Nat.zero_le _) d_X12_waits_44 rfl (fun x κ1 hx => L_nox hx) (fun r11 u12 h => ?_)
    refine L_istore (pc := 47) (lv2 := [(6, .int r11), (0, .ref 1), (1, .int x1), (2, .int x2), (3, .int x3), (4, .int x4), (5, .int x5)]) X d_X12_waits_47 (by decide) rfl ?_
    refine L_iconst (pc := 49) (v := 0) X d_X12_waits_49 (by decide) ?_
    refine L_istore (pc := 50) (lv2 := [(7, .int 0), (6, .int r11), (0, .ref 1), (1, .int x1), (2, .int x2), (3, .int x3), (4, .int x4), (5, .int x5)]) X d_X12_waits_50 (by decide) rfl ?_
    refine L_iload (pc := 52) X d_X12_waits_52 6 rfl ?_
    refine L_istore (pc := 54) (lv2 := [(8, .int x4), (7, .int 0), (6, .int r11), (0, .ref 1), (1, .int x1), (2, .int x2), (3, .int x3), (4, .int x4), (5, .int x5)]) X d_X12_waits_54 (by decide) rfl ?_
    obtain ⟨n56, h⟩ := h
    refine LW.sub [5, 6, 8, 2, 1, 0] rfl ?_
    exact T_X12_waits_56 hl X hr hex n56 _ _ _ _ _ _  _ h
  · replace h := h.2 c27
    exact L_throw0 (pc := 30) X hex d_X12_waits_30 d_X12_waits_33 d_X12_waits_34 d_X12_waits_37 (by decide) (by decide) (by decide) (by decide) (by decide) (by decide) ⟨_, rfl, h⟩
end G_X12_waits
theorem yk_X6_add : yX6_add.cls = RX6 ∧ yX6_add.cls ≠ "java/lang/invoke/MethodHandle" ∧ yX6_add.cls ≠ "java/lang/invoke/VarHandle" ∧ (parseMethodDescriptor yX6_add.desc).map (fun d => d.parameters.length) = some 2 := by decide +kernel
theorem lk_X12_236 : LinkV RX12 236 RX6 yX6_add (.code yX6_add cX6_add 3 (some .int)) 2 := ⟨tw_1124, tw_1125, tw_1126, tw_79, tw_1127, yk_X6_add⟩
theorem d_X12_order_0 : decode cX12_order 0 = .ok (.aload_n 0, 1) := by decide +kernel
theorem d_X12_order_1 : decode cX12_order 1 = .ok (.iload_n 1, 1) := by decide +kernel
theorem d_X12_order_2 : decode cX12_order 2 = .ok (.invokevirtual 167, 3) := by decide +kernel
theorem d_X12_order_5 : decode cX12_order 5 = .ok (.iload_n 2, 1) := by decide +kernel
theorem d_X12_order_6 : decode cX12_order 6 = .ok (.invokestatic 97, 3) := by decide +kernel
theorem d_X12_order_9 : decode cX12_order 9 = .ok (.aload_n 0, 1) := by decide +kernel
theorem d_X12_order_10 : decode cX12_order 10 = .ok (.getfield 40, 3) := by decide +kernel
theorem d_X12_order_13 : decode cX12_order 13 = .ok (.getfield 229, 3) := by decide +kernel
theorem d_X12_order_16 : decode cX12_order 16 = .ok (.getfield 233, 3) := by decide +kernel
theorem d_X12_order_19 : decode cX12_order 19 = .ok (.bipush 12, 2) := by decide +kernel
theorem d_X12_order_21 : decode cX12_order 21 = .ok (.if_icmp .lt 11, 3) := by decide +kernel
theorem d_X12_order_24 : decode cX12_order 24 = .ok (.new 88, 3) := by decide +kernel
theorem d_X12_order_27 : decode cX12_order 27 = .ok (.dup, 1) := by decide +kernel
theorem d_X12_order_28 : decode cX12_order 28 = .ok (.invokespecial 90, 3) := by decide +kernel
theorem d_X12_order_31 : decode cX12_order 31 = .ok (.athrow, 1) := by decide +kernel
theorem d_X12_order_32 : decode cX12_order 32 = .ok (.aload_n 0, 1) := by decide +kernel
theorem d_X12_order_33 : decode cX12_order 33 = .ok (.getfield 40, 3) := by decide +kernel
theorem d_X12_order_36 : decode cX12_order 36 = .ok (.getfield 229, 3) := by decide +kernel
theorem d_X12_order_39 : decode cX12_order 39 = .ok (.iload_n 1, 1) := by decide +kernel
theorem d_X12_order_40 : decode cX12_order 40 = .ok (.iload_n 2, 1) := by decide +kernel
theorem d_X12_order_41 : decode cX12_order 41 = .ok (.invokevirtual 236, 3) := by decide +kernel
theorem d_X12_order_44 : decode cX12_order 44 = .ok (.ireturn, 1) := by decide +kernel
abbrev rm_X12_order : Room := { frames := 7, cells := 3, slots := 18, locals := 121 }
def w_X12_order (post : Int32 → CMu → Prop) (px : Nat → CMu → Prop) (x1 : Int32) (x2 : Int32) (cm : CMu) : Prop := w_X12_demandCamp (fun (u2 : CMu) => w_X12_demandWeight (fun (u4 : CMu) => ((gI u4 387 3) < 12 → (w_X6_add (fun (r5 : Int32) (u6 : CMu) => post r5 u6) 387 x1 x2 u4)) ∧ (¬ (gI u4 387 3) < 12 → (px 2 u4))) px x2 u2) px x1 cm
section G_X12_order
variable {p : Program} {l : Launch} {e : Env} {s : State} {m : MethodId} {args : Array Value} {below : List Frame} {meth : Method} {c : Code} {G : Gd} {ρ : Nat → Nat} {A : Nat → Prop} {mm : Nat → Nat → Int32} {oo : Nat → Int64}
set_option maxHeartbeats 4000000 in
set_option maxRecDepth 100000 in
theorem c_X12_order (hl : l.stackTraces = false) {x1 : Int32} {x2 : Int32} {cm : CMu} {post : Int32 → CMu → Prop} {px : Nat → CMu → Prop} (h : w_X12_order post px x1 x2 cm) : CT l yX12_order (.code yX12_order cX12_order 3 (some .int)) rm_X12_order 3 18 G ρ [.ref 1, .int x1, .int x2] (cm, mm, oo) (PI (fun u => (u, mm, oo)) post) (PE (fun u => (u, mm, oo)) px) := by
  refine CT_of hl (by decide +kernel) rfl (Nat.le_of_ble_eq_true rfl) (lv0 := [(0, .ref 1), (1, .int x1), (2, .int x2)]) rfl (fun p e s m args below meth c A X hr hex hnm => ?_)
  unfold w_X12_order at h
  refine L_aload_n (pc := 0) X d_X12_order_0 rfl 0 rfl ?_
  refine L_iload_n (pc := 1) X d_X12_order_1 rfl 1 rfl ?_
  refine L_callVV (pc := 2) X lk_X12_167 (c_X12_demandCamp X.hst  h) rfl rfl kd_1 (by decide) rfl rfl ⟨by decide, by decide⟩ ⟨by decide, by decide⟩ (Nat.zero_le _) d_X12_order_2 rfl (fun x κ1 hx => L_pass X hex hx (by decide) (by decide)) (fun u2 h => ?_)
  refine L_iload_n (pc := 5) X d_X12_order_5 rfl 2 rfl ?_
  refine L_callSV (pc := 6) X lk_X12_97 (c_X12_demandWeight X.hst  h) rfl rfl rfl ⟨by decide, by decide⟩ ⟨by decide, by decide⟩ (Nat.zero_le _) d_X12_order_6 rfl (fun x κ1 hx => L_pass X hex hx (by decide) (by decide)) (fun u4 h => ?_)
  refine L_aload_n (pc := 9) X d_X12_order_9 rfl 0 rfl ?_
  refine gf_X12_40 (pc := 10) (b := 382) X d_X12_order_10 kd_1 rfl ?_
  refine gf_X12_229 (pc := 13) (b := 387) X d_X12_order_13 kd_382 rfl ?_
  refine gf_X12_233 (pc := 16) X d_X12_order_16 kd_387 ?_
  refine L_bipush (pc := 19) (v := 12) X d_X12_order_19 (by decide) ?_
  refine L_icmp_lt (pc := 21) (tgt := 32) X d_X12_order_21 (by decide) (fun c21 => ?_) (fun c21 => ?_)
  · replace h := h.1 c21
    refine L_aload_n (pc := 32) X d_X12_order_32 rfl 0 rfl ?_
    refine gf_X12_40 (pc := 33) (b := 382) X d_X12_order_33 kd_1 rfl ?_
    refine gf_X12_229 (pc := 36) (b := 387) X d_X12_order_36 kd_382 rfl ?_
    refine L_iload_n (pc := 39) X d_X12_order_39 rfl 1 rfl ?_
    refine L_iload_n (pc := 40) X d_X12_order_40 rfl 2 rfl ?_
    refine L_callVI (pc := 41) X lk_X12_236 (c_X6_add X.hst kd_387 h) rfl rfl kd_387 (by decide) rfl rfl ⟨by decide, by decide⟩ ⟨by decide, by decide⟩ (Nat.zero_le _) d_X12_order_41 rfl (fun x κ1 hx => L_nox hx) (fun r5 u6 h => ?_)
    exact L_iret (pc := 44) X hr d_X12_order_44 (by decide) (by decide) ⟨_, _, rfl, rfl, h⟩
  · replace h := h.2 c21
    exact L_throw2 (pc := 24) X hex d_X12_order_24 d_X12_order_27 d_X12_order_28 d_X12_order_31 (by decide) (by decide) (by decide) (by decide) (by decide) (by decide) ⟨_, rfl, h⟩
end G_X12_order
theorem yk_X12_demandOrder : yX12_demandOrder.cls = RX12 ∧ yX12_demandOrder.cls ≠ "java/lang/invoke/MethodHandle" ∧ yX12_demandOrder.cls ≠ "java/lang/invoke/VarHandle" ∧ (parseMethodDescriptor yX12_demandOrder.desc).map (fun d => d.parameters.length) = some 1 := by decide +kernel
theorem lk_X12_238 : LinkV RX12 238 RX12 yX12_demandOrder (.code yX12_demandOrder cX12_demandOrder 2 none) 1 := ⟨tw_1135, tw_1137, tw_28, tw_72, tw_1138, yk_X12_demandOrder⟩
theorem d_X12_ahead_0 : decode cX12_ahead 0 = .ok (.aload_n 0, 1) := by decide +kernel
theorem d_X12_ahead_1 : decode cX12_ahead 1 = .ok (.iload_n 1, 1) := by decide +kernel
theorem d_X12_ahead_2 : decode cX12_ahead 2 = .ok (.invokevirtual 238, 3) := by decide +kernel
theorem d_X12_ahead_5 : decode cX12_ahead 5 = .ok (.aload_n 0, 1) := by decide +kernel
theorem d_X12_ahead_6 : decode cX12_ahead 6 = .ok (.iload_n 2, 1) := by decide +kernel
theorem d_X12_ahead_7 : decode cX12_ahead 7 = .ok (.invokevirtual 238, 3) := by decide +kernel
theorem d_X12_ahead_10 : decode cX12_ahead 10 = .ok (.iload_n 1, 1) := by decide +kernel
theorem d_X12_ahead_11 : decode cX12_ahead 11 = .ok (.iload_n 2, 1) := by decide +kernel
theorem d_X12_ahead_12 : decode cX12_ahead 12 = .ok (.if_icmp .eq 14, 3) := by decide +kernel
theorem d_X12_ahead_15 : decode cX12_ahead 15 = .ok (.iload_n 3, 1) := by decide +kernel
theorem d_X12_ahead_16 : decode cX12_ahead 16 = .ok (.ifCond .lt 10, 3) := by decide +kernel
theorem d_X12_ahead_19 : decode cX12_ahead 19 = .ok (.iload_n 3, 1) := by decide +kernel
theorem d_X12_ahead_20 : decode cX12_ahead 20 = .ok (.sipush 999, 3) := by decide +kernel
theorem d_X12_ahead_23 : decode cX12_ahead 23 = .ok (.if_icmp .le 11, 3) := by decide +kernel
theorem d_X12_ahead_26 : decode cX12_ahead 26 = .ok (.new 82, 3) := by decide +kernel
theorem d_X12_ahead_29 : decode cX12_ahead 29 = .ok (.dup, 1) := by decide +kernel
theorem d_X12_ahead_30 : decode cX12_ahead 30 = .ok (.invokespecial 84, 3) := by decide +kernel
theorem d_X12_ahead_33 : decode cX12_ahead 33 = .ok (.athrow, 1) := by decide +kernel
theorem d_X12_ahead_34 : decode cX12_ahead 34 = .ok (.aload_n 0, 1) := by decide +kernel
theorem d_X12_ahead_35 : decode cX12_ahead 35 = .ok (.getfield 40, 3) := by decide +kernel
theorem d_X12_ahead_38 : decode cX12_ahead 38 = .ok (.getfield 229, 3) := by decide +kernel
theorem d_X12_ahead_41 : decode cX12_ahead 41 = .ok (.getfield 241, 3) := by decide +kernel
theorem d_X12_ahead_44 : decode cX12_ahead 44 = .ok (.iload_n 1, 1) := by decide +kernel
theorem d_X12_ahead_45 : decode cX12_ahead 45 = .ok (.aaload, 1) := by decide +kernel
theorem d_X12_ahead_46 : decode cX12_ahead 46 = .ok (.iload_n 2, 1) := by decide +kernel
theorem d_X12_ahead_47 : decode cX12_ahead 47 = .ok (.iaload, 1) := by decide +kernel
theorem d_X12_ahead_48 : decode cX12_ahead 48 = .ok (.istore 4, 2) := by decide +kernel
theorem d_X12_ahead_50 : decode cX12_ahead 50 = .ok (.aload_n 0, 1) := by decide +kernel
theorem d_X12_ahead_51 : decode cX12_ahead 51 = .ok (.getfield 40, 3) := by decide +kernel
theorem d_X12_ahead_54 : decode cX12_ahead 54 = .ok (.getfield 229, 3) := by decide +kernel
theorem d_X12_ahead_57 : decode cX12_ahead 57 = .ok (.getfield 241, 3) := by decide +kernel
theorem d_X12_ahead_60 : decode cX12_ahead 60 = .ok (.iload_n 1, 1) := by decide +kernel
theorem d_X12_ahead_61 : decode cX12_ahead 61 = .ok (.aaload, 1) := by decide +kernel
theorem d_X12_ahead_62 : decode cX12_ahead 62 = .ok (.iload_n 2, 1) := by decide +kernel
theorem d_X12_ahead_63 : decode cX12_ahead 63 = .ok (.iload_n 3, 1) := by decide +kernel
theorem d_X12_ahead_64 : decode cX12_ahead 64 = .ok (.iastore, 1) := by decide +kernel
theorem d_X12_ahead_65 : decode cX12_ahead 65 = .ok (.iload 4, 2) := by decide +kernel
theorem d_X12_ahead_67 : decode cX12_ahead 67 = .ok (.ireturn, 1) := by decide +kernel
abbrev rm_X12_ahead : Room := { frames := 7, cells := 3, slots := 18, locals := 121 }
def B_X12_ahead_26 (post : Int32 → CMu → Prop) (px : Nat → CMu → Prop) (cm : CMu) : Prop := px 0 cm
def w_X12_ahead (post : Int32 → CMu → Prop) (px : Nat → CMu → Prop) (x1 : Int32) (x2 : Int32) (x3 : Int32) (cm : CMu) : Prop := w_X12_demandOrder (fun (u2 : CMu) => w_X12_demandOrder (fun (u4 : CMu) => (x1 = x2 → (B_X12_ahead_26 post px u4)) ∧ (¬ x1 = x2 → ((x3 < 0 → (B_X12_ahead_26 post px u4)) ∧ (¬ x3 < 0 → ((x3 ≤ 999 → ((vp_in x1 12) ∧ (vp_in x2 12) ∧ (vp_in x1 12) ∧ (vp_in x2 12) ∧ post (gI u4 (391 + Int32.toNatClampNeg x1) (Int32.toNatClampNeg x2)) (uI u4 (391 + Int32.toNatClampNeg x1) (Int32.toNatClampNeg x2) x3))) ∧ (¬ x3 ≤ 999 → (B_X12_ahead_26 post px u4))))))) px x2 u2) px x1 cm
section G_X12_ahead
variable {p : Program} {l : Launch} {e : Env} {s : State} {m : MethodId} {args : Array Value} {below : List Frame} {meth : Method} {c : Code} {G : Gd} {ρ : Nat → Nat} {A : Nat → Prop} {mm : Nat → Nat → Int32} {oo : Nat → Int64}
set_option maxHeartbeats 4000000 in
set_option maxRecDepth 100000 in
theorem T_X12_ahead_26 {post : Int32 → CMu → Prop} {px : Nat → CMu → Prop} (hl : l.stackTraces = false) (X : MC p l s m args meth c cX12_ahead 5 RX12 G ρ A) (hr : meth.sig.returnType = (some .int)) (hex : ∀ z ∈ c.exceptionTable.toList, False) : ∀ (cm : CMu), B_X12_ahead_26 post px cm → LW p l e rm_X12_ahead s m args below meth c (Qm below G ρ A (PI (fun u => (u, mm, oo)) post) (PE (fun u => (u, mm, oo)) px) args s 3 18) G ρ A 5 2 12 26 [] [] (cm, mm, oo) := by
  intro cm h
  unfold B_X12_ahead_26 at h
  exact L_throw0 (pc := 26) X hex d_X12_ahead_26 d_X12_ahead_29 d_X12_ahead_30 d_X12_ahead_33 (by decide) (by decide) (by decide) (by decide) (by decide) (by decide) ⟨_, rfl, h⟩
set_option maxHeartbeats 4000000 in
set_option maxRecDepth 100000 in
theorem c_X12_ahead (hl : l.stackTraces = false) {x1 : Int32} {x2 : Int32} {x3 : Int32} {cm : CMu} {post : Int32 → CMu → Prop} {px : Nat → CMu → Prop} (h : w_X12_ahead post px x1 x2 x3 cm) : CT l yX12_ahead (.code yX12_ahead cX12_ahead 5 (some .int)) rm_X12_ahead 3 18 G ρ [.ref 1, .int x1, .int x2, .int x3] (cm, mm, oo) (PI (fun u => (u, mm, oo)) post) (PE (fun u => (u, mm, oo)) px) := by
  refine CT_of hl (by decide +kernel) rfl (Nat.le_of_ble_eq_true rfl) (lv0 := [(0, .ref 1), (1, .int x1), (2, .int x2), (3, .int x3)]) rfl (fun p e s m args below meth c A X hr hex hnm => ?_)
  unfold w_X12_ahead at h
  refine L_aload_n (pc := 0) X d_X12_ahead_0 rfl 0 rfl ?_
  refine L_iload_n (pc := 1) X d_X12_ahead_1 rfl 1 rfl ?_
  refine L_callVV (pc := 2) X lk_X12_238 (c_X12_demandOrder X.hst  h) rfl rfl kd_1 (by decide) rfl rfl ⟨by decide, by decide⟩ ⟨by decide, by decide⟩ (Nat.zero_le _) d_X12_ahead_2 rfl (fun x κ1 hx => L_pass X hex hx (by decide) (by decide)) (fun u2 h => ?_)
  refine L_aload_n (pc := 5) X d_X12_ahead_5 rfl 0 rfl ?_
  refine L_iload_n (pc := 6) X d_X12_ahead_6 rfl 2 rfl ?_
  refine L_callVV (pc := 7) X lk_X12_238 (c_X12_demandOrder X.hst  h) rfl rfl kd_1 (by decide) rfl rfl ⟨by decide, by decide⟩ ⟨by decide, by decide⟩ (Nat.zero_le _) d_X12_ahead_7 rfl (fun x κ1 hx => L_pass X hex hx (by decide) (by decide)) (fun u4 h => ?_)
  refine L_iload_n (pc := 10) X d_X12_ahead_10 rfl 1 rfl ?_
  refine L_iload_n (pc := 11) X d_X12_ahead_11 rfl 2 rfl ?_
  refine L_icmp_eq (pc := 12) (tgt := 26) X d_X12_ahead_12 (by decide) (fun c12 => ?_) (fun c12 => ?_)
  · replace h := h.1 c12
    refine LW.sub [] rfl ?_
    exact T_X12_ahead_26 hl X hr hex   _ h
  · replace h := h.2 c12
    refine L_iload_n (pc := 15) X d_X12_ahead_15 rfl 3 rfl ?_
    refine L_if_lt (pc := 16) (tgt := 26) X d_X12_ahead_16 (by decide) (fun c16 => ?_) (fun c16 => ?_)
    · replace h := h.1 c16
      refine LW.sub [] rfl ?_
      exact T_X12_ahead_26 hl X hr hex   _ h
    · replace h := h.2 c16
      refine L_iload_n (pc := 19) X d_X12_ahead_19 rfl 3 rfl ?_
      refine L_sipush (pc := 20) (v := 999) X d_X12_ahead_20 (by decide) ?_
      refine L_icmp_le (pc := 23) (tgt := 34) X d_X12_ahead_23 (by decide) (fun c23 => ?_) (fun c23 => ?_)
      · replace h := h.1 c23
        refine L_aload_n (pc := 34) X d_X12_ahead_34 rfl 0 rfl ?_
        refine gf_X12_40 (pc := 35) (b := 382) X d_X12_ahead_35 kd_1 rfl ?_
        refine gf_X12_229 (pc := 38) (b := 387) X d_X12_ahead_38 kd_382 rfl ?_
        refine gf_X12_241 (pc := 41) (b := 390) X d_X12_ahead_41 kd_387 rfl ?_
        refine L_iload_n (pc := 44) X d_X12_ahead_44 rfl 1 rfl ?_
        obtain ⟨q5, h⟩ := h
        refine L_aald25 (pc := 45) (b := 391 + Int32.toNatClampNeg x1) X d_X12_ahead_45 kd_390 q5 rfl ?_
        refine L_iload_n (pc := 46) X d_X12_ahead_46 rfl 2 rfl ?_
        obtain ⟨q6, h⟩ := h
        refine L_iald (pc := 47) X d_X12_ahead_47 (ka_25 kd_390 (vin_lt q5)) q6 ?_
        refine L_istore (pc := 48) (lv2 := [(4, .int (gI u4 (391 + Int32.toNatClampNeg x1) (Int32.toNatClampNeg x2))), (0, .ref 1), (1, .int x1), (2, .int x2), (3, .int x3)]) X d_X12_ahead_48 (by decide) rfl ?_
        refine L_aload_n (pc := 50) X d_X12_ahead_50 rfl 1 rfl ?_
        refine gf_X12_40 (pc := 51) (b := 382) X d_X12_ahead_51 kd_1 rfl ?_
        refine gf_X12_229 (pc := 54) (b := 387) X d_X12_ahead_54 kd_382 rfl ?_
        refine gf_X12_241 (pc := 57) (b := 390) X d_X12_ahead_57 kd_387 rfl ?_
        refine L_iload_n (pc := 60) X d_X12_ahead_60 rfl 2 rfl ?_
        obtain ⟨q7, h⟩ := h
        refine L_aald25 (pc := 61) (b := 391 + Int32.toNatClampNeg x1) X d_X12_ahead_61 kd_390 q7 rfl ?_
        refine L_iload_n (pc := 62) X d_X12_ahead_62 rfl 3 rfl ?_
        refine L_iload_n (pc := 63) X d_X12_ahead_63 rfl 4 rfl ?_
        obtain ⟨q8, h⟩ := h
        refine L_iast (pc := 64) X d_X12_ahead_64 (ka_25 kd_390 (vin_lt q7)) q8 ?_
        refine L_iload (pc := 65) X d_X12_ahead_65 0 rfl ?_
        exact L_iret (pc := 67) X hr d_X12_ahead_67 (by decide) (by decide) ⟨_, _, rfl, rfl, h⟩
      · replace h := h.2 c23
        refine LW.sub [] rfl ?_
        exact T_X12_ahead_26 hl X hr hex   _ h
end G_X12_ahead
theorem yk_X4_billionths : yX4_billionths.cls = RX4 ∧ yX4_billionths.cls ≠ "java/lang/invoke/MethodHandle" ∧ yX4_billionths.cls ≠ "java/lang/invoke/VarHandle" ∧ (parseMethodDescriptor yX4_billionths.desc).map (fun d => d.parameters.length) = some 2 := by decide +kernel
theorem lk_X12_255 : LinkV RX12 255 RX4 yX4_billionths (.code yX4_billionths cX4_billionths 6 (some .int)) 2 := ⟨tw_1168, tw_1169, tw_1170, tw_78, tw_1171, yk_X4_billionths⟩
theorem d_X12_chance_0 : decode cX12_chance 0 = .ok (.aload_n 0, 1) := by decide +kernel
theorem d_X12_chance_1 : decode cX12_chance 1 = .ok (.iload_n 1, 1) := by decide +kernel
theorem d_X12_chance_2 : decode cX12_chance 2 = .ok (.iload_n 2, 1) := by decide +kernel
theorem d_X12_chance_3 : decode cX12_chance 3 = .ok (.invokevirtual 209, 3) := by decide +kernel
theorem d_X12_chance_6 : decode cX12_chance 6 = .ok (.aload_n 0, 1) := by decide +kernel
theorem d_X12_chance_7 : decode cX12_chance 7 = .ok (.getfield 40, 3) := by decide +kernel
theorem d_X12_chance_10 : decode cX12_chance 10 = .ok (.iload_n 1, 1) := by decide +kernel
theorem d_X12_chance_11 : decode cX12_chance 11 = .ok (.iload_n 2, 1) := by decide +kernel
theorem d_X12_chance_12 : decode cX12_chance 12 = .ok (.invokevirtual 255, 3) := by decide +kernel
theorem d_X12_chance_15 : decode cX12_chance 15 = .ok (.ireturn, 1) := by decide +kernel
abbrev rm_X12_chance : Room := { frames := 8, cells := 3, slots := 18, locals := 143 }
def w_X12_chance (post : Int32 → CMu → Prop) (px : Nat → CMu → Prop) (x1 : Int32) (x2 : Int32) (cm : CMu) : Prop := w_X12_demandWay (fun (u2 : CMu) => w_X4_billionths (fun (r3 : Int32) (u4 : CMu) => post r3 u4) 382 x1 x2 u2) px x1 x2 cm
section G_X12_chance
variable {p : Program} {l : Launch} {e : Env} {s : State} {m : MethodId} {args : Array Value} {below : List Frame} {meth : Method} {c : Code} {G : Gd} {ρ : Nat → Nat} {A : Nat → Prop} {mm : Nat → Nat → Int32} {oo : Nat → Int64}
set_option maxHeartbeats 4000000 in
set_option maxRecDepth 100000 in
theorem c_X12_chance (hl : l.stackTraces = false) {x1 : Int32} {x2 : Int32} {cm : CMu} {post : Int32 → CMu → Prop} {px : Nat → CMu → Prop} (h : w_X12_chance post px x1 x2 cm) : CT l yX12_chance (.code yX12_chance cX12_chance 3 (some .int)) rm_X12_chance 3 18 G ρ [.ref 1, .int x1, .int x2] (cm, mm, oo) (PI (fun u => (u, mm, oo)) post) (PE (fun u => (u, mm, oo)) px) := by
  refine CT_of hl (by decide +kernel) rfl (Nat.le_of_ble_eq_true rfl) (lv0 := [(0, .ref 1), (1, .int x1), (2, .int x2)]) rfl (fun p e s m args below meth c A X hr hex hnm => ?_)
  unfold w_X12_chance at h
  refine L_aload_n (pc := 0) X d_X12_chance_0 rfl 0 rfl ?_
  refine L_iload_n (pc := 1) X d_X12_chance_1 rfl 1 rfl ?_
  refine L_iload_n (pc := 2) X d_X12_chance_2 rfl 2 rfl ?_
  refine L_callVV (pc := 3) X lk_X12_209 (c_X12_demandWay X.hst  h) rfl rfl kd_1 (by decide) rfl rfl ⟨by decide, by decide⟩ ⟨by decide, by decide⟩ (Nat.zero_le _) d_X12_chance_3 rfl (fun x κ1 hx => L_pass X hex hx (by decide) (by decide)) (fun u2 h => ?_)
  refine L_aload_n (pc := 6) X d_X12_chance_6 rfl 0 rfl ?_
  refine gf_X12_40 (pc := 7) (b := 382) X d_X12_chance_7 kd_1 rfl ?_
  refine L_iload_n (pc := 10) X d_X12_chance_10 rfl 1 rfl ?_
  refine L_iload_n (pc := 11) X d_X12_chance_11 rfl 2 rfl ?_
  refine L_callVI (pc := 12) X lk_X12_255 (c_X4_billionths X.hst kd_382 h) rfl rfl kd_382 (by decide) rfl rfl ⟨by decide, by decide⟩ ⟨by decide, by decide⟩ (Nat.zero_le _) d_X12_chance_12 rfl (fun x κ1 hx => L_nox hx) (fun r3 u4 h => ?_)
  exact L_iret (pc := 15) X hr d_X12_chance_15 (by decide) (by decide) ⟨_, _, rfl, rfl, h⟩
end G_X12_chance
theorem d_X12_repeats_0 : decode cX12_repeats 0 = .ok (.aload_n 0, 1) := by decide +kernel
theorem d_X12_repeats_1 : decode cX12_repeats 1 = .ok (.iload_n 1, 1) := by decide +kernel
theorem d_X12_repeats_2 : decode cX12_repeats 2 = .ok (.iload_n 2, 1) := by decide +kernel
theorem d_X12_repeats_3 : decode cX12_repeats 3 = .ok (.invokevirtual 209, 3) := by decide +kernel
theorem d_X12_repeats_6 : decode cX12_repeats 6 = .ok (.iload_n 3, 1) := by decide +kernel
theorem d_X12_repeats_7 : decode cX12_repeats 7 = .ok (.ifCond .lt 10, 3) := by decide +kernel
theorem d_X12_repeats_10 : decode cX12_repeats 10 = .ok (.iload_n 3, 1) := by decide +kernel
theorem d_X12_repeats_11 : decode cX12_repeats 11 = .ok (.ldc_w 258, 3) := by decide +kernel
theorem d_X12_repeats_14 : decode cX12_repeats 14 = .ok (.if_icmp .le 11, 3) := by decide +kernel
theorem d_X12_repeats_17 : decode cX12_repeats 17 = .ok (.new 82, 3) := by decide +kernel
theorem d_X12_repeats_20 : decode cX12_repeats 20 = .ok (.dup, 1) := by decide +kernel
theorem d_X12_repeats_21 : decode cX12_repeats 21 = .ok (.invokespecial 84, 3) := by decide +kernel
theorem d_X12_repeats_24 : decode cX12_repeats 24 = .ok (.athrow, 1) := by decide +kernel
theorem d_X12_repeats_25 : decode cX12_repeats 25 = .ok (.iload_n 3, 1) := by decide +kernel
theorem d_X12_repeats_26 : decode cX12_repeats 26 = .ok (.i2l, 1) := by decide +kernel
theorem d_X12_repeats_27 : decode cX12_repeats 27 = .ok (.ldc2_w 259, 3) := by decide +kernel
theorem d_X12_repeats_30 : decode cX12_repeats 30 = .ok (.lmul, 1) := by decide +kernel
theorem d_X12_repeats_31 : decode cX12_repeats 31 = .ok (.lstore 4, 2) := by decide +kernel
theorem d_X12_repeats_33 : decode cX12_repeats 33 = .ok (.ldc_w 261, 3) := by decide +kernel
theorem d_X12_repeats_36 : decode cX12_repeats 36 = .ok (.aload_n 0, 1) := by decide +kernel
theorem d_X12_repeats_37 : decode cX12_repeats 37 = .ok (.getfield 40, 3) := by decide +kernel
theorem d_X12_repeats_40 : decode cX12_repeats 40 = .ok (.iload_n 1, 1) := by decide +kernel
theorem d_X12_repeats_41 : decode cX12_repeats 41 = .ok (.iload_n 2, 1) := by decide +kernel
theorem d_X12_repeats_42 : decode cX12_repeats 42 = .ok (.invokevirtual 255, 3) := by decide +kernel
theorem d_X12_repeats_45 : decode cX12_repeats 45 = .ok (.isub, 1) := by decide +kernel
theorem d_X12_repeats_46 : decode cX12_repeats 46 = .ok (.i2l, 1) := by decide +kernel
theorem d_X12_repeats_47 : decode cX12_repeats 47 = .ok (.lstore 6, 2) := by decide +kernel
theorem d_X12_repeats_49 : decode cX12_repeats 49 = .ok (.ldc2_w 262, 3) := by decide +kernel
theorem d_X12_repeats_52 : decode cX12_repeats 52 = .ok (.lstore 8, 2) := by decide +kernel
theorem d_X12_repeats_54 : decode cX12_repeats 54 = .ok (.iconst 0, 1) := by decide +kernel
theorem d_X12_repeats_55 : decode cX12_repeats 55 = .ok (.istore 10, 2) := by decide +kernel
theorem d_X12_repeats_57 : decode cX12_repeats 57 = .ok (.iload 10, 2) := by decide +kernel
theorem d_X12_repeats_59 : decode cX12_repeats 59 = .ok (.bipush 99, 2) := by decide +kernel
theorem d_X12_repeats_61 : decode cX12_repeats 61 = .ok (.if_icmp .gt 31, 3) := by decide +kernel
theorem d_X12_repeats_64 : decode cX12_repeats 64 = .ok (.lload 8, 2) := by decide +kernel
theorem d_X12_repeats_66 : decode cX12_repeats 66 = .ok (.lload 4, 2) := by decide +kernel
theorem d_X12_repeats_68 : decode cX12_repeats 68 = .ok (.lcmp, 1) := by decide +kernel
theorem d_X12_repeats_69 : decode cX12_repeats 69 = .ok (.ifCond .gt 6, 3) := by decide +kernel
theorem d_X12_repeats_72 : decode cX12_repeats 72 = .ok (.iload 10, 2) := by decide +kernel
theorem d_X12_repeats_74 : decode cX12_repeats 74 = .ok (.ireturn, 1) := by decide +kernel
theorem d_X12_repeats_75 : decode cX12_repeats 75 = .ok (.lload 8, 2) := by decide +kernel
theorem d_X12_repeats_77 : decode cX12_repeats 77 = .ok (.lload 6, 2) := by decide +kernel
theorem d_X12_repeats_79 : decode cX12_repeats 79 = .ok (.lmul, 1) := by decide +kernel
theorem d_X12_repeats_80 : decode cX12_repeats 80 = .ok (.ldc2_w 262, 3) := by decide +kernel
theorem d_X12_repeats_83 : decode cX12_repeats 83 = .ok (.ldiv, 1) := by decide +kernel
theorem d_X12_repeats_84 : decode cX12_repeats 84 = .ok (.lstore 8, 2) := by decide +kernel
theorem d_X12_repeats_86 : decode cX12_repeats 86 = .ok (.iinc 10 1, 3) := by decide +kernel
theorem d_X12_repeats_89 : decode cX12_repeats 89 = .ok (.goto (-32), 3) := by decide +kernel
theorem d_X12_repeats_92 : decode cX12_repeats 92 = .ok (.iconst (-1), 1) := by decide +kernel
theorem d_X12_repeats_93 : decode cX12_repeats 93 = .ok (.ireturn, 1) := by decide +kernel
abbrev rm_X12_repeats : Room := { frames := 8, cells := 4, slots := 24, locals := 143 }
def B_X12_repeats_57 (post : Int32 → CMu → Prop) (px : Nat → CMu → Prop) : Nat → Int64 → Int64 → Int64 → Int32 → CMu → Prop
  | 0 => fun _ _ _ _ _ => False
  | n + 1 => fun v4 v6 v8 v10 cm => (99 < v10 → (post (-1) cm)) ∧ (¬ 99 < v10 → ((0 < (lg_cmp v8 v4) → (B_X12_repeats_57 post px n v4 v6 ((v8 * v6) / 1000000000) (v10 + 1) cm)) ∧ (¬ 0 < (lg_cmp v8 v4) → (post v10 cm))))
def B_X12_repeats_17 (post : Int32 → CMu → Prop) (px : Nat → CMu → Prop) (cm : CMu) : Prop := px 0 cm
def w_X12_repeats (post : Int32 → CMu → Prop) (px : Nat → CMu → Prop) (x1 : Int32) (x2 : Int32) (x3 : Int32) (cm : CMu) : Prop := w_X12_demandWay (fun (u2 : CMu) => (x3 < 0 → (B_X12_repeats_17 post px u2)) ∧ (¬ x3 < 0 → ((x3 ≤ 1000000 → (w_X4_billionths (fun (r3 : Int32) (u4 : CMu) => ∃ n57, B_X12_repeats_57 post px n57 ((Int32.toInt64 x3) * 1000) (Int32.toInt64 (1000000000 - r3)) 1000000000 0 u4) 382 x1 x2 u2)) ∧ (¬ x3 ≤ 1000000 → (B_X12_repeats_17 post px u2))))) px x1 x2 cm
section G_X12_repeats
variable {p : Program} {l : Launch} {e : Env} {s : State} {m : MethodId} {args : Array Value} {below : List Frame} {meth : Method} {c : Code} {G : Gd} {ρ : Nat → Nat} {A : Nat → Prop} {mm : Nat → Nat → Int32} {oo : Nat → Int64}
set_option maxHeartbeats 4000000 in
set_option maxRecDepth 100000 in
theorem T_X12_repeats_57 {post : Int32 → CMu → Prop} {px : Nat → CMu → Prop} (hl : l.stackTraces = false) (X : MC p l s m args meth c cX12_repeats 11 RX12 G ρ A) (hr : meth.sig.returnType = (some .int)) (hex : ∀ z ∈ c.exceptionTable.toList, False) (n : Nat) : ∀ (v4 : Int64) (v6 : Int64) (v8 : Int64) (v10 : Int32) (cm : CMu), B_X12_repeats_57 post px n v4 v6 v8 v10 cm → LW p l e rm_X12_repeats s m args below meth c (Qm below G ρ A (PI (fun u => (u, mm, oo)) post) (PE (fun u => (u, mm, oo)) px) args s 4 24) G ρ A 11 3 18 57 [(4, .long v4), (6, .long v6), (8, .long v8), (10, .int v10)] [] (cm, mm, oo) := by
  induction n with
  | zero =>
    intro v4 v6 v8 v10 cm h
    exact False.elim h
  | succ n ih =>
    intro v4 v6 v8 v10 cm h
    unfold B_X12_repeats_57 at h
    refine L_iload (pc := 57) X d_X12_repeats_57 3 rfl ?_
    refine L_bipush (pc := 59) (v := 99) X d_X12_repeats_59 (by decide) ?_
    refine L_icmp_gt (pc := 61) (tgt := 92) X d_X12_repeats_61 (by decide) (fun c61 => ?_) (fun c61 => ?_)
    · replace h := h.1 c61
      refine L_iconst (pc := 92) (v := (-1)) X d_X12_repeats_92 (by decide) ?_
      exact L_iret (pc := 93) X hr d_X12_repeats_93 (by decide) (by decide) ⟨_, _, rfl, rfl, h⟩
    · replace h := h.2 c61
      refine L_lload (pc := 64) X d_X12_repeats_64 2 rfl ?_
      refine L_lload (pc := 66) X d_X12_repeats_66 0 rfl ?_
      refine L_lcmp (pc := 68) X d_X12_repeats_68 ?_
      refine L_if_gt (pc := 69) (tgt := 75) X d_X12_repeats_69 (by decide) (fun c69 => ?_) (fun c69 => ?_)
      · replace h := h.1 c69
        refine L_lload (pc := 75) X d_X12_repeats_75 2 rfl ?_
        refine L_lload (pc := 77) X d_X12_repeats_77 1 rfl ?_
        refine L_lmul (pc := 79) X d_X12_repeats_79 ?_
        refine L_ldc2 (pc := 80) (v := 1000000000) X d_X12_repeats_80 tw_1184 ?_
        refine L_ldiv (pc := 83) X d_X12_repeats_83 (by decide) ?_
        refine L_lstore (pc := 84) (lv2 := [(8, .long ((v8 * v6) / 1000000000)), (4, .long v4), (6, .long v6), (10, .int v10)]) X d_X12_repeats_84 (by decide) rfl ?_
        refine L_iinc (pc := 86) (v := v10 + 1) (lv2 := [(10, .int (v10 + 1)), (8, .long ((v8 * v6) / 1000000000)), (4, .long v4), (6, .long v6)]) X d_X12_repeats_86 3 rfl rfl (by decide) rfl ?_
        refine L_goto (pc := 89) (tgt := 57) X d_X12_repeats_89 (by decide) ?_
        refine LW.sub [2, 3, 1, 0] rfl ?_
        exact ih _ _ _ _  _ h
      · replace h := h.2 c69
        refine L_iload (pc := 72) X d_X12_repeats_72 3 rfl ?_
        exact L_iret (pc := 74) X hr d_X12_repeats_74 (by decide) (by decide) ⟨_, _, rfl, rfl, h⟩
set_option maxHeartbeats 4000000 in
set_option maxRecDepth 100000 in
theorem T_X12_repeats_17 {post : Int32 → CMu → Prop} {px : Nat → CMu → Prop} (hl : l.stackTraces = false) (X : MC p l s m args meth c cX12_repeats 11 RX12 G ρ A) (hr : meth.sig.returnType = (some .int)) (hex : ∀ z ∈ c.exceptionTable.toList, False) : ∀ (cm : CMu), B_X12_repeats_17 post px cm → LW p l e rm_X12_repeats s m args below meth c (Qm below G ρ A (PI (fun u => (u, mm, oo)) post) (PE (fun u => (u, mm, oo)) px) args s 4 24) G ρ A 11 3 18 17 [] [] (cm, mm, oo) := by
  intro cm h
  unfold B_X12_repeats_17 at h
  exact L_throw0 (pc := 17) X hex d_X12_repeats_17 d_X12_repeats_20 d_X12_repeats_21 d_X12_repeats_24 (by decide) (by decide) (by decide) (by decide) (by decide) (by decide) ⟨_, rfl, h⟩
set_option maxHeartbeats 4000000 in
set_option maxRecDepth 100000 in
theorem c_X12_repeats (hl : l.stackTraces = false) {x1 : Int32} {x2 : Int32} {x3 : Int32} {cm : CMu} {post : Int32 → CMu → Prop} {px : Nat → CMu → Prop} (h : w_X12_repeats post px x1 x2 x3 cm) : CT l yX12_repeats (.code yX12_repeats cX12_repeats 11 (some .int)) rm_X12_repeats 4 24 G ρ [.ref 1, .int x1, .int x2, .int x3] (cm, mm, oo) (PI (fun u => (u, mm, oo)) post) (PE (fun u => (u, mm, oo)) px) := by
  refine CT_of hl (by decide +kernel) rfl (Nat.le_of_ble_eq_true rfl) (lv0 := [(0, .ref 1), (1, .int x1), (2, .int x2), (3, .int x3)]) rfl (fun p e s m args below meth c A X hr hex hnm => ?_)
  unfold w_X12_repeats at h
  refine L_aload_n (pc := 0) X d_X12_repeats_0 rfl 0 rfl ?_
  refine L_iload_n (pc := 1) X d_X12_repeats_1 rfl 1 rfl ?_
  refine L_iload_n (pc := 2) X d_X12_repeats_2 rfl 2 rfl ?_
  refine L_callVV (pc := 3) X lk_X12_209 (c_X12_demandWay X.hst  h) rfl rfl kd_1 (by decide) rfl rfl ⟨by decide, by decide⟩ ⟨by decide, by decide⟩ (Nat.zero_le _) d_X12_repeats_3 rfl (fun x κ1 hx => L_pass X hex hx (by decide) (by decide)) (fun u2 h => ?_)
  refine L_iload_n (pc := 6) X d_X12_repeats_6 rfl 3 rfl ?_
  refine L_if_lt (pc := 7) (tgt := 17) X d_X12_repeats_7 (by decide) (fun c7 => ?_) (fun c7 => ?_)
  · replace h := h.1 c7
    refine LW.sub [] rfl ?_
    exact T_X12_repeats_17 hl X hr hex   _ h
  · replace h := h.2 c7
    refine L_iload_n (pc := 10) X d_X12_repeats_10 rfl 3 rfl ?_
    refine L_ldcw (pc := 11) (v := 1000000) X d_X12_repeats_11 tw_1181 ?_
    refine L_icmp_le (pc := 14) (tgt := 25) X d_X12_repeats_14 (by decide) (fun c14 => ?_) (fun c14 => ?_)
    · replace h := h.1 c14
      refine L_iload_n (pc := 25) X d_X12_repeats_25 rfl 3 rfl ?_
      refine L_i2l (pc := 26) X d_X12_repeats_26 ?_
      refine L_ldc2 (pc := 27) (v := 1000) X d_X12_repeats_27 tw_1182 ?_
      refine L_lmul (pc := 30) X d_X12_repeats_30 ?_
      refine L_lstore (pc := 31) (lv2 := [(4, .long ((Int32.toInt64 x3) * 1000)), (0, .ref 1), (1, .int x1), (2, .int x2), (3, .int x3)]) X d_X12_repeats_31 (by decide) rfl ?_
      refine L_ldcw (pc := 33) (v := 1000000000) X d_X12_repeats_33 tw_1183 ?_
      refine L_aload_n (pc := 36) X d_X12_repeats_36 rfl 1 rfl ?_
      refine gf_X12_40 (pc := 37) (b := 382) X d_X12_repeats_37 kd_1 rfl ?_
      refine L_iload_n (pc := 40) X d_X12_repeats_40 rfl 2 rfl ?_
      refine L_iload_n (pc := 41) X d_X12_repeats_41 rfl 3 rfl ?_
      refine L_callVI (pc := 42) X lk_X12_255 (c_X4_billionths X.hst kd_382 h) rfl rfl kd_382 (by decide) rfl rfl ⟨by decide, by decide⟩ ⟨by decide, by decide⟩ (Nat.le_of_ble_eq_true rfl) d_X12_repeats_42 rfl (fun x κ1 hx => L_nox hx) (fun r3 u4 h => ?_)
      refine L_isub (pc := 45) X d_X12_repeats_45 ?_
      refine L_i2l (pc := 46) X d_X12_repeats_46 ?_
      refine L_lstore (pc := 47) (lv2 := [(6, .long (Int32.toInt64 (1000000000 - r3))), (4, .long ((Int32.toInt64 x3) * 1000)), (0, .ref 1), (1, .int x1), (2, .int x2), (3, .int x3)]) X d_X12_repeats_47 (by decide) rfl ?_
      refine L_ldc2 (pc := 49) (v := 1000000000) X d_X12_repeats_49 tw_1184 ?_
      refine L_lstore (pc := 52) (lv2 := [(8, .long 1000000000), (6, .long (Int32.toInt64 (1000000000 - r3))), (4, .long ((Int32.toInt64 x3) * 1000)), (0, .ref 1), (1, .int x1), (2, .int x2), (3, .int x3)]) X d_X12_repeats_52 (by decide) rfl ?_
      refine L_iconst (pc := 54) (v := 0) X d_X12_repeats_54 (by decide) ?_
      refine L_istore (pc := 55) (lv2 := [(10, .int 0), (8, .long 1000000000), (6, .long (Int32.toInt64 (1000000000 - r3))), (4, .long ((Int32.toInt64 x3) * 1000)), (0, .ref 1), (1, .int x1), (2, .int x2), (3, .int x3)]) X d_X12_repeats_55 (by decide) rfl ?_
      obtain ⟨n57, h⟩ := h
      refine LW.sub [3, 2, 1, 0] rfl ?_
      exact T_X12_repeats_57 hl X hr hex n57 _ _ _ _  _ h
    · replace h := h.2 c14
      refine LW.sub [] rfl ?_
      exact T_X12_repeats_17 hl X hr hex   _ h
end G_X12_repeats
theorem yk_X4_free : yX4_free.cls = RX4 ∧ yX4_free.cls ≠ "java/lang/invoke/MethodHandle" ∧ yX4_free.cls ≠ "java/lang/invoke/VarHandle" ∧ (parseMethodDescriptor yX4_free.desc).map (fun d => d.parameters.length) = some 1 := by decide +kernel
theorem lk_X12_130 : LinkV RX12 130 RX4 yX4_free (.code yX4_free cX4_free 4 (some .int)) 1 := ⟨tw_1034, tw_1035, tw_1036, tw_78, tw_1037, yk_X4_free⟩
theorem d_X12_pole_0 : decode cX12_pole 0 = .ok (.aload_n 0, 1) := by decide +kernel
theorem d_X12_pole_1 : decode cX12_pole 1 = .ok (.iload_n 1, 1) := by decide +kernel
theorem d_X12_pole_2 : decode cX12_pole 2 = .ok (.invokevirtual 127, 3) := by decide +kernel
theorem d_X12_pole_5 : decode cX12_pole 5 = .ok (.aload_n 0, 1) := by decide +kernel
theorem d_X12_pole_6 : decode cX12_pole 6 = .ok (.getfield 40, 3) := by decide +kernel
theorem d_X12_pole_9 : decode cX12_pole 9 = .ok (.iload_n 1, 1) := by decide +kernel
theorem d_X12_pole_10 : decode cX12_pole 10 = .ok (.invokevirtual 130, 3) := by decide +kernel
theorem d_X12_pole_13 : decode cX12_pole 13 = .ok (.ireturn, 1) := by decide +kernel
abbrev rm_X12_pole : Room := { frames := 7, cells := 1, slots := 6, locals := 121 }
def w_X12_pole (post : Int32 → CMu → Prop) (px : Nat → CMu → Prop) (x1 : Int32) (cm : CMu) : Prop := w_X12_demandReach (fun (u2 : CMu) => w_X4_free (fun (r3 : Int32) (u4 : CMu) => post r3 u4) 382 x1 u2) px x1 cm
section G_X12_pole
variable {p : Program} {l : Launch} {e : Env} {s : State} {m : MethodId} {args : Array Value} {below : List Frame} {meth : Method} {c : Code} {G : Gd} {ρ : Nat → Nat} {A : Nat → Prop} {mm : Nat → Nat → Int32} {oo : Nat → Int64}
set_option maxHeartbeats 4000000 in
set_option maxRecDepth 100000 in
theorem c_X12_pole (hl : l.stackTraces = false) {x1 : Int32} {cm : CMu} {post : Int32 → CMu → Prop} {px : Nat → CMu → Prop} (h : w_X12_pole post px x1 cm) : CT l yX12_pole (.code yX12_pole cX12_pole 2 (some .int)) rm_X12_pole 1 6 G ρ [.ref 1, .int x1] (cm, mm, oo) (PI (fun u => (u, mm, oo)) post) (PE (fun u => (u, mm, oo)) px) := by
  refine CT_of hl (by decide +kernel) rfl (Nat.le_of_ble_eq_true rfl) (lv0 := [(0, .ref 1), (1, .int x1)]) rfl (fun p e s m args below meth c A X hr hex hnm => ?_)
  unfold w_X12_pole at h
  refine L_aload_n (pc := 0) X d_X12_pole_0 rfl 0 rfl ?_
  refine L_iload_n (pc := 1) X d_X12_pole_1 rfl 1 rfl ?_
  refine L_callVV (pc := 2) X lk_X12_127 (c_X12_demandReach X.hst  h) rfl rfl kd_1 (by decide) rfl rfl ⟨by decide, by decide⟩ ⟨by decide, by decide⟩ (Nat.zero_le _) d_X12_pole_2 rfl (fun x κ1 hx => L_pass X hex hx (by decide) (by decide)) (fun u2 h => ?_)
  refine L_aload_n (pc := 5) X d_X12_pole_5 rfl 0 rfl ?_
  refine gf_X12_40 (pc := 6) (b := 382) X d_X12_pole_6 kd_1 rfl ?_
  refine L_iload_n (pc := 9) X d_X12_pole_9 rfl 1 rfl ?_
  refine L_callVI (pc := 10) X lk_X12_130 (c_X4_free X.hst kd_382 h) rfl rfl kd_382 (by decide) rfl rfl ⟨by decide, by decide⟩ ⟨by decide, by decide⟩ (Nat.zero_le _) d_X12_pole_10 rfl (fun x κ1 hx => L_nox hx) (fun r3 u4 h => ?_)
  exact L_iret (pc := 13) X hr d_X12_pole_13 (by decide) (by decide) ⟨_, _, rfl, rfl, h⟩
end G_X12_pole
theorem yk_X4_copyFrom : yX4_copyFrom.cls = RX4 ∧ yX4_copyFrom.cls ≠ "java/lang/invoke/MethodHandle" ∧ yX4_copyFrom.cls ≠ "java/lang/invoke/VarHandle" ∧ (parseMethodDescriptor yX4_copyFrom.desc).map (fun d => d.parameters.length) = some 1 := by decide +kernel
theorem lk_X12_70 : LinkV RX12 70 RX4 yX4_copyFrom (.code yX4_copyFrom cX4_copyFrom 3 none) 1 := ⟨tw_522, tw_523, tw_524, tw_78, tw_525, yk_X4_copyFrom⟩
theorem d_X12_image_0 : decode cX12_image 0 = .ok (.aload_n 0, 1) := by decide +kernel
theorem d_X12_image_1 : decode cX12_image 1 = .ok (.getfield 44, 3) := by decide +kernel
theorem d_X12_image_4 : decode cX12_image 4 = .ok (.aload_n 0, 1) := by decide +kernel
theorem d_X12_image_5 : decode cX12_image 5 = .ok (.getfield 40, 3) := by decide +kernel
theorem d_X12_image_8 : decode cX12_image 8 = .ok (.invokevirtual 70, 3) := by decide +kernel
theorem d_X12_image_11 : decode cX12_image 11 = .ok (.aload_n 0, 1) := by decide +kernel
theorem d_X12_image_12 : decode cX12_image 12 = .ok (.iconst 1, 1) := by decide +kernel
theorem d_X12_image_13 : decode cX12_image 13 = .ok (.putfield 288, 3) := by decide +kernel
theorem d_X12_image_16 : decode cX12_image 16 = .ok (.return_, 1) := by decide +kernel
abbrev rm_X12_image : Room := { frames := 2, cells := 0, slots := 0, locals := 45 }
def w_X12_image (post : CMu → Prop) (cm : CMu) : Prop := w_X4_copyFrom (fun (u2 : CMu) => post (uI u2 1 7 1)) 489 382 cm
section G_X12_image
variable {p : Program} {l : Launch} {e : Env} {s : State} {m : MethodId} {args : Array Value} {below : List Frame} {meth : Method} {c : Code} {G : Gd} {ρ : Nat → Nat} {A : Nat → Prop} {mm : Nat → Nat → Int32} {oo : Nat → Int64}
set_option maxHeartbeats 4000000 in
set_option maxRecDepth 100000 in
theorem c_X12_image (hl : l.stackTraces = false) {cm : CMu} {post : CMu → Prop} (h : w_X12_image post cm) : CT l yX12_image (.code yX12_image cX12_image 1 none) rm_X12_image 0 0 G ρ [.ref 1] (cm, mm, oo) (PV (fun u => (u, mm, oo)) post) noX := by
  refine CT_of hl (by decide +kernel) rfl (Nat.le_of_ble_eq_true rfl) (lv0 := [(0, .ref 1)]) rfl (fun p e s m args below meth c A X hr hex hnm => ?_)
  unfold w_X12_image at h
  refine L_aload_n (pc := 0) X d_X12_image_0 rfl 0 rfl ?_
  refine gf_X12_44 (pc := 1) (b := 489) X d_X12_image_1 kd_1 rfl ?_
  refine L_aload_n (pc := 4) X d_X12_image_4 rfl 0 rfl ?_
  refine gf_X12_40 (pc := 5) (b := 382) X d_X12_image_5 kd_1 rfl ?_
  refine L_callVV (pc := 8) X lk_X12_70 (c_X4_copyFrom X.hst kd_489 kd_382 h) rfl rfl kd_489 (by decide) rfl rfl ⟨by decide, by decide⟩ ⟨by decide, by decide⟩ (Nat.zero_le _) d_X12_image_8 rfl (fun x κ1 hx => L_nox hx) (fun u2 h => ?_)
  refine L_aload_n (pc := 11) X d_X12_image_11 rfl 0 rfl ?_
  refine L_iconst (pc := 12) (v := 1) X d_X12_image_12 (by decide) ?_
  refine pf_X12_288 (pc := 13) X d_X12_image_13 kd_1 rfl rfl ?_
  exact L_vret (pc := 16) X hr d_X12_image_16 (by decide) (by decide) ⟨_, rfl, rfl, h⟩
end G_X12_image
theorem d_X12_back_0 : decode cX12_back 0 = .ok (.aload_n 0, 1) := by decide +kernel
theorem d_X12_back_1 : decode cX12_back 1 = .ok (.getfield 288, 3) := by decide +kernel
theorem d_X12_back_4 : decode cX12_back 4 = .ok (.ifCond .eq 14, 3) := by decide +kernel
theorem d_X12_back_7 : decode cX12_back 7 = .ok (.aload_n 0, 1) := by decide +kernel
theorem d_X12_back_8 : decode cX12_back 8 = .ok (.getfield 40, 3) := by decide +kernel
theorem d_X12_back_11 : decode cX12_back 11 = .ok (.aload_n 0, 1) := by decide +kernel
theorem d_X12_back_12 : decode cX12_back 12 = .ok (.getfield 44, 3) := by decide +kernel
theorem d_X12_back_15 : decode cX12_back 15 = .ok (.invokevirtual 70, 3) := by decide +kernel
theorem d_X12_back_18 : decode cX12_back 18 = .ok (.aload_n 0, 1) := by decide +kernel
theorem d_X12_back_19 : decode cX12_back 19 = .ok (.getfield 288, 3) := by decide +kernel
theorem d_X12_back_22 : decode cX12_back 22 = .ok (.ireturn, 1) := by decide +kernel
abbrev rm_X12_back : Room := { frames := 2, cells := 0, slots := 0, locals := 45 }
def w_X12_back (post : Bool → CMu → Prop) (cm : CMu) : Prop := ((gI cm 1 7) = 0 → (((gI cm 1 7) = 0 ∧ post false cm) ∨ ((gI cm 1 7) = 1 ∧ post true cm))) ∧ (¬ (gI cm 1 7) = 0 → (w_X4_copyFrom (fun (u2 : CMu) => ((gI u2 1 7) = 0 ∧ post false u2) ∨ ((gI u2 1 7) = 1 ∧ post true u2)) 382 489 cm))
section G_X12_back
variable {p : Program} {l : Launch} {e : Env} {s : State} {m : MethodId} {args : Array Value} {below : List Frame} {meth : Method} {c : Code} {G : Gd} {ρ : Nat → Nat} {A : Nat → Prop} {mm : Nat → Nat → Int32} {oo : Nat → Int64}
set_option maxHeartbeats 4000000 in
set_option maxRecDepth 100000 in
theorem c_X12_back (hl : l.stackTraces = false) {cm : CMu} {post : Bool → CMu → Prop} (h : w_X12_back post cm) : CT l yX12_back (.code yX12_back cX12_back 1 (some .boolean)) rm_X12_back 0 0 G ρ [.ref 1] (cm, mm, oo) (PZ (fun u => (u, mm, oo)) post) noX := by
  refine CT_of hl (by decide +kernel) rfl (Nat.le_of_ble_eq_true rfl) (lv0 := [(0, .ref 1)]) rfl (fun p e s m args below meth c A X hr hex hnm => ?_)
  unfold w_X12_back at h
  refine L_aload_n (pc := 0) X d_X12_back_0 rfl 0 rfl ?_
  refine gf_X12_288 (pc := 1) X d_X12_back_1 kd_1 ?_
  refine L_if_eq (pc := 4) (tgt := 18) X d_X12_back_4 (by decide) (fun c4 => ?_) (fun c4 => ?_)
  · replace h := h.1 c4
    refine L_aload_n (pc := 18) X d_X12_back_18 rfl 0 rfl ?_
    refine gf_X12_288 (pc := 19) X d_X12_back_19 kd_1 ?_
    rcases h with ⟨q, h⟩ | ⟨q, h⟩
    · exact L_zretB (pc := 22) X hr d_X12_back_22 false q (by decide) (by decide) ⟨_, _, rfl, rfl, h⟩
    · exact L_zretB (pc := 22) X hr d_X12_back_22 true q (by decide) (by decide) ⟨_, _, rfl, rfl, h⟩
  · replace h := h.2 c4
    refine L_aload_n (pc := 7) X d_X12_back_7 rfl 0 rfl ?_
    refine gf_X12_40 (pc := 8) (b := 382) X d_X12_back_8 kd_1 rfl ?_
    refine L_aload_n (pc := 11) X d_X12_back_11 rfl 0 rfl ?_
    refine gf_X12_44 (pc := 12) (b := 489) X d_X12_back_12 kd_1 rfl ?_
    refine L_callVV (pc := 15) X lk_X12_70 (c_X4_copyFrom X.hst kd_382 kd_489 h) rfl rfl kd_382 (by decide) rfl rfl ⟨by decide, by decide⟩ ⟨by decide, by decide⟩ (Nat.zero_le _) d_X12_back_15 rfl (fun x κ1 hx => L_nox hx) (fun u2 h => ?_)
    refine L_aload_n (pc := 18) X d_X12_back_18 rfl 0 rfl ?_
    refine gf_X12_288 (pc := 19) X d_X12_back_19 kd_1 ?_
    rcases h with ⟨q, h⟩ | ⟨q, h⟩
    · exact L_zretB (pc := 22) X hr d_X12_back_22 false q (by decide) (by decide) ⟨_, _, rfl, rfl, h⟩
    · exact L_zretB (pc := 22) X hr d_X12_back_22 true q (by decide) (by decide) ⟨_, _, rfl, rfl, h⟩
end G_X12_back
theorem yk_X4_allSent : yX4_allSent.cls = RX4 ∧ yX4_allSent.cls ≠ "java/lang/invoke/MethodHandle" ∧ yX4_allSent.cls ≠ "java/lang/invoke/VarHandle" ∧ (parseMethodDescriptor yX4_allSent.desc).map (fun d => d.parameters.length) = some 0 := by decide +kernel
theorem lk_X12_285 : LinkV RX12 285 RX4 yX4_allSent (.code yX4_allSent cX4_allSent 3 (some .int)) 0 := ⟨tw_554, tw_555, tw_556, tw_78, tw_557, yk_X4_allSent⟩
theorem yk_X4_allLate : yX4_allLate.cls = RX4 ∧ yX4_allLate.cls ≠ "java/lang/invoke/MethodHandle" ∧ yX4_allLate.cls ≠ "java/lang/invoke/VarHandle" ∧ (parseMethodDescriptor yX4_allLate.desc).map (fun d => d.parameters.length) = some 0 := by decide +kernel
theorem lk_X12_295 : LinkV RX12 295 RX4 yX4_allLate (.code yX4_allLate cX4_allLate 3 (some .int)) 0 := ⟨tw_550, tw_551, tw_552, tw_78, tw_553, yk_X4_allLate⟩
theorem lk_X12_298 : LinkV RX12 298 RX4 yX4_hasFrost (.code yX4_hasFrost cX4_hasFrost 1 (some .boolean)) 0 := ⟨tw_558, tw_559, tw_560, tw_78, tw_561, yk_X4_hasFrost⟩
theorem d_X12_count_0 : decode cX12_count 0 = .ok (.iload_n 1, 1) := by decide +kernel
theorem d_X12_count_1 : decode cX12_count 1 = .ok (.tableswitch 146 0 9 #[55, 63, 71, 79, 87, 95, 103, 114, 122, 130], 55) := by decide +kernel
theorem d_X12_count_56 : decode cX12_count 56 = .ok (.aload_n 0, 1) := by decide +kernel
theorem d_X12_count_57 : decode cX12_count 57 = .ok (.getfield 40, 3) := by decide +kernel
theorem d_X12_count_60 : decode cX12_count 60 = .ok (.getfield 91, 3) := by decide +kernel
theorem d_X12_count_63 : decode cX12_count 63 = .ok (.ireturn, 1) := by decide +kernel
theorem d_X12_count_64 : decode cX12_count 64 = .ok (.aload_n 0, 1) := by decide +kernel
theorem d_X12_count_65 : decode cX12_count 65 = .ok (.getfield 40, 3) := by decide +kernel
theorem d_X12_count_68 : decode cX12_count 68 = .ok (.getfield 85, 3) := by decide +kernel
theorem d_X12_count_71 : decode cX12_count 71 = .ok (.ireturn, 1) := by decide +kernel
theorem d_X12_count_72 : decode cX12_count 72 = .ok (.aload_n 0, 1) := by decide +kernel
theorem d_X12_count_73 : decode cX12_count 73 = .ok (.getfield 40, 3) := by decide +kernel
theorem d_X12_count_76 : decode cX12_count 76 = .ok (.getfield 104, 3) := by decide +kernel
theorem d_X12_count_79 : decode cX12_count 79 = .ok (.ireturn, 1) := by decide +kernel
theorem d_X12_count_80 : decode cX12_count 80 = .ok (.aload_n 0, 1) := by decide +kernel
theorem d_X12_count_81 : decode cX12_count 81 = .ok (.getfield 40, 3) := by decide +kernel
theorem d_X12_count_84 : decode cX12_count 84 = .ok (.getfield 120, 3) := by decide +kernel
theorem d_X12_count_87 : decode cX12_count 87 = .ok (.ireturn, 1) := by decide +kernel
theorem d_X12_count_88 : decode cX12_count 88 = .ok (.aload_n 0, 1) := by decide +kernel
theorem d_X12_count_89 : decode cX12_count 89 = .ok (.getfield 40, 3) := by decide +kernel
theorem d_X12_count_92 : decode cX12_count 92 = .ok (.getfield 292, 3) := by decide +kernel
theorem d_X12_count_95 : decode cX12_count 95 = .ok (.ireturn, 1) := by decide +kernel
theorem d_X12_count_96 : decode cX12_count 96 = .ok (.aload_n 0, 1) := by decide +kernel
theorem d_X12_count_97 : decode cX12_count 97 = .ok (.getfield 40, 3) := by decide +kernel
theorem d_X12_count_100 : decode cX12_count 100 = .ok (.getfield 137, 3) := by decide +kernel
theorem d_X12_count_103 : decode cX12_count 103 = .ok (.ireturn, 1) := by decide +kernel
theorem d_X12_count_104 : decode cX12_count 104 = .ok (.aload_n 0, 1) := by decide +kernel
theorem d_X12_count_105 : decode cX12_count 105 = .ok (.getfield 40, 3) := by decide +kernel
theorem d_X12_count_108 : decode cX12_count 108 = .ok (.getfield 229, 3) := by decide +kernel
theorem d_X12_count_111 : decode cX12_count 111 = .ok (.getfield 233, 3) := by decide +kernel
theorem d_X12_count_114 : decode cX12_count 114 = .ok (.ireturn, 1) := by decide +kernel
theorem d_X12_count_115 : decode cX12_count 115 = .ok (.aload_n 0, 1) := by decide +kernel
theorem d_X12_count_116 : decode cX12_count 116 = .ok (.getfield 40, 3) := by decide +kernel
theorem d_X12_count_119 : decode cX12_count 119 = .ok (.invokevirtual 295, 3) := by decide +kernel
theorem d_X12_count_122 : decode cX12_count 122 = .ok (.ireturn, 1) := by decide +kernel
theorem d_X12_count_123 : decode cX12_count 123 = .ok (.aload_n 0, 1) := by decide +kernel
theorem d_X12_count_124 : decode cX12_count 124 = .ok (.getfield 40, 3) := by decide +kernel
theorem d_X12_count_127 : decode cX12_count 127 = .ok (.invokevirtual 285, 3) := by decide +kernel
theorem d_X12_count_130 : decode cX12_count 130 = .ok (.ireturn, 1) := by decide +kernel
theorem d_X12_count_131 : decode cX12_count 131 = .ok (.aload_n 0, 1) := by decide +kernel
theorem d_X12_count_132 : decode cX12_count 132 = .ok (.getfield 40, 3) := by decide +kernel
theorem d_X12_count_135 : decode cX12_count 135 = .ok (.invokevirtual 298, 3) := by decide +kernel
theorem d_X12_count_138 : decode cX12_count 138 = .ok (.ifCond .eq 7, 3) := by decide +kernel
theorem d_X12_count_141 : decode cX12_count 141 = .ok (.iconst 1, 1) := by decide +kernel
theorem d_X12_count_142 : decode cX12_count 142 = .ok (.goto 4, 3) := by decide +kernel
theorem d_X12_count_145 : decode cX12_count 145 = .ok (.iconst 0, 1) := by decide +kernel
theorem d_X12_count_146 : decode cX12_count 146 = .ok (.ireturn, 1) := by decide +kernel
theorem d_X12_count_147 : decode cX12_count 147 = .ok (.iconst (-1), 1) := by decide +kernel
theorem d_X12_count_148 : decode cX12_count 148 = .ok (.ireturn, 1) := by decide +kernel
abbrev rm_X12_count : Room := { frames := 2, cells := 0, slots := 0, locals := 41 }
def B_X12_count_146 (post : Int32 → CMu → Prop) (s0 : Bool) (cm : CMu) : Prop := post (b2 s0) cm
def w_X12_count (post : Int32 → CMu → Prop) (x1 : Int32) (cm : CMu) : Prop := ((Int32.toInt x1 < 0 ∨ 9 < Int32.toInt x1) → (post (-1) cm)) ∧ (Int32.toInt x1 = 0 → (post (gI cm 382 5) cm)) ∧ (Int32.toInt x1 = 1 → (post (gI cm 382 8) cm)) ∧ (Int32.toInt x1 = 2 → (post (gI cm 382 6) cm)) ∧ (Int32.toInt x1 = 3 → (post (gI cm 382 7) cm)) ∧ (Int32.toInt x1 = 4 → (post (gI cm 382 12) cm)) ∧ (Int32.toInt x1 = 5 → (post (gI cm 382 9) cm)) ∧ (Int32.toInt x1 = 6 → (post (gI cm 387 3) cm)) ∧ (Int32.toInt x1 = 7 → (w_X4_allLate (fun (r1 : Int32) (u2 : CMu) => post r1 u2) 382 cm)) ∧ (Int32.toInt x1 = 8 → (w_X4_allSent (fun (r3 : Int32) (u4 : CMu) => post r3 u4) 382 cm)) ∧ (Int32.toInt x1 = 9 → (w_X4_hasFrost (fun (r5 : Bool) (u6 : CMu) => ((r5 = false) → (B_X12_count_146 post false u6)) ∧ (¬ (r5 = false) → (B_X12_count_146 post true u6))) 382 cm))
section G_X12_count
variable {p : Program} {l : Launch} {e : Env} {s : State} {m : MethodId} {args : Array Value} {below : List Frame} {meth : Method} {c : Code} {G : Gd} {ρ : Nat → Nat} {A : Nat → Prop} {mm : Nat → Nat → Int32} {oo : Nat → Int64}
set_option maxHeartbeats 4000000 in
set_option maxRecDepth 100000 in
theorem T_X12_count_146 {post : Int32 → CMu → Prop} (hl : l.stackTraces = false) (X : MC p l s m args meth c cX12_count 2 RX12 G ρ A) (hr : meth.sig.returnType = (some .int)) (hex : ∀ z ∈ c.exceptionTable.toList, False) : ∀ (s0 : Bool) (cm : CMu), B_X12_count_146 post s0 cm → LW p l e rm_X12_count s m args below meth c (Qm below G ρ A (PI (fun u => (u, mm, oo)) post) noX args s 0 0) G ρ A 2 0 0 146 [] [.int (b2 s0)] (cm, mm, oo) := by
  intro s0 cm h
  unfold B_X12_count_146 at h
  exact L_iret (pc := 146) X hr d_X12_count_146 (by decide) (by decide) ⟨_, _, rfl, rfl, h⟩
set_option maxHeartbeats 4000000 in
set_option maxRecDepth 100000 in
theorem c_X12_count (hl : l.stackTraces = false) {x1 : Int32} {cm : CMu} {post : Int32 → CMu → Prop} (h : w_X12_count post x1 cm) : CT l yX12_count (.code yX12_count cX12_count 2 (some .int)) rm_X12_count 0 0 G ρ [.ref 1, .int x1] (cm, mm, oo) (PI (fun u => (u, mm, oo)) post) noX := by
  refine CT_of hl (by decide +kernel) rfl (Nat.le_of_ble_eq_true rfl) (lv0 := [(0, .ref 1), (1, .int x1)]) rfl (fun p e s m args below meth c A X hr hex hnm => ?_)
  unfold w_X12_count at h
  refine L_iload_n (pc := 0) X d_X12_count_0 rfl 1 rfl ?_
  by_cases ct1 : Int32.toInt x1 < 0
  · refine L_tableOut (pc := 1) (tgt := 147) X d_X12_count_1 (Or.inl ct1) (by decide) ?_
    replace h := h.1 (Or.inl ct1)
    refine L_iconst (pc := 147) (v := (-1)) X d_X12_count_147 (by decide) ?_
    exact L_iret (pc := 148) X hr d_X12_count_148 (by decide) (by decide) ⟨_, _, rfl, rfl, h⟩
  by_cases ct2 : 9 < Int32.toInt x1
  · refine L_tableOut (pc := 1) (tgt := 147) X d_X12_count_1 (Or.inr ct2) (by decide) ?_
    replace h := h.1 (Or.inr ct2)
    refine L_iconst (pc := 147) (v := (-1)) X d_X12_count_147 (by decide) ?_
    exact L_iret (pc := 148) X hr d_X12_count_148 (by decide) (by decide) ⟨_, _, rfl, rfl, h⟩
  have ct3 : Int32.toInt x1 = 0 ∨ Int32.toInt x1 = 1 ∨ Int32.toInt x1 = 2 ∨ Int32.toInt x1 = 3 ∨ Int32.toInt x1 = 4 ∨ Int32.toInt x1 = 5 ∨ Int32.toInt x1 = 6 ∨ Int32.toInt x1 = 7 ∨ Int32.toInt x1 = 8 ∨ Int32.toInt x1 = 9 := by omega
  rcases ct3 with ct3 | ct3 | ct3 | ct3 | ct3 | ct3 | ct3 | ct3 | ct3 | ct3
  · refine L_tableIn (pc := 1) (tgt := 56) (off := 55) X d_X12_count_1 ct1 ct2 (by rw [ct3]; rfl) (by decide) ?_
    replace h := h.2.1 ct3
    refine L_aload_n (pc := 56) X d_X12_count_56 rfl 0 rfl ?_
    refine gf_X12_40 (pc := 57) (b := 382) X d_X12_count_57 kd_1 rfl ?_
    refine gf_X12_91 (pc := 60) X d_X12_count_60 kd_382 ?_
    exact L_iret (pc := 63) X hr d_X12_count_63 (by decide) (by decide) ⟨_, _, rfl, rfl, h⟩
  · refine L_tableIn (pc := 1) (tgt := 64) (off := 63) X d_X12_count_1 ct1 ct2 (by rw [ct3]; rfl) (by decide) ?_
    replace h := h.2.2.1 ct3
    refine L_aload_n (pc := 64) X d_X12_count_64 rfl 0 rfl ?_
    refine gf_X12_40 (pc := 65) (b := 382) X d_X12_count_65 kd_1 rfl ?_
    refine gf_X12_85 (pc := 68) X d_X12_count_68 kd_382 ?_
    exact L_iret (pc := 71) X hr d_X12_count_71 (by decide) (by decide) ⟨_, _, rfl, rfl, h⟩
  · refine L_tableIn (pc := 1) (tgt := 72) (off := 71) X d_X12_count_1 ct1 ct2 (by rw [ct3]; rfl) (by decide) ?_
    replace h := h.2.2.2.1 ct3
    refine L_aload_n (pc := 72) X d_X12_count_72 rfl 0 rfl ?_
    refine gf_X12_40 (pc := 73) (b := 382) X d_X12_count_73 kd_1 rfl ?_
    refine gf_X12_104 (pc := 76) X d_X12_count_76 kd_382 ?_
    exact L_iret (pc := 79) X hr d_X12_count_79 (by decide) (by decide) ⟨_, _, rfl, rfl, h⟩
  · refine L_tableIn (pc := 1) (tgt := 80) (off := 79) X d_X12_count_1 ct1 ct2 (by rw [ct3]; rfl) (by decide) ?_
    replace h := h.2.2.2.2.1 ct3
    refine L_aload_n (pc := 80) X d_X12_count_80 rfl 0 rfl ?_
    refine gf_X12_40 (pc := 81) (b := 382) X d_X12_count_81 kd_1 rfl ?_
    refine gf_X12_120 (pc := 84) X d_X12_count_84 kd_382 ?_
    exact L_iret (pc := 87) X hr d_X12_count_87 (by decide) (by decide) ⟨_, _, rfl, rfl, h⟩
  · refine L_tableIn (pc := 1) (tgt := 88) (off := 87) X d_X12_count_1 ct1 ct2 (by rw [ct3]; rfl) (by decide) ?_
    replace h := h.2.2.2.2.2.1 ct3
    refine L_aload_n (pc := 88) X d_X12_count_88 rfl 0 rfl ?_
    refine gf_X12_40 (pc := 89) (b := 382) X d_X12_count_89 kd_1 rfl ?_
    refine gf_X12_292 (pc := 92) X d_X12_count_92 kd_382 ?_
    exact L_iret (pc := 95) X hr d_X12_count_95 (by decide) (by decide) ⟨_, _, rfl, rfl, h⟩
  · refine L_tableIn (pc := 1) (tgt := 96) (off := 95) X d_X12_count_1 ct1 ct2 (by rw [ct3]; rfl) (by decide) ?_
    replace h := h.2.2.2.2.2.2.1 ct3
    refine L_aload_n (pc := 96) X d_X12_count_96 rfl 0 rfl ?_
    refine gf_X12_40 (pc := 97) (b := 382) X d_X12_count_97 kd_1 rfl ?_
    refine gf_X12_137 (pc := 100) X d_X12_count_100 kd_382 ?_
    exact L_iret (pc := 103) X hr d_X12_count_103 (by decide) (by decide) ⟨_, _, rfl, rfl, h⟩
  · refine L_tableIn (pc := 1) (tgt := 104) (off := 103) X d_X12_count_1 ct1 ct2 (by rw [ct3]; rfl) (by decide) ?_
    replace h := h.2.2.2.2.2.2.2.1 ct3
    refine L_aload_n (pc := 104) X d_X12_count_104 rfl 0 rfl ?_
    refine gf_X12_40 (pc := 105) (b := 382) X d_X12_count_105 kd_1 rfl ?_
    refine gf_X12_229 (pc := 108) (b := 387) X d_X12_count_108 kd_382 rfl ?_
    refine gf_X12_233 (pc := 111) X d_X12_count_111 kd_387 ?_
    exact L_iret (pc := 114) X hr d_X12_count_114 (by decide) (by decide) ⟨_, _, rfl, rfl, h⟩
  · refine L_tableIn (pc := 1) (tgt := 115) (off := 114) X d_X12_count_1 ct1 ct2 (by rw [ct3]; rfl) (by decide) ?_
    replace h := h.2.2.2.2.2.2.2.2.1 ct3
    refine L_aload_n (pc := 115) X d_X12_count_115 rfl 0 rfl ?_
    refine gf_X12_40 (pc := 116) (b := 382) X d_X12_count_116 kd_1 rfl ?_
    refine L_callVI (pc := 119) X lk_X12_295 (c_X4_allLate X.hst kd_382 h) rfl rfl kd_382 (by decide) rfl rfl ⟨by decide, by decide⟩ ⟨by decide, by decide⟩ (Nat.zero_le _) d_X12_count_119 rfl (fun x κ1 hx => L_nox hx) (fun r1 u2 h => ?_)
    exact L_iret (pc := 122) X hr d_X12_count_122 (by decide) (by decide) ⟨_, _, rfl, rfl, h⟩
  · refine L_tableIn (pc := 1) (tgt := 123) (off := 122) X d_X12_count_1 ct1 ct2 (by rw [ct3]; rfl) (by decide) ?_
    replace h := h.2.2.2.2.2.2.2.2.2.1 ct3
    refine L_aload_n (pc := 123) X d_X12_count_123 rfl 0 rfl ?_
    refine gf_X12_40 (pc := 124) (b := 382) X d_X12_count_124 kd_1 rfl ?_
    refine L_callVI (pc := 127) X lk_X12_285 (c_X4_allSent X.hst kd_382 h) rfl rfl kd_382 (by decide) rfl rfl ⟨by decide, by decide⟩ ⟨by decide, by decide⟩ (Nat.zero_le _) d_X12_count_127 rfl (fun x κ1 hx => L_nox hx) (fun r3 u4 h => ?_)
    exact L_iret (pc := 130) X hr d_X12_count_130 (by decide) (by decide) ⟨_, _, rfl, rfl, h⟩
  · refine L_tableIn (pc := 1) (tgt := 131) (off := 130) X d_X12_count_1 ct1 ct2 (by rw [ct3]; rfl) (by decide) ?_
    replace h := h.2.2.2.2.2.2.2.2.2.2 ct3
    refine L_aload_n (pc := 131) X d_X12_count_131 rfl 0 rfl ?_
    refine gf_X12_40 (pc := 132) (b := 382) X d_X12_count_132 kd_1 rfl ?_
    refine L_callVZ (pc := 135) X lk_X12_298 (c_X4_hasFrost X.hst kd_382 h) rfl rfl kd_382 (by decide) rfl rfl ⟨by decide, by decide⟩ ⟨by decide, by decide⟩ (Nat.zero_le _) d_X12_count_135 rfl (fun x κ1 hx => L_nox hx) (fun r5 u6 h => ?_)
    refine L_if_eq (pc := 138) (tgt := 145) X d_X12_count_138 (by decide) (fun c138 => ?_) (fun c138 => ?_)
    · replace h := h.1 ((b2_0 _).mp c138)
      refine L_iconst (pc := 145) (v := 0) X d_X12_count_145 (by decide) ?_
      refine LW.sub [] rfl ?_
      exact T_X12_count_146 hl X hr hex _  _ h
    · replace h := h.2 (fun z => c138 ((b2_0 _).mpr z))
      refine L_iconst (pc := 141) (v := 1) X d_X12_count_141 (by decide) ?_
      refine L_goto (pc := 142) (tgt := 146) X d_X12_count_142 (by decide) ?_
      refine LW.sub [] rfl ?_
      exact T_X12_count_146 hl X hr hex _  _ h
end G_X12_count
