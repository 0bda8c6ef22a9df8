theorem d_X4_isFrostyAt_0 : decode cX4_isFrostyAt 0 = .ok (.aload_n 0, 1) := by decide +kernel
theorem d_X4_isFrostyAt_1 : decode cX4_isFrostyAt 1 = .ok (.getfield 62, 3) := by decide +kernel
theorem d_X4_isFrostyAt_4 : decode cX4_isFrostyAt 4 = .ok (.aload_n 0, 1) := by decide +kernel
theorem d_X4_isFrostyAt_5 : decode cX4_isFrostyAt 5 = .ok (.getfield 65, 3) := by decide +kernel
theorem d_X4_isFrostyAt_8 : decode cX4_isFrostyAt 8 = .ok (.if_icmp .gt 25, 3) := by decide +kernel
theorem d_X4_isFrostyAt_11 : decode cX4_isFrostyAt 11 = .ok (.iload_n 1, 1) := by decide +kernel
theorem d_X4_isFrostyAt_12 : decode cX4_isFrostyAt 12 = .ok (.aload_n 0, 1) := by decide +kernel
theorem d_X4_isFrostyAt_13 : decode cX4_isFrostyAt 13 = .ok (.getfield 62, 3) := by decide +kernel
theorem d_X4_isFrostyAt_16 : decode cX4_isFrostyAt 16 = .ok (.if_icmp .lt 15, 3) := by decide +kernel
theorem d_X4_isFrostyAt_19 : decode cX4_isFrostyAt 19 = .ok (.iload_n 1, 1) := by decide +kernel
theorem d_X4_isFrostyAt_20 : decode cX4_isFrostyAt 20 = .ok (.aload_n 0, 1) := by decide +kernel
theorem d_X4_isFrostyAt_21 : decode cX4_isFrostyAt 21 = .ok (.getfield 65, 3) := by decide +kernel
theorem d_X4_isFrostyAt_24 : decode cX4_isFrostyAt 24 = .ok (.if_icmp .ge 7, 3) := by decide +kernel
theorem d_X4_isFrostyAt_27 : decode cX4_isFrostyAt 27 = .ok (.iconst 1, 1) := by decide +kernel
theorem d_X4_isFrostyAt_28 : decode cX4_isFrostyAt 28 = .ok (.goto 4, 3) := by decide +kernel
theorem d_X4_isFrostyAt_31 : decode cX4_isFrostyAt 31 = .ok (.iconst 0, 1) := by decide +kernel
theorem d_X4_isFrostyAt_32 : decode cX4_isFrostyAt 32 = .ok (.ireturn, 1) := by decide +kernel
theorem d_X4_isFrostyAt_33 : decode cX4_isFrostyAt 33 = .ok (.iload_n 1, 1) := by decide +kernel
theorem d_X4_isFrostyAt_34 : decode cX4_isFrostyAt 34 = .ok (.aload_n 0, 1) := by decide +kernel
theorem d_X4_isFrostyAt_35 : decode cX4_isFrostyAt 35 = .ok (.getfield 62, 3) := by decide +kernel
theorem d_X4_isFrostyAt_38 : decode cX4_isFrostyAt 38 = .ok (.if_icmp .ge 11, 3) := by decide +kernel
theorem d_X4_isFrostyAt_41 : decode cX4_isFrostyAt 41 = .ok (.iload_n 1, 1) := by decide +kernel
theorem d_X4_isFrostyAt_42 : decode cX4_isFrostyAt 42 = .ok (.aload_n 0, 1) := by decide +kernel
theorem d_X4_isFrostyAt_43 : decode cX4_isFrostyAt 43 = .ok (.getfield 65, 3) := by decide +kernel
theorem d_X4_isFrostyAt_46 : decode cX4_isFrostyAt 46 = .ok (.if_icmp .ge 7, 3) := by decide +kernel
theorem d_X4_isFrostyAt_49 : decode cX4_isFrostyAt 49 = .ok (.iconst 1, 1) := by decide +kernel
theorem d_X4_isFrostyAt_50 : decode cX4_isFrostyAt 50 = .ok (.goto 4, 3) := by decide +kernel
theorem d_X4_isFrostyAt_53 : decode cX4_isFrostyAt 53 = .ok (.iconst 0, 1) := by decide +kernel
theorem d_X4_isFrostyAt_54 : decode cX4_isFrostyAt 54 = .ok (.ireturn, 1) := by decide +kernel
abbrev rm_X4_isFrostyAt : Room := { frames := 0, cells := 0, slots := 0, locals := 0 }
def w_X4_isFrostyAt (post : Bool → CMu → Prop) (a0 : Nat) (x1 : Int32) (cm : CMu) : Prop := ((gI cm a0 11) < (gI cm a0 10) → (((gI cm a0 10) ≤ x1 → (post true cm)) ∧ (¬ (gI cm a0 10) ≤ x1 → (((gI cm a0 11) ≤ x1 → (post false cm)) ∧ (¬ (gI cm a0 11) ≤ x1 → (post true cm)))))) ∧ (¬ (gI cm a0 11) < (gI cm a0 10) → ((x1 < (gI cm a0 10) → (post false cm)) ∧ (¬ x1 < (gI cm a0 10) → (((gI cm a0 11) ≤ x1 → (post false cm)) ∧ (¬ (gI cm a0 11) ≤ x1 → (post true cm))))))
section G_X4_isFrostyAt
variable {p : Program} {l : Launch} {e : Env} {s : State} {m : MethodId} {args : Array Value} {below : List Frame} {meth : Method} {c : Code} {G : Gd} {ρ : Nat → Nat} {A : Nat → Prop} {mm : Nat → Nat → Int32} {oo : Nat → Int64}
set_option maxHeartbeats 4000000 in
set_option maxRecDepth 100000 in
theorem c_X4_isFrostyAt (hl : l.stackTraces = false) {a0 : Nat} {x1 : Int32} (h_a0 : (KD a0).1 = 3) {cm : CMu} {post : Bool → CMu → Prop} (h : w_X4_isFrostyAt post a0 x1 cm) : CT l yX4_isFrostyAt (.code yX4_isFrostyAt cX4_isFrostyAt 2 (some .boolean)) rm_X4_isFrostyAt 0 0 G ρ [.ref a0, .int x1] (cm, mm, oo) (PZ (fun u => (u, mm, oo)) post) noX := by
  refine CT_of hl (by decide +kernel) rfl (Nat.le_of_ble_eq_true rfl) (lv0 := [(0, .ref a0), (1, .int x1)]) rfl (fun p e s m args below meth c A X hr hex hnm => ?_)
  unfold w_X4_isFrostyAt at h
  refine L_aload_n (pc := 0) X d_X4_isFrostyAt_0 rfl 0 rfl ?_
  refine gf_X4_62 (pc := 1) X d_X4_isFrostyAt_1 h_a0 ?_
  refine L_aload_n (pc := 4) X d_X4_isFrostyAt_4 rfl 0 rfl ?_
  refine gf_X4_65 (pc := 5) X d_X4_isFrostyAt_5 h_a0 ?_
  refine L_icmp_gt (pc := 8) (tgt := 33) X d_X4_isFrostyAt_8 (by decide) (fun c8 => ?_) (fun c8 => ?_)
  · replace h := h.1 c8
    refine L_iload_n (pc := 33) X d_X4_isFrostyAt_33 rfl 1 rfl ?_
    refine L_aload_n (pc := 34) X d_X4_isFrostyAt_34 rfl 0 rfl ?_
    refine gf_X4_62 (pc := 35) X d_X4_isFrostyAt_35 h_a0 ?_
    refine L_icmp_ge (pc := 38) (tgt := 49) X d_X4_isFrostyAt_38 (by decide) (fun c38 => ?_) (fun c38 => ?_)
    · replace h := h.1 c38
      refine L_iconst (pc := 49) (v := 1) X d_X4_isFrostyAt_49 (by decide) ?_
      refine L_goto (pc := 50) (tgt := 54) X d_X4_isFrostyAt_50 (by decide) ?_
      exact L_zretB (pc := 54) X hr d_X4_isFrostyAt_54 true rfl (by decide) (by decide) ⟨_, _, rfl, rfl, h⟩
    · replace h := h.2 c38
      refine L_iload_n (pc := 41) X d_X4_isFrostyAt_41 rfl 1 rfl ?_
      refine L_aload_n (pc := 42) X d_X4_isFrostyAt_42 rfl 0 rfl ?_
      refine gf_X4_65 (pc := 43) X d_X4_isFrostyAt_43 h_a0 ?_
      refine L_icmp_ge (pc := 46) (tgt := 53) X d_X4_isFrostyAt_46 (by decide) (fun c46 => ?_) (fun c46 => ?_)
      · replace h := h.1 c46
        refine L_iconst (pc := 53) (v := 0) X d_X4_isFrostyAt_53 (by decide) ?_
        exact L_zretB (pc := 54) X hr d_X4_isFrostyAt_54 false rfl (by decide) (by decide) ⟨_, _, rfl, rfl, h⟩
      · replace h := h.2 c46
        refine L_iconst (pc := 49) (v := 1) X d_X4_isFrostyAt_49 (by decide) ?_
        refine L_goto (pc := 50) (tgt := 54) X d_X4_isFrostyAt_50 (by decide) ?_
        exact L_zretB (pc := 54) X hr d_X4_isFrostyAt_54 true rfl (by decide) (by decide) ⟨_, _, rfl, rfl, h⟩
  · replace h := h.2 c8
    refine L_iload_n (pc := 11) X d_X4_isFrostyAt_11 rfl 1 rfl ?_
    refine L_aload_n (pc := 12) X d_X4_isFrostyAt_12 rfl 0 rfl ?_
    refine gf_X4_62 (pc := 13) X d_X4_isFrostyAt_13 h_a0 ?_
    refine L_icmp_lt (pc := 16) (tgt := 31) X d_X4_isFrostyAt_16 (by decide) (fun c16 => ?_) (fun c16 => ?_)
    · replace h := h.1 c16
      refine L_iconst (pc := 31) (v := 0) X d_X4_isFrostyAt_31 (by decide) ?_
      exact L_zretB (pc := 32) X hr d_X4_isFrostyAt_32 false rfl (by decide) (by decide) ⟨_, _, rfl, rfl, h⟩
    · replace h := h.2 c16
      refine L_iload_n (pc := 19) X d_X4_isFrostyAt_19 rfl 1 rfl ?_
      refine L_aload_n (pc := 20) X d_X4_isFrostyAt_20 rfl 0 rfl ?_
      refine gf_X4_65 (pc := 21) X d_X4_isFrostyAt_21 h_a0 ?_
      refine L_icmp_ge (pc := 24) (tgt := 31) X d_X4_isFrostyAt_24 (by decide) (fun c24 => ?_) (fun c24 => ?_)
      · replace h := h.1 c24
        refine L_iconst (pc := 31) (v := 0) X d_X4_isFrostyAt_31 (by decide) ?_
        exact L_zretB (pc := 32) X hr d_X4_isFrostyAt_32 false rfl (by decide) (by decide) ⟨_, _, rfl, rfl, h⟩
      · replace h := h.2 c24
        refine L_iconst (pc := 27) (v := 1) X d_X4_isFrostyAt_27 (by decide) ?_
        refine L_goto (pc := 28) (tgt := 32) X d_X4_isFrostyAt_28 (by decide) ?_
        exact L_zretB (pc := 32) X hr d_X4_isFrostyAt_32 true rfl (by decide) (by decide) ⟨_, _, rfl, rfl, h⟩
end G_X4_isFrostyAt
theorem yk_X4_hour : yX4_hour.cls = RX4 ∧ yX4_hour.cls ≠ "java/lang/invoke/MethodHandle" ∧ yX4_hour.cls ≠ "java/lang/invoke/VarHandle" ∧ (parseMethodDescriptor yX4_hour.desc).map (fun d => d.parameters.length) = some 0 := by decide +kernel
theorem lk_X4_189 : LinkV RX4 189 RX4 yX4_hour (.code yX4_hour cX4_hour 1 (some .int)) 0 := ⟨tw_562, tw_563, tw_564, tw_78, tw_565, yk_X4_hour⟩
theorem yk_X4_isFrostyAt : yX4_isFrostyAt.cls = RX4 ∧ yX4_isFrostyAt.cls ≠ "java/lang/invoke/MethodHandle" ∧ yX4_isFrostyAt.cls ≠ "java/lang/invoke/VarHandle" ∧ (parseMethodDescriptor yX4_isFrostyAt.desc).map (fun d => d.parameters.length) = some 1 := by decide +kernel
theorem lk_X4_193 : LinkV RX4 193 RX4 yX4_isFrostyAt (.code yX4_isFrostyAt cX4_isFrostyAt 2 (some .boolean)) 1 := ⟨tw_566, tw_567, tw_568, tw_78, tw_569, yk_X4_isFrostyAt⟩
theorem d_X4_hasFrost_0 : decode cX4_hasFrost 0 = .ok (.aload_n 0, 1) := by decide +kernel
theorem d_X4_hasFrost_1 : decode cX4_hasFrost 1 = .ok (.aload_n 0, 1) := by decide +kernel
theorem d_X4_hasFrost_2 : decode cX4_hasFrost 2 = .ok (.invokevirtual 189, 3) := by decide +kernel
theorem d_X4_hasFrost_5 : decode cX4_hasFrost 5 = .ok (.invokevirtual 193, 3) := by decide +kernel
theorem d_X4_hasFrost_8 : decode cX4_hasFrost 8 = .ok (.ireturn, 1) := by decide +kernel
abbrev rm_X4_hasFrost : Room := { frames := 1, cells := 0, slots := 0, locals := 21 }
def w_X4_hasFrost (post : Bool → CMu → Prop) (a0 : Nat) (cm : CMu) : Prop := w_X4_hour (fun (r1 : Int32) (u2 : CMu) => w_X4_isFrostyAt (fun (r3 : Bool) (u4 : CMu) => post r3 u4) a0 r1 u2) a0 cm
section G_X4_hasFrost
variable {p : Program} {l : Launch} {e : Env} {s : State} {m : MethodId} {args : Array Value} {below : List Frame} {meth : Method} {c : Code} {G : Gd} {ρ : Nat → Nat} {A : Nat → Prop} {mm : Nat → Nat → Int32} {oo : Nat → Int64}
set_option maxHeartbeats 4000000 in
set_option maxRecDepth 100000 in
theorem c_X4_hasFrost (hl : l.stackTraces = false) {a0 : Nat} (h_a0 : (KD a0).1 = 3) {cm : CMu} {post : Bool → CMu → Prop} (h : w_X4_hasFrost post a0 cm) : CT l yX4_hasFrost (.code yX4_hasFrost cX4_hasFrost 1 (some .boolean)) rm_X4_hasFrost 0 0 G ρ [.ref a0] (cm, mm, oo) (PZ (fun u => (u, mm, oo)) post) noX := by
  refine CT_of hl (by decide +kernel) rfl (Nat.le_of_ble_eq_true rfl) (lv0 := [(0, .ref a0)]) rfl (fun p e s m args below meth c A X hr hex hnm => ?_)
  unfold w_X4_hasFrost at h
  refine L_aload_n (pc := 0) X d_X4_hasFrost_0 rfl 0 rfl ?_
  refine L_aload_n (pc := 1) X d_X4_hasFrost_1 rfl 0 rfl ?_
  refine L_callVI (pc := 2) X lk_X4_189 (c_X4_hour X.hst h_a0 h) rfl rfl h_a0 (by decide) rfl rfl ⟨by decide, by decide⟩ ⟨by decide, by decide⟩ (Nat.le_of_ble_eq_true rfl) d_X4_hasFrost_2 rfl (fun x κ1 hx => L_nox hx) (fun r1 u2 h => ?_)
  refine L_callVZ (pc := 5) X lk_X4_193 (c_X4_isFrostyAt X.hst h_a0 h) rfl rfl h_a0 (by decide) rfl rfl ⟨by decide, by decide⟩ ⟨by decide, by decide⟩ (Nat.zero_le _) d_X4_hasFrost_5 rfl (fun x κ1 hx => L_nox hx) (fun r3 u4 h => ?_)
  exact L_zretB (pc := 8) X hr d_X4_hasFrost_8 r3 rfl (by decide) (by decide) ⟨_, _, rfl, rfl, h⟩
end G_X4_hasFrost
theorem d_X4_lengthBetween_0 : decode cX4_lengthBetween 0 = .ok (.iconst 0, 1) := by decide +kernel
theorem d_X4_lengthBetween_1 : decode cX4_lengthBetween 1 = .ok (.istore_n 3, 1) := by decide +kernel
theorem d_X4_lengthBetween_2 : decode cX4_lengthBetween 2 = .ok (.iload_n 1, 1) := by decide +kernel
theorem d_X4_lengthBetween_3 : decode cX4_lengthBetween 3 = .ok (.iconst 0, 1) := by decide +kernel
theorem d_X4_lengthBetween_4 : decode cX4_lengthBetween 4 = .ok (.invokestatic 197, 3) := by decide +kernel
theorem d_X4_lengthBetween_7 : decode cX4_lengthBetween 7 = .ok (.istore 4, 2) := by decide +kernel
theorem d_X4_lengthBetween_9 : decode cX4_lengthBetween 9 = .ok (.iload 4, 2) := by decide +kernel
theorem d_X4_lengthBetween_11 : decode cX4_lengthBetween 11 = .ok (.iload_n 2, 1) := by decide +kernel
theorem d_X4_lengthBetween_12 : decode cX4_lengthBetween 12 = .ok (.if_icmp .ge 32, 3) := by decide +kernel
theorem d_X4_lengthBetween_15 : decode cX4_lengthBetween 15 = .ok (.iload 4, 2) := by decide +kernel
theorem d_X4_lengthBetween_17 : decode cX4_lengthBetween 17 = .ok (.aload_n 0, 1) := by decide +kernel
theorem d_X4_lengthBetween_18 : decode cX4_lengthBetween 18 = .ok (.getfield 19, 3) := by decide +kernel
theorem d_X4_lengthBetween_21 : decode cX4_lengthBetween 21 = .ok (.arraylength, 1) := by decide +kernel
theorem d_X4_lengthBetween_22 : decode cX4_lengthBetween 22 = .ok (.if_icmp .ge 22, 3) := by decide +kernel
theorem d_X4_lengthBetween_25 : decode cX4_lengthBetween 25 = .ok (.iload_n 3, 1) := by decide +kernel
theorem d_X4_lengthBetween_26 : decode cX4_lengthBetween 26 = .ok (.aload_n 0, 1) := by decide +kernel
theorem d_X4_lengthBetween_27 : decode cX4_lengthBetween 27 = .ok (.getfield 19, 3) := by decide +kernel
theorem d_X4_lengthBetween_30 : decode cX4_lengthBetween 30 = .ok (.iload 4, 2) := by decide +kernel
theorem d_X4_lengthBetween_32 : decode cX4_lengthBetween 32 = .ok (.aaload, 1) := by decide +kernel
theorem d_X4_lengthBetween_33 : decode cX4_lengthBetween 33 = .ok (.getfield 159, 3) := by decide +kernel
theorem d_X4_lengthBetween_36 : decode cX4_lengthBetween 36 = .ok (.iadd, 1) := by decide +kernel
theorem d_X4_lengthBetween_37 : decode cX4_lengthBetween 37 = .ok (.istore_n 3, 1) := by decide +kernel
theorem d_X4_lengthBetween_38 : decode cX4_lengthBetween 38 = .ok (.iinc 4 1, 3) := by decide +kernel
theorem d_X4_lengthBetween_41 : decode cX4_lengthBetween 41 = .ok (.goto (-32), 3) := by decide +kernel
theorem d_X4_lengthBetween_44 : decode cX4_lengthBetween 44 = .ok (.iload_n 3, 1) := by decide +kernel
theorem d_X4_lengthBetween_45 : decode cX4_lengthBetween 45 = .ok (.ireturn, 1) := by decide +kernel
abbrev rm_X4_lengthBetween : Room := { frames := 4, cells := 0, slots := 0, locals := 60 }
def B_X4_lengthBetween_44 (post : Int32 → CMu → Prop) (v3 : Int32) (cm : CMu) : Prop := post v3 cm
def B_X4_lengthBetween_9 (post : Int32 → CMu → Prop) : Nat → Nat → Int32 → Int32 → Int32 → CMu → Prop
  | 0 => fun _ _ _ _ _ => False
  | n + 1 => fun v0 v2 v3 v4 cm => (v2 ≤ v4 → (B_X4_lengthBetween_44 post v3 cm)) ∧ (¬ v2 ≤ v4 → ((12 ≤ v4 → (B_X4_lengthBetween_44 post v3 cm)) ∧ (¬ 12 ≤ v4 → ((vp_in v4 12) ∧ B_X4_lengthBetween_9 post n v0 v2 (v3 + (gI cm (v0 + 24 + 2 * Int32.toNatClampNeg v4) 0)) (v4 + 1) cm))))
def w_X4_lengthBetween (post : Int32 → CMu → Prop) (a0 : Nat) (x1 : Int32) (x2 : Int32) (cm : CMu) : Prop := ∃ n9, B_X4_lengthBetween_9 post n9 a0 x2 0 (jmax x1 0) cm
section G_X4_lengthBetween
variable {p : Program} {l : Launch} {e : Env} {s : State} {m : MethodId} {args : Array Value} {below : List Frame} {meth : Method} {c : Code} {G : Gd} {ρ : Nat → Nat} {A : Nat → Prop} {mm : Nat → Nat → Int32} {oo : Nat → Int64}
set_option maxHeartbeats 4000000 in
set_option maxRecDepth 100000 in
theorem T_X4_lengthBetween_44 {post : Int32 → CMu → Prop} (hl : l.stackTraces = false) (X : MC p l s m args meth c cX4_lengthBetween 5 RX4 G ρ A) (hr : meth.sig.returnType = (some .int)) (hex : ∀ z ∈ c.exceptionTable.toList, False) : ∀ (v3 : Int32) (cm : CMu), B_X4_lengthBetween_44 post v3 cm → LW p l e rm_X4_lengthBetween s m args below meth c (Qm below G ρ A (PI (fun u => (u, mm, oo)) post) noX args s 0 0) G ρ A 5 0 0 44 [(3, .int v3)] [] (cm, mm, oo) := by
  intro v3 cm h
  unfold B_X4_lengthBetween_44 at h
  refine L_iload_n (pc := 44) X d_X4_lengthBetween_44 rfl 0 rfl ?_
  exact L_iret (pc := 45) X hr d_X4_lengthBetween_45 (by decide) (by decide) ⟨_, _, rfl, rfl, h⟩
set_option maxHeartbeats 4000000 in
set_option maxRecDepth 100000 in
theorem T_X4_lengthBetween_9 {post : Int32 → CMu → Prop} (hl : l.stackTraces = false) (X : MC p l s m args meth c cX4_lengthBetween 5 RX4 G ρ A) (hr : meth.sig.returnType = (some .int)) (hex : ∀ z ∈ c.exceptionTable.toList, False) (n : Nat) : ∀ (v0 : Nat) (v2 : Int32) (v3 : Int32) (v4 : Int32) (h_v0 : (KD v0).1 = 3) (cm : CMu), B_X4_lengthBetween_9 post n v0 v2 v3 v4 cm → LW p l e rm_X4_lengthBetween s m args below meth c (Qm below G ρ A (PI (fun u => (u, mm, oo)) post) noX args s 0 0) G ρ A 5 0 0 9 [(0, .ref v0), (2, .int v2), (3, .int v3), (4, .int v4)] [] (cm, mm, oo) := by
  induction n with
  | zero =>
    intro v0 v2 v3 v4 h_v0 cm h
    exact False.elim h
  | succ n ih =>
    intro v0 v2 v3 v4 h_v0 cm h
    unfold B_X4_lengthBetween_9 at h
    refine L_iload (pc := 9) X d_X4_lengthBetween_9 3 rfl ?_
    refine L_iload_n (pc := 11) X d_X4_lengthBetween_11 rfl 1 rfl ?_
    refine L_icmp_ge (pc := 12) (tgt := 44) X d_X4_lengthBetween_12 (by decide) (fun c12 => ?_) (fun c12 => ?_)
    · replace h := h.1 c12
      refine LW.sub [2] rfl ?_
      exact T_X4_lengthBetween_44 hl X hr hex _  _ h
    · replace h := h.2 c12
      refine L_iload (pc := 15) X d_X4_lengthBetween_15 3 rfl ?_
      refine L_aload_n (pc := 17) X d_X4_lengthBetween_17 rfl 0 rfl ?_
      refine gf_X4_19 (pc := 18) (b := v0 + 2) X d_X4_lengthBetween_18 h_v0 rfl ?_
      refine L_alenR (pc := 21) (v := 12) X d_X4_lengthBetween_21 (kf_3_1 h_v0) (by decide) (by decide) (by decide) ⟨_, rfl⟩ rfl ?_
      refine L_icmp_ge (pc := 22) (tgt := 44) X d_X4_lengthBetween_22 (by decide) (fun c22 => ?_) (fun c22 => ?_)
      · replace h := h.1 c22
        refine LW.sub [2] rfl ?_
        exact T_X4_lengthBetween_44 hl X hr hex _  _ h
      · replace h := h.2 c22
        refine L_iload_n (pc := 25) X d_X4_lengthBetween_25 rfl 2 rfl ?_
        refine L_aload_n (pc := 26) X d_X4_lengthBetween_26 rfl 0 rfl ?_
        refine gf_X4_19 (pc := 27) (b := v0 + 2) X d_X4_lengthBetween_27 h_v0 rfl ?_
        refine L_iload (pc := 30) X d_X4_lengthBetween_30 3 rfl ?_
        obtain ⟨q1, h⟩ := h
        refine L_aald23 (pc := 32) (b := v0 + 24 + 2 * Int32.toNatClampNeg v4) X d_X4_lengthBetween_32 (kf_3_1 h_v0) q1 rfl ?_
        refine gf_X4_159 (pc := 33) X d_X4_lengthBetween_33 (ka_23 (kf_3_1 h_v0) (vin_lt q1)) ?_
        refine L_iadd (pc := 36) X d_X4_lengthBetween_36 ?_
        refine L_istore_n (pc := 37) (lv2 := [(3, .int (v3 + (gI cm (v0 + 24 + 2 * Int32.toNatClampNeg v4) 0))), (0, .ref v0), (2, .int v2), (4, .int v4)]) X d_X4_lengthBetween_37 rfl (by decide) rfl ?_
        refine L_iinc (pc := 38) (v := v4 + 1) (lv2 := [(4, .int (v4 + 1)), (3, .int (v3 + (gI cm (v0 + 24 + 2 * Int32.toNatClampNeg v4) 0))), (0, .ref v0), (2, .int v2)]) X d_X4_lengthBetween_38 3 rfl rfl (by decide) rfl ?_
        refine L_goto (pc := 41) (tgt := 9) X d_X4_lengthBetween_41 (by decide) ?_
        refine LW.sub [2, 3, 1, 0] rfl ?_
        exact ih _ _ _ _ h_v0 _ h
set_option maxHeartbeats 4000000 in
set_option maxRecDepth 100000 in
theorem c_X4_lengthBetween (hl : l.stackTraces = false) {a0 : Nat} {x1 : Int32} {x2 : Int32} (h_a0 : (KD a0).1 = 3) {cm : CMu} {post : Int32 → CMu → Prop} (h : w_X4_lengthBetween post a0 x1 x2 cm) : CT l yX4_lengthBetween (.code yX4_lengthBetween cX4_lengthBetween 5 (some .int)) rm_X4_lengthBetween 0 0 G ρ [.ref a0, .int x1, .int x2] (cm, mm, oo) (PI (fun u => (u, mm, oo)) post) noX := by
  refine CT_of hl (by decide +kernel) rfl (Nat.le_of_ble_eq_true rfl) (lv0 := [(0, .ref a0), (1, .int x1), (2, .int x2)]) rfl (fun p e s m args below meth c A X hr hex hnm => ?_)
  unfold w_X4_lengthBetween at h
  refine L_iconst (pc := 0) (v := 0) X d_X4_lengthBetween_0 (by decide) ?_
  refine L_istore_n (pc := 1) (lv2 := [(3, .int 0), (0, .ref a0), (1, .int x1), (2, .int x2)]) X d_X4_lengthBetween_1 rfl (by decide) rfl ?_
  refine L_iload_n (pc := 2) X d_X4_lengthBetween_2 rfl 2 rfl ?_
  refine L_iconst (pc := 3) (v := 0) X d_X4_lengthBetween_3 (by decide) ?_
  refine L_max (pc := 4) X d_X4_lengthBetween_4 tw_1108 tw_516 tw_84 tw_517 (by decide) (by decide) (by decide) (by decide) ?_
  refine L_istore (pc := 7) (lv2 := [(4, .int (jmax x1 0)), (3, .int 0), (0, .ref a0), (1, .int x1), (2, .int x2)]) X d_X4_lengthBetween_7 (by decide) rfl ?_
  obtain ⟨n9, h⟩ := h
  refine LW.sub [2, 4, 1, 0] rfl ?_
  exact T_X4_lengthBetween_9 hl X hr hex n9 _ _ _ _ h_a0 _ h
end G_X4_lengthBetween
theorem d_X4_billionths_0 : decode cX4_billionths 0 = .ok (.ldc2_w 202, 3) := by decide +kernel
theorem d_X4_billionths_3 : decode cX4_billionths 3 = .ok (.lstore_n 3, 1) := by decide +kernel
theorem d_X4_billionths_4 : decode cX4_billionths 4 = .ok (.iload_n 1, 1) := by decide +kernel
theorem d_X4_billionths_5 : decode cX4_billionths 5 = .ok (.iconst 0, 1) := by decide +kernel
theorem d_X4_billionths_6 : decode cX4_billionths 6 = .ok (.invokestatic 197, 3) := by decide +kernel
theorem d_X4_billionths_9 : decode cX4_billionths 9 = .ok (.istore 5, 2) := by decide +kernel
theorem d_X4_billionths_11 : decode cX4_billionths 11 = .ok (.iload 5, 2) := by decide +kernel
theorem d_X4_billionths_13 : decode cX4_billionths 13 = .ok (.iload_n 2, 1) := by decide +kernel
theorem d_X4_billionths_14 : decode cX4_billionths 14 = .ok (.if_icmp .ge 40, 3) := by decide +kernel
theorem d_X4_billionths_17 : decode cX4_billionths 17 = .ok (.iload 5, 2) := by decide +kernel
theorem d_X4_billionths_19 : decode cX4_billionths 19 = .ok (.aload_n 0, 1) := by decide +kernel
theorem d_X4_billionths_20 : decode cX4_billionths 20 = .ok (.getfield 19, 3) := by decide +kernel
theorem d_X4_billionths_23 : decode cX4_billionths 23 = .ok (.arraylength, 1) := by decide +kernel
theorem d_X4_billionths_24 : decode cX4_billionths 24 = .ok (.if_icmp .ge 30, 3) := by decide +kernel
theorem d_X4_billionths_27 : decode cX4_billionths 27 = .ok (.lload_n 3, 1) := by decide +kernel
theorem d_X4_billionths_28 : decode cX4_billionths 28 = .ok (.bipush 100, 2) := by decide +kernel
theorem d_X4_billionths_30 : decode cX4_billionths 30 = .ok (.aload_n 0, 1) := by decide +kernel
theorem d_X4_billionths_31 : decode cX4_billionths 31 = .ok (.getfield 19, 3) := by decide +kernel
theorem d_X4_billionths_34 : decode cX4_billionths 34 = .ok (.iload 5, 2) := by decide +kernel
theorem d_X4_billionths_36 : decode cX4_billionths 36 = .ok (.aaload, 1) := by decide +kernel
theorem d_X4_billionths_37 : decode cX4_billionths 37 = .ok (.getfield 162, 3) := by decide +kernel
theorem d_X4_billionths_40 : decode cX4_billionths 40 = .ok (.isub, 1) := by decide +kernel
theorem d_X4_billionths_41 : decode cX4_billionths 41 = .ok (.i2l, 1) := by decide +kernel
theorem d_X4_billionths_42 : decode cX4_billionths 42 = .ok (.lmul, 1) := by decide +kernel
theorem d_X4_billionths_43 : decode cX4_billionths 43 = .ok (.ldc2_w 204, 3) := by decide +kernel
theorem d_X4_billionths_46 : decode cX4_billionths 46 = .ok (.ldiv, 1) := by decide +kernel
theorem d_X4_billionths_47 : decode cX4_billionths 47 = .ok (.lstore_n 3, 1) := by decide +kernel
theorem d_X4_billionths_48 : decode cX4_billionths 48 = .ok (.iinc 5 1, 3) := by decide +kernel
theorem d_X4_billionths_51 : decode cX4_billionths 51 = .ok (.goto (-40), 3) := by decide +kernel
theorem d_X4_billionths_54 : decode cX4_billionths 54 = .ok (.lload_n 3, 1) := by decide +kernel
theorem d_X4_billionths_55 : decode cX4_billionths 55 = .ok (.l2i, 1) := by decide +kernel
theorem d_X4_billionths_56 : decode cX4_billionths 56 = .ok (.ireturn, 1) := by decide +kernel
abbrev rm_X4_billionths : Room := { frames := 4, cells := 0, slots := 0, locals := 60 }
def B_X4_billionths_54 (post : Int32 → CMu → Prop) (v3 : Int64) (cm : CMu) : Prop := post (Int64.toInt32 v3) cm
def B_X4_billionths_11 (post : Int32 → CMu → Prop) : Nat → Nat → Int32 → Int64 → Int32 → CMu → Prop
  | 0 => fun _ _ _ _ _ => False
  | n + 1 => fun v0 v2 v3 v5 cm => (v2 ≤ v5 → (B_X4_billionths_54 post v3 cm)) ∧ (¬ v2 ≤ v5 → ((12 ≤ v5 → (B_X4_billionths_54 post v3 cm)) ∧ (¬ 12 ≤ v5 → ((vp_in v5 12) ∧ B_X4_billionths_11 post n v0 v2 ((v3 * (Int32.toInt64 (100 - (gI cm (v0 + 24 + 2 * Int32.toNatClampNeg v5) 1)))) / 100) (v5 + 1) cm))))
def w_X4_billionths (post : Int32 → CMu → Prop) (a0 : Nat) (x1 : Int32) (x2 : Int32) (cm : CMu) : Prop := ∃ n11, B_X4_billionths_11 post n11 a0 x2 1000000000 (jmax x1 0) cm
section G_X4_billionths
variable {p : Program} {l : Launch} {e : Env} {s : State} {m : MethodId} {args : Array Value} {below : List Frame} {meth : Method} {c : Code} {G : Gd} {ρ : Nat → Nat} {A : Nat → Prop} {mm : Nat → Nat → Int32} {oo : Nat → Int64}
set_option maxHeartbeats 4000000 in
set_option maxRecDepth 100000 in
theorem T_X4_billionths_54 {post : Int32 → CMu → Prop} (hl : l.stackTraces = false) (X : MC p l s m args meth c cX4_billionths 6 RX4 G ρ A) (hr : meth.sig.returnType = (some .int)) (hex : ∀ z ∈ c.exceptionTable.toList, False) : ∀ (v3 : Int64) (cm : CMu), B_X4_billionths_54 post v3 cm → LW p l e rm_X4_billionths s m args below meth c (Qm below G ρ A (PI (fun u => (u, mm, oo)) post) noX args s 0 0) G ρ A 6 0 0 54 [(3, .long v3)] [] (cm, mm, oo) := by
  intro v3 cm h
  unfold B_X4_billionths_54 at h
  refine L_lload_n (pc := 54) X d_X4_billionths_54 rfl 0 rfl ?_
  refine L_l2i (pc := 55) X d_X4_billionths_55 ?_
  exact L_iret (pc := 56) X hr d_X4_billionths_56 (by decide) (by decide) ⟨_, _, rfl, rfl, h⟩
set_option maxHeartbeats 4000000 in
set_option maxRecDepth 100000 in
theorem T_X4_billionths_11 {post : Int32 → CMu → Prop} (hl : l.stackTraces = false) (X : MC p l s m args meth c cX4_billionths 6 RX4 G ρ A) (hr : meth.sig.returnType = (some .int)) (hex : ∀ z ∈ c.exceptionTable.toList, False) (n : Nat) : ∀ (v0 : Nat) (v2 : Int32) (v3 : Int64) (v5 : Int32) (h_v0 : (KD v0).1 = 3) (cm : CMu), B_X4_billionths_11 post n v0 v2 v3 v5 cm → LW p l e rm_X4_billionths s m args below meth c (Qm below G ρ A (PI (fun u => (u, mm, oo)) post) noX args s 0 0) G ρ A 6 0 0 11 [(0, .ref v0), (2, .int v2), (3, .long v3), (5, .int v5)] [] (cm, mm, oo) := by
  induction n with
  | zero =>
    intro v0 v2 v3 v5 h_v0 cm h
    exact False.elim h
  | succ n ih =>
    intro v0 v2 v3 v5 h_v0 cm h
    unfold B_X4_billionths_11 at h
    refine L_iload (pc := 11) X d_X4_billionths_11 3 rfl ?_
    refine L_iload_n (pc := 13) X d_X4_billionths_13 rfl 1 rfl ?_
    refine L_icmp_ge (pc := 14) (tgt := 54) X d_X4_billionths_14 (by decide) (fun c14 => ?_) (fun c14 => ?_)
    · replace h := h.1 c14
      refine LW.sub [2] rfl ?_
      exact T_X4_billionths_54 hl X hr hex _  _ h
    · replace h := h.2 c14
      refine L_iload (pc := 17) X d_X4_billionths_17 3 rfl ?_
      refine L_aload_n (pc := 19) X d_X4_billionths_19 rfl 0 rfl ?_
      refine gf_X4_19 (pc := 20) (b := v0 + 2) X d_X4_billionths_20 h_v0 rfl ?_
      refine L_alenR (pc := 23) (v := 12) X d_X4_billionths_23 (kf_3_1 h_v0) (by decide) (by decide) (by decide) ⟨_, rfl⟩ rfl ?_
      refine L_icmp_ge (pc := 24) (tgt := 54) X d_X4_billionths_24 (by decide) (fun c24 => ?_) (fun c24 => ?_)
      · replace h := h.1 c24
        refine LW.sub [2] rfl ?_
        exact T_X4_billionths_54 hl X hr hex _  _ h
      · replace h := h.2 c24
        refine L_lload_n (pc := 27) X d_X4_billionths_27 rfl 2 rfl ?_
        refine L_bipush (pc := 28) (v := 100) X d_X4_billionths_28 (by decide) ?_
        refine L_aload_n (pc := 30) X d_X4_billionths_30 rfl 0 rfl ?_
        refine gf_X4_19 (pc := 31) (b := v0 + 2) X d_X4_billionths_31 h_v0 rfl ?_
        refine L_iload (pc := 34) X d_X4_billionths_34 3 rfl ?_
        obtain ⟨q1, h⟩ := h
        refine L_aald23 (pc := 36) (b := v0 + 24 + 2 * Int32.toNatClampNeg v5) X d_X4_billionths_36 (kf_3_1 h_v0) q1 rfl ?_
        refine gf_X4_162 (pc := 37) X d_X4_billionths_37 (ka_23 (kf_3_1 h_v0) (vin_lt q1)) ?_
        refine L_isub (pc := 40) X d_X4_billionths_40 ?_
        refine L_i2l (pc := 41) X d_X4_billionths_41 ?_
        refine L_lmul (pc := 42) X d_X4_billionths_42 ?_
        refine L_ldc2 (pc := 43) (v := 100) X d_X4_billionths_43 tw_1173 ?_
        refine L_ldiv (pc := 46) X d_X4_billionths_46 (by decide) ?_
        refine L_lstore_n (pc := 47) (lv2 := [(3, .long ((v3 * (Int32.toInt64 (100 - (gI cm (v0 + 24 + 2 * Int32.toNatClampNeg v5) 1)))) / 100)), (0, .ref v0), (2, .int v2), (5, .int v5)]) X d_X4_billionths_47 rfl (by decide) rfl ?_
        refine L_iinc (pc := 48) (v := v5 + 1) (lv2 := [(5, .int (v5 + 1)), (3, .long ((v3 * (Int32.toInt64 (100 - (gI cm (v0 + 24 + 2 * Int32.toNatClampNeg v5) 1)))) / 100)), (0, .ref v0), (2, .int v2)]) X d_X4_billionths_48 3 rfl rfl (by decide) rfl ?_
        refine L_goto (pc := 51) (tgt := 11) X d_X4_billionths_51 (by decide) ?_
        refine LW.sub [2, 3, 1, 0] rfl ?_
        exact ih _ _ _ _ h_v0 _ h
set_option maxHeartbeats 4000000 in
set_option maxRecDepth 100000 in
theorem c_X4_billionths (hl : l.stackTraces = false) {a0 : Nat} {x1 : Int32} {x2 : Int32} (h_a0 : (KD a0).1 = 3) {cm : CMu} {post : Int32 → CMu → Prop} (h : w_X4_billionths post a0 x1 x2 cm) : CT l yX4_billionths (.code yX4_billionths cX4_billionths 6 (some .int)) rm_X4_billionths 0 0 G ρ [.ref a0, .int x1, .int x2] (cm, mm, oo) (PI (fun u => (u, mm, oo)) post) noX := by
  refine CT_of hl (by decide +kernel) rfl (Nat.le_of_ble_eq_true rfl) (lv0 := [(0, .ref a0), (1, .int x1), (2, .int x2)]) rfl (fun p e s m args below meth c A X hr hex hnm => ?_)
  unfold w_X4_billionths at h
  refine L_ldc2 (pc := 0) (v := 1000000000) X d_X4_billionths_0 tw_1172 ?_
  refine L_lstore_n (pc := 3) (lv2 := [(3, .long 1000000000), (0, .ref a0), (1, .int x1), (2, .int x2)]) X d_X4_billionths_3 rfl (by decide) rfl ?_
  refine L_iload_n (pc := 4) X d_X4_billionths_4 rfl 2 rfl ?_
  refine L_iconst (pc := 5) (v := 0) X d_X4_billionths_5 (by decide) ?_
  refine L_max (pc := 6) X d_X4_billionths_6 tw_1108 tw_516 tw_84 tw_517 (by decide) (by decide) (by decide) (by decide) ?_
  refine L_istore (pc := 9) (lv2 := [(5, .int (jmax x1 0)), (3, .long 1000000000), (0, .ref a0), (1, .int x1), (2, .int x2)]) X d_X4_billionths_9 (by decide) rfl ?_
  obtain ⟨n11, h⟩ := h
  refine LW.sub [2, 4, 1, 0] rfl ?_
  exact T_X4_billionths_11 hl X hr hex n11 _ _ _ _ h_a0 _ h
end G_X4_billionths
theorem d_X4_chipsThat_0 : decode cX4_chipsThat 0 = .ok (.iconst 0, 1) := by decide +kernel
theorem d_X4_chipsThat_1 : decode cX4_chipsThat 1 = .ok (.istore_n 2, 1) := by decide +kernel
theorem d_X4_chipsThat_2 : decode cX4_chipsThat 2 = .ok (.iconst 0, 1) := by decide +kernel
theorem d_X4_chipsThat_3 : decode cX4_chipsThat 3 = .ok (.istore_n 3, 1) := by decide +kernel
theorem d_X4_chipsThat_4 : decode cX4_chipsThat 4 = .ok (.iload_n 3, 1) := by decide +kernel
theorem d_X4_chipsThat_5 : decode cX4_chipsThat 5 = .ok (.aload_n 0, 1) := by decide +kernel
theorem d_X4_chipsThat_6 : decode cX4_chipsThat 6 = .ok (.getfield 53, 3) := by decide +kernel
theorem d_X4_chipsThat_9 : decode cX4_chipsThat 9 = .ok (.if_icmp .ge 25, 3) := by decide +kernel
theorem d_X4_chipsThat_12 : decode cX4_chipsThat 12 = .ok (.aload_n 0, 1) := by decide +kernel
theorem d_X4_chipsThat_13 : decode cX4_chipsThat 13 = .ok (.getfield 25, 3) := by decide +kernel
theorem d_X4_chipsThat_16 : decode cX4_chipsThat 16 = .ok (.iload_n 3, 1) := by decide +kernel
theorem d_X4_chipsThat_17 : decode cX4_chipsThat 17 = .ok (.aaload, 1) := by decide +kernel
theorem d_X4_chipsThat_18 : decode cX4_chipsThat 18 = .ok (.getfield 168, 3) := by decide +kernel
theorem d_X4_chipsThat_21 : decode cX4_chipsThat 21 = .ok (.iload_n 1, 1) := by decide +kernel
theorem d_X4_chipsThat_22 : decode cX4_chipsThat 22 = .ok (.if_icmp .ne 6, 3) := by decide +kernel
theorem d_X4_chipsThat_25 : decode cX4_chipsThat 25 = .ok (.iinc 2 1, 3) := by decide +kernel
theorem d_X4_chipsThat_28 : decode cX4_chipsThat 28 = .ok (.iinc 3 1, 3) := by decide +kernel
theorem d_X4_chipsThat_31 : decode cX4_chipsThat 31 = .ok (.goto (-27), 3) := by decide +kernel
theorem d_X4_chipsThat_34 : decode cX4_chipsThat 34 = .ok (.iload_n 2, 1) := by decide +kernel
theorem d_X4_chipsThat_35 : decode cX4_chipsThat 35 = .ok (.ireturn, 1) := by decide +kernel
abbrev rm_X4_chipsThat : Room := { frames := 0, cells := 0, slots := 0, locals := 0 }
def B_X4_chipsThat_28 (post : Int32 → CMu → Prop) (k4 : Nat → Int32 → Int32 → Int32 → CMu → Prop) (v0 : Nat) (v1 : Int32) (v2 : Int32) (v3 : Int32) (cm : CMu) : Prop := k4 v0 v1 v2 (v3 + 1) cm
def B_X4_chipsThat_4 (post : Int32 → CMu → Prop) : Nat → Nat → Int32 → Int32 → Int32 → CMu → Prop
  | 0 => fun _ _ _ _ _ => False
  | n + 1 => fun v0 v1 v2 v3 cm => ((gI cm v0 6) ≤ v3 → (post v2 cm)) ∧ (¬ (gI cm v0 6) ≤ v3 → ((vp_in v3 60) ∧ (¬ (gI cm (v0 + 47 + Int32.toNatClampNeg v3) 0) = v1 → (B_X4_chipsThat_28 post (B_X4_chipsThat_4 post n) v0 v1 v2 v3 cm)) ∧ ((gI cm (v0 + 47 + Int32.toNatClampNeg v3) 0) = v1 → (B_X4_chipsThat_28 post (B_X4_chipsThat_4 post n) v0 v1 (v2 + 1) v3 cm))))
def w_X4_chipsThat (post : Int32 → CMu → Prop) (a0 : Nat) (x1 : Int32) (cm : CMu) : Prop := ∃ n4, B_X4_chipsThat_4 post n4 a0 x1 0 0 cm
section G_X4_chipsThat
variable {p : Program} {l : Launch} {e : Env} {s : State} {m : MethodId} {args : Array Value} {below : List Frame} {meth : Method} {c : Code} {G : Gd} {ρ : Nat → Nat} {A : Nat → Prop} {mm : Nat → Nat → Int32} {oo : Nat → Int64}
set_option maxHeartbeats 4000000 in
set_option maxRecDepth 100000 in
theorem T_X4_chipsThat_28 {post : Int32 → CMu → Prop} {k4 : Nat → Int32 → Int32 → Int32 → CMu → Prop} (hl : l.stackTraces = false) (X : MC p l s m args meth c cX4_chipsThat 4 RX4 G ρ A) (hr : meth.sig.returnType = (some .int)) (hex : ∀ z ∈ c.exceptionTable.toList, False)
    (hk4 : ∀ (v0 : Nat) (v1 : Int32) (v2 : Int32) (v3 : Int32) (h_v0 : (KD v0).1 = 3) (cm : CMu), k4 v0 v1 v2 v3 cm → LW p l e rm_X4_chipsThat s m args below meth c (Qm below G ρ A (PI (fun u => (u, mm, oo)) post) noX args s 0 0) G ρ A 4 0 0 4 [(0, .ref v0), (1, .int v1), (2, .int v2), (3, .int v3)] [] (cm, mm, oo)) : ∀ (v0 : Nat) (v1 : Int32) (v2 : Int32) (v3 : Int32) (h_v0 : (KD v0).1 = 3) (cm : CMu), B_X4_chipsThat_28 post k4 v0 v1 v2 v3 cm → LW p l e rm_X4_chipsThat s m args below meth c (Qm below G ρ A (PI (fun u => (u, mm, oo)) post) noX args s 0 0) G ρ A 4 0 0 28 [(0, .ref v0), (1, .int v1), (2, .int v2), (3, .int v3)] [] (cm, mm, oo) := by
  intro v0 v1 v2 v3 h_v0 cm h
  unfold B_X4_chipsThat_28 at h
  refine L_iinc (pc := 28) (v := v3 + 1) (lv2 := [(3, .int (v3 + 1)), (0, .ref v0), (1, .int v1), (2, .int v2)]) X d_X4_chipsThat_28 3 rfl rfl (by decide) rfl ?_
  refine L_goto (pc := 31) (tgt := 4) X d_X4_chipsThat_31 (by decide) ?_
  refine LW.sub [1, 2, 3, 0] rfl ?_
  exact hk4 _ _ _ _ h_v0 _ h
set_option maxHeartbeats 4000000 in
set_option maxRecDepth 100000 in
theorem T_X4_chipsThat_4 {post : Int32 → CMu → Prop} (hl : l.stackTraces = false) (X : MC p l s m args meth c cX4_chipsThat 4 RX4 G ρ A) (hr : meth.sig.returnType = (some .int)) (hex : ∀ z ∈ c.exceptionTable.toList, False) (n : Nat) : ∀ (v0 : Nat) (v1 : Int32) (v2 : Int32) (v3 : Int32) (h_v0 : (KD v0).1 = 3) (cm : CMu), B_X4_chipsThat_4 post n v0 v1 v2 v3 cm → LW p l e rm_X4_chipsThat s m args below meth c (Qm below G ρ A (PI (fun u => (u, mm, oo)) post) noX args s 0 0) G ρ A 4 0 0 4 [(0, .ref v0), (1, .int v1), (2, .int v2), (3, .int v3)] [] (cm, mm, oo) := by
  induction n with
  | zero =>
    intro v0 v1 v2 v3 h_v0 cm h
    exact False.elim h
  | succ n ih =>
    intro v0 v1 v2 v3 h_v0 cm h
    unfold B_X4_chipsThat_4 at h
    refine L_iload_n (pc := 4) X d_X4_chipsThat_4 rfl 3 rfl ?_
    refine L_aload_n (pc := 5) X d_X4_chipsThat_5 rfl 0 rfl ?_
    refine gf_X4_53 (pc := 6) X d_X4_chipsThat_6 h_v0 ?_
    refine L_icmp_ge (pc := 9) (tgt := 34) X d_X4_chipsThat_9 (by decide) (fun c9 => ?_) (fun c9 => ?_)
    · replace h := h.1 c9
      refine L_iload_n (pc := 34) X d_X4_chipsThat_34 rfl 2 rfl ?_
      exact L_iret (pc := 35) X hr d_X4_chipsThat_35 (by decide) (by decide) ⟨_, _, rfl, rfl, h⟩
    · replace h := h.2 c9
      refine L_aload_n (pc := 12) X d_X4_chipsThat_12 rfl 0 rfl ?_
      refine gf_X4_25 (pc := 13) (b := v0 + 3) X d_X4_chipsThat_13 h_v0 rfl ?_
      refine L_iload_n (pc := 16) X d_X4_chipsThat_16 rfl 3 rfl ?_
      obtain ⟨q1, h⟩ := h
      refine L_aald24 (pc := 17) (b := v0 + 47 + Int32.toNatClampNeg v3) X d_X4_chipsThat_17 (kf_3_2 h_v0) q1 rfl ?_
      refine gf_X4_168 (pc := 18) X d_X4_chipsThat_18 (ka_24 (kf_3_2 h_v0) (vin_lt q1)) ?_
      refine L_iload_n (pc := 21) X d_X4_chipsThat_21 rfl 1 rfl ?_
      refine L_icmp_ne (pc := 22) (tgt := 28) X d_X4_chipsThat_22 (by decide) (fun c22 => ?_) (fun c22 => ?_)
      · replace h := h.1 c22
        refine LW.sub [0, 1, 2, 3] rfl ?_
        exact T_X4_chipsThat_28 hl X hr hex ih _ _ _ _ h_v0 _ h
      · replace h := h.2 c22
        refine L_iinc (pc := 25) (v := v2 + 1) (lv2 := [(2, .int (v2 + 1)), (0, .ref v0), (1, .int v1), (3, .int v3)]) X d_X4_chipsThat_25 2 rfl rfl (by decide) rfl ?_
        refine LW.sub [1, 2, 0, 3] rfl ?_
        exact T_X4_chipsThat_28 hl X hr hex ih _ _ _ _ h_v0 _ h
set_option maxHeartbeats 4000000 in
set_option maxRecDepth 100000 in
theorem c_X4_chipsThat (hl : l.stackTraces = false) {a0 : Nat} {x1 : Int32} (h_a0 : (KD a0).1 = 3) {cm : CMu} {post : Int32 → CMu → Prop} (h : w_X4_chipsThat post a0 x1 cm) : CT l yX4_chipsThat (.code yX4_chipsThat cX4_chipsThat 4 (some .int)) rm_X4_chipsThat 0 0 G ρ [.ref a0, .int x1] (cm, mm, oo) (PI (fun u => (u, mm, oo)) post) noX := by
  refine CT_of hl (by decide +kernel) rfl (Nat.le_of_ble_eq_true rfl) (lv0 := [(0, .ref a0), (1, .int x1)]) rfl (fun p e s m args below meth c A X hr hex hnm => ?_)
  unfold w_X4_chipsThat at h
  refine L_iconst (pc := 0) (v := 0) X d_X4_chipsThat_0 (by decide) ?_
  refine L_istore_n (pc := 1) (lv2 := [(2, .int 0), (0, .ref a0), (1, .int x1)]) X d_X4_chipsThat_1 rfl (by decide) rfl ?_
  refine L_iconst (pc := 2) (v := 0) X d_X4_chipsThat_2 (by decide) ?_
  refine L_istore_n (pc := 3) (lv2 := [(3, .int 0), (2, .int 0), (0, .ref a0), (1, .int x1)]) X d_X4_chipsThat_3 rfl (by decide) rfl ?_
  obtain ⟨n4, h⟩ := h
  refine LW.sub [2, 3, 1, 0] rfl ?_
  exact T_X4_chipsThat_4 hl X hr hex n4 _ _ _ _ h_a0 _ h
end G_X4_chipsThat
theorem d_X4_allSent_0 : decode cX4_allSent 0 = .ok (.iconst 0, 1) := by decide +kernel
theorem d_X4_allSent_1 : decode cX4_allSent 1 = .ok (.istore_n 1, 1) := by decide +kernel
theorem d_X4_allSent_2 : decode cX4_allSent 2 = .ok (.iconst 1, 1) := by decide +kernel
theorem d_X4_allSent_3 : decode cX4_allSent 3 = .ok (.istore_n 2, 1) := by decide +kernel
theorem d_X4_allSent_4 : decode cX4_allSent 4 = .ok (.iload_n 2, 1) := by decide +kernel
theorem d_X4_allSent_5 : decode cX4_allSent 5 = .ok (.aload_n 0, 1) := by decide +kernel
theorem d_X4_allSent_6 : decode cX4_allSent 6 = .ok (.getfield 50, 3) := by decide +kernel
theorem d_X4_allSent_9 : decode cX4_allSent 9 = .ok (.if_icmp .gt 21, 3) := by decide +kernel
theorem d_X4_allSent_12 : decode cX4_allSent 12 = .ok (.iload_n 1, 1) := by decide +kernel
theorem d_X4_allSent_13 : decode cX4_allSent 13 = .ok (.aload_n 0, 1) := by decide +kernel
theorem d_X4_allSent_14 : decode cX4_allSent 14 = .ok (.getfield 11, 3) := by decide +kernel
theorem d_X4_allSent_17 : decode cX4_allSent 17 = .ok (.iload_n 2, 1) := by decide +kernel
theorem d_X4_allSent_18 : decode cX4_allSent 18 = .ok (.aaload, 1) := by decide +kernel
theorem d_X4_allSent_19 : decode cX4_allSent 19 = .ok (.getfield 206, 3) := by decide +kernel
theorem d_X4_allSent_22 : decode cX4_allSent 22 = .ok (.iadd, 1) := by decide +kernel
theorem d_X4_allSent_23 : decode cX4_allSent 23 = .ok (.istore_n 1, 1) := by decide +kernel
theorem d_X4_allSent_24 : decode cX4_allSent 24 = .ok (.iinc 2 1, 3) := by decide +kernel
theorem d_X4_allSent_27 : decode cX4_allSent 27 = .ok (.goto (-23), 3) := by decide +kernel
theorem d_X4_allSent_30 : decode cX4_allSent 30 = .ok (.iload_n 1, 1) := by decide +kernel
theorem d_X4_allSent_31 : decode cX4_allSent 31 = .ok (.ireturn, 1) := by decide +kernel
abbrev rm_X4_allSent : Room := { frames := 0, cells := 0, slots := 0, locals := 0 }
def B_X4_allSent_4 (post : Int32 → CMu → Prop) : Nat → Nat → Int32 → Int32 → CMu → Prop
  | 0 => fun _ _ _ _ => False
  | n + 1 => fun v0 v1 v2 cm => ((gI cm v0 5) < v2 → (post v1 cm)) ∧ (¬ (gI cm v0 5) < v2 → ((vp_in v2 12) ∧ B_X4_allSent_4 post n v0 (v1 + (gI cm (v0 + 23 + 2 * Int32.toNatClampNeg v2) 2)) (v2 + 1) cm))
def w_X4_allSent (post : Int32 → CMu → Prop) (a0 : Nat) (cm : CMu) : Prop := ∃ n4, B_X4_allSent_4 post n4 a0 0 1 cm
section G_X4_allSent
variable {p : Program} {l : Launch} {e : Env} {s : State} {m : MethodId} {args : Array Value} {below : List Frame} {meth : Method} {c : Code} {G : Gd} {ρ : Nat → Nat} {A : Nat → Prop} {mm : Nat → Nat → Int32} {oo : Nat → Int64}
set_option maxHeartbeats 4000000 in
set_option maxRecDepth 100000 in
theorem T_X4_allSent_4 {post : Int32 → CMu → Prop} (hl : l.stackTraces = false) (X : MC p l s m args meth c cX4_allSent 3 RX4 G ρ A) (hr : meth.sig.returnType = (some .int)) (hex : ∀ z ∈ c.exceptionTable.toList, False) (n : Nat) : ∀ (v0 : Nat) (v1 : Int32) (v2 : Int32) (h_v0 : (KD v0).1 = 3) (cm : CMu), B_X4_allSent_4 post n v0 v1 v2 cm → LW p l e rm_X4_allSent s m args below meth c (Qm below G ρ A (PI (fun u => (u, mm, oo)) post) noX args s 0 0) G ρ A 3 0 0 4 [(0, .ref v0), (1, .int v1), (2, .int v2)] [] (cm, mm, oo) := by
  induction n with
  | zero =>
    intro v0 v1 v2 h_v0 cm h
    exact False.elim h
  | succ n ih =>
    intro v0 v1 v2 h_v0 cm h
    unfold B_X4_allSent_4 at h
    refine L_iload_n (pc := 4) X d_X4_allSent_4 rfl 2 rfl ?_
    refine L_aload_n (pc := 5) X d_X4_allSent_5 rfl 0 rfl ?_
    refine gf_X4_50 (pc := 6) X d_X4_allSent_6 h_v0 ?_
    refine L_icmp_gt (pc := 9) (tgt := 30) X d_X4_allSent_9 (by decide) (fun c9 => ?_) (fun c9 => ?_)
    · replace h := h.1 c9
      refine L_iload_n (pc := 30) X d_X4_allSent_30 rfl 1 rfl ?_
      exact L_iret (pc := 31) X hr d_X4_allSent_31 (by decide) (by decide) ⟨_, _, rfl, rfl, h⟩
    · replace h := h.2 c9
      refine L_iload_n (pc := 12) X d_X4_allSent_12 rfl 1 rfl ?_
      refine L_aload_n (pc := 13) X d_X4_allSent_13 rfl 0 rfl ?_
      refine gf_X4_11 (pc := 14) (b := v0 + 1) X d_X4_allSent_14 h_v0 rfl ?_
      refine L_iload_n (pc := 17) X d_X4_allSent_17 rfl 2 rfl ?_
      obtain ⟨q1, h⟩ := h
      refine L_aald22 (pc := 18) (b := v0 + 23 + 2 * Int32.toNatClampNeg v2) X d_X4_allSent_18 (kf_3_0 h_v0) q1 rfl ?_
      refine gf_X4_206 (pc := 19) X d_X4_allSent_19 (ka_22 (kf_3_0 h_v0) (vin_lt q1)) ?_
      refine L_iadd (pc := 22) X d_X4_allSent_22 ?_
      refine L_istore_n (pc := 23) (lv2 := [(1, .int (v1 + (gI cm (v0 + 23 + 2 * Int32.toNatClampNeg v2) 2))), (0, .ref v0), (2, .int v2)]) X d_X4_allSent_23 rfl (by decide) rfl ?_
      refine L_iinc (pc := 24) (v := v2 + 1) (lv2 := [(2, .int (v2 + 1)), (1, .int (v1 + (gI cm (v0 + 23 + 2 * Int32.toNatClampNeg v2) 2))), (0, .ref v0)]) X d_X4_allSent_24 2 rfl rfl (by decide) rfl ?_
      refine L_goto (pc := 27) (tgt := 4) X d_X4_allSent_27 (by decide) ?_
      refine LW.sub [2, 1, 0] rfl ?_
      exact ih _ _ _ h_v0 _ h
set_option maxHeartbeats 4000000 in
set_option maxRecDepth 100000 in
theorem c_X4_allSent (hl : l.stackTraces = false) {a0 : Nat} (h_a0 : (KD a0).1 = 3) {cm : CMu} {post : Int32 → CMu → Prop} (h : w_X4_allSent post a0 cm) : CT l yX4_allSent (.code yX4_allSent cX4_allSent 3 (some .int)) rm_X4_allSent 0 0 G ρ [.ref a0] (cm, mm, oo) (PI (fun u => (u, mm, oo)) post) noX := by
  refine CT_of hl (by decide +kernel) rfl (Nat.le_of_ble_eq_true rfl) (lv0 := [(0, .ref a0)]) rfl (fun p e s m args below meth c A X hr hex hnm => ?_)
  unfold w_X4_allSent at h
  refine L_iconst (pc := 0) (v := 0) X d_X4_allSent_0 (by decide) ?_
  refine L_istore_n (pc := 1) (lv2 := [(1, .int 0), (0, .ref a0)]) X d_X4_allSent_1 rfl (by decide) rfl ?_
  refine L_iconst (pc := 2) (v := 1) X d_X4_allSent_2 (by decide) ?_
  refine L_istore_n (pc := 3) (lv2 := [(2, .int 1), (1, .int 0), (0, .ref a0)]) X d_X4_allSent_3 rfl (by decide) rfl ?_
  obtain ⟨n4, h⟩ := h
  refine LW.sub [2, 1, 0] rfl ?_
  exact T_X4_allSent_4 hl X hr hex n4 _ _ _ h_a0 _ h
end G_X4_allSent
theorem d_X4_allLate_0 : decode cX4_allLate 0 = .ok (.iconst 0, 1) := by decide +kernel
theorem d_X4_allLate_1 : decode cX4_allLate 1 = .ok (.istore_n 1, 1) := by decide +kernel
theorem d_X4_allLate_2 : decode cX4_allLate 2 = .ok (.iconst 1, 1) := by decide +kernel
theorem d_X4_allLate_3 : decode cX4_allLate 3 = .ok (.istore_n 2, 1) := by decide +kernel
theorem d_X4_allLate_4 : decode cX4_allLate 4 = .ok (.iload_n 2, 1) := by decide +kernel
theorem d_X4_allLate_5 : decode cX4_allLate 5 = .ok (.aload_n 0, 1) := by decide +kernel
theorem d_X4_allLate_6 : decode cX4_allLate 6 = .ok (.getfield 50, 3) := by decide +kernel
theorem d_X4_allLate_9 : decode cX4_allLate 9 = .ok (.if_icmp .gt 21, 3) := by decide +kernel
theorem d_X4_allLate_12 : decode cX4_allLate 12 = .ok (.iload_n 1, 1) := by decide +kernel
theorem d_X4_allLate_13 : decode cX4_allLate 13 = .ok (.aload_n 0, 1) := by decide +kernel
theorem d_X4_allLate_14 : decode cX4_allLate 14 = .ok (.getfield 11, 3) := by decide +kernel
theorem d_X4_allLate_17 : decode cX4_allLate 17 = .ok (.iload_n 2, 1) := by decide +kernel
theorem d_X4_allLate_18 : decode cX4_allLate 18 = .ok (.aaload, 1) := by decide +kernel
theorem d_X4_allLate_19 : decode cX4_allLate 19 = .ok (.getfield 209, 3) := by decide +kernel
theorem d_X4_allLate_22 : decode cX4_allLate 22 = .ok (.iadd, 1) := by decide +kernel
theorem d_X4_allLate_23 : decode cX4_allLate 23 = .ok (.istore_n 1, 1) := by decide +kernel
theorem d_X4_allLate_24 : decode cX4_allLate 24 = .ok (.iinc 2 1, 3) := by decide +kernel
theorem d_X4_allLate_27 : decode cX4_allLate 27 = .ok (.goto (-23), 3) := by decide +kernel
theorem d_X4_allLate_30 : decode cX4_allLate 30 = .ok (.iload_n 1, 1) := by decide +kernel
theorem d_X4_allLate_31 : decode cX4_allLate 31 = .ok (.ireturn, 1) := by decide +kernel
abbrev rm_X4_allLate : Room := { frames := 0, cells := 0, slots := 0, locals := 0 }
def B_X4_allLate_4 (post : Int32 → CMu → Prop) : Nat → Nat → Int32 → Int32 → CMu → Prop
  | 0 => fun _ _ _ _ => False
  | n + 1 => fun v0 v1 v2 cm => ((gI cm v0 5) < v2 → (post v1 cm)) ∧ (¬ (gI cm v0 5) < v2 → ((vp_in v2 12) ∧ B_X4_allLate_4 post n v0 (v1 + (gI cm (v0 + 23 + 2 * Int32.toNatClampNeg v2) 3)) (v2 + 1) cm))
def w_X4_allLate (post : Int32 → CMu → Prop) (a0 : Nat) (cm : CMu) : Prop := ∃ n4, B_X4_allLate_4 post n4 a0 0 1 cm
section G_X4_allLate
variable {p : Program} {l : Launch} {e : Env} {s : State} {m : MethodId} {args : Array Value} {below : List Frame} {meth : Method} {c : Code} {G : Gd} {ρ : Nat → Nat} {A : Nat → Prop} {mm : Nat → Nat → Int32} {oo : Nat → Int64}
set_option maxHeartbeats 4000000 in
set_option maxRecDepth 100000 in
theorem T_X4_allLate_4 {post : Int32 → CMu → Prop} (hl : l.stackTraces = false) (X : MC p l s m args meth c cX4_allLate 3 RX4 G ρ A) (hr : meth.sig.returnType = (some .int)) (hex : ∀ z ∈ c.exceptionTable.toList, False) (n : Nat) : ∀ (v0 : Nat) (v1 : Int32) (v2 : Int32) (h_v0 : (KD v0).1 = 3) (cm : CMu), B_X4_allLate_4 post n v0 v1 v2 cm → LW p l e rm_X4_allLate s m args below meth c (Qm below G ρ A (PI (fun u => (u, mm, oo)) post) noX args s 0 0) G ρ A 3 0 0 4 [(0, .ref v0), (1, .int v1), (2, .int v2)] [] (cm, mm, oo) := by
  induction n with
  | zero =>
    intro v0 v1 v2 h_v0 cm h
    exact False.elim h
  | succ n ih =>
    intro v0 v1 v2 h_v0 cm h
    unfold B_X4_allLate_4 at h
    refine L_iload_n (pc := 4) X d_X4_allLate_4 rfl 2 rfl ?_
    refine L_aload_n (pc := 5) X d_X4_allLate_5 rfl 0 rfl ?_
    refine gf_X4_50 (pc := 6) X d_X4_allLate_6 h_v0 ?_
    refine L_icmp_gt (pc := 9) (tgt := 30) X d_X4_allLate_9 (by decide) (fun c9 => ?_) (fun c9 => ?_)
    · replace h := h.1 c9
      refine L_iload_n (pc := 30) X d_X4_allLate_30 rfl 1 rfl ?_
      exact L_iret (pc := 31) X hr d_X4_allLate_31 (by decide) (by decide) ⟨_, _, rfl, rfl, h⟩
    · replace h := h.2 c9
      refine L_iload_n (pc := 12) X d_X4_allLate_12 rfl 1 rfl ?_
      refine L_aload_n (pc := 13) X d_X4_allLate_13 rfl 0 rfl ?_
      refine gf_X4_11 (pc := 14) (b := v0 + 1) X d_X4_allLate_14 h_v0 rfl ?_
      refine L_iload_n (pc := 17) X d_X4_allLate_17 rfl 2 rfl ?_
      obtain ⟨q1, h⟩ := h
      refine L_aald22 (pc := 18) (b := v0 + 23 + 2 * Int32.toNatClampNeg v2) X d_X4_allLate_18 (kf_3_0 h_v0) q1 rfl ?_
      refine gf_X4_209 (pc := 19) X d_X4_allLate_19 (ka_22 (kf_3_0 h_v0) (vin_lt q1)) ?_
      refine L_iadd (pc := 22) X d_X4_allLate_22 ?_
      refine L_istore_n (pc := 23) (lv2 := [(1, .int (v1 + (gI cm (v0 + 23 + 2 * Int32.toNatClampNeg v2) 3))), (0, .ref v0), (2, .int v2)]) X d_X4_allLate_23 rfl (by decide) rfl ?_
      refine L_iinc (pc := 24) (v := v2 + 1) (lv2 := [(2, .int (v2 + 1)), (1, .int (v1 + (gI cm (v0 + 23 + 2 * Int32.toNatClampNeg v2) 3))), (0, .ref v0)]) X d_X4_allLate_24 2 rfl rfl (by decide) rfl ?_
      refine L_goto (pc := 27) (tgt := 4) X d_X4_allLate_27 (by decide) ?_
      refine LW.sub [2, 1, 0] rfl ?_
      exact ih _ _ _ h_v0 _ h
set_option maxHeartbeats 4000000 in
set_option maxRecDepth 100000 in
theorem c_X4_allLate (hl : l.stackTraces = false) {a0 : Nat} (h_a0 : (KD a0).1 = 3) {cm : CMu} {post : Int32 → CMu → Prop} (h : w_X4_allLate post a0 cm) : CT l yX4_allLate (.code yX4_allLate cX4_allLate 3 (some .int)) rm_X4_allLate 0 0 G ρ [.ref a0] (cm, mm, oo) (PI (fun u => (u, mm, oo)) post) noX := by
  refine CT_of hl (by decide +kernel) rfl (Nat.le_of_ble_eq_true rfl) (lv0 := [(0, .ref a0)]) rfl (fun p e s m args below meth c A X hr hex hnm => ?_)
  unfold w_X4_allLate at h
  refine L_iconst (pc := 0) (v := 0) X d_X4_allLate_0 (by decide) ?_
  refine L_istore_n (pc := 1) (lv2 := [(1, .int 0), (0, .ref a0)]) X d_X4_allLate_1 rfl (by decide) rfl ?_
  refine L_iconst (pc := 2) (v := 1) X d_X4_allLate_2 (by decide) ?_
  refine L_istore_n (pc := 3) (lv2 := [(2, .int 1), (1, .int 0), (0, .ref a0)]) X d_X4_allLate_3 rfl (by decide) rfl ?_
  obtain ⟨n4, h⟩ := h
  refine LW.sub [2, 1, 0] rfl ?_
  exact T_X4_allLate_4 hl X hr hex n4 _ _ _ h_a0 _ h
end G_X4_allLate
theorem d_X4_throwChip_0 : decode cX4_throwChip 0 = .ok (.aload_n 0, 1) := by decide +kernel
theorem d_X4_throwChip_1 : decode cX4_throwChip 1 = .ok (.getfield 53, 3) := by decide +kernel
theorem d_X4_throwChip_4 : decode cX4_throwChip 4 = .ok (.bipush 60, 2) := by decide +kernel
theorem d_X4_throwChip_6 : decode cX4_throwChip 6 = .ok (.if_icmp .lt 5, 3) := by decide +kernel
theorem d_X4_throwChip_9 : decode cX4_throwChip 9 = .ok (.iconst (-1), 1) := by decide +kernel
theorem d_X4_throwChip_10 : decode cX4_throwChip 10 = .ok (.ireturn, 1) := by decide +kernel
theorem d_X4_throwChip_11 : decode cX4_throwChip 11 = .ok (.aload_n 0, 1) := by decide +kernel
theorem d_X4_throwChip_12 : decode cX4_throwChip 12 = .ok (.getfield 25, 3) := by decide +kernel
theorem d_X4_throwChip_15 : decode cX4_throwChip 15 = .ok (.aload_n 0, 1) := by decide +kernel
theorem d_X4_throwChip_16 : decode cX4_throwChip 16 = .ok (.getfield 53, 3) := by decide +kernel
theorem d_X4_throwChip_19 : decode cX4_throwChip 19 = .ok (.aaload, 1) := by decide +kernel
theorem d_X4_throwChip_20 : decode cX4_throwChip 20 = .ok (.astore 5, 2) := by decide +kernel
theorem d_X4_throwChip_22 : decode cX4_throwChip 22 = .ok (.aload 5, 2) := by decide +kernel
theorem d_X4_throwChip_24 : decode cX4_throwChip 24 = .ok (.iconst 0, 1) := by decide +kernel
theorem d_X4_throwChip_25 : decode cX4_throwChip 25 = .ok (.putfield 168, 3) := by decide +kernel
theorem d_X4_throwChip_28 : decode cX4_throwChip 28 = .ok (.aload 5, 2) := by decide +kernel
theorem d_X4_throwChip_30 : decode cX4_throwChip 30 = .ok (.iload_n 1, 1) := by decide +kernel
theorem d_X4_throwChip_31 : decode cX4_throwChip 31 = .ok (.putfield 171, 3) := by decide +kernel
theorem d_X4_throwChip_34 : decode cX4_throwChip 34 = .ok (.aload 5, 2) := by decide +kernel
theorem d_X4_throwChip_36 : decode cX4_throwChip 36 = .ok (.iconst 0, 1) := by decide +kernel
theorem d_X4_throwChip_37 : decode cX4_throwChip 37 = .ok (.putfield 174, 3) := by decide +kernel
theorem d_X4_throwChip_40 : decode cX4_throwChip 40 = .ok (.aload 5, 2) := by decide +kernel
theorem d_X4_throwChip_42 : decode cX4_throwChip 42 = .ok (.iload_n 2, 1) := by decide +kernel
theorem d_X4_throwChip_43 : decode cX4_throwChip 43 = .ok (.putfield 177, 3) := by decide +kernel
theorem d_X4_throwChip_46 : decode cX4_throwChip 46 = .ok (.aload 5, 2) := by decide +kernel
theorem d_X4_throwChip_48 : decode cX4_throwChip 48 = .ok (.aload_n 0, 1) := by decide +kernel
theorem d_X4_throwChip_49 : decode cX4_throwChip 49 = .ok (.getfield 68, 3) := by decide +kernel
theorem d_X4_throwChip_52 : decode cX4_throwChip 52 = .ok (.putfield 180, 3) := by decide +kernel
theorem d_X4_throwChip_55 : decode cX4_throwChip 55 = .ok (.aload 5, 2) := by decide +kernel
theorem d_X4_throwChip_57 : decode cX4_throwChip 57 = .ok (.iload 4, 2) := by decide +kernel
theorem d_X4_throwChip_59 : decode cX4_throwChip 59 = .ok (.putfield 183, 3) := by decide +kernel
theorem d_X4_throwChip_62 : decode cX4_throwChip 62 = .ok (.aload 5, 2) := by decide +kernel
theorem d_X4_throwChip_64 : decode cX4_throwChip 64 = .ok (.iload_n 3, 1) := by decide +kernel
theorem d_X4_throwChip_65 : decode cX4_throwChip 65 = .ok (.putfield 186, 3) := by decide +kernel
theorem d_X4_throwChip_68 : decode cX4_throwChip 68 = .ok (.aload_n 0, 1) := by decide +kernel
theorem d_X4_throwChip_69 : decode cX4_throwChip 69 = .ok (.dup, 1) := by decide +kernel
theorem d_X4_throwChip_70 : decode cX4_throwChip 70 = .ok (.getfield 53, 3) := by decide +kernel
theorem d_X4_throwChip_73 : decode cX4_throwChip 73 = .ok (.iconst 1, 1) := by decide +kernel
theorem d_X4_throwChip_74 : decode cX4_throwChip 74 = .ok (.iadd, 1) := by decide +kernel
theorem d_X4_throwChip_75 : decode cX4_throwChip 75 = .ok (.putfield 53, 3) := by decide +kernel
theorem d_X4_throwChip_78 : decode cX4_throwChip 78 = .ok (.aload_n 0, 1) := by decide +kernel
theorem d_X4_throwChip_79 : decode cX4_throwChip 79 = .ok (.getfield 53, 3) := by decide +kernel
theorem d_X4_throwChip_82 : decode cX4_throwChip 82 = .ok (.iconst 1, 1) := by decide +kernel
theorem d_X4_throwChip_83 : decode cX4_throwChip 83 = .ok (.isub, 1) := by decide +kernel
theorem d_X4_throwChip_84 : decode cX4_throwChip 84 = .ok (.ireturn, 1) := by decide +kernel
abbrev rm_X4_throwChip : Room := { frames := 0, cells := 0, slots := 0, locals := 0 }
def w_X4_throwChip (post : Int32 → CMu → Prop) (a0 : Nat) (x1 : Int32) (x2 : Int32) (x3 : Int32) (x4 : Int32) (cm : CMu) : Prop := ((gI cm a0 6) < 60 → ((vp_in (gI cm a0 6) 60) ∧ post ((gI (uI (uI (uI (uI (uI (uI (uI (uI cm (a0 + 47 + Int32.toNatClampNeg (gI cm a0 6)) 0 0) (a0 + 47 + Int32.toNatClampNeg (gI cm a0 6)) 1 x1) (a0 + 47 + Int32.toNatClampNeg (gI cm a0 6)) 2 0) (a0 + 47 + Int32.toNatClampNeg (gI cm a0 6)) 3 x2) (a0 + 47 + Int32.toNatClampNeg (gI cm a0 6)) 4 (gI (uI (uI (uI (uI cm (a0 + 47 + Int32.toNatClampNeg (gI cm a0 6)) 0 0) (a0 + 47 + Int32.toNatClampNeg (gI cm a0 6)) 1 x1) (a0 + 47 + Int32.toNatClampNeg (gI cm a0 6)) 2 0) (a0 + 47 + Int32.toNatClampNeg (gI cm a0 6)) 3 x2) a0 12)) (a0 + 47 + Int32.toNatClampNeg (gI cm a0 6)) 5 x4) (a0 + 47 + Int32.toNatClampNeg (gI cm a0 6)) 6 x3) a0 6 ((gI (uI (uI (uI (uI (uI (uI (uI cm (a0 + 47 + Int32.toNatClampNeg (gI cm a0 6)) 0 0) (a0 + 47 + Int32.toNatClampNeg (gI cm a0 6)) 1 x1) (a0 + 47 + Int32.toNatClampNeg (gI cm a0 6)) 2 0) (a0 + 47 + Int32.toNatClampNeg (gI cm a0 6)) 3 x2) (a0 + 47 + Int32.toNatClampNeg (gI cm a0 6)) 4 (gI (uI (uI (uI (uI cm (a0 + 47 + Int32.toNatClampNeg (gI cm a0 6)) 0 0) (a0 + 47 + Int32.toNatClampNeg (gI cm a0 6)) 1 x1) (a0 + 47 + Int32.toNatClampNeg (gI cm a0 6)) 2 0) (a0 + 47 + Int32.toNatClampNeg (gI cm a0 6)) 3 x2) a0 12)) (a0 + 47 + Int32.toNatClampNeg (gI cm a0 6)) 5 x4) (a0 + 47 + Int32.toNatClampNeg (gI cm a0 6)) 6 x3) a0 6) + 1)) a0 6) - 1) (uI (uI (uI (uI (uI (uI (uI (uI cm (a0 + 47 + Int32.toNatClampNeg (gI cm a0 6)) 0 0) (a0 + 47 + Int32.toNatClampNeg (gI cm a0 6)) 1 x1) (a0 + 47 + Int32.toNatClampNeg (gI cm a0 6)) 2 0) (a0 + 47 + Int32.toNatClampNeg (gI cm a0 6)) 3 x2) (a0 + 47 + Int32.toNatClampNeg (gI cm a0 6)) 4 (gI (uI (uI (uI (uI cm (a0 + 47 + Int32.toNatClampNeg (gI cm a0 6)) 0 0) (a0 + 47 + Int32.toNatClampNeg (gI cm a0 6)) 1 x1) (a0 + 47 + Int32.toNatClampNeg (gI cm a0 6)) 2 0) (a0 + 47 + Int32.toNatClampNeg (gI cm a0 6)) 3 x2) a0 12)) (a0 + 47 + Int32.toNatClampNeg (gI cm a0 6)) 5 x4) (a0 + 47 + Int32.toNatClampNeg (gI cm a0 6)) 6 x3) a0 6 ((gI (uI (uI (uI (uI (uI (uI (uI cm (a0 + 47 + Int32.toNatClampNeg (gI cm a0 6)) 0 0) (a0 + 47 + Int32.toNatClampNeg (gI cm a0 6)) 1 x1) (a0 + 47 + Int32.toNatClampNeg (gI cm a0 6)) 2 0) (a0 + 47 + Int32.toNatClampNeg (gI cm a0 6)) 3 x2) (a0 + 47 + Int32.toNatClampNeg (gI cm a0 6)) 4 (gI (uI (uI (uI (uI cm (a0 + 47 + Int32.toNatClampNeg (gI cm a0 6)) 0 0) (a0 + 47 + Int32.toNatClampNeg (gI cm a0 6)) 1 x1) (a0 + 47 + Int32.toNatClampNeg (gI cm a0 6)) 2 0) (a0 + 47 + Int32.toNatClampNeg (gI cm a0 6)) 3 x2) a0 12)) (a0 + 47 + Int32.toNatClampNeg (gI cm a0 6)) 5 x4) (a0 + 47 + Int32.toNatClampNeg (gI cm a0 6)) 6 x3) a0 6) + 1)))) ∧ (¬ (gI cm a0 6) < 60 → (post (-1) cm))
section G_X4_throwChip
variable {p : Program} {l : Launch} {e : Env} {s : State} {m : MethodId} {args : Array Value} {below : List Frame} {meth : Method} {c : Code} {G : Gd} {ρ : Nat → Nat} {A : Nat → Prop} {mm : Nat → Nat → Int32} {oo : Nat → Int64}
set_option maxHeartbeats 4000000 in
set_option maxRecDepth 100000 in
theorem c_X4_throwChip (hl : l.stackTraces = false) {a0 : Nat} {x1 : Int32} {x2 : Int32} {x3 : Int32} {x4 : Int32} (h_a0 : (KD a0).1 = 3) {cm : CMu} {post : Int32 → CMu → Prop} (h : w_X4_throwChip post a0 x1 x2 x3 x4 cm) : CT l yX4_throwChip (.code yX4_throwChip cX4_throwChip 6 (some .int)) rm_X4_throwChip 0 0 G ρ [.ref a0, .int x1, .int x2, .int x3, .int x4] (cm, mm, oo) (PI (fun u => (u, mm, oo)) post) noX := by
  refine CT_of hl (by decide +kernel) rfl (Nat.le_of_ble_eq_true rfl) (lv0 := [(0, .ref a0), (1, .int x1), (2, .int x2), (3, .int x3), (4, .int x4)]) rfl (fun p e s m args below meth c A X hr hex hnm => ?_)
  unfold w_X4_throwChip at h
  refine L_aload_n (pc := 0) X d_X4_throwChip_0 rfl 0 rfl ?_
  refine gf_X4_53 (pc := 1) X d_X4_throwChip_1 h_a0 ?_
  refine L_bipush (pc := 4) (v := 60) X d_X4_throwChip_4 (by decide) ?_
  refine L_icmp_lt (pc := 6) (tgt := 11) X d_X4_throwChip_6 (by decide) (fun c6 => ?_) (fun c6 => ?_)
  · replace h := h.1 c6
    refine L_aload_n (pc := 11) X d_X4_throwChip_11 rfl 0 rfl ?_
    refine gf_X4_25 (pc := 12) (b := a0 + 3) X d_X4_throwChip_12 h_a0 rfl ?_
    refine L_aload_n (pc := 15) X d_X4_throwChip_15 rfl 0 rfl ?_
    refine gf_X4_53 (pc := 16) X d_X4_throwChip_16 h_a0 ?_
    obtain ⟨q1, h⟩ := h
    refine L_aald24 (pc := 19) (b := a0 + 47 + Int32.toNatClampNeg (gI cm a0 6)) X d_X4_throwChip_19 (kf_3_2 h_a0) q1 rfl ?_
    refine L_astore (pc := 20) (lv2 := [(5, .ref (a0 + 47 + Int32.toNatClampNeg (gI cm a0 6))), (0, .ref a0), (1, .int x1), (2, .int x2), (3, .int x3), (4, .int x4)]) X d_X4_throwChip_20 (by decide) rfl ?_
    refine L_aload (pc := 22) X d_X4_throwChip_22 0 rfl ?_
    refine L_iconst (pc := 24) (v := 0) X d_X4_throwChip_24 (by decide) ?_
    refine pf_X4_168 (pc := 25) X d_X4_throwChip_25 (ka_24 (kf_3_2 h_a0) (vin_lt q1)) ?_
    refine L_aload (pc := 28) X d_X4_throwChip_28 0 rfl ?_
    refine L_iload_n (pc := 30) X d_X4_throwChip_30 rfl 2 rfl ?_
    refine pf_X4_171 (pc := 31) X d_X4_throwChip_31 (ka_24 (kf_3_2 h_a0) (vin_lt q1)) ?_
    refine L_aload (pc := 34) X d_X4_throwChip_34 0 rfl ?_
    refine L_iconst (pc := 36) (v := 0) X d_X4_throwChip_36 (by decide) ?_
    refine pf_X4_174 (pc := 37) X d_X4_throwChip_37 (ka_24 (kf_3_2 h_a0) (vin_lt q1)) ?_
    refine L_aload (pc := 40) X d_X4_throwChip_40 0 rfl ?_
    refine L_iload_n (pc := 42) X d_X4_throwChip_42 rfl 3 rfl ?_
    refine pf_X4_177 (pc := 43) X d_X4_throwChip_43 (ka_24 (kf_3_2 h_a0) (vin_lt q1)) ?_
    refine L_aload (pc := 46) X d_X4_throwChip_46 0 rfl ?_
    refine L_aload_n (pc := 48) X d_X4_throwChip_48 rfl 1 rfl ?_
    refine gf_X4_68 (pc := 49) X d_X4_throwChip_49 h_a0 ?_
    refine pf_X4_180 (pc := 52) X d_X4_throwChip_52 (ka_24 (kf_3_2 h_a0) (vin_lt q1)) ?_
    refine L_aload (pc := 55) X d_X4_throwChip_55 0 rfl ?_
    refine L_iload (pc := 57) X d_X4_throwChip_57 5 rfl ?_
    refine pf_X4_183 (pc := 59) X d_X4_throwChip_59 (ka_24 (kf_3_2 h_a0) (vin_lt q1)) ?_
    refine L_aload (pc := 62) X d_X4_throwChip_62 0 rfl ?_
    refine L_iload_n (pc := 64) X d_X4_throwChip_64 rfl 4 rfl ?_
    refine pf_X4_186 (pc := 65) X d_X4_throwChip_65 (ka_24 (kf_3_2 h_a0) (vin_lt q1)) ?_
    refine L_aload_n (pc := 68) X d_X4_throwChip_68 rfl 1 rfl ?_
    refine L_dup (pc := 69) X d_X4_throwChip_69 rfl ?_
    refine gf_X4_53 (pc := 70) X d_X4_throwChip_70 h_a0 ?_
    refine L_iconst (pc := 73) (v := 1) X d_X4_throwChip_73 (by decide) ?_
    refine L_iadd (pc := 74) X d_X4_throwChip_74 ?_
    refine pf_X4_53 (pc := 75) X d_X4_throwChip_75 h_a0 ?_
    refine L_aload_n (pc := 78) X d_X4_throwChip_78 rfl 1 rfl ?_
    refine gf_X4_53 (pc := 79) X d_X4_throwChip_79 h_a0 ?_
    refine L_iconst (pc := 82) (v := 1) X d_X4_throwChip_82 (by decide) ?_
    refine L_isub (pc := 83) X d_X4_throwChip_83 ?_
    exact L_iret (pc := 84) X hr d_X4_throwChip_84 (by decide) (by decide) ⟨_, _, rfl, rfl, h⟩
  · replace h := h.2 c6
    refine L_iconst (pc := 9) (v := (-1)) X d_X4_throwChip_9 (by decide) ?_
    exact L_iret (pc := 10) X hr d_X4_throwChip_10 (by decide) (by decide) ⟨_, _, rfl, rfl, h⟩
end G_X4_throwChip
theorem d_X4_setReach_0 : decode cX4_setReach 0 = .ok (.iload_n 1, 1) := by decide +kernel
theorem d_X4_setReach_1 : decode cX4_setReach 1 = .ok (.ifCond .lt 39, 3) := by decide +kernel
theorem d_X4_setReach_4 : decode cX4_setReach 4 = .ok (.iload_n 1, 1) := by decide +kernel
theorem d_X4_setReach_5 : decode cX4_setReach 5 = .ok (.aload_n 0, 1) := by decide +kernel
theorem d_X4_setReach_6 : decode cX4_setReach 6 = .ok (.getfield 19, 3) := by decide +kernel
theorem d_X4_setReach_9 : decode cX4_setReach 9 = .ok (.arraylength, 1) := by decide +kernel
theorem d_X4_setReach_10 : decode cX4_setReach 10 = .ok (.if_icmp .ge 30, 3) := by decide +kernel
theorem d_X4_setReach_13 : decode cX4_setReach 13 = .ok (.aload_n 0, 1) := by decide +kernel
theorem d_X4_setReach_14 : decode cX4_setReach 14 = .ok (.getfield 19, 3) := by decide +kernel
theorem d_X4_setReach_17 : decode cX4_setReach 17 = .ok (.iload_n 1, 1) := by decide +kernel
theorem d_X4_setReach_18 : decode cX4_setReach 18 = .ok (.aaload, 1) := by decide +kernel
theorem d_X4_setReach_19 : decode cX4_setReach 19 = .ok (.astore 5, 2) := by decide +kernel
theorem d_X4_setReach_21 : decode cX4_setReach 21 = .ok (.aload 5, 2) := by decide +kernel
theorem d_X4_setReach_23 : decode cX4_setReach 23 = .ok (.iload_n 2, 1) := by decide +kernel
theorem d_X4_setReach_24 : decode cX4_setReach 24 = .ok (.putfield 159, 3) := by decide +kernel
theorem d_X4_setReach_27 : decode cX4_setReach 27 = .ok (.aload 5, 2) := by decide +kernel
theorem d_X4_setReach_29 : decode cX4_setReach 29 = .ok (.iload_n 3, 1) := by decide +kernel
theorem d_X4_setReach_30 : decode cX4_setReach 30 = .ok (.putfield 162, 3) := by decide +kernel
theorem d_X4_setReach_33 : decode cX4_setReach 33 = .ok (.aload 5, 2) := by decide +kernel
theorem d_X4_setReach_35 : decode cX4_setReach 35 = .ok (.iload 4, 2) := by decide +kernel
theorem d_X4_setReach_37 : decode cX4_setReach 37 = .ok (.putfield 165, 3) := by decide +kernel
theorem d_X4_setReach_40 : decode cX4_setReach 40 = .ok (.return_, 1) := by decide +kernel
abbrev rm_X4_setReach : Room := { frames := 0, cells := 0, slots := 0, locals := 0 }
def B_X4_setReach_40 (post : CMu → Prop) (cm : CMu) : Prop := post cm
def w_X4_setReach (post : CMu → Prop) (a0 : Nat) (x1 : Int32) (x2 : Int32) (x3 : Int32) (x4 : Int32) (cm : CMu) : Prop := (x1 < 0 → (B_X4_setReach_40 post cm)) ∧ (¬ x1 < 0 → ((12 ≤ x1 → (B_X4_setReach_40 post cm)) ∧ (¬ 12 ≤ x1 → ((vp_in x1 12) ∧ B_X4_setReach_40 post (uI (uI (uI cm (a0 + 24 + 2 * Int32.toNatClampNeg x1) 0 x2) (a0 + 24 + 2 * Int32.toNatClampNeg x1) 1 x3) (a0 + 24 + 2 * Int32.toNatClampNeg x1) 2 x4)))))
section G_X4_setReach
variable {p : Program} {l : Launch} {e : Env} {s : State} {m : MethodId} {args : Array Value} {below : List Frame} {meth : Method} {c : Code} {G : Gd} {ρ : Nat → Nat} {A : Nat → Prop} {mm : Nat → Nat → Int32} {oo : Nat → Int64}
set_option maxHeartbeats 4000000 in
set_option maxRecDepth 100000 in
theorem T_X4_setReach_40 {post : CMu → Prop} (hl : l.stackTraces = false) (X : MC p l s m args meth c cX4_setReach 6 RX4 G ρ A) (hr : meth.sig.returnType = none) (hex : ∀ z ∈ c.exceptionTable.toList, False) : ∀ (cm : CMu), B_X4_setReach_40 post cm → LW p l e rm_X4_setReach s m args below meth c (Qm below G ρ A (PV (fun u => (u, mm, oo)) post) noX args s 0 0) G ρ A 6 0 0 40 [] [] (cm, mm, oo) := by
  intro cm h
  unfold B_X4_setReach_40 at h
  exact L_vret (pc := 40) X hr d_X4_setReach_40 (by decide) (by decide) ⟨_, rfl, rfl, h⟩
set_option maxHeartbeats 4000000 in
set_option maxRecDepth 100000 in
theorem c_X4_setReach (hl : l.stackTraces = false) {a0 : Nat} {x1 : Int32} {x2 : Int32} {x3 : Int32} {x4 : Int32} (h_a0 : (KD a0).1 = 3) {cm : CMu} {post : CMu → Prop} (h : w_X4_setReach post a0 x1 x2 x3 x4 cm) : CT l yX4_setReach (.code yX4_setReach cX4_setReach 6 none) rm_X4_setReach 0 0 G ρ [.ref a0, .int x1, .int x2, .int x3, .int x4] (cm, mm, oo) (PV (fun u => (u, mm, oo)) post) noX := by
  refine CT_of hl (by decide +kernel) rfl (Nat.le_of_ble_eq_true rfl) (lv0 := [(0, .ref a0), (1, .int x1), (2, .int x2), (3, .int x3), (4, .int x4)]) rfl (fun p e s m args below meth c A X hr hex hnm => ?_)
  unfold w_X4_setReach at h
  refine L_iload_n (pc := 0) X d_X4_setReach_0 rfl 1 rfl ?_
  refine L_if_lt (pc := 1) (tgt := 40) X d_X4_setReach_1 (by decide) (fun c1 => ?_) (fun c1 => ?_)
  · replace h := h.1 c1
    refine LW.sub [] rfl ?_
    exact T_X4_setReach_40 hl X hr hex   _ h
  · replace h := h.2 c1
    refine L_iload_n (pc := 4) X d_X4_setReach_4 rfl 1 rfl ?_
    refine L_aload_n (pc := 5) X d_X4_setReach_5 rfl 0 rfl ?_
    refine gf_X4_19 (pc := 6) (b := a0 + 2) X d_X4_setReach_6 h_a0 rfl ?_
    refine L_alenR (pc := 9) (v := 12) X d_X4_setReach_9 (kf_3_1 h_a0) (by decide) (by decide) (by decide) ⟨_, rfl⟩ rfl ?_
    refine L_icmp_ge (pc := 10) (tgt := 40) X d_X4_setReach_10 (by decide) (fun c10 => ?_) (fun c10 => ?_)
    · replace h := h.1 c10
      refine LW.sub [] rfl ?_
      exact T_X4_setReach_40 hl X hr hex   _ h
    · replace h := h.2 c10
      refine L_aload_n (pc := 13) X d_X4_setReach_13 rfl 0 rfl ?_
      refine gf_X4_19 (pc := 14) (b := a0 + 2) X d_X4_setReach_14 h_a0 rfl ?_
      refine L_iload_n (pc := 17) X d_X4_setReach_17 rfl 1 rfl ?_
      obtain ⟨q1, h⟩ := h
      refine L_aald23 (pc := 18) (b := a0 + 24 + 2 * Int32.toNatClampNeg x1) X d_X4_setReach_18 (kf_3_1 h_a0) q1 rfl ?_
      refine L_astore (pc := 19) (lv2 := [(5, .ref (a0 + 24 + 2 * Int32.toNatClampNeg x1)), (0, .ref a0), (1, .int x1), (2, .int x2), (3, .int x3), (4, .int x4)]) X d_X4_setReach_19 (by decide) rfl ?_
      refine L_aload (pc := 21) X d_X4_setReach_21 0 rfl ?_
      refine L_iload_n (pc := 23) X d_X4_setReach_23 rfl 3 rfl ?_
      refine pf_X4_159 (pc := 24) X d_X4_setReach_24 (ka_23 (kf_3_1 h_a0) (vin_lt q1)) ?_
      refine L_aload (pc := 27) X d_X4_setReach_27 0 rfl ?_
      refine L_iload_n (pc := 29) X d_X4_setReach_29 rfl 4 rfl ?_
      refine pf_X4_162 (pc := 30) X d_X4_setReach_30 (ka_23 (kf_3_1 h_a0) (vin_lt q1)) ?_
      refine L_aload (pc := 33) X d_X4_setReach_33 0 rfl ?_
      refine L_iload (pc := 35) X d_X4_setReach_35 5 rfl ?_
      refine pf_X4_165 (pc := 37) X d_X4_setReach_37 (ka_23 (kf_3_1 h_a0) (vin_lt q1)) ?_
      refine LW.sub [] rfl ?_
      exact T_X4_setReach_40 hl X hr hex   _ h
end G_X4_setReach
theorem yk_X4_setReach : yX4_setReach.cls = RX4 ∧ yX4_setReach.cls ≠ "java/lang/invoke/MethodHandle" ∧ yX4_setReach.cls ≠ "java/lang/invoke/VarHandle" ∧ (parseMethodDescriptor yX4_setReach.desc).map (fun d => d.parameters.length) = some 4 := by decide +kernel
theorem lk_X4_148 : LinkV RX4 148 RX4 yX4_setReach (.code yX4_setReach cX4_setReach 6 none) 4 := ⟨tw_716, tw_718, tw_7, tw_78, tw_719, yk_X4_setReach⟩
theorem yk_X1_begin : yX1_begin.cls = RX1 ∧ yX1_begin.cls ≠ "java/lang/invoke/MethodHandle" ∧ yX1_begin.cls ≠ "java/lang/invoke/VarHandle" ∧ (parseMethodDescriptor yX1_begin.desc).map (fun d => d.parameters.length) = some 1 := by decide +kernel
theorem lk_X4_152 : LinkV RX4 152 RX1 yX1_begin (.code yX1_begin cX1_begin 2 none) 1 := ⟨tw_712, tw_713, tw_714, tw_80, tw_715, yk_X1_begin⟩
theorem d_X4_addCamp_0 : decode cX4_addCamp 0 = .ok (.aload_n 0, 1) := by decide +kernel
theorem d_X4_addCamp_1 : decode cX4_addCamp 1 = .ok (.getfield 50, 3) := by decide +kernel
theorem d_X4_addCamp_4 : decode cX4_addCamp 4 = .ok (.bipush 11, 2) := by decide +kernel
theorem d_X4_addCamp_6 : decode cX4_addCamp 6 = .ok (.if_icmp .ge 50, 3) := by decide +kernel
theorem d_X4_addCamp_9 : decode cX4_addCamp 9 = .ok (.aload_n 0, 1) := by decide +kernel
theorem d_X4_addCamp_10 : decode cX4_addCamp 10 = .ok (.dup, 1) := by decide +kernel
theorem d_X4_addCamp_11 : decode cX4_addCamp 11 = .ok (.getfield 50, 3) := by decide +kernel
theorem d_X4_addCamp_14 : decode cX4_addCamp 14 = .ok (.iconst 1, 1) := by decide +kernel
theorem d_X4_addCamp_15 : decode cX4_addCamp 15 = .ok (.iadd, 1) := by decide +kernel
theorem d_X4_addCamp_16 : decode cX4_addCamp 16 = .ok (.putfield 50, 3) := by decide +kernel
theorem d_X4_addCamp_19 : decode cX4_addCamp 19 = .ok (.aload_n 0, 1) := by decide +kernel
theorem d_X4_addCamp_20 : decode cX4_addCamp 20 = .ok (.getfield 11, 3) := by decide +kernel
theorem d_X4_addCamp_23 : decode cX4_addCamp 23 = .ok (.aload_n 0, 1) := by decide +kernel
theorem d_X4_addCamp_24 : decode cX4_addCamp 24 = .ok (.getfield 50, 3) := by decide +kernel
theorem d_X4_addCamp_27 : decode cX4_addCamp 27 = .ok (.aaload, 1) := by decide +kernel
theorem d_X4_addCamp_28 : decode cX4_addCamp 28 = .ok (.iload_n 2, 1) := by decide +kernel
theorem d_X4_addCamp_29 : decode cX4_addCamp 29 = .ok (.invokevirtual 152, 3) := by decide +kernel
theorem d_X4_addCamp_32 : decode cX4_addCamp 32 = .ok (.aload_n 0, 1) := by decide +kernel
theorem d_X4_addCamp_33 : decode cX4_addCamp 33 = .ok (.getfield 19, 3) := by decide +kernel
theorem d_X4_addCamp_36 : decode cX4_addCamp 36 = .ok (.aload_n 0, 1) := by decide +kernel
theorem d_X4_addCamp_37 : decode cX4_addCamp 37 = .ok (.getfield 50, 3) := by decide +kernel
theorem d_X4_addCamp_40 : decode cX4_addCamp 40 = .ok (.aaload, 1) := by decide +kernel
theorem d_X4_addCamp_41 : decode cX4_addCamp 41 = .ok (.iconst 0, 1) := by decide +kernel
theorem d_X4_addCamp_42 : decode cX4_addCamp 42 = .ok (.putfield 156, 3) := by decide +kernel
theorem d_X4_addCamp_45 : decode cX4_addCamp 45 = .ok (.aload_n 0, 1) := by decide +kernel
theorem d_X4_addCamp_46 : decode cX4_addCamp 46 = .ok (.aload_n 0, 1) := by decide +kernel
theorem d_X4_addCamp_47 : decode cX4_addCamp 47 = .ok (.getfield 50, 3) := by decide +kernel
theorem d_X4_addCamp_50 : decode cX4_addCamp 50 = .ok (.iload_n 1, 1) := by decide +kernel
theorem d_X4_addCamp_51 : decode cX4_addCamp 51 = .ok (.iconst 0, 1) := by decide +kernel
theorem d_X4_addCamp_52 : decode cX4_addCamp 52 = .ok (.iconst 0, 1) := by decide +kernel
theorem d_X4_addCamp_53 : decode cX4_addCamp 53 = .ok (.invokevirtual 148, 3) := by decide +kernel
theorem d_X4_addCamp_56 : decode cX4_addCamp 56 = .ok (.return_, 1) := by decide +kernel
abbrev rm_X4_addCamp : Room := { frames := 1, cells := 0, slots := 0, locals := 25 }
def B_X4_addCamp_56 (post : CMu → Prop) (cm : CMu) : Prop := post cm
def w_X4_addCamp (post : CMu → Prop) (a0 : Nat) (x1 : Int32) (x2 : Int32) (cm : CMu) : Prop := (11 ≤ (gI cm a0 5) → (B_X4_addCamp_56 post cm)) ∧ (¬ 11 ≤ (gI cm a0 5) → ((vp_in (gI (uI cm a0 5 ((gI cm a0 5) + 1)) a0 5) 12) ∧ w_X1_begin (fun (u3 : CMu) => (vp_in (gI u3 a0 5) 12) ∧ w_X4_setReach (fun (u6 : CMu) => B_X4_addCamp_56 post u6) a0 (gI (uI u3 (a0 + 24 + 2 * Int32.toNatClampNeg (gI u3 a0 5)) 3 0) a0 5) x1 0 0 (uI u3 (a0 + 24 + 2 * Int32.toNatClampNeg (gI u3 a0 5)) 3 0)) (a0 + 23 + 2 * Int32.toNatClampNeg (gI (uI cm a0 5 ((gI cm a0 5) + 1)) a0 5)) x2 (uI cm a0 5 ((gI cm a0 5) + 1))))
section G_X4_addCamp
variable {p : Program} {l : Launch} {e : Env} {s : State} {m : MethodId} {args : Array Value} {below : List Frame} {meth : Method} {c : Code} {G : Gd} {ρ : Nat → Nat} {A : Nat → Prop} {mm : Nat → Nat → Int32} {oo : Nat → Int64}
set_option maxHeartbeats 4000000 in
set_option maxRecDepth 100000 in
theorem T_X4_addCamp_56 {post : CMu → Prop} (hl : l.stackTraces = false) (X : MC p l s m args meth c cX4_addCamp 3 RX4 G ρ A) (hr : meth.sig.returnType = none) (hex : ∀ z ∈ c.exceptionTable.toList, False) : ∀ (cm : CMu), B_X4_addCamp_56 post cm → LW p l e rm_X4_addCamp s m args below meth c (Qm below G ρ A (PV (fun u => (u, mm, oo)) post) noX args s 0 0) G ρ A 3 0 0 56 [] [] (cm, mm, oo) := by
  intro cm h
  unfold B_X4_addCamp_56 at h
  exact L_vret (pc := 56) X hr d_X4_addCamp_56 (by decide) (by decide) ⟨_, rfl, rfl, h⟩
set_option maxHeartbeats 4000000 in
set_option maxRecDepth 100000 in
theorem c_X4_addCamp (hl : l.stackTraces = false) {a0 : Nat} {x1 : Int32} {x2 : Int32} (h_a0 : (KD a0).1 = 3) {cm : CMu} {post : CMu → Prop} (h : w_X4_addCamp post a0 x1 x2 cm) : CT l yX4_addCamp (.code yX4_addCamp cX4_addCamp 3 none) rm_X4_addCamp 0 0 G ρ [.ref a0, .int x1, .int x2] (cm, mm, oo) (PV (fun u => (u, mm, oo)) post) noX := by
  refine CT_of hl (by decide +kernel) rfl (Nat.le_of_ble_eq_true rfl) (lv0 := [(0, .ref a0), (1, .int x1), (2, .int x2)]) rfl (fun p e s m args below meth c A X hr hex hnm => ?_)
  unfold w_X4_addCamp at h
  refine L_aload_n (pc := 0) X d_X4_addCamp_0 rfl 0 rfl ?_
  refine gf_X4_50 (pc := 1) X d_X4_addCamp_1 h_a0 ?_
  refine L_bipush (pc := 4) (v := 11) X d_X4_addCamp_4 (by decide) ?_
  refine L_icmp_ge (pc := 6) (tgt := 56) X d_X4_addCamp_6 (by decide) (fun c6 => ?_) (fun c6 => ?_)
  · replace h := h.1 c6
    refine LW.sub [] rfl ?_
    exact T_X4_addCamp_56 hl X hr hex   _ h
  · replace h := h.2 c6
    refine L_aload_n (pc := 9) X d_X4_addCamp_9 rfl 0 rfl ?_
    refine L_dup (pc := 10) X d_X4_addCamp_10 rfl ?_
    refine gf_X4_50 (pc := 11) X d_X4_addCamp_11 h_a0 ?_
    refine L_iconst (pc := 14) (v := 1) X d_X4_addCamp_14 (by decide) ?_
    refine L_iadd (pc := 15) X d_X4_addCamp_15 ?_
    refine pf_X4_50 (pc := 16) X d_X4_addCamp_16 h_a0 ?_
    refine L_aload_n (pc := 19) X d_X4_addCamp_19 rfl 0 rfl ?_
    refine gf_X4_11 (pc := 20) (b := a0 + 1) X d_X4_addCamp_20 h_a0 rfl ?_
    refine L_aload_n (pc := 23) X d_X4_addCamp_23 rfl 0 rfl ?_
    refine gf_X4_50 (pc := 24) X d_X4_addCamp_24 h_a0 ?_
    obtain ⟨q1, h⟩ := h
    refine L_aald22 (pc := 27) (b := a0 + 23 + 2 * Int32.toNatClampNeg (gI (uI cm a0 5 ((gI cm a0 5) + 1)) a0 5)) X d_X4_addCamp_27 (kf_3_0 h_a0) q1 rfl ?_
    refine L_iload_n (pc := 28) X d_X4_addCamp_28 rfl 2 rfl ?_
    refine L_callVV (pc := 29) X lk_X4_152 (c_X1_begin X.hst (ka_22 (kf_3_0 h_a0) (vin_lt q1)) h) rfl rfl (ka_22 (kf_3_0 h_a0) (vin_lt q1)) (by decide) rfl rfl ⟨by decide, by decide⟩ ⟨by decide, by decide⟩ (Nat.zero_le _) d_X4_addCamp_29 rfl (fun x κ1 hx => L_nox hx) (fun u3 h => ?_)
    refine L_aload_n (pc := 32) X d_X4_addCamp_32 rfl 0 rfl ?_
    refine gf_X4_19 (pc := 33) (b := a0 + 2) X d_X4_addCamp_33 h_a0 rfl ?_
    refine L_aload_n (pc := 36) X d_X4_addCamp_36 rfl 0 rfl ?_
    refine gf_X4_50 (pc := 37) X d_X4_addCamp_37 h_a0 ?_
    obtain ⟨q4, h⟩ := h
    refine L_aald23 (pc := 40) (b := a0 + 24 + 2 * Int32.toNatClampNeg (gI u3 a0 5)) X d_X4_addCamp_40 (kf_3_1 h_a0) q4 rfl ?_
    refine L_iconst (pc := 41) (v := 0) X d_X4_addCamp_41 (by decide) ?_
    refine pf_X4_156 (pc := 42) X d_X4_addCamp_42 (ka_23 (kf_3_1 h_a0) (vin_lt q4)) ?_
    refine L_aload_n (pc := 45) X d_X4_addCamp_45 rfl 0 rfl ?_
    refine L_aload_n (pc := 46) X d_X4_addCamp_46 rfl 0 rfl ?_
    refine gf_X4_50 (pc := 47) X d_X4_addCamp_47 h_a0 ?_
    refine L_iload_n (pc := 50) X d_X4_addCamp_50 rfl 1 rfl ?_
    refine L_iconst (pc := 51) (v := 0) X d_X4_addCamp_51 (by decide) ?_
    refine L_iconst (pc := 52) (v := 0) X d_X4_addCamp_52 (by decide) ?_
    refine L_callVV (pc := 53) X lk_X4_148 (c_X4_setReach X.hst h_a0 h) rfl rfl h_a0 (by decide) rfl rfl ⟨by decide, by decide⟩ ⟨by decide, by decide⟩ (Nat.zero_le _) d_X4_addCamp_53 rfl (fun x κ1 hx => L_nox hx) (fun u6 h => ?_)
    refine LW.sub [] rfl ?_
    exact T_X4_addCamp_56 hl X hr hex   _ h
end G_X4_addCamp
theorem d_X6_copyFrom_0 : decode cX6_copyFrom 0 = .ok (.aload_n 0, 1) := by decide +kernel
theorem d_X6_copyFrom_1 : decode cX6_copyFrom 1 = .ok (.aload_n 1, 1) := by decide +kernel
theorem d_X6_copyFrom_2 : decode cX6_copyFrom 2 = .ok (.getfield 29, 3) := by decide +kernel
theorem d_X6_copyFrom_5 : decode cX6_copyFrom 5 = .ok (.putfield 29, 3) := by decide +kernel
theorem d_X6_copyFrom_8 : decode cX6_copyFrom 8 = .ok (.iconst 0, 1) := by decide +kernel
theorem d_X6_copyFrom_9 : decode cX6_copyFrom 9 = .ok (.istore_n 2, 1) := by decide +kernel
theorem d_X6_copyFrom_10 : decode cX6_copyFrom 10 = .ok (.iload_n 2, 1) := by decide +kernel
theorem d_X6_copyFrom_11 : decode cX6_copyFrom 11 = .ok (.bipush 12, 2) := by decide +kernel
theorem d_X6_copyFrom_13 : decode cX6_copyFrom 13 = .ok (.if_icmp .ge 63, 3) := by decide +kernel
theorem d_X6_copyFrom_16 : decode cX6_copyFrom 16 = .ok (.aload_n 0, 1) := by decide +kernel
theorem d_X6_copyFrom_17 : decode cX6_copyFrom 17 = .ok (.getfield 9, 3) := by decide +kernel
theorem d_X6_copyFrom_20 : decode cX6_copyFrom 20 = .ok (.iload_n 2, 1) := by decide +kernel
theorem d_X6_copyFrom_21 : decode cX6_copyFrom 21 = .ok (.aload_n 1, 1) := by decide +kernel
theorem d_X6_copyFrom_22 : decode cX6_copyFrom 22 = .ok (.getfield 9, 3) := by decide +kernel
theorem d_X6_copyFrom_25 : decode cX6_copyFrom 25 = .ok (.iload_n 2, 1) := by decide +kernel
theorem d_X6_copyFrom_26 : decode cX6_copyFrom 26 = .ok (.iaload, 1) := by decide +kernel
theorem d_X6_copyFrom_27 : decode cX6_copyFrom 27 = .ok (.iastore, 1) := by decide +kernel
theorem d_X6_copyFrom_28 : decode cX6_copyFrom 28 = .ok (.aload_n 0, 1) := by decide +kernel
theorem d_X6_copyFrom_29 : decode cX6_copyFrom 29 = .ok (.getfield 15, 3) := by decide +kernel
theorem d_X6_copyFrom_32 : decode cX6_copyFrom 32 = .ok (.iload_n 2, 1) := by decide +kernel
theorem d_X6_copyFrom_33 : decode cX6_copyFrom 33 = .ok (.aload_n 1, 1) := by decide +kernel
theorem d_X6_copyFrom_34 : decode cX6_copyFrom 34 = .ok (.getfield 15, 3) := by decide +kernel
theorem d_X6_copyFrom_37 : decode cX6_copyFrom 37 = .ok (.iload_n 2, 1) := by decide +kernel
theorem d_X6_copyFrom_38 : decode cX6_copyFrom 38 = .ok (.iaload, 1) := by decide +kernel
theorem d_X6_copyFrom_39 : decode cX6_copyFrom 39 = .ok (.iastore, 1) := by decide +kernel
theorem d_X6_copyFrom_40 : decode cX6_copyFrom 40 = .ok (.iconst 0, 1) := by decide +kernel
theorem d_X6_copyFrom_41 : decode cX6_copyFrom 41 = .ok (.istore_n 3, 1) := by decide +kernel
theorem d_X6_copyFrom_42 : decode cX6_copyFrom 42 = .ok (.iload_n 3, 1) := by decide +kernel
theorem d_X6_copyFrom_43 : decode cX6_copyFrom 43 = .ok (.bipush 12, 2) := by decide +kernel
theorem d_X6_copyFrom_45 : decode cX6_copyFrom 45 = .ok (.if_icmp .ge 25, 3) := by decide +kernel
theorem d_X6_copyFrom_48 : decode cX6_copyFrom 48 = .ok (.aload_n 0, 1) := by decide +kernel
theorem d_X6_copyFrom_49 : decode cX6_copyFrom 49 = .ok (.getfield 20, 3) := by decide +kernel
theorem d_X6_copyFrom_52 : decode cX6_copyFrom 52 = .ok (.iload_n 2, 1) := by decide +kernel
theorem d_X6_copyFrom_53 : decode cX6_copyFrom 53 = .ok (.aaload, 1) := by decide +kernel
theorem d_X6_copyFrom_54 : decode cX6_copyFrom 54 = .ok (.iload_n 3, 1) := by decide +kernel
theorem d_X6_copyFrom_55 : decode cX6_copyFrom 55 = .ok (.aload_n 1, 1) := by decide +kernel
theorem d_X6_copyFrom_56 : decode cX6_copyFrom 56 = .ok (.getfield 20, 3) := by decide +kernel
theorem d_X6_copyFrom_59 : decode cX6_copyFrom 59 = .ok (.iload_n 2, 1) := by decide +kernel
theorem d_X6_copyFrom_60 : decode cX6_copyFrom 60 = .ok (.aaload, 1) := by decide +kernel
theorem d_X6_copyFrom_61 : decode cX6_copyFrom 61 = .ok (.iload_n 3, 1) := by decide +kernel
theorem d_X6_copyFrom_62 : decode cX6_copyFrom 62 = .ok (.iaload, 1) := by decide +kernel
theorem d_X6_copyFrom_63 : decode cX6_copyFrom 63 = .ok (.iastore, 1) := by decide +kernel
theorem d_X6_copyFrom_64 : decode cX6_copyFrom 64 = .ok (.iinc 3 1, 3) := by decide +kernel
theorem d_X6_copyFrom_67 : decode cX6_copyFrom 67 = .ok (.goto (-25), 3) := by decide +kernel
theorem d_X6_copyFrom_70 : decode cX6_copyFrom 70 = .ok (.iinc 2 1, 3) := by decide +kernel
theorem d_X6_copyFrom_73 : decode cX6_copyFrom 73 = .ok (.goto (-63), 3) := by decide +kernel
theorem d_X6_copyFrom_76 : decode cX6_copyFrom 76 = .ok (.return_, 1) := by decide +kernel
abbrev rm_X6_copyFrom : Room := { frames := 0, cells := 0, slots := 0, locals := 0 }
def B_X6_copyFrom_42 (post : CMu → Prop) (k10 : Nat → Nat → Int32 → CMu → Prop) : Nat → Nat → Nat → Int32 → Int32 → CMu → Prop
  | 0 => fun _ _ _ _ _ => False
  | n + 1 => fun v0 v1 v2 v3 cm => (12 ≤ v3 → (k10 v0 v1 (v2 + 1) cm)) ∧ (¬ 12 ≤ v3 → ((vp_in v2 12) ∧ (vp_in v2 12) ∧ (vp_in v3 12) ∧ (vp_in v3 12) ∧ B_X6_copyFrom_42 post k10 n v0 v1 v2 (v3 + 1) (uI cm (v0 + 4 + Int32.toNatClampNeg v2) (Int32.toNatClampNeg v3) (gI cm (v1 + 4 + Int32.toNatClampNeg v2) (Int32.toNatClampNeg v3)))))
def B_X6_copyFrom_10 (post : CMu → Prop) : Nat → Nat → Nat → Int32 → CMu → Prop
  | 0 => fun _ _ _ _ => False
  | n + 1 => fun v0 v1 v2 cm => (12 ≤ v2 → (post cm)) ∧ (¬ 12 ≤ v2 → ((vp_in v2 12) ∧ (vp_in v2 12) ∧ (vp_in v2 12) ∧ (vp_in v2 12) ∧ ∃ n42, B_X6_copyFrom_42 post (B_X6_copyFrom_10 post n) n42 v0 v1 v2 0 (uI (uI cm (v0 + 1) (Int32.toNatClampNeg v2) (gI cm (v1 + 1) (Int32.toNatClampNeg v2))) (v0 + 2) (Int32.toNatClampNeg v2) (gI (uI cm (v0 + 1) (Int32.toNatClampNeg v2) (gI cm (v1 + 1) (Int32.toNatClampNeg v2))) (v1 + 2) (Int32.toNatClampNeg v2)))))
def w_X6_copyFrom (post : CMu → Prop) (a0 : Nat) (a1 : Nat) (cm : CMu) : Prop := ∃ n10, B_X6_copyFrom_10 post n10 a0 a1 0 (uI cm a0 3 (gI cm a1 3))
section G_X6_copyFrom
variable {p : Program} {l : Launch} {e : Env} {s : State} {m : MethodId} {args : Array Value} {below : List Frame} {meth : Method} {c : Code} {G : Gd} {ρ : Nat → Nat} {A : Nat → Prop} {mm : Nat → Nat → Int32} {oo : Nat → Int64}
set_option maxHeartbeats 4000000 in
set_option maxRecDepth 100000 in
theorem T_X6_copyFrom_42 {post : CMu → Prop} {k10 : Nat → Nat → Int32 → CMu → Prop} (hl : l.stackTraces = false) (X : MC p l s m args meth c cX6_copyFrom 4 RX6 G ρ A) (hr : meth.sig.returnType = none) (hex : ∀ z ∈ c.exceptionTable.toList, False)
    (hk10 : ∀ (v0 : Nat) (v1 : Nat) (v2 : Int32) (h_v0 : (KD v0).1 = 5) (h_v1 : (KD v1).1 = 5) (cm : CMu), k10 v0 v1 v2 cm → LW p l e rm_X6_copyFrom s m args below meth c (Qm below G ρ A (PV (fun u => (u, mm, oo)) post) noX args s 0 0) G ρ A 4 0 0 10 [(0, .ref v0), (1, .ref v1), (2, .int v2)] [] (cm, mm, oo)) (n : Nat) : ∀ (v0 : Nat) (v1 : Nat) (v2 : Int32) (v3 : Int32) (h_v0 : (KD v0).1 = 5) (h_v1 : (KD v1).1 = 5) (cm : CMu), B_X6_copyFrom_42 post k10 n v0 v1 v2 v3 cm → LW p l e rm_X6_copyFrom s m args below meth c (Qm below G ρ A (PV (fun u => (u, mm, oo)) post) noX args s 0 0) G ρ A 4 0 0 42 [(0, .ref v0), (1, .ref v1), (2, .int v2), (3, .int v3)] [] (cm, mm, oo) := by
  induction n with
  | zero =>
    intro v0 v1 v2 v3 h_v0 h_v1 cm h
    exact False.elim h
  | succ n ih =>
    intro v0 v1 v2 v3 h_v0 h_v1 cm h
    unfold B_X6_copyFrom_42 at h
    refine L_iload_n (pc := 42) X d_X6_copyFrom_42 rfl 3 rfl ?_
    refine L_bipush (pc := 43) (v := 12) X d_X6_copyFrom_43 (by decide) ?_
    refine L_icmp_ge (pc := 45) (tgt := 70) X d_X6_copyFrom_45 (by decide) (fun c45 => ?_) (fun c45 => ?_)
    · replace h := h.1 c45
      refine L_iinc (pc := 70) (v := v2 + 1) (lv2 := [(2, .int (v2 + 1)), (0, .ref v0), (1, .ref v1), (3, .int v3)]) X d_X6_copyFrom_70 2 rfl rfl (by decide) rfl ?_
      refine L_goto (pc := 73) (tgt := 10) X d_X6_copyFrom_73 (by decide) ?_
      refine LW.sub [1, 2, 0] rfl ?_
      exact hk10 _ _ _ h_v0 h_v1 _ h
    · replace h := h.2 c45
      refine L_aload_n (pc := 48) X d_X6_copyFrom_48 rfl 0 rfl ?_
      refine gf_X6_20 (pc := 49) (b := v0 + 3) X d_X6_copyFrom_49 h_v0 rfl ?_
      refine L_iload_n (pc := 52) X d_X6_copyFrom_52 rfl 2 rfl ?_
      obtain ⟨q5, h⟩ := h
      refine L_aald25 (pc := 53) (b := v0 + 4 + Int32.toNatClampNeg v2) X d_X6_copyFrom_53 (kf_5_2 h_v0) q5 rfl ?_
      refine L_iload_n (pc := 54) X d_X6_copyFrom_54 rfl 3 rfl ?_
      refine L_aload_n (pc := 55) X d_X6_copyFrom_55 rfl 1 rfl ?_
      refine gf_X6_20 (pc := 56) (b := v1 + 3) X d_X6_copyFrom_56 h_v1 rfl ?_
      refine L_iload_n (pc := 59) X d_X6_copyFrom_59 rfl 2 rfl ?_
      obtain ⟨q6, h⟩ := h
      refine L_aald25 (pc := 60) (b := v1 + 4 + Int32.toNatClampNeg v2) X d_X6_copyFrom_60 (kf_5_2 h_v1) q6 rfl ?_
      refine L_iload_n (pc := 61) X d_X6_copyFrom_61 rfl 3 rfl ?_
      obtain ⟨q7, h⟩ := h
      refine L_iald (pc := 62) X d_X6_copyFrom_62 (ka_25 (kf_5_2 h_v1) (vin_lt q6)) q7 ?_
      obtain ⟨q8, h⟩ := h
      refine L_iast (pc := 63) X d_X6_copyFrom_63 (ka_25 (kf_5_2 h_v0) (vin_lt q5)) q8 ?_
      refine L_iinc (pc := 64) (v := v3 + 1) (lv2 := [(3, .int (v3 + 1)), (0, .ref v0), (1, .ref v1), (2, .int v2)]) X d_X6_copyFrom_64 3 rfl rfl (by decide) rfl ?_
      refine L_goto (pc := 67) (tgt := 42) X d_X6_copyFrom_67 (by decide) ?_
      refine LW.sub [1, 2, 3, 0] rfl ?_
      exact ih _ _ _ _ h_v0 h_v1 _ h
set_option maxHeartbeats 4000000 in
set_option maxRecDepth 100000 in
theorem T_X6_copyFrom_10 {post : CMu → Prop} (hl : l.stackTraces = false) (X : MC p l s m args meth c cX6_copyFrom 4 RX6 G ρ A) (hr : meth.sig.returnType = none) (hex : ∀ z ∈ c.exceptionTable.toList, False) (n : Nat) : ∀ (v0 : Nat) (v1 : Nat) (v2 : Int32) (h_v0 : (KD v0).1 = 5) (h_v1 : (KD v1).1 = 5) (cm : CMu), B_X6_copyFrom_10 post n v0 v1 v2 cm → LW p l e rm_X6_copyFrom s m args below meth c (Qm below G ρ A (PV (fun u => (u, mm, oo)) post) noX args s 0 0) G ρ A 4 0 0 10 [(0, .ref v0), (1, .ref v1), (2, .int v2)] [] (cm, mm, oo) := by
  induction n with
  | zero =>
    intro v0 v1 v2 h_v0 h_v1 cm h
    exact False.elim h
  | succ n ih =>
    intro v0 v1 v2 h_v0 h_v1 cm h
    unfold B_X6_copyFrom_10 at h
    refine L_iload_n (pc := 10) X d_X6_copyFrom_10 rfl 2 rfl ?_
    refine L_bipush (pc := 11) (v := 12) X d_X6_copyFrom_11 (by decide) ?_
    refine L_icmp_ge (pc := 13) (tgt := 76) X d_X6_copyFrom_13 (by decide) (fun c13 => ?_) (fun c13 => ?_)
    · replace h := h.1 c13
      exact L_vret (pc := 76) X hr d_X6_copyFrom_76 (by decide) (by decide) ⟨_, rfl, rfl, h⟩
    · replace h := h.2 c13
      refine L_aload_n (pc := 16) X d_X6_copyFrom_16 rfl 0 rfl ?_
      refine gf_X6_9 (pc := 17) (b := v0 + 1) X d_X6_copyFrom_17 h_v0 rfl ?_
      refine L_iload_n (pc := 20) X d_X6_copyFrom_20 rfl 2 rfl ?_
      refine L_aload_n (pc := 21) X d_X6_copyFrom_21 rfl 1 rfl ?_
      refine gf_X6_9 (pc := 22) (b := v1 + 1) X d_X6_copyFrom_22 h_v1 rfl ?_
      refine L_iload_n (pc := 25) X d_X6_copyFrom_25 rfl 2 rfl ?_
      obtain ⟨q1, h⟩ := h
      refine L_iald (pc := 26) X d_X6_copyFrom_26 (kf_5_0 h_v1) q1 ?_
      obtain ⟨q2, h⟩ := h
      refine L_iast (pc := 27) X d_X6_copyFrom_27 (kf_5_0 h_v0) q2 ?_
      refine L_aload_n (pc := 28) X d_X6_copyFrom_28 rfl 0 rfl ?_
      refine gf_X6_15 (pc := 29) (b := v0 + 2) X d_X6_copyFrom_29 h_v0 rfl ?_
      refine L_iload_n (pc := 32) X d_X6_copyFrom_32 rfl 2 rfl ?_
      refine L_aload_n (pc := 33) X d_X6_copyFrom_33 rfl 1 rfl ?_
      refine gf_X6_15 (pc := 34) (b := v1 + 2) X d_X6_copyFrom_34 h_v1 rfl ?_
      refine L_iload_n (pc := 37) X d_X6_copyFrom_37 rfl 2 rfl ?_
      obtain ⟨q3, h⟩ := h
      refine L_iald (pc := 38) X d_X6_copyFrom_38 (kf_5_1 h_v1) q3 ?_
      obtain ⟨q4, h⟩ := h
      refine L_iast (pc := 39) X d_X6_copyFrom_39 (kf_5_1 h_v0) q4 ?_
      refine L_iconst (pc := 40) (v := 0) X d_X6_copyFrom_40 (by decide) ?_
      refine L_istore_n (pc := 41) (lv2 := [(3, .int 0), (0, .ref v0), (1, .ref v1), (2, .int v2)]) X d_X6_copyFrom_41 rfl (by decide) rfl ?_
      obtain ⟨n42, h⟩ := h
      refine LW.sub [1, 2, 3, 0] rfl ?_
      exact T_X6_copyFrom_42 hl X hr hex ih n42 _ _ _ _ h_v0 h_v1 _ h
set_option maxHeartbeats 4000000 in
set_option maxRecDepth 100000 in
theorem c_X6_copyFrom (hl : l.stackTraces = false) {a0 : Nat} {a1 : Nat} (h_a0 : (KD a0).1 = 5) (h_a1 : (KD a1).1 = 5) {cm : CMu} {post : CMu → Prop} (h : w_X6_copyFrom post a0 a1 cm) : CT l yX6_copyFrom (.code yX6_copyFrom cX6_copyFrom 4 none) rm_X6_copyFrom 0 0 G ρ [.ref a0, .ref a1] (cm, mm, oo) (PV (fun u => (u, mm, oo)) post) noX := by
  refine CT_of hl (by decide +kernel) rfl (Nat.le_of_ble_eq_true rfl) (lv0 := [(0, .ref a0), (1, .ref a1)]) rfl (fun p e s m args below meth c A X hr hex hnm => ?_)
  unfold w_X6_copyFrom at h
  refine L_aload_n (pc := 0) X d_X6_copyFrom_0 rfl 0 rfl ?_
  refine L_aload_n (pc := 1) X d_X6_copyFrom_1 rfl 1 rfl ?_
  refine gf_X6_29 (pc := 2) X d_X6_copyFrom_2 h_a1 ?_
  refine pf_X6_29 (pc := 5) X d_X6_copyFrom_5 h_a0 ?_
  refine L_iconst (pc := 8) (v := 0) X d_X6_copyFrom_8 (by decide) ?_
  refine L_istore_n (pc := 9) (lv2 := [(2, .int 0), (0, .ref a0), (1, .ref a1)]) X d_X6_copyFrom_9 rfl (by decide) rfl ?_
  obtain ⟨n10, h⟩ := h
  refine LW.sub [1, 2, 0] rfl ?_
  exact T_X6_copyFrom_10 hl X hr hex n10 _ _ _ h_a0 h_a1 _ h
end G_X6_copyFrom
theorem yk_X6_copyFrom : yX6_copyFrom.cls = RX6 ∧ yX6_copyFrom.cls ≠ "java/lang/invoke/MethodHandle" ∧ yX6_copyFrom.cls ≠ "java/lang/invoke/VarHandle" ∧ (parseMethodDescriptor yX6_copyFrom.desc).map (fun d => d.parameters.length) = some 1 := by decide +kernel
theorem lk_X4_71 : LinkV RX4 71 RX6 yX6_copyFrom (.code yX6_copyFrom cX6_copyFrom 4 none) 1 := ⟨tw_526, tw_527, tw_528, tw_79, tw_529, yk_X6_copyFrom⟩
theorem yk_X1_copyFrom : yX1_copyFrom.cls = RX1 ∧ yX1_copyFrom.cls ≠ "java/lang/invoke/MethodHandle" ∧ yX1_copyFrom.cls ≠ "java/lang/invoke/VarHandle" ∧ (parseMethodDescriptor yX1_copyFrom.desc).map (fun d => d.parameters.length) = some 1 := by decide +kernel
theorem lk_X4_75 : LinkV RX4 75 RX1 yX1_copyFrom (.code yX1_copyFrom cX1_copyFrom 2 none) 1 := ⟨tw_530, tw_531, tw_532, tw_80, tw_533, yk_X1_copyFrom⟩
theorem yk_X7_copyFrom : yX7_copyFrom.cls = RX7 ∧ yX7_copyFrom.cls ≠ "java/lang/invoke/MethodHandle" ∧ yX7_copyFrom.cls ≠ "java/lang/invoke/VarHandle" ∧ (parseMethodDescriptor yX7_copyFrom.desc).map (fun d => d.parameters.length) = some 1 := by decide +kernel
theorem lk_X4_78 : LinkV RX4 78 RX7 yX7_copyFrom (.code yX7_copyFrom cX7_copyFrom 2 none) 1 := ⟨tw_534, tw_535, tw_536, tw_81, tw_537, yk_X7_copyFrom⟩
theorem yk_X2_copyFrom : yX2_copyFrom.cls = RX2 ∧ yX2_copyFrom.cls ≠ "java/lang/invoke/MethodHandle" ∧ yX2_copyFrom.cls ≠ "java/lang/invoke/VarHandle" ∧ (parseMethodDescriptor yX2_copyFrom.desc).map (fun d => d.parameters.length) = some 1 := by decide +kernel
theorem lk_X4_81 : LinkV RX4 81 RX2 yX2_copyFrom (.code yX2_copyFrom cX2_copyFrom 2 none) 1 := ⟨tw_538, tw_539, tw_540, tw_82, tw_541, yk_X2_copyFrom⟩
theorem d_X4_copyFrom_0 : decode cX4_copyFrom 0 = .ok (.aload_n 0, 1) := by decide +kernel
theorem d_X4_copyFrom_1 : decode cX4_copyFrom 1 = .ok (.aload_n 1, 1) := by decide +kernel
theorem d_X4_copyFrom_2 : decode cX4_copyFrom 2 = .ok (.getfield 50, 3) := by decide +kernel
theorem d_X4_copyFrom_5 : decode cX4_copyFrom 5 = .ok (.putfield 50, 3) := by decide +kernel
theorem d_X4_copyFrom_8 : decode cX4_copyFrom 8 = .ok (.aload_n 0, 1) := by decide +kernel
theorem d_X4_copyFrom_9 : decode cX4_copyFrom 9 = .ok (.aload_n 1, 1) := by decide +kernel
theorem d_X4_copyFrom_10 : decode cX4_copyFrom 10 = .ok (.getfield 53, 3) := by decide +kernel
theorem d_X4_copyFrom_13 : decode cX4_copyFrom 13 = .ok (.putfield 53, 3) := by decide +kernel
theorem d_X4_copyFrom_16 : decode cX4_copyFrom 16 = .ok (.aload_n 0, 1) := by decide +kernel
theorem d_X4_copyFrom_17 : decode cX4_copyFrom 17 = .ok (.aload_n 1, 1) := by decide +kernel
theorem d_X4_copyFrom_18 : decode cX4_copyFrom 18 = .ok (.getfield 56, 3) := by decide +kernel
theorem d_X4_copyFrom_21 : decode cX4_copyFrom 21 = .ok (.putfield 56, 3) := by decide +kernel
theorem d_X4_copyFrom_24 : decode cX4_copyFrom 24 = .ok (.aload_n 0, 1) := by decide +kernel
theorem d_X4_copyFrom_25 : decode cX4_copyFrom 25 = .ok (.aload_n 1, 1) := by decide +kernel
theorem d_X4_copyFrom_26 : decode cX4_copyFrom 26 = .ok (.getfield 59, 3) := by decide +kernel
theorem d_X4_copyFrom_29 : decode cX4_copyFrom 29 = .ok (.putfield 59, 3) := by decide +kernel
theorem d_X4_copyFrom_32 : decode cX4_copyFrom 32 = .ok (.aload_n 0, 1) := by decide +kernel
theorem d_X4_copyFrom_33 : decode cX4_copyFrom 33 = .ok (.aload_n 1, 1) := by decide +kernel
theorem d_X4_copyFrom_34 : decode cX4_copyFrom 34 = .ok (.getfield 40, 3) := by decide +kernel
theorem d_X4_copyFrom_37 : decode cX4_copyFrom 37 = .ok (.putfield 40, 3) := by decide +kernel
theorem d_X4_copyFrom_40 : decode cX4_copyFrom 40 = .ok (.aload_n 0, 1) := by decide +kernel
theorem d_X4_copyFrom_41 : decode cX4_copyFrom 41 = .ok (.aload_n 1, 1) := by decide +kernel
theorem d_X4_copyFrom_42 : decode cX4_copyFrom 42 = .ok (.getfield 62, 3) := by decide +kernel
theorem d_X4_copyFrom_45 : decode cX4_copyFrom 45 = .ok (.putfield 62, 3) := by decide +kernel
theorem d_X4_copyFrom_48 : decode cX4_copyFrom 48 = .ok (.aload_n 0, 1) := by decide +kernel
theorem d_X4_copyFrom_49 : decode cX4_copyFrom 49 = .ok (.aload_n 1, 1) := by decide +kernel
theorem d_X4_copyFrom_50 : decode cX4_copyFrom 50 = .ok (.getfield 65, 3) := by decide +kernel
theorem d_X4_copyFrom_53 : decode cX4_copyFrom 53 = .ok (.putfield 65, 3) := by decide +kernel
theorem d_X4_copyFrom_56 : decode cX4_copyFrom 56 = .ok (.aload_n 0, 1) := by decide +kernel
theorem d_X4_copyFrom_57 : decode cX4_copyFrom 57 = .ok (.aload_n 1, 1) := by decide +kernel
theorem d_X4_copyFrom_58 : decode cX4_copyFrom 58 = .ok (.getfield 68, 3) := by decide +kernel
theorem d_X4_copyFrom_61 : decode cX4_copyFrom 61 = .ok (.putfield 68, 3) := by decide +kernel
theorem d_X4_copyFrom_64 : decode cX4_copyFrom 64 = .ok (.aload_n 0, 1) := by decide +kernel
theorem d_X4_copyFrom_65 : decode cX4_copyFrom 65 = .ok (.aload_n 1, 1) := by decide +kernel
theorem d_X4_copyFrom_66 : decode cX4_copyFrom 66 = .ok (.getfield 44, 3) := by decide +kernel
theorem d_X4_copyFrom_69 : decode cX4_copyFrom 69 = .ok (.putfield 44, 3) := by decide +kernel
theorem d_X4_copyFrom_72 : decode cX4_copyFrom 72 = .ok (.aload_n 0, 1) := by decide +kernel
theorem d_X4_copyFrom_73 : decode cX4_copyFrom 73 = .ok (.getfield 36, 3) := by decide +kernel
theorem d_X4_copyFrom_76 : decode cX4_copyFrom 76 = .ok (.aload_n 1, 1) := by decide +kernel
theorem d_X4_copyFrom_77 : decode cX4_copyFrom 77 = .ok (.getfield 36, 3) := by decide +kernel
theorem d_X4_copyFrom_80 : decode cX4_copyFrom 80 = .ok (.invokevirtual 71, 3) := by decide +kernel
theorem d_X4_copyFrom_83 : decode cX4_copyFrom 83 = .ok (.iconst 0, 1) := by decide +kernel
theorem d_X4_copyFrom_84 : decode cX4_copyFrom 84 = .ok (.istore_n 2, 1) := by decide +kernel
theorem d_X4_copyFrom_85 : decode cX4_copyFrom 85 = .ok (.iload_n 2, 1) := by decide +kernel
theorem d_X4_copyFrom_86 : decode cX4_copyFrom 86 = .ok (.aload_n 0, 1) := by decide +kernel
theorem d_X4_copyFrom_87 : decode cX4_copyFrom 87 = .ok (.getfield 50, 3) := by decide +kernel
theorem d_X4_copyFrom_90 : decode cX4_copyFrom 90 = .ok (.if_icmp .gt 48, 3) := by decide +kernel
theorem d_X4_copyFrom_93 : decode cX4_copyFrom 93 = .ok (.iload_n 2, 1) := by decide +kernel
theorem d_X4_copyFrom_94 : decode cX4_copyFrom 94 = .ok (.aload_n 0, 1) := by decide +kernel
theorem d_X4_copyFrom_95 : decode cX4_copyFrom 95 = .ok (.getfield 11, 3) := by decide +kernel
theorem d_X4_copyFrom_98 : decode cX4_copyFrom 98 = .ok (.arraylength, 1) := by decide +kernel
theorem d_X4_copyFrom_99 : decode cX4_copyFrom 99 = .ok (.if_icmp .ge 39, 3) := by decide +kernel
theorem d_X4_copyFrom_102 : decode cX4_copyFrom 102 = .ok (.aload_n 0, 1) := by decide +kernel
theorem d_X4_copyFrom_103 : decode cX4_copyFrom 103 = .ok (.getfield 11, 3) := by decide +kernel
theorem d_X4_copyFrom_106 : decode cX4_copyFrom 106 = .ok (.iload_n 2, 1) := by decide +kernel
theorem d_X4_copyFrom_107 : decode cX4_copyFrom 107 = .ok (.aaload, 1) := by decide +kernel
theorem d_X4_copyFrom_108 : decode cX4_copyFrom 108 = .ok (.aload_n 1, 1) := by decide +kernel
theorem d_X4_copyFrom_109 : decode cX4_copyFrom 109 = .ok (.getfield 11, 3) := by decide +kernel
theorem d_X4_copyFrom_112 : decode cX4_copyFrom 112 = .ok (.iload_n 2, 1) := by decide +kernel
theorem d_X4_copyFrom_113 : decode cX4_copyFrom 113 = .ok (.aaload, 1) := by decide +kernel
theorem d_X4_copyFrom_114 : decode cX4_copyFrom 114 = .ok (.invokevirtual 75, 3) := by decide +kernel
theorem d_X4_copyFrom_117 : decode cX4_copyFrom 117 = .ok (.aload_n 0, 1) := by decide +kernel
theorem d_X4_copyFrom_118 : decode cX4_copyFrom 118 = .ok (.getfield 19, 3) := by decide +kernel
theorem d_X4_copyFrom_121 : decode cX4_copyFrom 121 = .ok (.iload_n 2, 1) := by decide +kernel
theorem d_X4_copyFrom_122 : decode cX4_copyFrom 122 = .ok (.aaload, 1) := by decide +kernel
theorem d_X4_copyFrom_123 : decode cX4_copyFrom 123 = .ok (.aload_n 1, 1) := by decide +kernel
theorem d_X4_copyFrom_124 : decode cX4_copyFrom 124 = .ok (.getfield 19, 3) := by decide +kernel
theorem d_X4_copyFrom_127 : decode cX4_copyFrom 127 = .ok (.iload_n 2, 1) := by decide +kernel
theorem d_X4_copyFrom_128 : decode cX4_copyFrom 128 = .ok (.aaload, 1) := by decide +kernel
theorem d_X4_copyFrom_129 : decode cX4_copyFrom 129 = .ok (.invokevirtual 78, 3) := by decide +kernel
theorem d_X4_copyFrom_132 : decode cX4_copyFrom 132 = .ok (.iinc 2 1, 3) := by decide +kernel
theorem d_X4_copyFrom_135 : decode cX4_copyFrom 135 = .ok (.goto (-50), 3) := by decide +kernel
theorem d_X4_copyFrom_138 : decode cX4_copyFrom 138 = .ok (.iconst 0, 1) := by decide +kernel
theorem d_X4_copyFrom_139 : decode cX4_copyFrom 139 = .ok (.istore_n 2, 1) := by decide +kernel
theorem d_X4_copyFrom_140 : decode cX4_copyFrom 140 = .ok (.iload_n 2, 1) := by decide +kernel
theorem d_X4_copyFrom_141 : decode cX4_copyFrom 141 = .ok (.aload_n 0, 1) := by decide +kernel
theorem d_X4_copyFrom_142 : decode cX4_copyFrom 142 = .ok (.getfield 53, 3) := by decide +kernel
theorem d_X4_copyFrom_145 : decode cX4_copyFrom 145 = .ok (.if_icmp .ge 45, 3) := by decide +kernel
theorem d_X4_copyFrom_148 : decode cX4_copyFrom 148 = .ok (.iload_n 2, 1) := by decide +kernel
theorem d_X4_copyFrom_149 : decode cX4_copyFrom 149 = .ok (.aload_n 0, 1) := by decide +kernel
theorem d_X4_copyFrom_150 : decode cX4_copyFrom 150 = .ok (.getfield 25, 3) := by decide +kernel
theorem d_X4_copyFrom_153 : decode cX4_copyFrom 153 = .ok (.arraylength, 1) := by decide +kernel
theorem d_X4_copyFrom_154 : decode cX4_copyFrom 154 = .ok (.if_icmp .ge 36, 3) := by decide +kernel
theorem d_X4_copyFrom_157 : decode cX4_copyFrom 157 = .ok (.aload_n 0, 1) := by decide +kernel
theorem d_X4_copyFrom_158 : decode cX4_copyFrom 158 = .ok (.getfield 25, 3) := by decide +kernel
theorem d_X4_copyFrom_161 : decode cX4_copyFrom 161 = .ok (.iload_n 2, 1) := by decide +kernel
theorem d_X4_copyFrom_162 : decode cX4_copyFrom 162 = .ok (.aaload, 1) := by decide +kernel
theorem d_X4_copyFrom_163 : decode cX4_copyFrom 163 = .ok (.aload_n 1, 1) := by decide +kernel
theorem d_X4_copyFrom_164 : decode cX4_copyFrom 164 = .ok (.getfield 25, 3) := by decide +kernel
theorem d_X4_copyFrom_167 : decode cX4_copyFrom 167 = .ok (.iload_n 2, 1) := by decide +kernel
theorem d_X4_copyFrom_168 : decode cX4_copyFrom 168 = .ok (.aaload, 1) := by decide +kernel
theorem d_X4_copyFrom_169 : decode cX4_copyFrom 169 = .ok (.invokevirtual 81, 3) := by decide +kernel
theorem d_X4_copyFrom_172 : decode cX4_copyFrom 172 = .ok (.aload_n 0, 1) := by decide +kernel
theorem d_X4_copyFrom_173 : decode cX4_copyFrom 173 = .ok (.getfield 29, 3) := by decide +kernel
theorem d_X4_copyFrom_176 : decode cX4_copyFrom 176 = .ok (.iload_n 2, 1) := by decide +kernel
theorem d_X4_copyFrom_177 : decode cX4_copyFrom 177 = .ok (.aload_n 1, 1) := by decide +kernel
theorem d_X4_copyFrom_178 : decode cX4_copyFrom 178 = .ok (.getfield 29, 3) := by decide +kernel
theorem d_X4_copyFrom_181 : decode cX4_copyFrom 181 = .ok (.iload_n 2, 1) := by decide +kernel
theorem d_X4_copyFrom_182 : decode cX4_copyFrom 182 = .ok (.iaload, 1) := by decide +kernel
theorem d_X4_copyFrom_183 : decode cX4_copyFrom 183 = .ok (.iastore, 1) := by decide +kernel
theorem d_X4_copyFrom_184 : decode cX4_copyFrom 184 = .ok (.iinc 2 1, 3) := by decide +kernel
theorem d_X4_copyFrom_187 : decode cX4_copyFrom 187 = .ok (.goto (-47), 3) := by decide +kernel
theorem d_X4_copyFrom_190 : decode cX4_copyFrom 190 = .ok (.return_, 1) := by decide +kernel
abbrev rm_X4_copyFrom : Room := { frames := 1, cells := 0, slots := 0, locals := 23 }
def B_X4_copyFrom_190 (post : CMu → Prop) (cm : CMu) : Prop := post cm
def B_X4_copyFrom_140 (post : CMu → Prop) : Nat → Nat → Nat → Int32 → CMu → Prop
  | 0 => fun _ _ _ _ => False
  | n + 1 => fun v0 v1 v2 cm => ((gI cm v0 6) ≤ v2 → (B_X4_copyFrom_190 post cm)) ∧ (¬ (gI cm v0 6) ≤ v2 → ((60 ≤ v2 → (B_X4_copyFrom_190 post cm)) ∧ (¬ 60 ≤ v2 → ((vp_in v2 60) ∧ (vp_in v2 60) ∧ w_X2_copyFrom (fun (u14 : CMu) => (vp_in v2 60) ∧ (vp_in v2 60) ∧ B_X4_copyFrom_140 post n v0 v1 (v2 + 1) (uI u14 (v0 + 4) (Int32.toNatClampNeg v2) (gI u14 (v1 + 4) (Int32.toNatClampNeg v2)))) (v0 + 47 + Int32.toNatClampNeg v2) (v1 + 47 + Int32.toNatClampNeg v2) cm))))
def B_X4_copyFrom_138 (post : CMu → Prop) (v0 : Nat) (v1 : Nat) (cm : CMu) : Prop := ∃ n140, B_X4_copyFrom_140 post n140 v0 v1 0 cm
def B_X4_copyFrom_85 (post : CMu → Prop) : Nat → Nat → Nat → Int32 → CMu → Prop
  | 0 => fun _ _ _ _ => False
  | n + 1 => fun v0 v1 v2 cm => ((gI cm v0 5) < v2 → (B_X4_copyFrom_138 post v0 v1 cm)) ∧ (¬ (gI cm v0 5) < v2 → ((12 ≤ v2 → (B_X4_copyFrom_138 post v0 v1 cm)) ∧ (¬ 12 ≤ v2 → ((vp_in v2 12) ∧ (vp_in v2 12) ∧ w_X1_copyFrom (fun (u6 : CMu) => (vp_in v2 12) ∧ (vp_in v2 12) ∧ w_X7_copyFrom (fun (u10 : CMu) => B_X4_copyFrom_85 post n v0 v1 (v2 + 1) u10) (v0 + 24 + 2 * Int32.toNatClampNeg v2) (v1 + 24 + 2 * Int32.toNatClampNeg v2) u6) (v0 + 23 + 2 * Int32.toNatClampNeg v2) (v1 + 23 + 2 * Int32.toNatClampNeg v2) cm))))
def w_X4_copyFrom (post : CMu → Prop) (a0 : Nat) (a1 : Nat) (cm : CMu) : Prop := w_X6_copyFrom (fun (u2 : CMu) => ∃ n85, B_X4_copyFrom_85 post n85 a0 a1 0 u2) (a0 + 5) (a1 + 5) (uI (uI (uI (uI (uI (uI (uI (uI (uI cm a0 5 (gI cm a1 5)) a0 6 (gI (uI cm a0 5 (gI cm a1 5)) a1 6)) a0 7 (gI (uI (uI cm a0 5 (gI cm a1 5)) a0 6 (gI (uI cm a0 5 (gI cm a1 5)) a1 6)) a1 7)) a0 8 (gI (uI (uI (uI cm a0 5 (gI cm a1 5)) a0 6 (gI (uI cm a0 5 (gI cm a1 5)) a1 6)) a0 7 (gI (uI (uI cm a0 5 (gI cm a1 5)) a0 6 (gI (uI cm a0 5 (gI cm a1 5)) a1 6)) a1 7)) a1 8)) a0 9 (gI (uI (uI (uI (uI cm a0 5 (gI cm a1 5)) a0 6 (gI (uI cm a0 5 (gI cm a1 5)) a1 6)) a0 7 (gI (uI (uI cm a0 5 (gI cm a1 5)) a0 6 (gI (uI cm a0 5 (gI cm a1 5)) a1 6)) a1 7)) a0 8 (gI (uI (uI (uI cm a0 5 (gI cm a1 5)) a0 6 (gI (uI cm a0 5 (gI cm a1 5)) a1 6)) a0 7 (gI (uI (uI cm a0 5 (gI cm a1 5)) a0 6 (gI (uI cm a0 5 (gI cm a1 5)) a1 6)) a1 7)) a1 8)) a1 9)) a0 10 (gI (uI (uI (uI (uI (uI cm a0 5 (gI cm a1 5)) a0 6 (gI (uI cm a0 5 (gI cm a1 5)) a1 6)) a0 7 (gI (uI (uI cm a0 5 (gI cm a1 5)) a0 6 (gI (uI cm a0 5 (gI cm a1 5)) a1 6)) a1 7)) a0 8 (gI (uI (uI (uI cm a0 5 (gI cm a1 5)) a0 6 (gI (uI cm a0 5 (gI cm a1 5)) a1 6)) a0 7 (gI (uI (uI cm a0 5 (gI cm a1 5)) a0 6 (gI (uI cm a0 5 (gI cm a1 5)) a1 6)) a1 7)) a1 8)) a0 9 (gI (uI (uI (uI (uI cm a0 5 (gI cm a1 5)) a0 6 (gI (uI cm a0 5 (gI cm a1 5)) a1 6)) a0 7 (gI (uI (uI cm a0 5 (gI cm a1 5)) a0 6 (gI (uI cm a0 5 (gI cm a1 5)) a1 6)) a1 7)) a0 8 (gI (uI (uI (uI cm a0 5 (gI cm a1 5)) a0 6 (gI (uI cm a0 5 (gI cm a1 5)) a1 6)) a0 7 (gI (uI (uI cm a0 5 (gI cm a1 5)) a0 6 (gI (uI cm a0 5 (gI cm a1 5)) a1 6)) a1 7)) a1 8)) a1 9)) a1 10)) a0 11 (gI (uI (uI (uI (uI (uI (uI cm a0 5 (gI cm a1 5)) a0 6 (gI (uI cm a0 5 (gI cm a1 5)) a1 6)) a0 7 (gI (uI (uI cm a0 5 (gI cm a1 5)) a0 6 (gI (uI cm a0 5 (gI cm a1 5)) a1 6)) a1 7)) a0 8 (gI (uI (uI (uI cm a0 5 (gI cm a1 5)) a0 6 (gI (uI cm a0 5 (gI cm a1 5)) a1 6)) a0 7 (gI (uI (uI cm a0 5 (gI cm a1 5)) a0 6 (gI (uI cm a0 5 (gI cm a1 5)) a1 6)) a1 7)) a1 8)) a0 9 (gI (uI (uI (uI (uI cm a0 5 (gI cm a1 5)) a0 6 (gI (uI cm a0 5 (gI cm a1 5)) a1 6)) a0 7 (gI (uI (uI cm a0 5 (gI cm a1 5)) a0 6 (gI (uI cm a0 5 (gI cm a1 5)) a1 6)) a1 7)) a0 8 (gI (uI (uI (uI cm a0 5 (gI cm a1 5)) a0 6 (gI (uI cm a0 5 (gI cm a1 5)) a1 6)) a0 7 (gI (uI (uI cm a0 5 (gI cm a1 5)) a0 6 (gI (uI cm a0 5 (gI cm a1 5)) a1 6)) a1 7)) a1 8)) a1 9)) a0 10 (gI (uI (uI (uI (uI (uI cm a0 5 (gI cm a1 5)) a0 6 (gI (uI cm a0 5 (gI cm a1 5)) a1 6)) a0 7 (gI (uI (uI cm a0 5 (gI cm a1 5)) a0 6 (gI (uI cm a0 5 (gI cm a1 5)) a1 6)) a1 7)) a0 8 (gI (uI (uI (uI cm a0 5 (gI cm a1 5)) a0 6 (gI (uI cm a0 5 (gI cm a1 5)) a1 6)) a0 7 (gI (uI (uI cm a0 5 (gI cm a1 5)) a0 6 (gI (uI cm a0 5 (gI cm a1 5)) a1 6)) a1 7)) a1 8)) a0 9 (gI (uI (uI (uI (uI cm a0 5 (gI cm a1 5)) a0 6 (gI (uI cm a0 5 (gI cm a1 5)) a1 6)) a0 7 (gI (uI (uI cm a0 5 (gI cm a1 5)) a0 6 (gI (uI cm a0 5 (gI cm a1 5)) a1 6)) a1 7)) a0 8 (gI (uI (uI (uI cm a0 5 (gI cm a1 5)) a0 6 (gI (uI cm a0 5 (gI cm a1 5)) a1 6)) a0 7 (gI (uI (uI cm a0 5 (gI cm a1 5)) a0 6 (gI (uI cm a0 5 (gI cm a1 5)) a1 6)) a1 7)) a1 8)) a1 9)) a1 10)) a1 11)) a0 12 (gI (uI (uI (uI (uI (uI (uI (uI cm a0 5 (gI cm a1 5)) a0 6 (gI (uI cm a0 5 (gI cm a1 5)) a1 6)) a0 7 (gI (uI (uI cm a0 5 (gI cm a1 5)) a0 6 (gI (uI cm a0 5 (gI cm a1 5)) a1 6)) a1 7)) a0 8 (gI (uI (uI (uI cm a0 5 (gI cm a1 5)) a0 6 (gI (uI cm a0 5 (gI cm a1 5)) a1 6)) a0 7 (gI (uI (uI cm a0 5 (gI cm a1 5)) a0 6 (gI (uI cm a0 5 (gI cm a1 5)) a1 6)) a1 7)) a1 8)) a0 9 (gI (uI (uI (uI (uI cm a0 5 (gI cm a1 5)) a0 6 (gI (uI cm a0 5 (gI cm a1 5)) a1 6)) a0 7 (gI (uI (uI cm a0 5 (gI cm a1 5)) a0 6 (gI (uI cm a0 5 (gI cm a1 5)) a1 6)) a1 7)) a0 8 (gI (uI (uI (uI cm a0 5 (gI cm a1 5)) a0 6 (gI (uI cm a0 5 (gI cm a1 5)) a1 6)) a0 7 (gI (uI (uI cm a0 5 (gI cm a1 5)) a0 6 (gI (uI cm a0 5 (gI cm a1 5)) a1 6)) a1 7)) a1 8)) a1 9)) a0 10 (gI (uI (uI (uI (uI (uI cm a0 5 (gI cm a1 5)) a0 6 (gI (uI cm a0 5 (gI cm a1 5)) a1 6)) a0 7 (gI (uI (uI cm a0 5 (gI cm a1 5)) a0 6 (gI (uI cm a0 5 (gI cm a1 5)) a1 6)) a1 7)) a0 8 (gI (uI (uI (uI cm a0 5 (gI cm a1 5)) a0 6 (gI (uI cm a0 5 (gI cm a1 5)) a1 6)) a0 7 (gI (uI (uI cm a0 5 (gI cm a1 5)) a0 6 (gI (uI cm a0 5 (gI cm a1 5)) a1 6)) a1 7)) a1 8)) a0 9 (gI (uI (uI (uI (uI cm a0 5 (gI cm a1 5)) a0 6 (gI (uI cm a0 5 (gI cm a1 5)) a1 6)) a0 7 (gI (uI (uI cm a0 5 (gI cm a1 5)) a0 6 (gI (uI cm a0 5 (gI cm a1 5)) a1 6)) a1 7)) a0 8 (gI (uI (uI (uI cm a0 5 (gI cm a1 5)) a0 6 (gI (uI cm a0 5 (gI cm a1 5)) a1 6)) a0 7 (gI (uI (uI cm a0 5 (gI cm a1 5)) a0 6 (gI (uI cm a0 5 (gI cm a1 5)) a1 6)) a1 7)) a1 8)) a1 9)) a1 10)) a0 11 (gI (uI (uI (uI (uI (uI (uI cm a0 5 (gI cm a1 5)) a0 6 (gI (uI cm a0 5 (gI cm a1 5)) a1 6)) a0 7 (gI (uI (uI cm a0 5 (gI cm a1 5)) a0 6 (gI (uI cm a0 5 (gI cm a1 5)) a1 6)) a1 7)) a0 8 (gI (uI (uI (uI cm a0 5 (gI cm a1 5)) a0 6 (gI (uI cm a0 5 (gI cm a1 5)) a1 6)) a0 7 (gI (uI (uI cm a0 5 (gI cm a1 5)) a0 6 (gI (uI cm a0 5 (gI cm a1 5)) a1 6)) a1 7)) a1 8)) a0 9 (gI (uI (uI (uI (uI cm a0 5 (gI cm a1 5)) a0 6 (gI (uI cm a0 5 (gI cm a1 5)) a1 6)) a0 7 (gI (uI (uI cm a0 5 (gI cm a1 5)) a0 6 (gI (uI cm a0 5 (gI cm a1 5)) a1 6)) a1 7)) a0 8 (gI (uI (uI (uI cm a0 5 (gI cm a1 5)) a0 6 (gI (uI cm a0 5 (gI cm a1 5)) a1 6)) a0 7 (gI (uI (uI cm a0 5 (gI cm a1 5)) a0 6 (gI (uI cm a0 5 (gI cm a1 5)) a1 6)) a1 7)) a1 8)) a1 9)) a0 10 (gI (uI (uI (uI (uI (uI cm a0 5 (gI cm a1 5)) a0 6 (gI (uI cm a0 5 (gI cm a1 5)) a1 6)) a0 7 (gI (uI (uI cm a0 5 (gI cm a1 5)) a0 6 (gI (uI cm a0 5 (gI cm a1 5)) a1 6)) a1 7)) a0 8 (gI (uI (uI (uI cm a0 5 (gI cm a1 5)) a0 6 (gI (uI cm a0 5 (gI cm a1 5)) a1 6)) a0 7 (gI (uI (uI cm a0 5 (gI cm a1 5)) a0 6 (gI (uI cm a0 5 (gI cm a1 5)) a1 6)) a1 7)) a1 8)) a0 9 (gI (uI (uI (uI (uI cm a0 5 (gI cm a1 5)) a0 6 (gI (uI cm a0 5 (gI cm a1 5)) a1 6)) a0 7 (gI (uI (uI cm a0 5 (gI cm a1 5)) a0 6 (gI (uI cm a0 5 (gI cm a1 5)) a1 6)) a1 7)) a0 8 (gI (uI (uI (uI cm a0 5 (gI cm a1 5)) a0 6 (gI (uI cm a0 5 (gI cm a1 5)) a1 6)) a0 7 (gI (uI (uI cm a0 5 (gI cm a1 5)) a0 6 (gI (uI cm a0 5 (gI cm a1 5)) a1 6)) a1 7)) a1 8)) a1 9)) a1 10)) a1 11)) a1 12)) a0 13 (gI (uI (uI (uI (uI (uI (uI (uI (uI cm a0 5 (gI cm a1 5)) a0 6 (gI (uI cm a0 5 (gI cm a1 5)) a1 6)) a0 7 (gI (uI (uI cm a0 5 (gI cm a1 5)) a0 6 (gI (uI cm a0 5 (gI cm a1 5)) a1 6)) a1 7)) a0 8 (gI (uI (uI (uI cm a0 5 (gI cm a1 5)) a0 6 (gI (uI cm a0 5 (gI cm a1 5)) a1 6)) a0 7 (gI (uI (uI cm a0 5 (gI cm a1 5)) a0 6 (gI (uI cm a0 5 (gI cm a1 5)) a1 6)) a1 7)) a1 8)) a0 9 (gI (uI (uI (uI (uI cm a0 5 (gI cm a1 5)) a0 6 (gI (uI cm a0 5 (gI cm a1 5)) a1 6)) a0 7 (gI (uI (uI cm a0 5 (gI cm a1 5)) a0 6 (gI (uI cm a0 5 (gI cm a1 5)) a1 6)) a1 7)) a0 8 (gI (uI (uI (uI cm a0 5 (gI cm a1 5)) a0 6 (gI (uI cm a0 5 (gI cm a1 5)) a1 6)) a0 7 (gI (uI (uI cm a0 5 (gI cm a1 5)) a0 6 (gI (uI cm a0 5 (gI cm a1 5)) a1 6)) a1 7)) a1 8)) a1 9)) a0 10 (gI (uI (uI (uI (uI (uI cm a0 5 (gI cm a1 5)) a0 6 (gI (uI cm a0 5 (gI cm a1 5)) a1 6)) a0 7 (gI (uI (uI cm a0 5 (gI cm a1 5)) a0 6 (gI (uI cm a0 5 (gI cm a1 5)) a1 6)) a1 7)) a0 8 (gI (uI (uI (uI cm a0 5 (gI cm a1 5)) a0 6 (gI (uI cm a0 5 (gI cm a1 5)) a1 6)) a0 7 (gI (uI (uI cm a0 5 (gI cm a1 5)) a0 6 (gI (uI cm a0 5 (gI cm a1 5)) a1 6)) a1 7)) a1 8)) a0 9 (gI (uI (uI (uI (uI cm a0 5 (gI cm a1 5)) a0 6 (gI (uI cm a0 5 (gI cm a1 5)) a1 6)) a0 7 (gI (uI (uI cm a0 5 (gI cm a1 5)) a0 6 (gI (uI cm a0 5 (gI cm a1 5)) a1 6)) a1 7)) a0 8 (gI (uI (uI (uI cm a0 5 (gI cm a1 5)) a0 6 (gI (uI cm a0 5 (gI cm a1 5)) a1 6)) a0 7 (gI (uI (uI cm a0 5 (gI cm a1 5)) a0 6 (gI (uI cm a0 5 (gI cm a1 5)) a1 6)) a1 7)) a1 8)) a1 9)) a1 10)) a0 11 (gI (uI (uI (uI (uI (uI (uI cm a0 5 (gI cm a1 5)) a0 6 (gI (uI cm a0 5 (gI cm a1 5)) a1 6)) a0 7 (gI (uI (uI cm a0 5 (gI cm a1 5)) a0 6 (gI (uI cm a0 5 (gI cm a1 5)) a1 6)) a1 7)) a0 8 (gI (uI (uI (uI cm a0 5 (gI cm a1 5)) a0 6 (gI (uI cm a0 5 (gI cm a1 5)) a1 6)) a0 7 (gI (uI (uI cm a0 5 (gI cm a1 5)) a0 6 (gI (uI cm a0 5 (gI cm a1 5)) a1 6)) a1 7)) a1 8)) a0 9 (gI (uI (uI (uI (uI cm a0 5 (gI cm a1 5)) a0 6 (gI (uI cm a0 5 (gI cm a1 5)) a1 6)) a0 7 (gI (uI (uI cm a0 5 (gI cm a1 5)) a0 6 (gI (uI cm a0 5 (gI cm a1 5)) a1 6)) a1 7)) a0 8 (gI (uI (uI (uI cm a0 5 (gI cm a1 5)) a0 6 (gI (uI cm a0 5 (gI cm a1 5)) a1 6)) a0 7 (gI (uI (uI cm a0 5 (gI cm a1 5)) a0 6 (gI (uI cm a0 5 (gI cm a1 5)) a1 6)) a1 7)) a1 8)) a1 9)) a0 10 (gI (uI (uI (uI (uI (uI cm a0 5 (gI cm a1 5)) a0 6 (gI (uI cm a0 5 (gI cm a1 5)) a1 6)) a0 7 (gI (uI (uI cm a0 5 (gI cm a1 5)) a0 6 (gI (uI cm a0 5 (gI cm a1 5)) a1 6)) a1 7)) a0 8 (gI (uI (uI (uI cm a0 5 (gI cm a1 5)) a0 6 (gI (uI cm a0 5 (gI cm a1 5)) a1 6)) a0 7 (gI (uI (uI cm a0 5 (gI cm a1 5)) a0 6 (gI (uI cm a0 5 (gI cm a1 5)) a1 6)) a1 7)) a1 8)) a0 9 (gI (uI (uI (uI (uI cm a0 5 (gI cm a1 5)) a0 6 (gI (uI cm a0 5 (gI cm a1 5)) a1 6)) a0 7 (gI (uI (uI cm a0 5 (gI cm a1 5)) a0 6 (gI (uI cm a0 5 (gI cm a1 5)) a1 6)) a1 7)) a0 8 (gI (uI (uI (uI cm a0 5 (gI cm a1 5)) a0 6 (gI (uI cm a0 5 (gI cm a1 5)) a1 6)) a0 7 (gI (uI (uI cm a0 5 (gI cm a1 5)) a0 6 (gI (uI cm a0 5 (gI cm a1 5)) a1 6)) a1 7)) a1 8)) a1 9)) a1 10)) a1 11)) a0 12 (gI (uI (uI (uI (uI (uI (uI (uI cm a0 5 (gI cm a1 5)) a0 6 (gI (uI cm a0 5 (gI cm a1 5)) a1 6)) a0 7 (gI (uI (uI cm a0 5 (gI cm a1 5)) a0 6 (gI (uI cm a0 5 (gI cm a1 5)) a1 6)) a1 7)) a0 8 (gI (uI (uI (uI cm a0 5 (gI cm a1 5)) a0 6 (gI (uI cm a0 5 (gI cm a1 5)) a1 6)) a0 7 (gI (uI (uI cm a0 5 (gI cm a1 5)) a0 6 (gI (uI cm a0 5 (gI cm a1 5)) a1 6)) a1 7)) a1 8)) a0 9 (gI (uI (uI (uI (uI cm a0 5 (gI cm a1 5)) a0 6 (gI (uI cm a0 5 (gI cm a1 5)) a1 6)) a0 7 (gI (uI (uI cm a0 5 (gI cm a1 5)) a0 6 (gI (uI cm a0 5 (gI cm a1 5)) a1 6)) a1 7)) a0 8 (gI (uI (uI (uI cm a0 5 (gI cm a1 5)) a0 6 (gI (uI cm a0 5 (gI cm a1 5)) a1 6)) a0 7 (gI (uI (uI cm a0 5 (gI cm a1 5)) a0 6 (gI (uI cm a0 5 (gI cm a1 5)) a1 6)) a1 7)) a1 8)) a1 9)) a0 10 (gI (uI (uI (uI (uI (uI cm a0 5 (gI cm a1 5)) a0 6 (gI (uI cm a0 5 (gI cm a1 5)) a1 6)) a0 7 (gI (uI (uI cm a0 5 (gI cm a1 5)) a0 6 (gI (uI cm a0 5 (gI cm a1 5)) a1 6)) a1 7)) a0 8 (gI (uI (uI (uI cm a0 5 (gI cm a1 5)) a0 6 (gI (uI cm a0 5 (gI cm a1 5)) a1 6)) a0 7 (gI (uI (uI cm a0 5 (gI cm a1 5)) a0 6 (gI (uI cm a0 5 (gI cm a1 5)) a1 6)) a1 7)) a1 8)) a0 9 (gI (uI (uI (uI (uI cm a0 5 (gI cm a1 5)) a0 6 (gI (uI cm a0 5 (gI cm a1 5)) a1 6)) a0 7 (gI (uI (uI cm a0 5 (gI cm a1 5)) a0 6 (gI (uI cm a0 5 (gI cm a1 5)) a1 6)) a1 7)) a0 8 (gI (uI (uI (uI cm a0 5 (gI cm a1 5)) a0 6 (gI (uI cm a0 5 (gI cm a1 5)) a1 6)) a0 7 (gI (uI (uI cm a0 5 (gI cm a1 5)) a0 6 (gI (uI cm a0 5 (gI cm a1 5)) a1 6)) a1 7)) a1 8)) a1 9)) a1 10)) a0 11 (gI (uI (uI (uI (uI (uI (uI cm a0 5 (gI cm a1 5)) a0 6 (gI (uI cm a0 5 (gI cm a1 5)) a1 6)) a0 7 (gI (uI (uI cm a0 5 (gI cm a1 5)) a0 6 (gI (uI cm a0 5 (gI cm a1 5)) a1 6)) a1 7)) a0 8 (gI (uI (uI (uI cm a0 5 (gI cm a1 5)) a0 6 (gI (uI cm a0 5 (gI cm a1 5)) a1 6)) a0 7 (gI (uI (uI cm a0 5 (gI cm a1 5)) a0 6 (gI (uI cm a0 5 (gI cm a1 5)) a1 6)) a1 7)) a1 8)) a0 9 (gI (uI (uI (uI (uI cm a0 5 (gI cm a1 5)) a0 6 (gI (uI cm a0 5 (gI cm a1 5)) a1 6)) a0 7 (gI (uI (uI cm a0 5 (gI cm a1 5)) a0 6 (gI (uI cm a0 5 (gI cm a1 5)) a1 6)) a1 7)) a0 8 (gI (uI (uI (uI cm a0 5 (gI cm a1 5)) a0 6 (gI (uI cm a0 5 (gI cm a1 5)) a1 6)) a0 7 (gI (uI (uI cm a0 5 (gI cm a1 5)) a0 6 (gI (uI cm a0 5 (gI cm a1 5)) a1 6)) a1 7)) a1 8)) a1 9)) a0 10 (gI (uI (uI (uI (uI (uI cm a0 5 (gI cm a1 5)) a0 6 (gI (uI cm a0 5 (gI cm a1 5)) a1 6)) a0 7 (gI (uI (uI cm a0 5 (gI cm a1 5)) a0 6 (gI (uI cm a0 5 (gI cm a1 5)) a1 6)) a1 7)) a0 8 (gI (uI (uI (uI cm a0 5 (gI cm a1 5)) a0 6 (gI (uI cm a0 5 (gI cm a1 5)) a1 6)) a0 7 (gI (uI (uI cm a0 5 (gI cm a1 5)) a0 6 (gI (uI cm a0 5 (gI cm a1 5)) a1 6)) a1 7)) a1 8)) a0 9 (gI (uI (uI (uI (uI cm a0 5 (gI cm a1 5)) a0 6 (gI (uI cm a0 5 (gI cm a1 5)) a1 6)) a0 7 (gI (uI (uI cm a0 5 (gI cm a1 5)) a0 6 (gI (uI cm a0 5 (gI cm a1 5)) a1 6)) a1 7)) a0 8 (gI (uI (uI (uI cm a0 5 (gI cm a1 5)) a0 6 (gI (uI cm a0 5 (gI cm a1 5)) a1 6)) a0 7 (gI (uI (uI cm a0 5 (gI cm a1 5)) a0 6 (gI (uI cm a0 5 (gI cm a1 5)) a1 6)) a1 7)) a1 8)) a1 9)) a1 10)) a1 11)) a1 12)) a1 13))
section G_X4_copyFrom
variable {p : Program} {l : Launch} {e : Env} {s : State} {m : MethodId} {args : Array Value} {below : List Frame} {meth : Method} {c : Code} {G : Gd} {ρ : Nat → Nat} {A : Nat → Prop} {mm : Nat → Nat → Int32} {oo : Nat → Int64}
set_option maxHeartbeats 4000000 in
set_option maxRecDepth 100000 in
theorem T_X4_copyFrom_190 {post : CMu → Prop} (hl : l.stackTraces = false) (X : MC p l s m args meth c cX4_copyFrom 3 RX4 G ρ A) (hr : meth.sig.returnType = none) (hex : ∀ z ∈ c.exceptionTable.toList, False) : ∀ (cm : CMu), B_X4_copyFrom_190 post cm → LW p l e rm_X4_copyFrom s m args below meth c (Qm below G ρ A (PV (fun u => (u, mm, oo)) post) noX args s 0 0) G ρ A 3 0 0 190 [] [] (cm, mm, oo) := by
  intro cm h
  unfold B_X4_copyFrom_190 at h
  exact L_vret (pc := 190) X hr d_X4_copyFrom_190 (by decide) (by decide) ⟨_, rfl, rfl, h⟩
set_option maxHeartbeats 4000000 in
set_option maxRecDepth 100000 in
theorem T_X4_copyFrom_140 {post : CMu → Prop} (hl : l.stackTraces = false) (X : MC p l s m args meth c cX4_copyFrom 3 RX4 G ρ A) (hr : meth.sig.returnType = none) (hex : ∀ z ∈ c.exceptionTable.toList, False) (n : Nat) : ∀ (v0 : Nat) (v1 : Nat) (v2 : Int32) (h_v0 : (KD v0).1 = 3) (h_v1 : (KD v1).1 = 3) (cm : CMu), B_X4_copyFrom_140 post n v0 v1 v2 cm → LW p l e rm_X4_copyFrom s m args below meth c (Qm below G ρ A (PV (fun u => (u, mm, oo)) post) noX args s 0 0) G ρ A 3 0 0 140 [(0, .ref v0), (1, .ref v1), (2, .int v2)] [] (cm, mm, oo) := by
  induction n with
  | zero =>
    intro v0 v1 v2 h_v0 h_v1 cm h
    exact False.elim h
  | succ n ih =>
    intro v0 v1 v2 h_v0 h_v1 cm h
    unfold B_X4_copyFrom_140 at h
    refine L_iload_n (pc := 140) X d_X4_copyFrom_140 rfl 2 rfl ?_
    refine L_aload_n (pc := 141) X d_X4_copyFrom_141 rfl 0 rfl ?_
    refine gf_X4_53 (pc := 142) X d_X4_copyFrom_142 h_v0 ?_
    refine L_icmp_ge (pc := 145) (tgt := 190) X d_X4_copyFrom_145 (by decide) (fun c145 => ?_) (fun c145 => ?_)
    · replace h := h.1 c145
      refine LW.sub [] rfl ?_
      exact T_X4_copyFrom_190 hl X hr hex   _ h
    · replace h := h.2 c145
      refine L_iload_n (pc := 148) X d_X4_copyFrom_148 rfl 2 rfl ?_
      refine L_aload_n (pc := 149) X d_X4_copyFrom_149 rfl 0 rfl ?_
      refine gf_X4_25 (pc := 150) (b := v0 + 3) X d_X4_copyFrom_150 h_v0 rfl ?_
      refine L_alenR (pc := 153) (v := 60) X d_X4_copyFrom_153 (kf_3_2 h_v0) (by decide) (by decide) (by decide) ⟨_, rfl⟩ rfl ?_
      refine L_icmp_ge (pc := 154) (tgt := 190) X d_X4_copyFrom_154 (by decide) (fun c154 => ?_) (fun c154 => ?_)
      · replace h := h.1 c154
        refine LW.sub [] rfl ?_
        exact T_X4_copyFrom_190 hl X hr hex   _ h
      · replace h := h.2 c154
        refine L_aload_n (pc := 157) X d_X4_copyFrom_157 rfl 0 rfl ?_
        refine gf_X4_25 (pc := 158) (b := v0 + 3) X d_X4_copyFrom_158 h_v0 rfl ?_
        refine L_iload_n (pc := 161) X d_X4_copyFrom_161 rfl 2 rfl ?_
        obtain ⟨q11, h⟩ := h
        refine L_aald24 (pc := 162) (b := v0 + 47 + Int32.toNatClampNeg v2) X d_X4_copyFrom_162 (kf_3_2 h_v0) q11 rfl ?_
        refine L_aload_n (pc := 163) X d_X4_copyFrom_163 rfl 1 rfl ?_
        refine gf_X4_25 (pc := 164) (b := v1 + 3) X d_X4_copyFrom_164 h_v1 rfl ?_
        refine L_iload_n (pc := 167) X d_X4_copyFrom_167 rfl 2 rfl ?_
        obtain ⟨q12, h⟩ := h
        refine L_aald24 (pc := 168) (b := v1 + 47 + Int32.toNatClampNeg v2) X d_X4_copyFrom_168 (kf_3_2 h_v1) q12 rfl ?_
        refine L_callVV (pc := 169) X lk_X4_81 (c_X2_copyFrom X.hst (ka_24 (kf_3_2 h_v0) (vin_lt q11)) (ka_24 (kf_3_2 h_v1) (vin_lt q12)) h) rfl rfl (ka_24 (kf_3_2 h_v0) (vin_lt q11)) (by decide) rfl rfl ⟨by decide, by decide⟩ ⟨by decide, by decide⟩ (Nat.zero_le _) d_X4_copyFrom_169 rfl (fun x κ1 hx => L_nox hx) (fun u14 h => ?_)
        refine L_aload_n (pc := 172) X d_X4_copyFrom_172 rfl 0 rfl ?_
        refine gf_X4_29 (pc := 173) (b := v0 + 4) X d_X4_copyFrom_173 h_v0 rfl ?_
        refine L_iload_n (pc := 176) X d_X4_copyFrom_176 rfl 2 rfl ?_
        refine L_aload_n (pc := 177) X d_X4_copyFrom_177 rfl 1 rfl ?_
        refine gf_X4_29 (pc := 178) (b := v1 + 4) X d_X4_copyFrom_178 h_v1 rfl ?_
        refine L_iload_n (pc := 181) X d_X4_copyFrom_181 rfl 2 rfl ?_
        obtain ⟨q15, h⟩ := h
        refine L_iald (pc := 182) X d_X4_copyFrom_182 (kf_3_3 h_v1) q15 ?_
        obtain ⟨q16, h⟩ := h
        refine L_iast (pc := 183) X d_X4_copyFrom_183 (kf_3_3 h_v0) q16 ?_
        refine L_iinc (pc := 184) (v := v2 + 1) (lv2 := [(2, .int (v2 + 1)), (0, .ref v0), (1, .ref v1)]) X d_X4_copyFrom_184 2 rfl rfl (by decide) rfl ?_
        refine L_goto (pc := 187) (tgt := 140) X d_X4_copyFrom_187 (by decide) ?_
        refine LW.sub [1, 2, 0] rfl ?_
        exact ih _ _ _ h_v0 h_v1 _ h
set_option maxHeartbeats 4000000 in
set_option maxRecDepth 100000 in
theorem T_X4_copyFrom_138 {post : CMu → Prop} (hl : l.stackTraces = false) (X : MC p l s m args meth c cX4_copyFrom 3 RX4 G ρ A) (hr : meth.sig.returnType = none) (hex : ∀ z ∈ c.exceptionTable.toList, False) : ∀ (v0 : Nat) (v1 : Nat) (h_v0 : (KD v0).1 = 3) (h_v1 : (KD v1).1 = 3) (cm : CMu), B_X4_copyFrom_138 post v0 v1 cm → LW p l e rm_X4_copyFrom s m args below meth c (Qm below G ρ A (PV (fun u => (u, mm, oo)) post) noX args s 0 0) G ρ A 3 0 0 138 [(0, .ref v0), (1, .ref v1)] [] (cm, mm, oo) := by
  intro v0 v1 h_v0 h_v1 cm h
  unfold B_X4_copyFrom_138 at h
  refine L_iconst (pc := 138) (v := 0) X d_X4_copyFrom_138 (by decide) ?_
  refine L_istore_n (pc := 139) (lv2 := [(2, .int 0), (0, .ref v0), (1, .ref v1)]) X d_X4_copyFrom_139 rfl (by decide) rfl ?_
  obtain ⟨n140, h⟩ := h
  refine LW.sub [1, 2, 0] rfl ?_
  exact T_X4_copyFrom_140 hl X hr hex n140 _ _ _ h_v0 h_v1 _ h
set_option maxHeartbeats 4000000 in
set_option maxRecDepth 100000 in
theorem T_X4_copyFrom_85 {post : CMu → Prop} (hl : l.stackTraces = false) (X : MC p l s m args meth c cX4_copyFrom 3 RX4 G ρ A) (hr : meth.sig.returnType = none) (hex : ∀ z ∈ c.exceptionTable.toList, False) (n : Nat) : ∀ (v0 : Nat) (v1 : Nat) (v2 : Int32) (h_v0 : (KD v0).1 = 3) (h_v1 : (KD v1).1 = 3) (cm : CMu), B_X4_copyFrom_85 post n v0 v1 v2 cm → LW p l e rm_X4_copyFrom s m args below meth c (Qm below G ρ A (PV (fun u => (u, mm, oo)) post) noX args s 0 0) G ρ A 3 0 0 85 [(0, .ref v0), (1, .ref v1), (2, .int v2)] [] (cm, mm, oo) := by
  induction n with
  | zero =>
    intro v0 v1 v2 h_v0 h_v1 cm h
    exact False.elim h
  | succ n ih =>
    intro v0 v1 v2 h_v0 h_v1 cm h
    unfold B_X4_copyFrom_85 at h
    refine L_iload_n (pc := 85) X d_X4_copyFrom_85 rfl 2 rfl ?_
    refine L_aload_n (pc := 86) X d_X4_copyFrom_86 rfl 0 rfl ?_
    refine gf_X4_50 (pc := 87) X d_X4_copyFrom_87 h_v0 ?_
    refine L_icmp_gt (pc := 90) (tgt := 138) X d_X4_copyFrom_90 (by decide) (fun c90 => ?_) (fun c90 => ?_)
    · replace h := h.1 c90
      refine LW.sub [0, 1] rfl ?_
      exact T_X4_copyFrom_138 hl X hr hex _ _ h_v0 h_v1 _ h
    · replace h := h.2 c90
      refine L_iload_n (pc := 93) X d_X4_copyFrom_93 rfl 2 rfl ?_
      refine L_aload_n (pc := 94) X d_X4_copyFrom_94 rfl 0 rfl ?_
      refine gf_X4_11 (pc := 95) (b := v0 + 1) X d_X4_copyFrom_95 h_v0 rfl ?_
      refine L_alenR (pc := 98) (v := 12) X d_X4_copyFrom_98 (kf_3_0 h_v0) (by decide) (by decide) (by decide) ⟨_, rfl⟩ rfl ?_
      refine L_icmp_ge (pc := 99) (tgt := 138) X d_X4_copyFrom_99 (by decide) (fun c99 => ?_) (fun c99 => ?_)
      · replace h := h.1 c99
        refine LW.sub [0, 1] rfl ?_
        exact T_X4_copyFrom_138 hl X hr hex _ _ h_v0 h_v1 _ h
      · replace h := h.2 c99
        refine L_aload_n (pc := 102) X d_X4_copyFrom_102 rfl 0 rfl ?_
        refine gf_X4_11 (pc := 103) (b := v0 + 1) X d_X4_copyFrom_103 h_v0 rfl ?_
        refine L_iload_n (pc := 106) X d_X4_copyFrom_106 rfl 2 rfl ?_
        obtain ⟨q3, h⟩ := h
        refine L_aald22 (pc := 107) (b := v0 + 23 + 2 * Int32.toNatClampNeg v2) X d_X4_copyFrom_107 (kf_3_0 h_v0) q3 rfl ?_
        refine L_aload_n (pc := 108) X d_X4_copyFrom_108 rfl 1 rfl ?_
        refine gf_X4_11 (pc := 109) (b := v1 + 1) X d_X4_copyFrom_109 h_v1 rfl ?_
        refine L_iload_n (pc := 112) X d_X4_copyFrom_112 rfl 2 rfl ?_
        obtain ⟨q4, h⟩ := h
        refine L_aald22 (pc := 113) (b := v1 + 23 + 2 * Int32.toNatClampNeg v2) X d_X4_copyFrom_113 (kf_3_0 h_v1) q4 rfl ?_
        refine L_callVV (pc := 114) X lk_X4_75 (c_X1_copyFrom X.hst (ka_22 (kf_3_0 h_v0) (vin_lt q3)) (ka_22 (kf_3_0 h_v1) (vin_lt q4)) h) rfl rfl (ka_22 (kf_3_0 h_v0) (vin_lt q3)) (by decide) rfl rfl ⟨by decide, by decide⟩ ⟨by decide, by decide⟩ (Nat.zero_le _) d_X4_copyFrom_114 rfl (fun x κ1 hx => L_nox hx) (fun u6 h => ?_)
        refine L_aload_n (pc := 117) X d_X4_copyFrom_117 rfl 0 rfl ?_
        refine gf_X4_19 (pc := 118) (b := v0 + 2) X d_X4_copyFrom_118 h_v0 rfl ?_
        refine L_iload_n (pc := 121) X d_X4_copyFrom_121 rfl 2 rfl ?_
        obtain ⟨q7, h⟩ := h
        refine L_aald23 (pc := 122) (b := v0 + 24 + 2 * Int32.toNatClampNeg v2) X d_X4_copyFrom_122 (kf_3_1 h_v0) q7 rfl ?_
        refine L_aload_n (pc := 123) X d_X4_copyFrom_123 rfl 1 rfl ?_
        refine gf_X4_19 (pc := 124) (b := v1 + 2) X d_X4_copyFrom_124 h_v1 rfl ?_
        refine L_iload_n (pc := 127) X d_X4_copyFrom_127 rfl 2 rfl ?_
        obtain ⟨q8, h⟩ := h
        refine L_aald23 (pc := 128) (b := v1 + 24 + 2 * Int32.toNatClampNeg v2) X d_X4_copyFrom_128 (kf_3_1 h_v1) q8 rfl ?_
        refine L_callVV (pc := 129) X lk_X4_78 (c_X7_copyFrom X.hst (ka_23 (kf_3_1 h_v0) (vin_lt q7)) (ka_23 (kf_3_1 h_v1) (vin_lt q8)) h) rfl rfl (ka_23 (kf_3_1 h_v0) (vin_lt q7)) (by decide) rfl rfl ⟨by decide, by decide⟩ ⟨by decide, by decide⟩ (Nat.zero_le _) d_X4_copyFrom_129 rfl (fun x κ1 hx => L_nox hx) (fun u10 h => ?_)
        refine L_iinc (pc := 132) (v := v2 + 1) (lv2 := [(2, .int (v2 + 1)), (0, .ref v0), (1, .ref v1)]) X d_X4_copyFrom_132 2 rfl rfl (by decide) rfl ?_
        refine L_goto (pc := 135) (tgt := 85) X d_X4_copyFrom_135 (by decide) ?_
        refine LW.sub [1, 2, 0] rfl ?_
        exact ih _ _ _ h_v0 h_v1 _ h
set_option maxHeartbeats 4000000 in
set_option maxRecDepth 100000 in
theorem c_X4_copyFrom (hl : l.stackTraces = false) {a0 : Nat} {a1 : Nat} (h_a0 : (KD a0).1 = 3) (h_a1 : (KD a1).1 = 3) {cm : CMu} {post : CMu → Prop} (h : w_X4_copyFrom post a0 a1 cm) : CT l yX4_copyFrom (.code yX4_copyFrom cX4_copyFrom 3 none) rm_X4_copyFrom 0 0 G ρ [.ref a0, .ref a1] (cm, mm, oo) (PV (fun u => (u, mm, oo)) post) noX := by
  refine CT_of hl (by decide +kernel) rfl (Nat.le_of_ble_eq_true rfl) (lv0 := [(0, .ref a0), (1, .ref a1)]) rfl (fun p e s m args below meth c A X hr hex hnm => ?_)
  unfold w_X4_copyFrom at h
  refine L_aload_n (pc := 0) X d_X4_copyFrom_0 rfl 0 rfl ?_
  refine L_aload_n (pc := 1) X d_X4_copyFrom_1 rfl 1 rfl ?_
  refine gf_X4_50 (pc := 2) X d_X4_copyFrom_2 h_a1 ?_
  refine pf_X4_50 (pc := 5) X d_X4_copyFrom_5 h_a0 ?_
  refine L_aload_n (pc := 8) X d_X4_copyFrom_8 rfl 0 rfl ?_
  refine L_aload_n (pc := 9) X d_X4_copyFrom_9 rfl 1 rfl ?_
  refine gf_X4_53 (pc := 10) X d_X4_copyFrom_10 h_a1 ?_
  refine pf_X4_53 (pc := 13) X d_X4_copyFrom_13 h_a0 ?_
  refine L_aload_n (pc := 16) X d_X4_copyFrom_16 rfl 0 rfl ?_
  refine L_aload_n (pc := 17) X d_X4_copyFrom_17 rfl 1 rfl ?_
  refine gf_X4_56 (pc := 18) X d_X4_copyFrom_18 h_a1 ?_
  refine pf_X4_56 (pc := 21) X d_X4_copyFrom_21 h_a0 ?_
  refine L_aload_n (pc := 24) X d_X4_copyFrom_24 rfl 0 rfl ?_
  refine L_aload_n (pc := 25) X d_X4_copyFrom_25 rfl 1 rfl ?_
  refine gf_X4_59 (pc := 26) X d_X4_copyFrom_26 h_a1 ?_
  refine pf_X4_59 (pc := 29) X d_X4_copyFrom_29 h_a0 ?_
  refine L_aload_n (pc := 32) X d_X4_copyFrom_32 rfl 0 rfl ?_
  refine L_aload_n (pc := 33) X d_X4_copyFrom_33 rfl 1 rfl ?_
  refine gf_X4_40 (pc := 34) X d_X4_copyFrom_34 h_a1 ?_
  refine pf_X4_40 (pc := 37) X d_X4_copyFrom_37 h_a0 ?_
  refine L_aload_n (pc := 40) X d_X4_copyFrom_40 rfl 0 rfl ?_
  refine L_aload_n (pc := 41) X d_X4_copyFrom_41 rfl 1 rfl ?_
  refine gf_X4_62 (pc := 42) X d_X4_copyFrom_42 h_a1 ?_
  refine pf_X4_62 (pc := 45) X d_X4_copyFrom_45 h_a0 ?_
  refine L_aload_n (pc := 48) X d_X4_copyFrom_48 rfl 0 rfl ?_
  refine L_aload_n (pc := 49) X d_X4_copyFrom_49 rfl 1 rfl ?_
  refine gf_X4_65 (pc := 50) X d_X4_copyFrom_50 h_a1 ?_
  refine pf_X4_65 (pc := 53) X d_X4_copyFrom_53 h_a0 ?_
  refine L_aload_n (pc := 56) X d_X4_copyFrom_56 rfl 0 rfl ?_
  refine L_aload_n (pc := 57) X d_X4_copyFrom_57 rfl 1 rfl ?_
  refine gf_X4_68 (pc := 58) X d_X4_copyFrom_58 h_a1 ?_
  refine pf_X4_68 (pc := 61) X d_X4_copyFrom_61 h_a0 ?_
  refine L_aload_n (pc := 64) X d_X4_copyFrom_64 rfl 0 rfl ?_
  refine L_aload_n (pc := 65) X d_X4_copyFrom_65 rfl 1 rfl ?_
  refine gf_X4_44 (pc := 66) X d_X4_copyFrom_66 h_a1 ?_
  refine pf_X4_44 (pc := 69) X d_X4_copyFrom_69 h_a0 ?_
  refine L_aload_n (pc := 72) X d_X4_copyFrom_72 rfl 0 rfl ?_
  refine gf_X4_36 (pc := 73) (b := a0 + 5) X d_X4_copyFrom_73 h_a0 rfl ?_
  refine L_aload_n (pc := 76) X d_X4_copyFrom_76 rfl 1 rfl ?_
  refine gf_X4_36 (pc := 77) (b := a1 + 5) X d_X4_copyFrom_77 h_a1 rfl ?_
  refine L_callVV (pc := 80) X lk_X4_71 (c_X6_copyFrom X.hst (kf_3_4 h_a0) (kf_3_4 h_a1) h) rfl rfl (kf_3_4 h_a0) (by decide) rfl rfl ⟨by decide, by decide⟩ ⟨by decide, by decide⟩ (Nat.zero_le _) d_X4_copyFrom_80 rfl (fun x κ1 hx => L_nox hx) (fun u2 h => ?_)
  refine L_iconst (pc := 83) (v := 0) X d_X4_copyFrom_83 (by decide) ?_
  refine L_istore_n (pc := 84) (lv2 := [(2, .int 0), (0, .ref a0), (1, .ref a1)]) X d_X4_copyFrom_84 rfl (by decide) rfl ?_
  obtain ⟨n85, h⟩ := h
  refine LW.sub [1, 2, 0] rfl ?_
  exact T_X4_copyFrom_85 hl X hr hex n85 _ _ _ h_a0 h_a1 _ h
end G_X4_copyFrom
