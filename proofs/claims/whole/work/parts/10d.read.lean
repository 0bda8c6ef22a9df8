theorem yk_X10_takeNumber : yX10_takeNumber.cls = RX10 ∧ yX10_takeNumber.cls ≠ "java/lang/invoke/MethodHandle" ∧ yX10_takeNumber.cls ≠ "java/lang/invoke/VarHandle" ∧ (parseMethodDescriptor yX10_takeNumber.desc).map (fun d => d.parameters.length) = some 2 := by decide +kernel
theorem lk_X4_125 : LinkV RX4 125 RX10 yX10_takeNumber (.code yX10_takeNumber cX10_takeNumber 3 (some .int)) 2 := ⟨tw_696, tw_697, tw_698, tw_74, tw_699, yk_X10_takeNumber⟩
theorem yk_X10_isWrong : yX10_isWrong.cls = RX10 ∧ yX10_isWrong.cls ≠ "java/lang/invoke/MethodHandle" ∧ yX10_isWrong.cls ≠ "java/lang/invoke/VarHandle" ∧ (parseMethodDescriptor yX10_isWrong.desc).map (fun d => d.parameters.length) = some 0 := by decide +kernel
theorem lk_X4_135 : LinkV RX4 135 RX10 yX10_isWrong (.code yX10_isWrong cX10_isWrong 1 (some .boolean)) 0 := ⟨tw_704, tw_705, tw_706, tw_74, tw_707, yk_X10_isWrong⟩
theorem yk_X4_addCamp : yX4_addCamp.cls = RX4 ∧ yX4_addCamp.cls ≠ "java/lang/invoke/MethodHandle" ∧ yX4_addCamp.cls ≠ "java/lang/invoke/VarHandle" ∧ (parseMethodDescriptor yX4_addCamp.desc).map (fun d => d.parameters.length) = some 2 := by decide +kernel
theorem lk_X4_138 : LinkV RX4 138 RX4 yX4_addCamp (.code yX4_addCamp cX4_addCamp 3 none) 2 := ⟨tw_708, tw_710, tw_6, tw_78, tw_711, yk_X4_addCamp⟩
theorem d_X4_readCamp_0 : decode cX4_readCamp 0 = .ok (.aload_n 1, 1) := by decide +kernel
theorem d_X4_readCamp_1 : decode cX4_readCamp 1 = .ok (.iconst 1, 1) := by decide +kernel
theorem d_X4_readCamp_2 : decode cX4_readCamp 2 = .ok (.bipush 20, 2) := by decide +kernel
theorem d_X4_readCamp_4 : decode cX4_readCamp 4 = .ok (.invokevirtual 125, 3) := by decide +kernel
theorem d_X4_readCamp_7 : decode cX4_readCamp 7 = .ok (.istore_n 2, 1) := by decide +kernel
theorem d_X4_readCamp_8 : decode cX4_readCamp 8 = .ok (.aload_n 1, 1) := by decide +kernel
theorem d_X4_readCamp_9 : decode cX4_readCamp 9 = .ok (.iconst 0, 1) := by decide +kernel
theorem d_X4_readCamp_10 : decode cX4_readCamp 10 = .ok (.sipush 999, 3) := by decide +kernel
theorem d_X4_readCamp_13 : decode cX4_readCamp 13 = .ok (.invokevirtual 125, 3) := by decide +kernel
theorem d_X4_readCamp_16 : decode cX4_readCamp 16 = .ok (.istore_n 3, 1) := by decide +kernel
theorem d_X4_readCamp_17 : decode cX4_readCamp 17 = .ok (.aload_n 1, 1) := by decide +kernel
theorem d_X4_readCamp_18 : decode cX4_readCamp 18 = .ok (.invokevirtual 135, 3) := by decide +kernel
theorem d_X4_readCamp_21 : decode cX4_readCamp 21 = .ok (.ifCond .ne 9, 3) := by decide +kernel
theorem d_X4_readCamp_24 : decode cX4_readCamp 24 = .ok (.aload_n 0, 1) := by decide +kernel
theorem d_X4_readCamp_25 : decode cX4_readCamp 25 = .ok (.iload_n 2, 1) := by decide +kernel
theorem d_X4_readCamp_26 : decode cX4_readCamp 26 = .ok (.iload_n 3, 1) := by decide +kernel
theorem d_X4_readCamp_27 : decode cX4_readCamp 27 = .ok (.invokevirtual 138, 3) := by decide +kernel
theorem d_X4_readCamp_30 : decode cX4_readCamp 30 = .ok (.return_, 1) := by decide +kernel
abbrev rm_X4_readCamp : Room := { frames := 2, cells := 0, slots := 0, locals := 47 }
def B_X4_readCamp_30 (post : CMu → Prop) (cm : CMu) : Prop := post cm
def w_X4_readCamp (post : CMu → Prop) (a0 : Nat) (cm : CMu) : Prop := w_X10_takeNumber (fun (r1 : Int32) (u2 : CMu) => w_X10_takeNumber (fun (r3 : Int32) (u4 : CMu) => w_X10_isWrong (fun (r5 : Bool) (u6 : CMu) => (¬ (r5 = false) → (B_X4_readCamp_30 post u6)) ∧ ((r5 = false) → (w_X4_addCamp (fun (u8 : CMu) => B_X4_readCamp_30 post u8) a0 r1 r3 u6)))  u4) 0 999 u2) 1 20 cm
section G_X4_readCamp
variable {p : Program} {l : Launch} {e : Env} {s : State} {m : MethodId} {args : Array Value} {below : List Frame} {meth : Method} {c : Code} {G : Gd} {ρ : Nat → Nat} {A : Nat → Prop} {mm : Nat → Nat → Int32} {oo : Nat → Int64}
set_option maxHeartbeats 4000000 in
set_option maxRecDepth 100000 in
theorem T_X4_readCamp_30 {post : CMu → Prop} (hl : l.stackTraces = false) (X : MC p l s m args meth c cX4_readCamp 4 RX4 G ρ A) (hr : meth.sig.returnType = none) (hex : ∀ z ∈ c.exceptionTable.toList, False) : ∀ (cm : CMu), B_X4_readCamp_30 post cm → LW p l e rm_X4_readCamp s m args below meth c (Qm below G ρ A (PV (fun u => (u, mm, oo)) post) noX args s 0 0) G ρ A 4 0 0 30 [] [] (cm, mm, oo) := by
  intro cm h
  unfold B_X4_readCamp_30 at h
  exact L_vret (pc := 30) X hr d_X4_readCamp_30 (by decide) (by decide) ⟨_, rfl, rfl, h⟩
set_option maxHeartbeats 4000000 in
set_option maxRecDepth 100000 in
theorem c_X4_readCamp (hl : l.stackTraces = false) {a0 : Nat} (h_a0 : (KD a0).1 = 3) {cm : CMu} {post : CMu → Prop} (h : w_X4_readCamp post a0 cm) : CT l yX4_readCamp (.code yX4_readCamp cX4_readCamp 4 none) rm_X4_readCamp 0 0 G ρ [.ref a0, .ref 4] (cm, mm, oo) (PV (fun u => (u, mm, oo)) post) noX := by
  refine CT_of hl (by decide +kernel) rfl (Nat.le_of_ble_eq_true rfl) (lv0 := [(0, .ref a0), (1, .ref 4)]) rfl (fun p e s m args below meth c A X hr hex hnm => ?_)
  unfold w_X4_readCamp at h
  refine L_aload_n (pc := 0) X d_X4_readCamp_0 rfl 1 rfl ?_
  refine L_iconst (pc := 1) (v := 1) X d_X4_readCamp_1 (by decide) ?_
  refine L_bipush (pc := 2) (v := 20) X d_X4_readCamp_2 (by decide) ?_
  refine L_callVI (pc := 4) X lk_X4_125 (c_X10_takeNumber X.hst  h) rfl rfl kd_4 (by decide) rfl rfl ⟨by decide, by decide⟩ ⟨by decide, by decide⟩ (Nat.zero_le _) d_X4_readCamp_4 rfl (fun x κ1 hx => L_nox hx) (fun r1 u2 h => ?_)
  refine L_istore_n (pc := 7) (lv2 := [(2, .int r1), (0, .ref a0), (1, .ref 4)]) X d_X4_readCamp_7 rfl (by decide) rfl ?_
  refine L_aload_n (pc := 8) X d_X4_readCamp_8 rfl 2 rfl ?_
  refine L_iconst (pc := 9) (v := 0) X d_X4_readCamp_9 (by decide) ?_
  refine L_sipush (pc := 10) (v := 999) X d_X4_readCamp_10 (by decide) ?_
  refine L_callVI (pc := 13) X lk_X4_125 (c_X10_takeNumber X.hst  h) rfl rfl kd_4 (by decide) rfl rfl ⟨by decide, by decide⟩ ⟨by decide, by decide⟩ (Nat.zero_le _) d_X4_readCamp_13 rfl (fun x κ1 hx => L_nox hx) (fun r3 u4 h => ?_)
  refine L_istore_n (pc := 16) (lv2 := [(3, .int r3), (2, .int r1), (0, .ref a0), (1, .ref 4)]) X d_X4_readCamp_16 rfl (by decide) rfl ?_
  refine L_aload_n (pc := 17) X d_X4_readCamp_17 rfl 3 rfl ?_
  refine L_callVZ (pc := 18) X lk_X4_135 (c_X10_isWrong X.hst  h) rfl rfl kd_4 (by decide) rfl rfl ⟨by decide, by decide⟩ ⟨by decide, by decide⟩ (Nat.zero_le _) d_X4_readCamp_18 rfl (fun x κ1 hx => L_nox hx) (fun r5 u6 h => ?_)
  refine L_if_ne (pc := 21) (tgt := 30) X d_X4_readCamp_21 (by decide) (fun c21 => ?_) (fun c21 => ?_)
  · replace h := h.1 (fun z => c21 ((b2_0 _).mpr z))
    refine LW.sub [] rfl ?_
    exact T_X4_readCamp_30 hl X hr hex   _ h
  · replace h := h.2 ((b2_0 _).mp c21)
    refine L_aload_n (pc := 24) X d_X4_readCamp_24 rfl 2 rfl ?_
    refine L_iload_n (pc := 25) X d_X4_readCamp_25 rfl 1 rfl ?_
    refine L_iload_n (pc := 26) X d_X4_readCamp_26 rfl 0 rfl ?_
    refine L_callVV (pc := 27) X lk_X4_138 (c_X4_addCamp X.hst h_a0 h) rfl rfl h_a0 (by decide) rfl rfl ⟨by decide, by decide⟩ ⟨by decide, by decide⟩ (Nat.zero_le _) d_X4_readCamp_27 rfl (fun x κ1 hx => L_nox hx) (fun u8 h => ?_)
    refine LW.sub [] rfl ?_
    exact T_X4_readCamp_30 hl X hr hex   _ h
end G_X4_readCamp
theorem lk_X4_100 : LinkV RX4 100 RX10 yX10_take (.code yX10_take cX10_take 2 (some .boolean)) 1 := ⟨tw_688, tw_689, tw_690, tw_74, tw_691, yk_X10_take⟩
theorem d_X4_readReach_0 : decode cX4_readReach 0 = .ok (.aload_n 1, 1) := by decide +kernel
theorem d_X4_readReach_1 : decode cX4_readReach 1 = .ok (.iconst 0, 1) := by decide +kernel
theorem d_X4_readReach_2 : decode cX4_readReach 2 = .ok (.aload_n 0, 1) := by decide +kernel
theorem d_X4_readReach_3 : decode cX4_readReach 3 = .ok (.getfield 50, 3) := by decide +kernel
theorem d_X4_readReach_6 : decode cX4_readReach 6 = .ok (.invokevirtual 125, 3) := by decide +kernel
theorem d_X4_readReach_9 : decode cX4_readReach 9 = .ok (.istore_n 2, 1) := by decide +kernel
theorem d_X4_readReach_10 : decode cX4_readReach 10 = .ok (.aload_n 1, 1) := by decide +kernel
theorem d_X4_readReach_11 : decode cX4_readReach 11 = .ok (.iconst 1, 1) := by decide +kernel
theorem d_X4_readReach_12 : decode cX4_readReach 12 = .ok (.bipush 20, 2) := by decide +kernel
theorem d_X4_readReach_14 : decode cX4_readReach 14 = .ok (.invokevirtual 125, 3) := by decide +kernel
theorem d_X4_readReach_17 : decode cX4_readReach 17 = .ok (.istore_n 3, 1) := by decide +kernel
theorem d_X4_readReach_18 : decode cX4_readReach 18 = .ok (.aload_n 1, 1) := by decide +kernel
theorem d_X4_readReach_19 : decode cX4_readReach 19 = .ok (.getstatic 142, 3) := by decide +kernel
theorem d_X4_readReach_22 : decode cX4_readReach 22 = .ok (.invokevirtual 100, 3) := by decide +kernel
theorem d_X4_readReach_25 : decode cX4_readReach 25 = .ok (.ifCond .eq 13, 3) := by decide +kernel
theorem d_X4_readReach_28 : decode cX4_readReach 28 = .ok (.aload_n 1, 1) := by decide +kernel
theorem d_X4_readReach_29 : decode cX4_readReach 29 = .ok (.iconst 0, 1) := by decide +kernel
theorem d_X4_readReach_30 : decode cX4_readReach 30 = .ok (.bipush 99, 2) := by decide +kernel
theorem d_X4_readReach_32 : decode cX4_readReach 32 = .ok (.invokevirtual 125, 3) := by decide +kernel
theorem d_X4_readReach_35 : decode cX4_readReach 35 = .ok (.goto 4, 3) := by decide +kernel
theorem d_X4_readReach_38 : decode cX4_readReach 38 = .ok (.iconst 0, 1) := by decide +kernel
theorem d_X4_readReach_39 : decode cX4_readReach 39 = .ok (.istore 4, 2) := by decide +kernel
theorem d_X4_readReach_41 : decode cX4_readReach 41 = .ok (.aload_n 1, 1) := by decide +kernel
theorem d_X4_readReach_42 : decode cX4_readReach 42 = .ok (.getstatic 145, 3) := by decide +kernel
theorem d_X4_readReach_45 : decode cX4_readReach 45 = .ok (.invokevirtual 100, 3) := by decide +kernel
theorem d_X4_readReach_48 : decode cX4_readReach 48 = .ok (.ifCond .eq 13, 3) := by decide +kernel
theorem d_X4_readReach_51 : decode cX4_readReach 51 = .ok (.aload_n 1, 1) := by decide +kernel
theorem d_X4_readReach_52 : decode cX4_readReach 52 = .ok (.iconst 0, 1) := by decide +kernel
theorem d_X4_readReach_53 : decode cX4_readReach 53 = .ok (.bipush 9, 2) := by decide +kernel
theorem d_X4_readReach_55 : decode cX4_readReach 55 = .ok (.invokevirtual 125, 3) := by decide +kernel
theorem d_X4_readReach_58 : decode cX4_readReach 58 = .ok (.goto 4, 3) := by decide +kernel
theorem d_X4_readReach_61 : decode cX4_readReach 61 = .ok (.iconst 0, 1) := by decide +kernel
theorem d_X4_readReach_62 : decode cX4_readReach 62 = .ok (.istore 5, 2) := by decide +kernel
theorem d_X4_readReach_64 : decode cX4_readReach 64 = .ok (.aload_n 1, 1) := by decide +kernel
theorem d_X4_readReach_65 : decode cX4_readReach 65 = .ok (.invokevirtual 135, 3) := by decide +kernel
theorem d_X4_readReach_68 : decode cX4_readReach 68 = .ok (.ifCond .ne 13, 3) := by decide +kernel
theorem d_X4_readReach_71 : decode cX4_readReach 71 = .ok (.aload_n 0, 1) := by decide +kernel
theorem d_X4_readReach_72 : decode cX4_readReach 72 = .ok (.iload_n 2, 1) := by decide +kernel
theorem d_X4_readReach_73 : decode cX4_readReach 73 = .ok (.iload_n 3, 1) := by decide +kernel
theorem d_X4_readReach_74 : decode cX4_readReach 74 = .ok (.iload 4, 2) := by decide +kernel
theorem d_X4_readReach_76 : decode cX4_readReach 76 = .ok (.iload 5, 2) := by decide +kernel
theorem d_X4_readReach_78 : decode cX4_readReach 78 = .ok (.invokevirtual 148, 3) := by decide +kernel
theorem d_X4_readReach_81 : decode cX4_readReach 81 = .ok (.return_, 1) := by decide +kernel
abbrev rm_X4_readReach : Room := { frames := 2, cells := 0, slots := 0, locals := 42 }
def B_X4_readReach_81 (post : CMu → Prop) (cm : CMu) : Prop := post cm
def B_X4_readReach_62 (post : CMu → Prop) (v0 : Nat) (v2 : Int32) (v3 : Int32) (v4 : Int32) (s0 : Int32) (cm : CMu) : Prop := w_X10_isWrong (fun (r13 : Bool) (u14 : CMu) => (¬ (r13 = false) → (B_X4_readReach_81 post u14)) ∧ ((r13 = false) → (w_X4_setReach (fun (u16 : CMu) => B_X4_readReach_81 post u16) v0 v2 v3 v4 s0 u14)))  cm
def B_X4_readReach_39 (post : CMu → Prop) (v0 : Nat) (v2 : Int32) (v3 : Int32) (s0 : Int32) (cm : CMu) : Prop := w_X10_take (fun (r9 : Bool) (u10 : CMu) => ((r9 = false) → (B_X4_readReach_62 post v0 v2 v3 s0 0 u10)) ∧ (¬ (r9 = false) → (w_X10_takeNumber (fun (r11 : Int32) (u12 : CMu) => B_X4_readReach_62 post v0 v2 v3 s0 r11 u12) 0 9 u10))) 4 cm
def w_X4_readReach (post : CMu → Prop) (a0 : Nat) (cm : CMu) : Prop := w_X10_takeNumber (fun (r1 : Int32) (u2 : CMu) => w_X10_takeNumber (fun (r3 : Int32) (u4 : CMu) => w_X10_take (fun (r5 : Bool) (u6 : CMu) => ((r5 = false) → (B_X4_readReach_39 post a0 r1 r3 0 u6)) ∧ (¬ (r5 = false) → (w_X10_takeNumber (fun (r7 : Int32) (u8 : CMu) => B_X4_readReach_39 post a0 r1 r3 r7 u8) 0 99 u6))) 3 u4) 1 20 u2) 0 (gI cm a0 5) cm
section G_X4_readReach
variable {p : Program} {l : Launch} {e : Env} {s : State} {m : MethodId} {args : Array Value} {below : List Frame} {meth : Method} {c : Code} {G : Gd} {ρ : Nat → Nat} {A : Nat → Prop} {mm : Nat → Nat → Int32} {oo : Nat → Int64}
set_option maxHeartbeats 4000000 in
set_option maxRecDepth 100000 in
theorem T_X4_readReach_81 {post : CMu → Prop} (hl : l.stackTraces = false) (X : MC p l s m args meth c cX4_readReach 6 RX4 G ρ A) (hr : meth.sig.returnType = none) (hex : ∀ z ∈ c.exceptionTable.toList, False) : ∀ (cm : CMu), B_X4_readReach_81 post cm → LW p l e rm_X4_readReach s m args below meth c (Qm below G ρ A (PV (fun u => (u, mm, oo)) post) noX args s 0 0) G ρ A 6 0 0 81 [] [] (cm, mm, oo) := by
  intro cm h
  unfold B_X4_readReach_81 at h
  exact L_vret (pc := 81) X hr d_X4_readReach_81 (by decide) (by decide) ⟨_, rfl, rfl, h⟩
set_option maxHeartbeats 4000000 in
set_option maxRecDepth 100000 in
theorem T_X4_readReach_62 {post : CMu → Prop} (hl : l.stackTraces = false) (X : MC p l s m args meth c cX4_readReach 6 RX4 G ρ A) (hr : meth.sig.returnType = none) (hex : ∀ z ∈ c.exceptionTable.toList, False) : ∀ (v0 : Nat) (v2 : Int32) (v3 : Int32) (v4 : Int32) (s0 : Int32) (h_v0 : (KD v0).1 = 3) (cm : CMu), B_X4_readReach_62 post v0 v2 v3 v4 s0 cm → LW p l e rm_X4_readReach s m args below meth c (Qm below G ρ A (PV (fun u => (u, mm, oo)) post) noX args s 0 0) G ρ A 6 0 0 62 [(0, .ref v0), (1, .ref 4), (2, .int v2), (3, .int v3), (4, .int v4)] [.int s0] (cm, mm, oo) := by
  intro v0 v2 v3 v4 s0 h_v0 cm h
  unfold B_X4_readReach_62 at h
  refine L_istore (pc := 62) (lv2 := [(5, .int s0), (0, .ref v0), (1, .ref 4), (2, .int v2), (3, .int v3), (4, .int v4)]) X d_X4_readReach_62 (by decide) rfl ?_
  refine L_aload_n (pc := 64) X d_X4_readReach_64 rfl 2 rfl ?_
  refine L_callVZ (pc := 65) X lk_X4_135 (c_X10_isWrong X.hst  h) rfl rfl kd_4 (by decide) rfl rfl ⟨by decide, by decide⟩ ⟨by decide, by decide⟩ (Nat.zero_le _) d_X4_readReach_65 rfl (fun x κ1 hx => L_nox hx) (fun r13 u14 h => ?_)
  refine L_if_ne (pc := 68) (tgt := 81) X d_X4_readReach_68 (by decide) (fun c68 => ?_) (fun c68 => ?_)
  · replace h := h.1 (fun z => c68 ((b2_0 _).mpr z))
    refine LW.sub [] rfl ?_
    exact T_X4_readReach_81 hl X hr hex   _ h
  · replace h := h.2 ((b2_0 _).mp c68)
    refine L_aload_n (pc := 71) X d_X4_readReach_71 rfl 1 rfl ?_
    refine L_iload_n (pc := 72) X d_X4_readReach_72 rfl 3 rfl ?_
    refine L_iload_n (pc := 73) X d_X4_readReach_73 rfl 4 rfl ?_
    refine L_iload (pc := 74) X d_X4_readReach_74 5 rfl ?_
    refine L_iload (pc := 76) X d_X4_readReach_76 0 rfl ?_
    refine L_callVV (pc := 78) X lk_X4_148 (c_X4_setReach X.hst h_v0 h) rfl rfl h_v0 (by decide) rfl rfl ⟨by decide, by decide⟩ ⟨by decide, by decide⟩ (Nat.zero_le _) d_X4_readReach_78 rfl (fun x κ1 hx => L_nox hx) (fun u16 h => ?_)
    refine LW.sub [] rfl ?_
    exact T_X4_readReach_81 hl X hr hex   _ h
set_option maxHeartbeats 4000000 in
set_option maxRecDepth 100000 in
theorem T_X4_readReach_39 {post : CMu → Prop} (hl : l.stackTraces = false) (X : MC p l s m args meth c cX4_readReach 6 RX4 G ρ A) (hr : meth.sig.returnType = none) (hex : ∀ z ∈ c.exceptionTable.toList, False) : ∀ (v0 : Nat) (v2 : Int32) (v3 : Int32) (s0 : Int32) (h_v0 : (KD v0).1 = 3) (cm : CMu), B_X4_readReach_39 post v0 v2 v3 s0 cm → LW p l e rm_X4_readReach s m args below meth c (Qm below G ρ A (PV (fun u => (u, mm, oo)) post) noX args s 0 0) G ρ A 6 0 0 39 [(0, .ref v0), (1, .ref 4), (2, .int v2), (3, .int v3)] [.int s0] (cm, mm, oo) := by
  intro v0 v2 v3 s0 h_v0 cm h
  unfold B_X4_readReach_39 at h
  refine L_istore (pc := 39) (lv2 := [(4, .int s0), (0, .ref v0), (1, .ref 4), (2, .int v2), (3, .int v3)]) X d_X4_readReach_39 (by decide) rfl ?_
  refine L_aload_n (pc := 41) X d_X4_readReach_41 rfl 2 rfl ?_
  refine L_getsW (pc := 42) X 3 (by decide) rfl (w := 4) (by decide) d_X4_readReach_42 tw_728 ?_
  refine L_callVZ (pc := 45) X lk_X4_100 (c_X10_take X.hst  h) rfl rfl kd_4 (by decide) rfl rfl ⟨by decide, by decide⟩ ⟨by decide, by decide⟩ (Nat.zero_le _) d_X4_readReach_45 rfl (fun x κ1 hx => L_nox hx) (fun r9 u10 h => ?_)
  refine L_if_eq (pc := 48) (tgt := 61) X d_X4_readReach_48 (by decide) (fun c48 => ?_) (fun c48 => ?_)
  · replace h := h.1 ((b2_0 _).mp c48)
    refine L_iconst (pc := 61) (v := 0) X d_X4_readReach_61 (by decide) ?_
    refine LW.sub [1, 2, 3, 4, 0] rfl ?_
    exact T_X4_readReach_62 hl X hr hex _ _ _ _ _ h_v0 _ h
  · replace h := h.2 (fun z => c48 ((b2_0 _).mpr z))
    refine L_aload_n (pc := 51) X d_X4_readReach_51 rfl 2 rfl ?_
    refine L_iconst (pc := 52) (v := 0) X d_X4_readReach_52 (by decide) ?_
    refine L_bipush (pc := 53) (v := 9) X d_X4_readReach_53 (by decide) ?_
    refine L_callVI (pc := 55) X lk_X4_125 (c_X10_takeNumber X.hst  h) rfl rfl kd_4 (by decide) rfl rfl ⟨by decide, by decide⟩ ⟨by decide, by decide⟩ (Nat.zero_le _) d_X4_readReach_55 rfl (fun x κ1 hx => L_nox hx) (fun r11 u12 h => ?_)
    refine L_goto (pc := 58) (tgt := 62) X d_X4_readReach_58 (by decide) ?_
    refine LW.sub [1, 2, 3, 4, 0] rfl ?_
    exact T_X4_readReach_62 hl X hr hex _ _ _ _ _ h_v0 _ h
set_option maxHeartbeats 4000000 in
set_option maxRecDepth 100000 in
theorem c_X4_readReach (hl : l.stackTraces = false) {a0 : Nat} (h_a0 : (KD a0).1 = 3) {cm : CMu} {post : CMu → Prop} (h : w_X4_readReach post a0 cm) : CT l yX4_readReach (.code yX4_readReach cX4_readReach 6 none) rm_X4_readReach 0 0 G ρ [.ref a0, .ref 4] (cm, mm, oo) (PV (fun u => (u, mm, oo)) post) noX := by
  refine CT_of hl (by decide +kernel) rfl (Nat.le_of_ble_eq_true rfl) (lv0 := [(0, .ref a0), (1, .ref 4)]) rfl (fun p e s m args below meth c A X hr hex hnm => ?_)
  unfold w_X4_readReach at h
  refine L_aload_n (pc := 0) X d_X4_readReach_0 rfl 1 rfl ?_
  refine L_iconst (pc := 1) (v := 0) X d_X4_readReach_1 (by decide) ?_
  refine L_aload_n (pc := 2) X d_X4_readReach_2 rfl 0 rfl ?_
  refine gf_X4_50 (pc := 3) X d_X4_readReach_3 h_a0 ?_
  refine L_callVI (pc := 6) X lk_X4_125 (c_X10_takeNumber X.hst  h) rfl rfl kd_4 (by decide) rfl rfl ⟨by decide, by decide⟩ ⟨by decide, by decide⟩ (Nat.zero_le _) d_X4_readReach_6 rfl (fun x κ1 hx => L_nox hx) (fun r1 u2 h => ?_)
  refine L_istore_n (pc := 9) (lv2 := [(2, .int r1), (0, .ref a0), (1, .ref 4)]) X d_X4_readReach_9 rfl (by decide) rfl ?_
  refine L_aload_n (pc := 10) X d_X4_readReach_10 rfl 2 rfl ?_
  refine L_iconst (pc := 11) (v := 1) X d_X4_readReach_11 (by decide) ?_
  refine L_bipush (pc := 12) (v := 20) X d_X4_readReach_12 (by decide) ?_
  refine L_callVI (pc := 14) X lk_X4_125 (c_X10_takeNumber X.hst  h) rfl rfl kd_4 (by decide) rfl rfl ⟨by decide, by decide⟩ ⟨by decide, by decide⟩ (Nat.zero_le _) d_X4_readReach_14 rfl (fun x κ1 hx => L_nox hx) (fun r3 u4 h => ?_)
  refine L_istore_n (pc := 17) (lv2 := [(3, .int r3), (2, .int r1), (0, .ref a0), (1, .ref 4)]) X d_X4_readReach_17 rfl (by decide) rfl ?_
  refine L_aload_n (pc := 18) X d_X4_readReach_18 rfl 3 rfl ?_
  refine L_getsW (pc := 19) X 2 (by decide) rfl (w := 3) (by decide) d_X4_readReach_19 tw_726 ?_
  refine L_callVZ (pc := 22) X lk_X4_100 (c_X10_take X.hst  h) rfl rfl kd_4 (by decide) rfl rfl ⟨by decide, by decide⟩ ⟨by decide, by decide⟩ (Nat.zero_le _) d_X4_readReach_22 rfl (fun x κ1 hx => L_nox hx) (fun r5 u6 h => ?_)
  refine L_if_eq (pc := 25) (tgt := 38) X d_X4_readReach_25 (by decide) (fun c25 => ?_) (fun c25 => ?_)
  · replace h := h.1 ((b2_0 _).mp c25)
    refine L_iconst (pc := 38) (v := 0) X d_X4_readReach_38 (by decide) ?_
    refine LW.sub [2, 3, 1, 0] rfl ?_
    exact T_X4_readReach_39 hl X hr hex _ _ _ _ h_a0 _ h
  · replace h := h.2 (fun z => c25 ((b2_0 _).mpr z))
    refine L_aload_n (pc := 28) X d_X4_readReach_28 rfl 3 rfl ?_
    refine L_iconst (pc := 29) (v := 0) X d_X4_readReach_29 (by decide) ?_
    refine L_bipush (pc := 30) (v := 99) X d_X4_readReach_30 (by decide) ?_
    refine L_callVI (pc := 32) X lk_X4_125 (c_X10_takeNumber X.hst  h) rfl rfl kd_4 (by decide) rfl rfl ⟨by decide, by decide⟩ ⟨by decide, by decide⟩ (Nat.zero_le _) d_X4_readReach_32 rfl (fun x κ1 hx => L_nox hx) (fun r7 u8 h => ?_)
    refine L_goto (pc := 35) (tgt := 39) X d_X4_readReach_35 (by decide) ?_
    refine LW.sub [2, 3, 1, 0] rfl ?_
    exact T_X4_readReach_39 hl X hr hex _ _ _ _ h_a0 _ h
end G_X4_readReach
theorem lk_X4_104 : LinkV RX4 104 RX10 yX10_refuse (.code yX10_refuse cX10_refuse 1 none) 0 := ⟨tw_736, tw_701, tw_702, tw_74, tw_703, yk_X10_refuse⟩
theorem yk_X4_mayGrow : yX4_mayGrow.cls = RX4 ∧ yX4_mayGrow.cls ≠ "java/lang/invoke/MethodHandle" ∧ yX4_mayGrow.cls ≠ "java/lang/invoke/VarHandle" ∧ (parseMethodDescriptor yX4_mayGrow.desc).map (fun d => d.parameters.length) = some 0 := by decide +kernel
theorem lk_X4_107 : LinkV RX4 107 RX4 yX4_mayGrow (.code yX4_mayGrow cX4_mayGrow 1 (some .boolean)) 0 := ⟨tw_682, tw_684, tw_4, tw_78, tw_685, yk_X4_mayGrow⟩
theorem yk_X4_readCamp : yX4_readCamp.cls = RX4 ∧ yX4_readCamp.cls ≠ "java/lang/invoke/MethodHandle" ∧ yX4_readCamp.cls ≠ "java/lang/invoke/VarHandle" ∧ (parseMethodDescriptor yX4_readCamp.desc).map (fun d => d.parameters.length) = some 1 := by decide +kernel
theorem lk_X4_113 : LinkV RX4 113 RX4 yX4_readCamp (.code yX4_readCamp cX4_readCamp 4 none) 1 := ⟨tw_692, tw_694, tw_5, tw_78, tw_695, yk_X4_readCamp⟩
theorem yk_X4_readReach : yX4_readReach.cls = RX4 ∧ yX4_readReach.cls ≠ "java/lang/invoke/MethodHandle" ∧ yX4_readReach.cls ≠ "java/lang/invoke/VarHandle" ∧ (parseMethodDescriptor yX4_readReach.desc).map (fun d => d.parameters.length) = some 1 := by decide +kernel
theorem lk_X4_119 : LinkV RX4 119 RX4 yX4_readReach (.code yX4_readReach cX4_readReach 6 none) 1 := ⟨tw_722, tw_724, tw_8, tw_78, tw_725, yk_X4_readReach⟩
theorem d_X4_readLine_0 : decode cX4_readLine 0 = .ok (.aload_n 0, 1) := by decide +kernel
theorem d_X4_readLine_1 : decode cX4_readLine 1 = .ok (.invokevirtual 107, 3) := by decide +kernel
theorem d_X4_readLine_4 : decode cX4_readLine 4 = .ok (.ifCond .eq 21, 3) := by decide +kernel
theorem d_X4_readLine_7 : decode cX4_readLine 7 = .ok (.aload_n 1, 1) := by decide +kernel
theorem d_X4_readLine_8 : decode cX4_readLine 8 = .ok (.getstatic 110, 3) := by decide +kernel
theorem d_X4_readLine_11 : decode cX4_readLine 11 = .ok (.invokevirtual 100, 3) := by decide +kernel
theorem d_X4_readLine_14 : decode cX4_readLine 14 = .ok (.ifCond .eq 11, 3) := by decide +kernel
theorem d_X4_readLine_17 : decode cX4_readLine 17 = .ok (.aload_n 0, 1) := by decide +kernel
theorem d_X4_readLine_18 : decode cX4_readLine 18 = .ok (.aload_n 1, 1) := by decide +kernel
theorem d_X4_readLine_19 : decode cX4_readLine 19 = .ok (.invokevirtual 113, 3) := by decide +kernel
theorem d_X4_readLine_22 : decode cX4_readLine 22 = .ok (.goto 109, 3) := by decide +kernel
theorem d_X4_readLine_25 : decode cX4_readLine 25 = .ok (.aload_n 1, 1) := by decide +kernel
theorem d_X4_readLine_26 : decode cX4_readLine 26 = .ok (.getstatic 116, 3) := by decide +kernel
theorem d_X4_readLine_29 : decode cX4_readLine 29 = .ok (.invokevirtual 100, 3) := by decide +kernel
theorem d_X4_readLine_32 : decode cX4_readLine 32 = .ok (.ifCond .eq 11, 3) := by decide +kernel
theorem d_X4_readLine_35 : decode cX4_readLine 35 = .ok (.aload_n 0, 1) := by decide +kernel
theorem d_X4_readLine_36 : decode cX4_readLine 36 = .ok (.aload_n 1, 1) := by decide +kernel
theorem d_X4_readLine_37 : decode cX4_readLine 37 = .ok (.invokevirtual 119, 3) := by decide +kernel
theorem d_X4_readLine_40 : decode cX4_readLine 40 = .ok (.goto 91, 3) := by decide +kernel
theorem d_X4_readLine_43 : decode cX4_readLine 43 = .ok (.aload_n 1, 1) := by decide +kernel
theorem d_X4_readLine_44 : decode cX4_readLine 44 = .ok (.getstatic 122, 3) := by decide +kernel
theorem d_X4_readLine_47 : decode cX4_readLine 47 = .ok (.invokevirtual 100, 3) := by decide +kernel
theorem d_X4_readLine_50 : decode cX4_readLine 50 = .ok (.ifCond .eq 17, 3) := by decide +kernel
theorem d_X4_readLine_53 : decode cX4_readLine 53 = .ok (.aload_n 0, 1) := by decide +kernel
theorem d_X4_readLine_54 : decode cX4_readLine 54 = .ok (.aload_n 1, 1) := by decide +kernel
theorem d_X4_readLine_55 : decode cX4_readLine 55 = .ok (.iconst 1, 1) := by decide +kernel
theorem d_X4_readLine_56 : decode cX4_readLine 56 = .ok (.bipush 9, 2) := by decide +kernel
theorem d_X4_readLine_58 : decode cX4_readLine 58 = .ok (.invokevirtual 125, 3) := by decide +kernel
theorem d_X4_readLine_61 : decode cX4_readLine 61 = .ok (.putfield 40, 3) := by decide +kernel
theorem d_X4_readLine_64 : decode cX4_readLine 64 = .ok (.goto 67, 3) := by decide +kernel
theorem d_X4_readLine_67 : decode cX4_readLine 67 = .ok (.aload_n 1, 1) := by decide +kernel
theorem d_X4_readLine_68 : decode cX4_readLine 68 = .ok (.getstatic 129, 3) := by decide +kernel
theorem d_X4_readLine_71 : decode cX4_readLine 71 = .ok (.invokevirtual 100, 3) := by decide +kernel
theorem d_X4_readLine_74 : decode cX4_readLine 74 = .ok (.ifCond .eq 28, 3) := by decide +kernel
theorem d_X4_readLine_77 : decode cX4_readLine 77 = .ok (.aload_n 0, 1) := by decide +kernel
theorem d_X4_readLine_78 : decode cX4_readLine 78 = .ok (.aload_n 1, 1) := by decide +kernel
theorem d_X4_readLine_79 : decode cX4_readLine 79 = .ok (.iconst 0, 1) := by decide +kernel
theorem d_X4_readLine_80 : decode cX4_readLine 80 = .ok (.bipush 23, 2) := by decide +kernel
theorem d_X4_readLine_82 : decode cX4_readLine 82 = .ok (.invokevirtual 125, 3) := by decide +kernel
theorem d_X4_readLine_85 : decode cX4_readLine 85 = .ok (.putfield 62, 3) := by decide +kernel
theorem d_X4_readLine_88 : decode cX4_readLine 88 = .ok (.aload_n 0, 1) := by decide +kernel
theorem d_X4_readLine_89 : decode cX4_readLine 89 = .ok (.aload_n 1, 1) := by decide +kernel
theorem d_X4_readLine_90 : decode cX4_readLine 90 = .ok (.iconst 0, 1) := by decide +kernel
theorem d_X4_readLine_91 : decode cX4_readLine 91 = .ok (.bipush 23, 2) := by decide +kernel
theorem d_X4_readLine_93 : decode cX4_readLine 93 = .ok (.invokevirtual 125, 3) := by decide +kernel
theorem d_X4_readLine_96 : decode cX4_readLine 96 = .ok (.putfield 65, 3) := by decide +kernel
theorem d_X4_readLine_99 : decode cX4_readLine 99 = .ok (.goto 32, 3) := by decide +kernel
theorem d_X4_readLine_102 : decode cX4_readLine 102 = .ok (.aload_n 1, 1) := by decide +kernel
theorem d_X4_readLine_103 : decode cX4_readLine 103 = .ok (.getstatic 132, 3) := by decide +kernel
theorem d_X4_readLine_106 : decode cX4_readLine 106 = .ok (.invokevirtual 100, 3) := by decide +kernel
theorem d_X4_readLine_109 : decode cX4_readLine 109 = .ok (.ifCond .eq 18, 3) := by decide +kernel
theorem d_X4_readLine_112 : decode cX4_readLine 112 = .ok (.aload_n 0, 1) := by decide +kernel
theorem d_X4_readLine_113 : decode cX4_readLine 113 = .ok (.aload_n 1, 1) := by decide +kernel
theorem d_X4_readLine_114 : decode cX4_readLine 114 = .ok (.iconst 0, 1) := by decide +kernel
theorem d_X4_readLine_115 : decode cX4_readLine 115 = .ok (.sipush 999, 3) := by decide +kernel
theorem d_X4_readLine_118 : decode cX4_readLine 118 = .ok (.invokevirtual 125, 3) := by decide +kernel
theorem d_X4_readLine_121 : decode cX4_readLine 121 = .ok (.putfield 44, 3) := by decide +kernel
theorem d_X4_readLine_124 : decode cX4_readLine 124 = .ok (.goto 7, 3) := by decide +kernel
theorem d_X4_readLine_127 : decode cX4_readLine 127 = .ok (.aload_n 1, 1) := by decide +kernel
theorem d_X4_readLine_128 : decode cX4_readLine 128 = .ok (.invokevirtual 104, 3) := by decide +kernel
theorem d_X4_readLine_131 : decode cX4_readLine 131 = .ok (.return_, 1) := by decide +kernel
abbrev rm_X4_readLine : Room := { frames := 3, cells := 0, slots := 0, locals := 70 }
def B_X4_readLine_131 (post : CMu → Prop) (cm : CMu) : Prop := post cm
def B_X4_readLine_25 (post : CMu → Prop) (v0 : Nat) (cm : CMu) : Prop := w_X10_take (fun (r7 : Bool) (u8 : CMu) => ((r7 = false) → (w_X10_take (fun (r9 : Bool) (u10 : CMu) => ((r9 = false) → (w_X10_take (fun (r11 : Bool) (u12 : CMu) => ((r11 = false) → (w_X10_take (fun (r13 : Bool) (u14 : CMu) => ((r13 = false) → (w_X10_refuse (fun (u16 : CMu) => B_X4_readLine_131 post u16)  u14)) ∧ (¬ (r13 = false) → (w_X10_takeNumber (fun (r17 : Int32) (u18 : CMu) => B_X4_readLine_131 post (uI u18 v0 13 r17)) 0 999 u14))) 5 u12)) ∧ (¬ (r11 = false) → (w_X10_takeNumber (fun (r19 : Int32) (u20 : CMu) => w_X10_takeNumber (fun (r21 : Int32) (u22 : CMu) => B_X4_readLine_131 post (uI u22 v0 11 r21)) 0 23 (uI u20 v0 10 r19)) 0 23 u12))) 15 u10)) ∧ (¬ (r9 = false) → (w_X10_takeNumber (fun (r23 : Int32) (u24 : CMu) => B_X4_readLine_131 post (uI u24 v0 9 r23)) 1 9 u10))) 22 u8)) ∧ (¬ (r7 = false) → (w_X4_readReach (fun (u26 : CMu) => B_X4_readLine_131 post u26) v0 u8))) 2 cm
def w_X4_readLine (post : CMu → Prop) (a0 : Nat) (cm : CMu) : Prop := w_X4_mayGrow (fun (r1 : Bool) (u2 : CMu) => ((r1 = false) → (B_X4_readLine_25 post a0 u2)) ∧ (¬ (r1 = false) → (w_X10_take (fun (r3 : Bool) (u4 : CMu) => ((r3 = false) → (B_X4_readLine_25 post a0 u4)) ∧ (¬ (r3 = false) → (w_X4_readCamp (fun (u6 : CMu) => B_X4_readLine_131 post u6) a0 u4))) 1 u2))) a0 cm
section G_X4_readLine
variable {p : Program} {l : Launch} {e : Env} {s : State} {m : MethodId} {args : Array Value} {below : List Frame} {meth : Method} {c : Code} {G : Gd} {ρ : Nat → Nat} {A : Nat → Prop} {mm : Nat → Nat → Int32} {oo : Nat → Int64}
set_option maxHeartbeats 4000000 in
set_option maxRecDepth 100000 in
theorem T_X4_readLine_131 {post : CMu → Prop} (hl : l.stackTraces = false) (X : MC p l s m args meth c cX4_readLine 2 RX4 G ρ A) (hr : meth.sig.returnType = none) (hex : ∀ z ∈ c.exceptionTable.toList, False) : ∀ (cm : CMu), B_X4_readLine_131 post cm → LW p l e rm_X4_readLine s m args below meth c (Qm below G ρ A (PV (fun u => (u, mm, oo)) post) noX args s 0 0) G ρ A 2 0 0 131 [] [] (cm, mm, oo) := by
  intro cm h
  unfold B_X4_readLine_131 at h
  exact L_vret (pc := 131) X hr d_X4_readLine_131 (by decide) (by decide) ⟨_, rfl, rfl, h⟩
set_option maxHeartbeats 4000000 in
set_option maxRecDepth 100000 in
theorem T_X4_readLine_25 {post : CMu → Prop} (hl : l.stackTraces = false) (X : MC p l s m args meth c cX4_readLine 2 RX4 G ρ A) (hr : meth.sig.returnType = none) (hex : ∀ z ∈ c.exceptionTable.toList, False) : ∀ (v0 : Nat) (h_v0 : (KD v0).1 = 3) (cm : CMu), B_X4_readLine_25 post v0 cm → LW p l e rm_X4_readLine s m args below meth c (Qm below G ρ A (PV (fun u => (u, mm, oo)) post) noX args s 0 0) G ρ A 2 0 0 25 [(0, .ref v0), (1, .ref 4)] [] (cm, mm, oo) := by
  intro v0 h_v0 cm h
  unfold B_X4_readLine_25 at h
  refine L_aload_n (pc := 25) X d_X4_readLine_25 rfl 1 rfl ?_
  refine L_getsW (pc := 26) X 1 (by decide) rfl (w := 2) (by decide) d_X4_readLine_26 tw_720 ?_
  refine L_callVZ (pc := 29) X lk_X4_100 (c_X10_take X.hst  h) rfl rfl kd_4 (by decide) rfl rfl ⟨by decide, by decide⟩ ⟨by decide, by decide⟩ (Nat.zero_le _) d_X4_readLine_29 rfl (fun x κ1 hx => L_nox hx) (fun r7 u8 h => ?_)
  refine L_if_eq (pc := 32) (tgt := 43) X d_X4_readLine_32 (by decide) (fun c32 => ?_) (fun c32 => ?_)
  · replace h := h.1 ((b2_0 _).mp c32)
    refine L_aload_n (pc := 43) X d_X4_readLine_43 rfl 1 rfl ?_
    refine L_getsW (pc := 44) X 21 (by decide) rfl (w := 22) (by decide) d_X4_readLine_44 tw_730 ?_
    refine L_callVZ (pc := 47) X lk_X4_100 (c_X10_take X.hst  h) rfl rfl kd_4 (by decide) rfl rfl ⟨by decide, by decide⟩ ⟨by decide, by decide⟩ (Nat.zero_le _) d_X4_readLine_47 rfl (fun x κ1 hx => L_nox hx) (fun r9 u10 h => ?_)
    refine L_if_eq (pc := 50) (tgt := 67) X d_X4_readLine_50 (by decide) (fun c50 => ?_) (fun c50 => ?_)
    · replace h := h.1 ((b2_0 _).mp c50)
      refine L_aload_n (pc := 67) X d_X4_readLine_67 rfl 1 rfl ?_
      refine L_getsW (pc := 68) X 14 (by decide) rfl (w := 15) (by decide) d_X4_readLine_68 tw_732 ?_
      refine L_callVZ (pc := 71) X lk_X4_100 (c_X10_take X.hst  h) rfl rfl kd_4 (by decide) rfl rfl ⟨by decide, by decide⟩ ⟨by decide, by decide⟩ (Nat.zero_le _) d_X4_readLine_71 rfl (fun x κ1 hx => L_nox hx) (fun r11 u12 h => ?_)
      refine L_if_eq (pc := 74) (tgt := 102) X d_X4_readLine_74 (by decide) (fun c74 => ?_) (fun c74 => ?_)
      · replace h := h.1 ((b2_0 _).mp c74)
        refine L_aload_n (pc := 102) X d_X4_readLine_102 rfl 1 rfl ?_
        refine L_getsW (pc := 103) X 4 (by decide) rfl (w := 5) (by decide) d_X4_readLine_103 tw_734 ?_
        refine L_callVZ (pc := 106) X lk_X4_100 (c_X10_take X.hst  h) rfl rfl kd_4 (by decide) rfl rfl ⟨by decide, by decide⟩ ⟨by decide, by decide⟩ (Nat.zero_le _) d_X4_readLine_106 rfl (fun x κ1 hx => L_nox hx) (fun r13 u14 h => ?_)
        refine L_if_eq (pc := 109) (tgt := 127) X d_X4_readLine_109 (by decide) (fun c109 => ?_) (fun c109 => ?_)
        · replace h := h.1 ((b2_0 _).mp c109)
          refine L_aload_n (pc := 127) X d_X4_readLine_127 rfl 1 rfl ?_
          refine L_callVV (pc := 128) X lk_X4_104 (c_X10_refuse X.hst  h) rfl rfl kd_4 (by decide) rfl rfl ⟨by decide, by decide⟩ ⟨by decide, by decide⟩ (Nat.zero_le _) d_X4_readLine_128 rfl (fun x κ1 hx => L_nox hx) (fun u16 h => ?_)
          refine LW.sub [] rfl ?_
          exact T_X4_readLine_131 hl X hr hex   _ h
        · replace h := h.2 (fun z => c109 ((b2_0 _).mpr z))
          refine L_aload_n (pc := 112) X d_X4_readLine_112 rfl 0 rfl ?_
          refine L_aload_n (pc := 113) X d_X4_readLine_113 rfl 1 rfl ?_
          refine L_iconst (pc := 114) (v := 0) X d_X4_readLine_114 (by decide) ?_
          refine L_sipush (pc := 115) (v := 999) X d_X4_readLine_115 (by decide) ?_
          refine L_callVI (pc := 118) X lk_X4_125 (c_X10_takeNumber X.hst  h) rfl rfl kd_4 (by decide) rfl rfl ⟨by decide, by decide⟩ ⟨by decide, by decide⟩ (Nat.le_of_ble_eq_true rfl) d_X4_readLine_118 rfl (fun x κ1 hx => L_nox hx) (fun r17 u18 h => ?_)
          refine pf_X4_44 (pc := 121) X d_X4_readLine_121 h_v0 ?_
          refine L_goto (pc := 124) (tgt := 131) X d_X4_readLine_124 (by decide) ?_
          refine LW.sub [] rfl ?_
          exact T_X4_readLine_131 hl X hr hex   _ h
      · replace h := h.2 (fun z => c74 ((b2_0 _).mpr z))
        refine L_aload_n (pc := 77) X d_X4_readLine_77 rfl 0 rfl ?_
        refine L_aload_n (pc := 78) X d_X4_readLine_78 rfl 1 rfl ?_
        refine L_iconst (pc := 79) (v := 0) X d_X4_readLine_79 (by decide) ?_
        refine L_bipush (pc := 80) (v := 23) X d_X4_readLine_80 (by decide) ?_
        refine L_callVI (pc := 82) X lk_X4_125 (c_X10_takeNumber X.hst  h) rfl rfl kd_4 (by decide) rfl rfl ⟨by decide, by decide⟩ ⟨by decide, by decide⟩ (Nat.le_of_ble_eq_true rfl) d_X4_readLine_82 rfl (fun x κ1 hx => L_nox hx) (fun r19 u20 h => ?_)
        refine pf_X4_62 (pc := 85) X d_X4_readLine_85 h_v0 ?_
        refine L_aload_n (pc := 88) X d_X4_readLine_88 rfl 0 rfl ?_
        refine L_aload_n (pc := 89) X d_X4_readLine_89 rfl 1 rfl ?_
        refine L_iconst (pc := 90) (v := 0) X d_X4_readLine_90 (by decide) ?_
        refine L_bipush (pc := 91) (v := 23) X d_X4_readLine_91 (by decide) ?_
        refine L_callVI (pc := 93) X lk_X4_125 (c_X10_takeNumber X.hst  h) rfl rfl kd_4 (by decide) rfl rfl ⟨by decide, by decide⟩ ⟨by decide, by decide⟩ (Nat.le_of_ble_eq_true rfl) d_X4_readLine_93 rfl (fun x κ1 hx => L_nox hx) (fun r21 u22 h => ?_)
        refine pf_X4_65 (pc := 96) X d_X4_readLine_96 h_v0 ?_
        refine L_goto (pc := 99) (tgt := 131) X d_X4_readLine_99 (by decide) ?_
        refine LW.sub [] rfl ?_
        exact T_X4_readLine_131 hl X hr hex   _ h
    · replace h := h.2 (fun z => c50 ((b2_0 _).mpr z))
      refine L_aload_n (pc := 53) X d_X4_readLine_53 rfl 0 rfl ?_
      refine L_aload_n (pc := 54) X d_X4_readLine_54 rfl 1 rfl ?_
      refine L_iconst (pc := 55) (v := 1) X d_X4_readLine_55 (by decide) ?_
      refine L_bipush (pc := 56) (v := 9) X d_X4_readLine_56 (by decide) ?_
      refine L_callVI (pc := 58) X lk_X4_125 (c_X10_takeNumber X.hst  h) rfl rfl kd_4 (by decide) rfl rfl ⟨by decide, by decide⟩ ⟨by decide, by decide⟩ (Nat.le_of_ble_eq_true rfl) d_X4_readLine_58 rfl (fun x κ1 hx => L_nox hx) (fun r23 u24 h => ?_)
      refine pf_X4_40 (pc := 61) X d_X4_readLine_61 h_v0 ?_
      refine L_goto (pc := 64) (tgt := 131) X d_X4_readLine_64 (by decide) ?_
      refine LW.sub [] rfl ?_
      exact T_X4_readLine_131 hl X hr hex   _ h
  · replace h := h.2 (fun z => c32 ((b2_0 _).mpr z))
    refine L_aload_n (pc := 35) X d_X4_readLine_35 rfl 0 rfl ?_
    refine L_aload_n (pc := 36) X d_X4_readLine_36 rfl 1 rfl ?_
    refine L_callVV (pc := 37) X lk_X4_119 (c_X4_readReach X.hst h_v0 h) rfl rfl h_v0 (by decide) rfl rfl ⟨by decide, by decide⟩ ⟨by decide, by decide⟩ (Nat.zero_le _) d_X4_readLine_37 rfl (fun x κ1 hx => L_nox hx) (fun u26 h => ?_)
    refine L_goto (pc := 40) (tgt := 131) X d_X4_readLine_40 (by decide) ?_
    refine LW.sub [] rfl ?_
    exact T_X4_readLine_131 hl X hr hex   _ h
set_option maxHeartbeats 4000000 in
set_option maxRecDepth 100000 in
theorem c_X4_readLine (hl : l.stackTraces = false) {a0 : Nat} (h_a0 : (KD a0).1 = 3) {cm : CMu} {post : CMu → Prop} (h : w_X4_readLine post a0 cm) : CT l yX4_readLine (.code yX4_readLine cX4_readLine 2 none) rm_X4_readLine 0 0 G ρ [.ref a0, .ref 4] (cm, mm, oo) (PV (fun u => (u, mm, oo)) post) noX := by
  refine CT_of hl (by decide +kernel) rfl (Nat.le_of_ble_eq_true rfl) (lv0 := [(0, .ref a0), (1, .ref 4)]) rfl (fun p e s m args below meth c A X hr hex hnm => ?_)
  unfold w_X4_readLine at h
  refine L_aload_n (pc := 0) X d_X4_readLine_0 rfl 0 rfl ?_
  refine L_callVZ (pc := 1) X lk_X4_107 (c_X4_mayGrow X.hst h_a0 h) rfl rfl h_a0 (by decide) rfl rfl ⟨by decide, by decide⟩ ⟨by decide, by decide⟩ (Nat.zero_le _) d_X4_readLine_1 rfl (fun x κ1 hx => L_nox hx) (fun r1 u2 h => ?_)
  refine L_if_eq (pc := 4) (tgt := 25) X d_X4_readLine_4 (by decide) (fun c4 => ?_) (fun c4 => ?_)
  · replace h := h.1 ((b2_0 _).mp c4)
    refine LW.sub [0, 1] rfl ?_
    exact T_X4_readLine_25 hl X hr hex _ h_a0 _ h
  · replace h := h.2 (fun z => c4 ((b2_0 _).mpr z))
    refine L_aload_n (pc := 7) X d_X4_readLine_7 rfl 1 rfl ?_
    refine L_getsW (pc := 8) X 0 (by decide) rfl (w := 1) (by decide) d_X4_readLine_8 tw_686 ?_
    refine L_callVZ (pc := 11) X lk_X4_100 (c_X10_take X.hst  h) rfl rfl kd_4 (by decide) rfl rfl ⟨by decide, by decide⟩ ⟨by decide, by decide⟩ (Nat.zero_le _) d_X4_readLine_11 rfl (fun x κ1 hx => L_nox hx) (fun r3 u4 h => ?_)
    refine L_if_eq (pc := 14) (tgt := 25) X d_X4_readLine_14 (by decide) (fun c14 => ?_) (fun c14 => ?_)
    · replace h := h.1 ((b2_0 _).mp c14)
      refine LW.sub [0, 1] rfl ?_
      exact T_X4_readLine_25 hl X hr hex _ h_a0 _ h
    · replace h := h.2 (fun z => c14 ((b2_0 _).mpr z))
      refine L_aload_n (pc := 17) X d_X4_readLine_17 rfl 0 rfl ?_
      refine L_aload_n (pc := 18) X d_X4_readLine_18 rfl 1 rfl ?_
      refine L_callVV (pc := 19) X lk_X4_113 (c_X4_readCamp X.hst h_a0 h) rfl rfl h_a0 (by decide) rfl rfl ⟨by decide, by decide⟩ ⟨by decide, by decide⟩ (Nat.zero_le _) d_X4_readLine_19 rfl (fun x κ1 hx => L_nox hx) (fun u6 h => ?_)
      refine L_goto (pc := 22) (tgt := 131) X d_X4_readLine_22 (by decide) ?_
      refine LW.sub [] rfl ?_
      exact T_X4_readLine_131 hl X hr hex   _ h
end G_X4_readLine
theorem yk_X10_isAtEnd : yX10_isAtEnd.cls = RX10 ∧ yX10_isAtEnd.cls ≠ "java/lang/invoke/MethodHandle" ∧ yX10_isAtEnd.cls ≠ "java/lang/invoke/VarHandle" ∧ (parseMethodDescriptor yX10_isAtEnd.desc).map (fun d => d.parameters.length) = some 0 := by decide +kernel
theorem lk_X4_84 : LinkV RX4 84 RX10 yX10_isAtEnd (.code yX10_isAtEnd cX10_isAtEnd 1 (some .boolean)) 0 := ⟨tw_674, tw_675, tw_676, tw_74, tw_677, yk_X10_isAtEnd⟩
theorem yk_X4_readLine : yX4_readLine.cls = RX4 ∧ yX4_readLine.cls ≠ "java/lang/invoke/MethodHandle" ∧ yX4_readLine.cls ≠ "java/lang/invoke/VarHandle" ∧ (parseMethodDescriptor yX4_readLine.desc).map (fun d => d.parameters.length) = some 1 := by decide +kernel
theorem lk_X4_90 : LinkV RX4 90 RX4 yX4_readLine (.code yX4_readLine cX4_readLine 2 none) 1 := ⟨tw_678, tw_680, tw_3, tw_78, tw_681, yk_X4_readLine⟩
theorem d_X4_read_0 : decode cX4_read 0 = .ok (.aload_n 1, 1) := by decide +kernel
theorem d_X4_read_1 : decode cX4_read 1 = .ok (.invokevirtual 84, 3) := by decide +kernel
theorem d_X4_read_4 : decode cX4_read 4 = .ok (.ifCond .eq 4, 3) := by decide +kernel
theorem d_X4_read_7 : decode cX4_read 7 = .ok (.return_, 1) := by decide +kernel
theorem d_X4_read_8 : decode cX4_read 8 = .ok (.aload_n 0, 1) := by decide +kernel
theorem d_X4_read_9 : decode cX4_read 9 = .ok (.aload_n 1, 1) := by decide +kernel
theorem d_X4_read_10 : decode cX4_read 10 = .ok (.invokevirtual 90, 3) := by decide +kernel
theorem d_X4_read_13 : decode cX4_read 13 = .ok (.iconst 1, 1) := by decide +kernel
theorem d_X4_read_14 : decode cX4_read 14 = .ok (.istore_n 2, 1) := by decide +kernel
theorem d_X4_read_15 : decode cX4_read 15 = .ok (.iload_n 2, 1) := by decide +kernel
theorem d_X4_read_16 : decode cX4_read 16 = .ok (.bipush 14, 2) := by decide +kernel
theorem d_X4_read_18 : decode cX4_read 18 = .ok (.if_icmp .ge 24, 3) := by decide +kernel
theorem d_X4_read_21 : decode cX4_read 21 = .ok (.aload_n 1, 1) := by decide +kernel
theorem d_X4_read_22 : decode cX4_read 22 = .ok (.getstatic 94, 3) := by decide +kernel
theorem d_X4_read_25 : decode cX4_read 25 = .ok (.invokevirtual 100, 3) := by decide +kernel
theorem d_X4_read_28 : decode cX4_read 28 = .ok (.ifCond .eq 14, 3) := by decide +kernel
theorem d_X4_read_31 : decode cX4_read 31 = .ok (.aload_n 0, 1) := by decide +kernel
theorem d_X4_read_32 : decode cX4_read 32 = .ok (.aload_n 1, 1) := by decide +kernel
theorem d_X4_read_33 : decode cX4_read 33 = .ok (.invokevirtual 90, 3) := by decide +kernel
theorem d_X4_read_36 : decode cX4_read 36 = .ok (.iinc 2 1, 3) := by decide +kernel
theorem d_X4_read_39 : decode cX4_read 39 = .ok (.goto (-24), 3) := by decide +kernel
theorem d_X4_read_42 : decode cX4_read 42 = .ok (.aload_n 1, 1) := by decide +kernel
theorem d_X4_read_43 : decode cX4_read 43 = .ok (.getstatic 94, 3) := by decide +kernel
theorem d_X4_read_46 : decode cX4_read 46 = .ok (.invokevirtual 100, 3) := by decide +kernel
theorem d_X4_read_49 : decode cX4_read 49 = .ok (.ifCond .ne 10, 3) := by decide +kernel
theorem d_X4_read_52 : decode cX4_read 52 = .ok (.aload_n 1, 1) := by decide +kernel
theorem d_X4_read_53 : decode cX4_read 53 = .ok (.invokevirtual 84, 3) := by decide +kernel
theorem d_X4_read_56 : decode cX4_read 56 = .ok (.ifCond .ne 7, 3) := by decide +kernel
theorem d_X4_read_59 : decode cX4_read 59 = .ok (.aload_n 1, 1) := by decide +kernel
theorem d_X4_read_60 : decode cX4_read 60 = .ok (.invokevirtual 104, 3) := by decide +kernel
theorem d_X4_read_63 : decode cX4_read 63 = .ok (.return_, 1) := by decide +kernel
abbrev rm_X4_read : Room := { frames := 4, cells := 0, slots := 0, locals := 91 }
def B_X4_read_63 (post : CMu → Prop) (cm : CMu) : Prop := post cm
def B_X4_read_59 (post : CMu → Prop) (cm : CMu) : Prop := w_X10_refuse (fun (u14 : CMu) => B_X4_read_63 post u14)  cm
def B_X4_read_42 (post : CMu → Prop) (cm : CMu) : Prop := w_X10_take (fun (r9 : Bool) (u10 : CMu) => (¬ (r9 = false) → (B_X4_read_59 post u10)) ∧ ((r9 = false) → (w_X10_isAtEnd (fun (r11 : Bool) (u12 : CMu) => (¬ (r11 = false) → (B_X4_read_63 post u12)) ∧ ((r11 = false) → (B_X4_read_59 post u12)))  u10))) 16 cm
def B_X4_read_15 (post : CMu → Prop) : Nat → Nat → Int32 → CMu → Prop
  | 0 => fun _ _ _ => False
  | n + 1 => fun v0 v2 cm => (14 ≤ v2 → (B_X4_read_42 post cm)) ∧ (¬ 14 ≤ v2 → (w_X10_take (fun (r5 : Bool) (u6 : CMu) => ((r5 = false) → (B_X4_read_42 post u6)) ∧ (¬ (r5 = false) → (w_X4_readLine (fun (u8 : CMu) => B_X4_read_15 post n v0 (v2 + 1) u8) v0 u6))) 16 cm))
def w_X4_read (post : CMu → Prop) (a0 : Nat) (cm : CMu) : Prop := w_X10_isAtEnd (fun (r1 : Bool) (u2 : CMu) => ((r1 = false) → (w_X4_readLine (fun (u4 : CMu) => ∃ n15, B_X4_read_15 post n15 a0 1 u4) a0 u2)) ∧ (¬ (r1 = false) → (post u2)))  cm
section G_X4_read
variable {p : Program} {l : Launch} {e : Env} {s : State} {m : MethodId} {args : Array Value} {below : List Frame} {meth : Method} {c : Code} {G : Gd} {ρ : Nat → Nat} {A : Nat → Prop} {mm : Nat → Nat → Int32} {oo : Nat → Int64}
set_option maxHeartbeats 4000000 in
set_option maxRecDepth 100000 in
theorem T_X4_read_63 {post : CMu → Prop} (hl : l.stackTraces = false) (X : MC p l s m args meth c cX4_read 3 RX4 G ρ A) (hr : meth.sig.returnType = none) (hex : ∀ z ∈ c.exceptionTable.toList, False) : ∀ (cm : CMu), B_X4_read_63 post cm → LW p l e rm_X4_read s m args below meth c (Qm below G ρ A (PV (fun u => (u, mm, oo)) post) noX args s 0 0) G ρ A 3 0 0 63 [] [] (cm, mm, oo) := by
  intro cm h
  unfold B_X4_read_63 at h
  exact L_vret (pc := 63) X hr d_X4_read_63 (by decide) (by decide) ⟨_, rfl, rfl, h⟩
set_option maxHeartbeats 4000000 in
set_option maxRecDepth 100000 in
theorem T_X4_read_59 {post : CMu → Prop} (hl : l.stackTraces = false) (X : MC p l s m args meth c cX4_read 3 RX4 G ρ A) (hr : meth.sig.returnType = none) (hex : ∀ z ∈ c.exceptionTable.toList, False) : ∀ (cm : CMu), B_X4_read_59 post cm → LW p l e rm_X4_read s m args below meth c (Qm below G ρ A (PV (fun u => (u, mm, oo)) post) noX args s 0 0) G ρ A 3 0 0 59 [(1, .ref 4)] [] (cm, mm, oo) := by
  intro cm h
  unfold B_X4_read_59 at h
  refine L_aload_n (pc := 59) X d_X4_read_59 rfl 0 rfl ?_
  refine L_callVV (pc := 60) X lk_X4_104 (c_X10_refuse X.hst  h) rfl rfl kd_4 (by decide) rfl rfl ⟨by decide, by decide⟩ ⟨by decide, by decide⟩ (Nat.zero_le _) d_X4_read_60 rfl (fun x κ1 hx => L_nox hx) (fun u14 h => ?_)
  refine LW.sub [] rfl ?_
  exact T_X4_read_63 hl X hr hex   _ h
set_option maxHeartbeats 4000000 in
set_option maxRecDepth 100000 in
theorem T_X4_read_42 {post : CMu → Prop} (hl : l.stackTraces = false) (X : MC p l s m args meth c cX4_read 3 RX4 G ρ A) (hr : meth.sig.returnType = none) (hex : ∀ z ∈ c.exceptionTable.toList, False) : ∀ (cm : CMu), B_X4_read_42 post cm → LW p l e rm_X4_read s m args below meth c (Qm below G ρ A (PV (fun u => (u, mm, oo)) post) noX args s 0 0) G ρ A 3 0 0 42 [(1, .ref 4)] [] (cm, mm, oo) := by
  intro cm h
  unfold B_X4_read_42 at h
  refine L_aload_n (pc := 42) X d_X4_read_42 rfl 0 rfl ?_
  refine L_getsW (pc := 43) X 15 (by decide) rfl (w := 16) (by decide) d_X4_read_43 tw_737 ?_
  refine L_callVZ (pc := 46) X lk_X4_100 (c_X10_take X.hst  h) rfl rfl kd_4 (by decide) rfl rfl ⟨by decide, by decide⟩ ⟨by decide, by decide⟩ (Nat.zero_le _) d_X4_read_46 rfl (fun x κ1 hx => L_nox hx) (fun r9 u10 h => ?_)
  refine L_if_ne (pc := 49) (tgt := 59) X d_X4_read_49 (by decide) (fun c49 => ?_) (fun c49 => ?_)
  · replace h := h.1 (fun z => c49 ((b2_0 _).mpr z))
    refine LW.sub [0] rfl ?_
    exact T_X4_read_59 hl X hr hex   _ h
  · replace h := h.2 ((b2_0 _).mp c49)
    refine L_aload_n (pc := 52) X d_X4_read_52 rfl 0 rfl ?_
    refine L_callVZ (pc := 53) X lk_X4_84 (c_X10_isAtEnd X.hst  h) rfl rfl kd_4 (by decide) rfl rfl ⟨by decide, by decide⟩ ⟨by decide, by decide⟩ (Nat.zero_le _) d_X4_read_53 rfl (fun x κ1 hx => L_nox hx) (fun r11 u12 h => ?_)
    refine L_if_ne (pc := 56) (tgt := 63) X d_X4_read_56 (by decide) (fun c56 => ?_) (fun c56 => ?_)
    · replace h := h.1 (fun z => c56 ((b2_0 _).mpr z))
      refine LW.sub [] rfl ?_
      exact T_X4_read_63 hl X hr hex   _ h
    · replace h := h.2 ((b2_0 _).mp c56)
      refine LW.sub [0] rfl ?_
      exact T_X4_read_59 hl X hr hex   _ h
set_option maxHeartbeats 4000000 in
set_option maxRecDepth 100000 in
theorem T_X4_read_15 {post : CMu → Prop} (hl : l.stackTraces = false) (X : MC p l s m args meth c cX4_read 3 RX4 G ρ A) (hr : meth.sig.returnType = none) (hex : ∀ z ∈ c.exceptionTable.toList, False) (n : Nat) : ∀ (v0 : Nat) (v2 : Int32) (h_v0 : (KD v0).1 = 3) (cm : CMu), B_X4_read_15 post n v0 v2 cm → LW p l e rm_X4_read s m args below meth c (Qm below G ρ A (PV (fun u => (u, mm, oo)) post) noX args s 0 0) G ρ A 3 0 0 15 [(0, .ref v0), (1, .ref 4), (2, .int v2)] [] (cm, mm, oo) := by
  induction n with
  | zero =>
    intro v0 v2 h_v0 cm h
    exact False.elim h
  | succ n ih =>
    intro v0 v2 h_v0 cm h
    unfold B_X4_read_15 at h
    refine L_iload_n (pc := 15) X d_X4_read_15 rfl 2 rfl ?_
    refine L_bipush (pc := 16) (v := 14) X d_X4_read_16 (by decide) ?_
    refine L_icmp_ge (pc := 18) (tgt := 42) X d_X4_read_18 (by decide) (fun c18 => ?_) (fun c18 => ?_)
    · replace h := h.1 c18
      refine LW.sub [1] rfl ?_
      exact T_X4_read_42 hl X hr hex   _ h
    · replace h := h.2 c18
      refine L_aload_n (pc := 21) X d_X4_read_21 rfl 1 rfl ?_
      refine L_getsW (pc := 22) X 15 (by decide) rfl (w := 16) (by decide) d_X4_read_22 tw_737 ?_
      refine L_callVZ (pc := 25) X lk_X4_100 (c_X10_take X.hst  h) rfl rfl kd_4 (by decide) rfl rfl ⟨by decide, by decide⟩ ⟨by decide, by decide⟩ (Nat.zero_le _) d_X4_read_25 rfl (fun x κ1 hx => L_nox hx) (fun r5 u6 h => ?_)
      refine L_if_eq (pc := 28) (tgt := 42) X d_X4_read_28 (by decide) (fun c28 => ?_) (fun c28 => ?_)
      · replace h := h.1 ((b2_0 _).mp c28)
        refine LW.sub [1] rfl ?_
        exact T_X4_read_42 hl X hr hex   _ h
      · replace h := h.2 (fun z => c28 ((b2_0 _).mpr z))
        refine L_aload_n (pc := 31) X d_X4_read_31 rfl 0 rfl ?_
        refine L_aload_n (pc := 32) X d_X4_read_32 rfl 1 rfl ?_
        refine L_callVV (pc := 33) X lk_X4_90 (c_X4_readLine X.hst h_v0 h) rfl rfl h_v0 (by decide) rfl rfl ⟨by decide, by decide⟩ ⟨by decide, by decide⟩ (Nat.zero_le _) d_X4_read_33 rfl (fun x κ1 hx => L_nox hx) (fun u8 h => ?_)
        refine L_iinc (pc := 36) (v := v2 + 1) (lv2 := [(2, .int (v2 + 1)), (0, .ref v0), (1, .ref 4)]) X d_X4_read_36 2 rfl rfl (by decide) rfl ?_
        refine L_goto (pc := 39) (tgt := 15) X d_X4_read_39 (by decide) ?_
        refine LW.sub [1, 2, 0] rfl ?_
        exact ih _ _ h_v0 _ h
set_option maxHeartbeats 4000000 in
set_option maxRecDepth 100000 in
theorem c_X4_read (hl : l.stackTraces = false) {a0 : Nat} (h_a0 : (KD a0).1 = 3) {cm : CMu} {post : CMu → Prop} (h : w_X4_read post a0 cm) : CT l yX4_read (.code yX4_read cX4_read 3 none) rm_X4_read 0 0 G ρ [.ref a0, .ref 4] (cm, mm, oo) (PV (fun u => (u, mm, oo)) post) noX := by
  refine CT_of hl (by decide +kernel) rfl (Nat.le_of_ble_eq_true rfl) (lv0 := [(0, .ref a0), (1, .ref 4)]) rfl (fun p e s m args below meth c A X hr hex hnm => ?_)
  unfold w_X4_read at h
  refine L_aload_n (pc := 0) X d_X4_read_0 rfl 1 rfl ?_
  refine L_callVZ (pc := 1) X lk_X4_84 (c_X10_isAtEnd X.hst  h) rfl rfl kd_4 (by decide) rfl rfl ⟨by decide, by decide⟩ ⟨by decide, by decide⟩ (Nat.zero_le _) d_X4_read_1 rfl (fun x κ1 hx => L_nox hx) (fun r1 u2 h => ?_)
  refine L_if_eq (pc := 4) (tgt := 8) X d_X4_read_4 (by decide) (fun c4 => ?_) (fun c4 => ?_)
  · replace h := h.1 ((b2_0 _).mp c4)
    refine L_aload_n (pc := 8) X d_X4_read_8 rfl 0 rfl ?_
    refine L_aload_n (pc := 9) X d_X4_read_9 rfl 1 rfl ?_
    refine L_callVV (pc := 10) X lk_X4_90 (c_X4_readLine X.hst h_a0 h) rfl rfl h_a0 (by decide) rfl rfl ⟨by decide, by decide⟩ ⟨by decide, by decide⟩ (Nat.zero_le _) d_X4_read_10 rfl (fun x κ1 hx => L_nox hx) (fun u4 h => ?_)
    refine L_iconst (pc := 13) (v := 1) X d_X4_read_13 (by decide) ?_
    refine L_istore_n (pc := 14) (lv2 := [(2, .int 1), (0, .ref a0), (1, .ref 4)]) X d_X4_read_14 rfl (by decide) rfl ?_
    obtain ⟨n15, h⟩ := h
    refine LW.sub [1, 2, 0] rfl ?_
    exact T_X4_read_15 hl X hr hex n15 _ _ h_a0 _ h
  · replace h := h.2 (fun z => c4 ((b2_0 _).mpr z))
    exact L_vret (pc := 7) X hr d_X4_read_7 (by decide) (by decide) ⟨_, rfl, rfl, h⟩
end G_X4_read
theorem d_X5_addStep_0 : decode cX5_addStep 0 = .ok (.aload_n 0, 1) := by decide +kernel
theorem d_X5_addStep_1 : decode cX5_addStep 1 = .ok (.getfield 34, 3) := by decide +kernel
theorem d_X5_addStep_4 : decode cX5_addStep 4 = .ok (.sipush 400, 3) := by decide +kernel
theorem d_X5_addStep_7 : decode cX5_addStep 7 = .ok (.if_icmp .ge 33, 3) := by decide +kernel
theorem d_X5_addStep_10 : decode cX5_addStep 10 = .ok (.aload_n 0, 1) := by decide +kernel
theorem d_X5_addStep_11 : decode cX5_addStep 11 = .ok (.getfield 24, 3) := by decide +kernel
theorem d_X5_addStep_14 : decode cX5_addStep 14 = .ok (.aload_n 0, 1) := by decide +kernel
theorem d_X5_addStep_15 : decode cX5_addStep 15 = .ok (.getfield 34, 3) := by decide +kernel
theorem d_X5_addStep_18 : decode cX5_addStep 18 = .ok (.aload_n 1, 1) := by decide +kernel
theorem d_X5_addStep_19 : decode cX5_addStep 19 = .ok (.aastore, 1) := by decide +kernel
theorem d_X5_addStep_20 : decode cX5_addStep 20 = .ok (.aload_n 0, 1) := by decide +kernel
theorem d_X5_addStep_21 : decode cX5_addStep 21 = .ok (.getfield 27, 3) := by decide +kernel
theorem d_X5_addStep_24 : decode cX5_addStep 24 = .ok (.aload_n 0, 1) := by decide +kernel
theorem d_X5_addStep_25 : decode cX5_addStep 25 = .ok (.getfield 34, 3) := by decide +kernel
theorem d_X5_addStep_28 : decode cX5_addStep 28 = .ok (.iload_n 2, 1) := by decide +kernel
theorem d_X5_addStep_29 : decode cX5_addStep 29 = .ok (.iastore, 1) := by decide +kernel
theorem d_X5_addStep_30 : decode cX5_addStep 30 = .ok (.aload_n 0, 1) := by decide +kernel
theorem d_X5_addStep_31 : decode cX5_addStep 31 = .ok (.dup, 1) := by decide +kernel
theorem d_X5_addStep_32 : decode cX5_addStep 32 = .ok (.getfield 34, 3) := by decide +kernel
theorem d_X5_addStep_35 : decode cX5_addStep 35 = .ok (.iconst 1, 1) := by decide +kernel
theorem d_X5_addStep_36 : decode cX5_addStep 36 = .ok (.iadd, 1) := by decide +kernel
theorem d_X5_addStep_37 : decode cX5_addStep 37 = .ok (.putfield 34, 3) := by decide +kernel
theorem d_X5_addStep_40 : decode cX5_addStep 40 = .ok (.return_, 1) := by decide +kernel
abbrev rm_X5_addStep : Room := { frames := 0, cells := 0, slots := 0, locals := 0 }
def B_X5_addStep_40 (post : CMu → Prop) (cm : CMu) : Prop := post cm
def w_X5_addStep (post : CMu → Prop) (a0 : Nat) (a1 : Fin 32) (x2 : Int32) (cm : CMu) : Prop := (400 ≤ (gI cm a0 7) → (B_X5_addStep_40 post cm)) ∧ (¬ 400 ≤ (gI cm a0 7) → ((vp_in (gI cm a0 7) 400) ∧ (¬ a1 = 0) ∧ (vp_in (gI (uW cm (a0 + 4) (Int32.toNatClampNeg (gI cm a0 7)) a1) a0 7) 400) ∧ B_X5_addStep_40 post (uI (uI (uW cm (a0 + 4) (Int32.toNatClampNeg (gI cm a0 7)) a1) (a0 + 5) (Int32.toNatClampNeg (gI (uW cm (a0 + 4) (Int32.toNatClampNeg (gI cm a0 7)) a1) a0 7)) x2) a0 7 ((gI (uI (uW cm (a0 + 4) (Int32.toNatClampNeg (gI cm a0 7)) a1) (a0 + 5) (Int32.toNatClampNeg (gI (uW cm (a0 + 4) (Int32.toNatClampNeg (gI cm a0 7)) a1) a0 7)) x2) a0 7) + 1))))
section G_X5_addStep
variable {p : Program} {l : Launch} {e : Env} {s : State} {m : MethodId} {args : Array Value} {below : List Frame} {meth : Method} {c : Code} {G : Gd} {ρ : Nat → Nat} {A : Nat → Prop} {mm : Nat → Nat → Int32} {oo : Nat → Int64}
set_option maxHeartbeats 4000000 in
set_option maxRecDepth 100000 in
theorem T_X5_addStep_40 {post : CMu → Prop} (hl : l.stackTraces = false) (X : MC p l s m args meth c cX5_addStep 3 RX5 G ρ A) (hr : meth.sig.returnType = none) (hex : ∀ z ∈ c.exceptionTable.toList, False) : ∀ (cm : CMu), B_X5_addStep_40 post cm → LW p l e rm_X5_addStep s m args below meth c (Qm below G ρ A (PV (fun u => (u, mm, oo)) post) noX args s 0 0) G ρ A 3 0 0 40 [] [] (cm, mm, oo) := by
  intro cm h
  unfold B_X5_addStep_40 at h
  exact L_vret (pc := 40) X hr d_X5_addStep_40 (by decide) (by decide) ⟨_, rfl, rfl, h⟩
set_option maxHeartbeats 4000000 in
set_option maxRecDepth 100000 in
theorem c_X5_addStep (hl : l.stackTraces = false) {a0 : Nat} {a1 : Fin 32} {x2 : Int32} (h_a0 : (KD a0).1 = 4) {cm : CMu} {post : CMu → Prop} (h : w_X5_addStep post a0 a1 x2 cm) : CT l yX5_addStep (.code yX5_addStep cX5_addStep 3 none) rm_X5_addStep 0 0 G ρ [.ref a0, wv a1, .int x2] (cm, mm, oo) (PV (fun u => (u, mm, oo)) post) noX := by
  refine CT_of hl (by decide +kernel) rfl (by simp [wv_cat, cat_r, cat_i, cat_l]) (lv0 := [(0, .ref a0), (1, wv a1), (2, .int x2)]) (by simp [lv_args, wv_cat, cat_r, cat_i, cat_l]) (fun p e s m args below meth c A X hr hex hnm => ?_)
  unfold w_X5_addStep at h
  refine L_aload_n (pc := 0) X d_X5_addStep_0 rfl 0 rfl ?_
  refine gf_X5_34 (pc := 1) X d_X5_addStep_1 h_a0 ?_
  refine L_sipush (pc := 4) (v := 400) X d_X5_addStep_4 (by decide) ?_
  refine L_icmp_ge (pc := 7) (tgt := 40) X d_X5_addStep_7 (by decide) (fun c7 => ?_) (fun c7 => ?_)
  · replace h := h.1 c7
    refine LW.sub [] rfl ?_
    exact T_X5_addStep_40 hl X hr hex   _ h
  · replace h := h.2 c7
    refine L_aload_n (pc := 10) X d_X5_addStep_10 rfl 0 rfl ?_
    refine gf_X5_24 (pc := 11) (b := a0 + 4) X d_X5_addStep_11 h_a0 rfl ?_
    refine L_aload_n (pc := 14) X d_X5_addStep_14 rfl 0 rfl ?_
    refine gf_X5_34 (pc := 15) X d_X5_addStep_15 h_a0 ?_
    refine L_aloadW_n (pc := 18) X d_X5_addStep_18 rfl 1 rfl ?_
    obtain ⟨q1, h⟩ := h
    obtain ⟨q2, h⟩ := h
    refine L_aastW (pc := 19) X (kf_4_3 h_a0) q1 q2 d_X5_addStep_19 ?_
    refine L_aload_n (pc := 20) X d_X5_addStep_20 rfl 0 rfl ?_
    refine gf_X5_27 (pc := 21) (b := a0 + 5) X d_X5_addStep_21 h_a0 rfl ?_
    refine L_aload_n (pc := 24) X d_X5_addStep_24 rfl 0 rfl ?_
    refine gf_X5_34 (pc := 25) X d_X5_addStep_25 h_a0 ?_
    refine L_iload_n (pc := 28) X d_X5_addStep_28 rfl 2 rfl ?_
    obtain ⟨q3, h⟩ := h
    refine L_iast (pc := 29) X d_X5_addStep_29 (kf_4_4 h_a0) q3 ?_
    refine L_aload_n (pc := 30) X d_X5_addStep_30 rfl 0 rfl ?_
    refine L_dup (pc := 31) X d_X5_addStep_31 rfl ?_
    refine gf_X5_34 (pc := 32) X d_X5_addStep_32 h_a0 ?_
    refine L_iconst (pc := 35) (v := 1) X d_X5_addStep_35 (by decide) ?_
    refine L_iadd (pc := 36) X d_X5_addStep_36 ?_
    refine pf_X5_34 (pc := 37) X d_X5_addStep_37 h_a0 ?_
    refine LW.sub [] rfl ?_
    exact T_X5_addStep_40 hl X hr hex   _ h
end G_X5_addStep
theorem d_X5_addAct_0 : decode cX5_addAct 0 = .ok (.aload_n 0, 1) := by decide +kernel
theorem d_X5_addAct_1 : decode cX5_addAct 1 = .ok (.getfield 30, 3) := by decide +kernel
theorem d_X5_addAct_4 : decode cX5_addAct 4 = .ok (.bipush 8, 2) := by decide +kernel
theorem d_X5_addAct_6 : decode cX5_addAct 6 = .ok (.if_icmp .ge 46, 3) := by decide +kernel
theorem d_X5_addAct_9 : decode cX5_addAct 9 = .ok (.aload_n 0, 1) := by decide +kernel
theorem d_X5_addAct_10 : decode cX5_addAct 10 = .ok (.getfield 11, 3) := by decide +kernel
theorem d_X5_addAct_13 : decode cX5_addAct 13 = .ok (.aload_n 0, 1) := by decide +kernel
theorem d_X5_addAct_14 : decode cX5_addAct 14 = .ok (.getfield 30, 3) := by decide +kernel
theorem d_X5_addAct_17 : decode cX5_addAct 17 = .ok (.aload_n 1, 1) := by decide +kernel
theorem d_X5_addAct_18 : decode cX5_addAct 18 = .ok (.aastore, 1) := by decide +kernel
theorem d_X5_addAct_19 : decode cX5_addAct 19 = .ok (.aload_n 0, 1) := by decide +kernel
theorem d_X5_addAct_20 : decode cX5_addAct 20 = .ok (.getfield 17, 3) := by decide +kernel
theorem d_X5_addAct_23 : decode cX5_addAct 23 = .ok (.aload_n 0, 1) := by decide +kernel
theorem d_X5_addAct_24 : decode cX5_addAct 24 = .ok (.getfield 30, 3) := by decide +kernel
theorem d_X5_addAct_27 : decode cX5_addAct 27 = .ok (.iload_n 2, 1) := by decide +kernel
theorem d_X5_addAct_28 : decode cX5_addAct 28 = .ok (.iastore, 1) := by decide +kernel
theorem d_X5_addAct_29 : decode cX5_addAct 29 = .ok (.aload_n 0, 1) := by decide +kernel
theorem d_X5_addAct_30 : decode cX5_addAct 30 = .ok (.getfield 21, 3) := by decide +kernel
theorem d_X5_addAct_33 : decode cX5_addAct 33 = .ok (.aload_n 0, 1) := by decide +kernel
theorem d_X5_addAct_34 : decode cX5_addAct 34 = .ok (.getfield 30, 3) := by decide +kernel
theorem d_X5_addAct_37 : decode cX5_addAct 37 = .ok (.aload_n 0, 1) := by decide +kernel
theorem d_X5_addAct_38 : decode cX5_addAct 38 = .ok (.getfield 34, 3) := by decide +kernel
theorem d_X5_addAct_41 : decode cX5_addAct 41 = .ok (.iastore, 1) := by decide +kernel
theorem d_X5_addAct_42 : decode cX5_addAct 42 = .ok (.aload_n 0, 1) := by decide +kernel
theorem d_X5_addAct_43 : decode cX5_addAct 43 = .ok (.dup, 1) := by decide +kernel
theorem d_X5_addAct_44 : decode cX5_addAct 44 = .ok (.getfield 30, 3) := by decide +kernel
theorem d_X5_addAct_47 : decode cX5_addAct 47 = .ok (.iconst 1, 1) := by decide +kernel
theorem d_X5_addAct_48 : decode cX5_addAct 48 = .ok (.iadd, 1) := by decide +kernel
theorem d_X5_addAct_49 : decode cX5_addAct 49 = .ok (.putfield 30, 3) := by decide +kernel
theorem d_X5_addAct_52 : decode cX5_addAct 52 = .ok (.return_, 1) := by decide +kernel
abbrev rm_X5_addAct : Room := { frames := 0, cells := 0, slots := 0, locals := 0 }
def B_X5_addAct_52 (post : CMu → Prop) (cm : CMu) : Prop := post cm
def w_X5_addAct (post : CMu → Prop) (a0 : Nat) (a1 : Fin 32) (x2 : Int32) (cm : CMu) : Prop := (8 ≤ (gI cm a0 6) → (B_X5_addAct_52 post cm)) ∧ (¬ 8 ≤ (gI cm a0 6) → ((vp_in (gI cm a0 6) 8) ∧ (¬ a1 = 0) ∧ (vp_in (gI (uW cm (a0 + 1) (Int32.toNatClampNeg (gI cm a0 6)) a1) a0 6) 8) ∧ (vp_in (gI (uI (uW cm (a0 + 1) (Int32.toNatClampNeg (gI cm a0 6)) a1) (a0 + 2) (Int32.toNatClampNeg (gI (uW cm (a0 + 1) (Int32.toNatClampNeg (gI cm a0 6)) a1) a0 6)) x2) a0 6) 8) ∧ B_X5_addAct_52 post (uI (uI (uI (uW cm (a0 + 1) (Int32.toNatClampNeg (gI cm a0 6)) a1) (a0 + 2) (Int32.toNatClampNeg (gI (uW cm (a0 + 1) (Int32.toNatClampNeg (gI cm a0 6)) a1) a0 6)) x2) (a0 + 3) (Int32.toNatClampNeg (gI (uI (uW cm (a0 + 1) (Int32.toNatClampNeg (gI cm a0 6)) a1) (a0 + 2) (Int32.toNatClampNeg (gI (uW cm (a0 + 1) (Int32.toNatClampNeg (gI cm a0 6)) a1) a0 6)) x2) a0 6)) (gI (uI (uW cm (a0 + 1) (Int32.toNatClampNeg (gI cm a0 6)) a1) (a0 + 2) (Int32.toNatClampNeg (gI (uW cm (a0 + 1) (Int32.toNatClampNeg (gI cm a0 6)) a1) a0 6)) x2) a0 7)) a0 6 ((gI (uI (uI (uW cm (a0 + 1) (Int32.toNatClampNeg (gI cm a0 6)) a1) (a0 + 2) (Int32.toNatClampNeg (gI (uW cm (a0 + 1) (Int32.toNatClampNeg (gI cm a0 6)) a1) a0 6)) x2) (a0 + 3) (Int32.toNatClampNeg (gI (uI (uW cm (a0 + 1) (Int32.toNatClampNeg (gI cm a0 6)) a1) (a0 + 2) (Int32.toNatClampNeg (gI (uW cm (a0 + 1) (Int32.toNatClampNeg (gI cm a0 6)) a1) a0 6)) x2) a0 6)) (gI (uI (uW cm (a0 + 1) (Int32.toNatClampNeg (gI cm a0 6)) a1) (a0 + 2) (Int32.toNatClampNeg (gI (uW cm (a0 + 1) (Int32.toNatClampNeg (gI cm a0 6)) a1) a0 6)) x2) a0 7)) a0 6) + 1))))
section G_X5_addAct
variable {p : Program} {l : Launch} {e : Env} {s : State} {m : MethodId} {args : Array Value} {below : List Frame} {meth : Method} {c : Code} {G : Gd} {ρ : Nat → Nat} {A : Nat → Prop} {mm : Nat → Nat → Int32} {oo : Nat → Int64}
set_option maxHeartbeats 4000000 in
set_option maxRecDepth 100000 in
theorem T_X5_addAct_52 {post : CMu → Prop} (hl : l.stackTraces = false) (X : MC p l s m args meth c cX5_addAct 3 RX5 G ρ A) (hr : meth.sig.returnType = none) (hex : ∀ z ∈ c.exceptionTable.toList, False) : ∀ (cm : CMu), B_X5_addAct_52 post cm → LW p l e rm_X5_addAct s m args below meth c (Qm below G ρ A (PV (fun u => (u, mm, oo)) post) noX args s 0 0) G ρ A 3 0 0 52 [] [] (cm, mm, oo) := by
  intro cm h
  unfold B_X5_addAct_52 at h
  exact L_vret (pc := 52) X hr d_X5_addAct_52 (by decide) (by decide) ⟨_, rfl, rfl, h⟩
set_option maxHeartbeats 4000000 in
set_option maxRecDepth 100000 in
theorem c_X5_addAct (hl : l.stackTraces = false) {a0 : Nat} {a1 : Fin 32} {x2 : Int32} (h_a0 : (KD a0).1 = 4) {cm : CMu} {post : CMu → Prop} (h : w_X5_addAct post a0 a1 x2 cm) : CT l yX5_addAct (.code yX5_addAct cX5_addAct 3 none) rm_X5_addAct 0 0 G ρ [.ref a0, wv a1, .int x2] (cm, mm, oo) (PV (fun u => (u, mm, oo)) post) noX := by
  refine CT_of hl (by decide +kernel) rfl (by simp [wv_cat, cat_r, cat_i, cat_l]) (lv0 := [(0, .ref a0), (1, wv a1), (2, .int x2)]) (by simp [lv_args, wv_cat, cat_r, cat_i, cat_l]) (fun p e s m args below meth c A X hr hex hnm => ?_)
  unfold w_X5_addAct at h
  refine L_aload_n (pc := 0) X d_X5_addAct_0 rfl 0 rfl ?_
  refine gf_X5_30 (pc := 1) X d_X5_addAct_1 h_a0 ?_
  refine L_bipush (pc := 4) (v := 8) X d_X5_addAct_4 (by decide) ?_
  refine L_icmp_ge (pc := 6) (tgt := 52) X d_X5_addAct_6 (by decide) (fun c6 => ?_) (fun c6 => ?_)
  · replace h := h.1 c6
    refine LW.sub [] rfl ?_
    exact T_X5_addAct_52 hl X hr hex   _ h
  · replace h := h.2 c6
    refine L_aload_n (pc := 9) X d_X5_addAct_9 rfl 0 rfl ?_
    refine gf_X5_11 (pc := 10) (b := a0 + 1) X d_X5_addAct_10 h_a0 rfl ?_
    refine L_aload_n (pc := 13) X d_X5_addAct_13 rfl 0 rfl ?_
    refine gf_X5_30 (pc := 14) X d_X5_addAct_14 h_a0 ?_
    refine L_aloadW_n (pc := 17) X d_X5_addAct_17 rfl 1 rfl ?_
    obtain ⟨q1, h⟩ := h
    obtain ⟨q2, h⟩ := h
    refine L_aastW (pc := 18) X (kf_4_0 h_a0) q1 q2 d_X5_addAct_18 ?_
    refine L_aload_n (pc := 19) X d_X5_addAct_19 rfl 0 rfl ?_
    refine gf_X5_17 (pc := 20) (b := a0 + 2) X d_X5_addAct_20 h_a0 rfl ?_
    refine L_aload_n (pc := 23) X d_X5_addAct_23 rfl 0 rfl ?_
    refine gf_X5_30 (pc := 24) X d_X5_addAct_24 h_a0 ?_
    refine L_iload_n (pc := 27) X d_X5_addAct_27 rfl 2 rfl ?_
    obtain ⟨q3, h⟩ := h
    refine L_iast (pc := 28) X d_X5_addAct_28 (kf_4_1 h_a0) q3 ?_
    refine L_aload_n (pc := 29) X d_X5_addAct_29 rfl 0 rfl ?_
    refine gf_X5_21 (pc := 30) (b := a0 + 3) X d_X5_addAct_30 h_a0 rfl ?_
    refine L_aload_n (pc := 33) X d_X5_addAct_33 rfl 0 rfl ?_
    refine gf_X5_30 (pc := 34) X d_X5_addAct_34 h_a0 ?_
    refine L_aload_n (pc := 37) X d_X5_addAct_37 rfl 0 rfl ?_
    refine gf_X5_34 (pc := 38) X d_X5_addAct_38 h_a0 ?_
    obtain ⟨q4, h⟩ := h
    refine L_iast (pc := 41) X d_X5_addAct_41 (kf_4_2 h_a0) q4 ?_
    refine L_aload_n (pc := 42) X d_X5_addAct_42 rfl 0 rfl ?_
    refine L_dup (pc := 43) X d_X5_addAct_43 rfl ?_
    refine gf_X5_30 (pc := 44) X d_X5_addAct_44 h_a0 ?_
    refine L_iconst (pc := 47) (v := 1) X d_X5_addAct_47 (by decide) ?_
    refine L_iadd (pc := 48) X d_X5_addAct_48 ?_
    refine pf_X5_30 (pc := 49) X d_X5_addAct_49 h_a0 ?_
    refine LW.sub [] rfl ?_
    exact T_X5_addAct_52 hl X hr hex   _ h
end G_X5_addAct
theorem lk_X5_45 : LinkV RX5 45 RX10 yX10_take (.code yX10_take cX10_take 2 (some .boolean)) 1 := ⟨tw_855, tw_689, tw_690, tw_74, tw_691, yk_X10_take⟩
theorem lk_X5_64 : LinkV RX5 64 RX10 yX10_takeNumber (.code yX10_takeNumber cX10_takeNumber 3 (some .int)) 2 := ⟨tw_856, tw_697, tw_698, tw_74, tw_699, yk_X10_takeNumber⟩
theorem yk_X10_demand : yX10_demand.cls = RX10 ∧ yX10_demand.cls ≠ "java/lang/invoke/MethodHandle" ∧ yX10_demand.cls ≠ "java/lang/invoke/VarHandle" ∧ (parseMethodDescriptor yX10_demand.desc).map (fun d => d.parameters.length) = some 1 := by decide +kernel
theorem lk_X5_77 : LinkV RX5 77 RX10 yX10_demand (.code yX10_demand cX10_demand 2 none) 1 := ⟨tw_861, tw_862, tw_863, tw_74, tw_864, yk_X10_demand⟩
theorem d_X5_readHead_0 : decode cX5_readHead 0 = .ok (.aload_n 1, 1) := by decide +kernel
theorem d_X5_readHead_1 : decode cX5_readHead 1 = .ok (.getstatic 61, 3) := by decide +kernel
theorem d_X5_readHead_4 : decode cX5_readHead 4 = .ok (.invokevirtual 45, 3) := by decide +kernel
theorem d_X5_readHead_7 : decode cX5_readHead 7 = .ok (.ifCond .eq 17, 3) := by decide +kernel
theorem d_X5_readHead_10 : decode cX5_readHead 10 = .ok (.aload_n 0, 1) := by decide +kernel
theorem d_X5_readHead_11 : decode cX5_readHead 11 = .ok (.aload_n 1, 1) := by decide +kernel
theorem d_X5_readHead_12 : decode cX5_readHead 12 = .ok (.iconst 1, 1) := by decide +kernel
theorem d_X5_readHead_13 : decode cX5_readHead 13 = .ok (.bipush 11, 2) := by decide +kernel
theorem d_X5_readHead_15 : decode cX5_readHead 15 = .ok (.invokevirtual 64, 3) := by decide +kernel
theorem d_X5_readHead_18 : decode cX5_readHead 18 = .ok (.putfield 68, 3) := by decide +kernel
theorem d_X5_readHead_21 : decode cX5_readHead 21 = .ok (.goto 33, 3) := by decide +kernel
theorem d_X5_readHead_24 : decode cX5_readHead 24 = .ok (.aload_n 1, 1) := by decide +kernel
theorem d_X5_readHead_25 : decode cX5_readHead 25 = .ok (.getstatic 71, 3) := by decide +kernel
theorem d_X5_readHead_28 : decode cX5_readHead 28 = .ok (.invokevirtual 45, 3) := by decide +kernel
theorem d_X5_readHead_31 : decode cX5_readHead 31 = .ok (.ifCond .eq 11, 3) := by decide +kernel
theorem d_X5_readHead_34 : decode cX5_readHead 34 = .ok (.aload_n 0, 1) := by decide +kernel
theorem d_X5_readHead_35 : decode cX5_readHead 35 = .ok (.iconst 0, 1) := by decide +kernel
theorem d_X5_readHead_36 : decode cX5_readHead 36 = .ok (.putfield 68, 3) := by decide +kernel
theorem d_X5_readHead_39 : decode cX5_readHead 39 = .ok (.goto 15, 3) := by decide +kernel
theorem d_X5_readHead_42 : decode cX5_readHead 42 = .ok (.aload_n 1, 1) := by decide +kernel
theorem d_X5_readHead_43 : decode cX5_readHead 43 = .ok (.getstatic 74, 3) := by decide +kernel
theorem d_X5_readHead_46 : decode cX5_readHead 46 = .ok (.invokevirtual 77, 3) := by decide +kernel
theorem d_X5_readHead_49 : decode cX5_readHead 49 = .ok (.aload_n 0, 1) := by decide +kernel
theorem d_X5_readHead_50 : decode cX5_readHead 50 = .ok (.iconst (-1), 1) := by decide +kernel
theorem d_X5_readHead_51 : decode cX5_readHead 51 = .ok (.putfield 68, 3) := by decide +kernel
theorem d_X5_readHead_54 : decode cX5_readHead 54 = .ok (.return_, 1) := by decide +kernel
abbrev rm_X5_readHead : Room := { frames := 2, cells := 0, slots := 0, locals := 42 }
def B_X5_readHead_54 (post : CMu → Prop) (cm : CMu) : Prop := post cm
def w_X5_readHead (post : CMu → Prop) (a0 : Nat) (cm : CMu) : Prop := w_X10_take (fun (r1 : Bool) (u2 : CMu) => ((r1 = false) → (w_X10_take (fun (r3 : Bool) (u4 : CMu) => ((r3 = false) → (w_X10_demand (fun (u6 : CMu) => B_X5_readHead_54 post (uI u6 a0 5 (-1))) 8 u4)) ∧ (¬ (r3 = false) → (B_X5_readHead_54 post (uI u4 a0 5 0)))) 7 u2)) ∧ (¬ (r1 = false) → (w_X10_takeNumber (fun (r7 : Int32) (u8 : CMu) => B_X5_readHead_54 post (uI u8 a0 5 r7)) 1 11 u2))) 6 cm
section G_X5_readHead
variable {p : Program} {l : Launch} {e : Env} {s : State} {m : MethodId} {args : Array Value} {below : List Frame} {meth : Method} {c : Code} {G : Gd} {ρ : Nat → Nat} {A : Nat → Prop} {mm : Nat → Nat → Int32} {oo : Nat → Int64}
set_option maxHeartbeats 4000000 in
set_option maxRecDepth 100000 in
theorem T_X5_readHead_54 {post : CMu → Prop} (hl : l.stackTraces = false) (X : MC p l s m args meth c cX5_readHead 2 RX5 G ρ A) (hr : meth.sig.returnType = none) (hex : ∀ z ∈ c.exceptionTable.toList, False) : ∀ (cm : CMu), B_X5_readHead_54 post cm → LW p l e rm_X5_readHead s m args below meth c (Qm below G ρ A (PV (fun u => (u, mm, oo)) post) noX args s 0 0) G ρ A 2 0 0 54 [] [] (cm, mm, oo) := by
  intro cm h
  unfold B_X5_readHead_54 at h
  exact L_vret (pc := 54) X hr d_X5_readHead_54 (by decide) (by decide) ⟨_, rfl, rfl, h⟩
set_option maxHeartbeats 4000000 in
set_option maxRecDepth 100000 in
theorem c_X5_readHead (hl : l.stackTraces = false) {a0 : Nat} (h_a0 : (KD a0).1 = 4) {cm : CMu} {post : CMu → Prop} (h : w_X5_readHead post a0 cm) : CT l yX5_readHead (.code yX5_readHead cX5_readHead 2 none) rm_X5_readHead 0 0 G ρ [.ref a0, .ref 4] (cm, mm, oo) (PV (fun u => (u, mm, oo)) post) noX := by
  refine CT_of hl (by decide +kernel) rfl (Nat.le_of_ble_eq_true rfl) (lv0 := [(0, .ref a0), (1, .ref 4)]) rfl (fun p e s m args below meth c A X hr hex hnm => ?_)
  unfold w_X5_readHead at h
  refine L_aload_n (pc := 0) X d_X5_readHead_0 rfl 1 rfl ?_
  refine L_getsW (pc := 1) X 5 (by decide) rfl (w := 6) (by decide) d_X5_readHead_1 tw_853 ?_
  refine L_callVZ (pc := 4) X lk_X5_45 (c_X10_take X.hst  h) rfl rfl kd_4 (by decide) rfl rfl ⟨by decide, by decide⟩ ⟨by decide, by decide⟩ (Nat.zero_le _) d_X5_readHead_4 rfl (fun x κ1 hx => L_nox hx) (fun r1 u2 h => ?_)
  refine L_if_eq (pc := 7) (tgt := 24) X d_X5_readHead_7 (by decide) (fun c7 => ?_) (fun c7 => ?_)
  · replace h := h.1 ((b2_0 _).mp c7)
    refine L_aload_n (pc := 24) X d_X5_readHead_24 rfl 1 rfl ?_
    refine L_getsW (pc := 25) X 6 (by decide) rfl (w := 7) (by decide) d_X5_readHead_25 tw_857 ?_
    refine L_callVZ (pc := 28) X lk_X5_45 (c_X10_take X.hst  h) rfl rfl kd_4 (by decide) rfl rfl ⟨by decide, by decide⟩ ⟨by decide, by decide⟩ (Nat.zero_le _) d_X5_readHead_28 rfl (fun x κ1 hx => L_nox hx) (fun r3 u4 h => ?_)
    refine L_if_eq (pc := 31) (tgt := 42) X d_X5_readHead_31 (by decide) (fun c31 => ?_) (fun c31 => ?_)
    · replace h := h.1 ((b2_0 _).mp c31)
      refine L_aload_n (pc := 42) X d_X5_readHead_42 rfl 1 rfl ?_
      refine L_getsW (pc := 43) X 7 (by decide) rfl (w := 8) (by decide) d_X5_readHead_43 tw_859 ?_
      refine L_callVV (pc := 46) X lk_X5_77 (c_X10_demand X.hst  h) rfl rfl kd_4 (by decide) rfl rfl ⟨by decide, by decide⟩ ⟨by decide, by decide⟩ (Nat.zero_le _) d_X5_readHead_46 rfl (fun x κ1 hx => L_nox hx) (fun u6 h => ?_)
      refine L_aload_n (pc := 49) X d_X5_readHead_49 rfl 0 rfl ?_
      refine L_iconst (pc := 50) (v := (-1)) X d_X5_readHead_50 (by decide) ?_
      refine pf_X5_68 (pc := 51) X d_X5_readHead_51 h_a0 ?_
      refine LW.sub [] rfl ?_
      exact T_X5_readHead_54 hl X hr hex   _ h
    · replace h := h.2 (fun z => c31 ((b2_0 _).mpr z))
      refine L_aload_n (pc := 34) X d_X5_readHead_34 rfl 0 rfl ?_
      refine L_iconst (pc := 35) (v := 0) X d_X5_readHead_35 (by decide) ?_
      refine pf_X5_68 (pc := 36) X d_X5_readHead_36 h_a0 ?_
      refine L_goto (pc := 39) (tgt := 54) X d_X5_readHead_39 (by decide) ?_
      refine LW.sub [] rfl ?_
      exact T_X5_readHead_54 hl X hr hex   _ h
  · replace h := h.2 (fun z => c7 ((b2_0 _).mpr z))
    refine L_aload_n (pc := 10) X d_X5_readHead_10 rfl 0 rfl ?_
    refine L_aload_n (pc := 11) X d_X5_readHead_11 rfl 1 rfl ?_
    refine L_iconst (pc := 12) (v := 1) X d_X5_readHead_12 (by decide) ?_
    refine L_bipush (pc := 13) (v := 11) X d_X5_readHead_13 (by decide) ?_
    refine L_callVI (pc := 15) X lk_X5_64 (c_X10_takeNumber X.hst  h) rfl rfl kd_4 (by decide) rfl rfl ⟨by decide, by decide⟩ ⟨by decide, by decide⟩ (Nat.le_of_ble_eq_true rfl) d_X5_readHead_15 rfl (fun x κ1 hx => L_nox hx) (fun r7 u8 h => ?_)
    refine pf_X5_68 (pc := 18) X d_X5_readHead_18 h_a0 ?_
    refine L_goto (pc := 21) (tgt := 54) X d_X5_readHead_21 (by decide) ?_
    refine LW.sub [] rfl ?_
    exact T_X5_readHead_54 hl X hr hex   _ h
end G_X5_readHead
theorem d_X5_behindQuestion_0 : decode cX5_behindQuestion 0 = .ok (.iload_n 1, 1) := by decide +kernel
theorem d_X5_behindQuestion_1 : decode cX5_behindQuestion 1 = .ok (.iconst 1, 1) := by decide +kernel
theorem d_X5_behindQuestion_2 : decode cX5_behindQuestion 2 = .ok (.iadd, 1) := by decide +kernel
theorem d_X5_behindQuestion_3 : decode cX5_behindQuestion 3 = .ok (.aload_n 0, 1) := by decide +kernel
theorem d_X5_behindQuestion_4 : decode cX5_behindQuestion 4 = .ok (.getfield 30, 3) := by decide +kernel
theorem d_X5_behindQuestion_7 : decode cX5_behindQuestion 7 = .ok (.if_icmp .ge 22, 3) := by decide +kernel
theorem d_X5_behindQuestion_10 : decode cX5_behindQuestion 10 = .ok (.iload_n 1, 1) := by decide +kernel
theorem d_X5_behindQuestion_11 : decode cX5_behindQuestion 11 = .ok (.iconst 1, 1) := by decide +kernel
theorem d_X5_behindQuestion_12 : decode cX5_behindQuestion 12 = .ok (.iadd, 1) := by decide +kernel
theorem d_X5_behindQuestion_13 : decode cX5_behindQuestion 13 = .ok (.bipush 8, 2) := by decide +kernel
theorem d_X5_behindQuestion_15 : decode cX5_behindQuestion 15 = .ok (.if_icmp .ge 14, 3) := by decide +kernel
theorem d_X5_behindQuestion_18 : decode cX5_behindQuestion 18 = .ok (.aload_n 0, 1) := by decide +kernel
theorem d_X5_behindQuestion_19 : decode cX5_behindQuestion 19 = .ok (.getfield 21, 3) := by decide +kernel
theorem d_X5_behindQuestion_22 : decode cX5_behindQuestion 22 = .ok (.iload_n 1, 1) := by decide +kernel
theorem d_X5_behindQuestion_23 : decode cX5_behindQuestion 23 = .ok (.iconst 1, 1) := by decide +kernel
theorem d_X5_behindQuestion_24 : decode cX5_behindQuestion 24 = .ok (.iadd, 1) := by decide +kernel
theorem d_X5_behindQuestion_25 : decode cX5_behindQuestion 25 = .ok (.iaload, 1) := by decide +kernel
theorem d_X5_behindQuestion_26 : decode cX5_behindQuestion 26 = .ok (.goto 7, 3) := by decide +kernel
theorem d_X5_behindQuestion_29 : decode cX5_behindQuestion 29 = .ok (.aload_n 0, 1) := by decide +kernel
theorem d_X5_behindQuestion_30 : decode cX5_behindQuestion 30 = .ok (.getfield 34, 3) := by decide +kernel
theorem d_X5_behindQuestion_33 : decode cX5_behindQuestion 33 = .ok (.ireturn, 1) := by decide +kernel
abbrev rm_X5_behindQuestion : Room := { frames := 0, cells := 0, slots := 0, locals := 0 }
def w_X5_behindQuestion (post : Int32 → CMu → Prop) (a0 : Nat) (x1 : Int32) (cm : CMu) : Prop := ((gI cm a0 6) ≤ (x1 + 1) → (post (gI cm a0 7) cm)) ∧ (¬ (gI cm a0 6) ≤ (x1 + 1) → ((8 ≤ (x1 + 1) → (post (gI cm a0 7) cm)) ∧ (¬ 8 ≤ (x1 + 1) → ((vp_in (x1 + 1) 8) ∧ post (gI cm (a0 + 3) (Int32.toNatClampNeg (x1 + 1))) cm))))
section G_X5_behindQuestion
variable {p : Program} {l : Launch} {e : Env} {s : State} {m : MethodId} {args : Array Value} {below : List Frame} {meth : Method} {c : Code} {G : Gd} {ρ : Nat → Nat} {A : Nat → Prop} {mm : Nat → Nat → Int32} {oo : Nat → Int64}
set_option maxHeartbeats 4000000 in
set_option maxRecDepth 100000 in
theorem c_X5_behindQuestion (hl : l.stackTraces = false) {a0 : Nat} {x1 : Int32} (h_a0 : (KD a0).1 = 4) {cm : CMu} {post : Int32 → CMu → Prop} (h : w_X5_behindQuestion post a0 x1 cm) : CT l yX5_behindQuestion (.code yX5_behindQuestion cX5_behindQuestion 2 (some .int)) rm_X5_behindQuestion 0 0 G ρ [.ref a0, .int x1] (cm, mm, oo) (PI (fun u => (u, mm, oo)) post) noX := by
  refine CT_of hl (by decide +kernel) rfl (Nat.le_of_ble_eq_true rfl) (lv0 := [(0, .ref a0), (1, .int x1)]) rfl (fun p e s m args below meth c A X hr hex hnm => ?_)
  unfold w_X5_behindQuestion at h
  refine L_iload_n (pc := 0) X d_X5_behindQuestion_0 rfl 1 rfl ?_
  refine L_iconst (pc := 1) (v := 1) X d_X5_behindQuestion_1 (by decide) ?_
  refine L_iadd (pc := 2) X d_X5_behindQuestion_2 ?_
  refine L_aload_n (pc := 3) X d_X5_behindQuestion_3 rfl 0 rfl ?_
  refine gf_X5_30 (pc := 4) X d_X5_behindQuestion_4 h_a0 ?_
  refine L_icmp_ge (pc := 7) (tgt := 29) X d_X5_behindQuestion_7 (by decide) (fun c7 => ?_) (fun c7 => ?_)
  · replace h := h.1 c7
    refine L_aload_n (pc := 29) X d_X5_behindQuestion_29 rfl 0 rfl ?_
    refine gf_X5_34 (pc := 30) X d_X5_behindQuestion_30 h_a0 ?_
    exact L_iret (pc := 33) X hr d_X5_behindQuestion_33 (by decide) (by decide) ⟨_, _, rfl, rfl, h⟩
  · replace h := h.2 c7
    refine L_iload_n (pc := 10) X d_X5_behindQuestion_10 rfl 1 rfl ?_
    refine L_iconst (pc := 11) (v := 1) X d_X5_behindQuestion_11 (by decide) ?_
    refine L_iadd (pc := 12) X d_X5_behindQuestion_12 ?_
    refine L_bipush (pc := 13) (v := 8) X d_X5_behindQuestion_13 (by decide) ?_
    refine L_icmp_ge (pc := 15) (tgt := 29) X d_X5_behindQuestion_15 (by decide) (fun c15 => ?_) (fun c15 => ?_)
    · replace h := h.1 c15
      refine L_aload_n (pc := 29) X d_X5_behindQuestion_29 rfl 0 rfl ?_
      refine gf_X5_34 (pc := 30) X d_X5_behindQuestion_30 h_a0 ?_
      exact L_iret (pc := 33) X hr d_X5_behindQuestion_33 (by decide) (by decide) ⟨_, _, rfl, rfl, h⟩
    · replace h := h.2 c15
      refine L_aload_n (pc := 18) X d_X5_behindQuestion_18 rfl 0 rfl ?_
      refine gf_X5_21 (pc := 19) (b := a0 + 3) X d_X5_behindQuestion_19 h_a0 rfl ?_
      refine L_iload_n (pc := 22) X d_X5_behindQuestion_22 rfl 1 rfl ?_
      refine L_iconst (pc := 23) (v := 1) X d_X5_behindQuestion_23 (by decide) ?_
      refine L_iadd (pc := 24) X d_X5_behindQuestion_24 ?_
      obtain ⟨q1, h⟩ := h
      refine L_iald (pc := 25) X d_X5_behindQuestion_25 (kf_4_2 h_a0) q1 ?_
      refine L_goto (pc := 26) (tgt := 33) X d_X5_behindQuestion_26 (by decide) ?_
      exact L_iret (pc := 33) X hr d_X5_behindQuestion_33 (by decide) (by decide) ⟨_, _, rfl, rfl, h⟩
end G_X5_behindQuestion
theorem lk_X5_58 : LinkV RX5 58 RX10 yX10_refuse (.code yX10_refuse cX10_refuse 1 none) 0 := ⟨tw_917, tw_701, tw_702, tw_74, tw_703, yk_X10_refuse⟩
theorem yk_X5_addStep : yX5_addStep.cls = RX5 ∧ yX5_addStep.cls ≠ "java/lang/invoke/MethodHandle" ∧ yX5_addStep.cls ≠ "java/lang/invoke/VarHandle" ∧ (parseMethodDescriptor yX5_addStep.desc).map (fun d => d.parameters.length) = some 2 := by decide +kernel
theorem lk_X5_110 : LinkV RX5 110 RX5 yX5_addStep (.code yX5_addStep cX5_addStep 3 none) 2 := ⟨tw_899, tw_901, tw_16, tw_76, tw_902, yk_X5_addStep⟩
theorem yk_X10_takePart : yX10_takePart.cls = RX10 ∧ yX10_takePart.cls ≠ "java/lang/invoke/MethodHandle" ∧ yX10_takePart.cls ≠ "java/lang/invoke/VarHandle" ∧ (parseMethodDescriptor yX10_takePart.desc).map (fun d => d.parameters.length) = some 0 := by decide +kernel
theorem lk_X5_140 : LinkV RX5 140 RX10 yX10_takePart (.code yX10_takePart cX10_takePart 1 (some (.object "FlumeOrders$Word"))) 0 := ⟨tw_912, tw_913, tw_914, tw_74, tw_915, yk_X10_takePart⟩
theorem d_X5_sum_0 : decode cX5_sum 0 = .ok (.iconst 0, 1) := by decide +kernel
theorem d_X5_sum_1 : decode cX5_sum 1 = .ok (.istore_n 2, 1) := by decide +kernel
theorem d_X5_sum_2 : decode cX5_sum 2 = .ok (.aload_n 1, 1) := by decide +kernel
theorem d_X5_sum_3 : decode cX5_sum 3 = .ok (.invokevirtual 140, 3) := by decide +kernel
theorem d_X5_sum_6 : decode cX5_sum 6 = .ok (.astore_n 3, 1) := by decide +kernel
theorem d_X5_sum_7 : decode cX5_sum 7 = .ok (.aload_n 3, 1) := by decide +kernel
theorem d_X5_sum_8 : decode cX5_sum 8 = .ok (.getstatic 144, 3) := by decide +kernel
theorem d_X5_sum_11 : decode cX5_sum 11 = .ok (.if_acmp .ne 8, 3) := by decide +kernel
theorem d_X5_sum_14 : decode cX5_sum 14 = .ok (.aload_n 1, 1) := by decide +kernel
theorem d_X5_sum_15 : decode cX5_sum 15 = .ok (.invokevirtual 58, 3) := by decide +kernel
theorem d_X5_sum_18 : decode cX5_sum 18 = .ok (.return_, 1) := by decide +kernel
theorem d_X5_sum_19 : decode cX5_sum 19 = .ok (.aload_n 0, 1) := by decide +kernel
theorem d_X5_sum_20 : decode cX5_sum 20 = .ok (.aload_n 3, 1) := by decide +kernel
theorem d_X5_sum_21 : decode cX5_sum 21 = .ok (.aload_n 1, 1) := by decide +kernel
theorem d_X5_sum_22 : decode cX5_sum 22 = .ok (.getfield 147, 3) := by decide +kernel
theorem d_X5_sum_25 : decode cX5_sum 25 = .ok (.invokevirtual 110, 3) := by decide +kernel
theorem d_X5_sum_28 : decode cX5_sum 28 = .ok (.iload_n 2, 1) := by decide +kernel
theorem d_X5_sum_29 : decode cX5_sum 29 = .ok (.ifCond .le 11, 3) := by decide +kernel
theorem d_X5_sum_32 : decode cX5_sum 32 = .ok (.aload_n 0, 1) := by decide +kernel
theorem d_X5_sum_33 : decode cX5_sum 33 = .ok (.getstatic 150, 3) := by decide +kernel
theorem d_X5_sum_36 : decode cX5_sum 36 = .ok (.iconst 0, 1) := by decide +kernel
theorem d_X5_sum_37 : decode cX5_sum 37 = .ok (.invokevirtual 110, 3) := by decide +kernel
theorem d_X5_sum_40 : decode cX5_sum 40 = .ok (.iinc 2 1, 3) := by decide +kernel
theorem d_X5_sum_43 : decode cX5_sum 43 = .ok (.iload_n 2, 1) := by decide +kernel
theorem d_X5_sum_44 : decode cX5_sum 44 = .ok (.sipush 400, 3) := by decide +kernel
theorem d_X5_sum_47 : decode cX5_sum 47 = .ok (.if_icmp .ge 13, 3) := by decide +kernel
theorem d_X5_sum_50 : decode cX5_sum 50 = .ok (.aload_n 1, 1) := by decide +kernel
theorem d_X5_sum_51 : decode cX5_sum 51 = .ok (.getstatic 150, 3) := by decide +kernel
theorem d_X5_sum_54 : decode cX5_sum 54 = .ok (.invokevirtual 45, 3) := by decide +kernel
theorem d_X5_sum_57 : decode cX5_sum 57 = .ok (.ifCond .ne (-55), 3) := by decide +kernel
theorem d_X5_sum_60 : decode cX5_sum 60 = .ok (.return_, 1) := by decide +kernel
abbrev rm_X5_sum : Room := { frames := 1, cells := 0, slots := 0, locals := 22 }
def B_X5_sum_60 (post : CMu → Prop) (cm : CMu) : Prop := post cm
def B_X5_sum_40 (post : CMu → Prop) (k2 : Nat → Int32 → CMu → Prop) (v0 : Nat) (v2 : Int32) (cm : CMu) : Prop := (400 ≤ (v2 + 1) → (B_X5_sum_60 post cm)) ∧ (¬ 400 ≤ (v2 + 1) → (w_X10_take (fun (r9 : Bool) (u10 : CMu) => (¬ (r9 = false) → (k2 v0 (v2 + 1) u10)) ∧ ((r9 = false) → (B_X5_sum_60 post u10))) 27 cm))
def B_X5_sum_2 (post : CMu → Prop) : Nat → Nat → Int32 → CMu → Prop
  | 0 => fun _ _ _ => False
  | n + 1 => fun v0 v2 cm => w_X10_takePart (fun (r1 : Fin 32) (u2 : CMu) => (¬ r1 = 31 → (w_X5_addStep (fun (u4 : CMu) => (v2 ≤ 0 → (B_X5_sum_40 post (B_X5_sum_2 post n) v0 v2 u4)) ∧ (¬ v2 ≤ 0 → (w_X5_addStep (fun (u6 : CMu) => B_X5_sum_40 post (B_X5_sum_2 post n) v0 v2 u6) v0 27 0 u4))) v0 r1 (gI u2 4 6) u2)) ∧ (r1 = 31 → (w_X10_refuse (fun (u8 : CMu) => post u8)  u2)))  cm
def w_X5_sum (post : CMu → Prop) (a0 : Nat) (cm : CMu) : Prop := ∃ n2, B_X5_sum_2 post n2 a0 0 cm
section G_X5_sum
variable {p : Program} {l : Launch} {e : Env} {s : State} {m : MethodId} {args : Array Value} {below : List Frame} {meth : Method} {c : Code} {G : Gd} {ρ : Nat → Nat} {A : Nat → Prop} {mm : Nat → Nat → Int32} {oo : Nat → Int64}
set_option maxHeartbeats 4000000 in
set_option maxRecDepth 100000 in
theorem T_X5_sum_60 {post : CMu → Prop} (hl : l.stackTraces = false) (X : MC p l s m args meth c cX5_sum 4 RX5 G ρ A) (hr : meth.sig.returnType = none) (hex : ∀ z ∈ c.exceptionTable.toList, False) : ∀ (cm : CMu), B_X5_sum_60 post cm → LW p l e rm_X5_sum s m args below meth c (Qm below G ρ A (PV (fun u => (u, mm, oo)) post) noX args s 0 0) G ρ A 4 0 0 60 [] [] (cm, mm, oo) := by
  intro cm h
  unfold B_X5_sum_60 at h
  exact L_vret (pc := 60) X hr d_X5_sum_60 (by decide) (by decide) ⟨_, rfl, rfl, h⟩
set_option maxHeartbeats 4000000 in
set_option maxRecDepth 100000 in
theorem T_X5_sum_40 {post : CMu → Prop} {k2 : Nat → Int32 → CMu → Prop} (hl : l.stackTraces = false) (X : MC p l s m args meth c cX5_sum 4 RX5 G ρ A) (hr : meth.sig.returnType = none) (hex : ∀ z ∈ c.exceptionTable.toList, False)
    (hk2 : ∀ (v0 : Nat) (v2 : Int32) (h_v0 : (KD v0).1 = 4) (cm : CMu), k2 v0 v2 cm → LW p l e rm_X5_sum s m args below meth c (Qm below G ρ A (PV (fun u => (u, mm, oo)) post) noX args s 0 0) G ρ A 4 0 0 2 [(0, .ref v0), (1, .ref 4), (2, .int v2)] [] (cm, mm, oo)) : ∀ (v0 : Nat) (v2 : Int32) (h_v0 : (KD v0).1 = 4) (cm : CMu), B_X5_sum_40 post k2 v0 v2 cm → LW p l e rm_X5_sum s m args below meth c (Qm below G ρ A (PV (fun u => (u, mm, oo)) post) noX args s 0 0) G ρ A 4 0 0 40 [(0, .ref v0), (1, .ref 4), (2, .int v2)] [] (cm, mm, oo) := by
  intro v0 v2 h_v0 cm h
  unfold B_X5_sum_40 at h
  refine L_iinc (pc := 40) (v := v2 + 1) (lv2 := [(2, .int (v2 + 1)), (0, .ref v0), (1, .ref 4)]) X d_X5_sum_40 2 rfl rfl (by decide) rfl ?_
  refine L_iload_n (pc := 43) X d_X5_sum_43 rfl 0 rfl ?_
  refine L_sipush (pc := 44) (v := 400) X d_X5_sum_44 (by decide) ?_
  refine L_icmp_ge (pc := 47) (tgt := 60) X d_X5_sum_47 (by decide) (fun c47 => ?_) (fun c47 => ?_)
  · replace h := h.1 c47
    refine LW.sub [] rfl ?_
    exact T_X5_sum_60 hl X hr hex   _ h
  · replace h := h.2 c47
    refine L_aload_n (pc := 50) X d_X5_sum_50 rfl 2 rfl ?_
    refine L_getsW (pc := 51) X 26 (by decide) rfl (w := 27) (by decide) d_X5_sum_51 tw_918 ?_
    refine L_callVZ (pc := 54) X lk_X5_45 (c_X10_take X.hst  h) rfl rfl kd_4 (by decide) rfl rfl ⟨by decide, by decide⟩ ⟨by decide, by decide⟩ (Nat.zero_le _) d_X5_sum_54 rfl (fun x κ1 hx => L_nox hx) (fun r9 u10 h => ?_)
    refine L_if_ne (pc := 57) (tgt := 2) X d_X5_sum_57 (by decide) (fun c57 => ?_) (fun c57 => ?_)
    · replace h := h.1 (fun z => c57 ((b2_0 _).mpr z))
      refine LW.sub [1, 2, 0] rfl ?_
      exact hk2 _ _ h_v0 _ h
    · replace h := h.2 ((b2_0 _).mp c57)
      refine LW.sub [] rfl ?_
      exact T_X5_sum_60 hl X hr hex   _ h
set_option maxHeartbeats 4000000 in
set_option maxRecDepth 100000 in
theorem T_X5_sum_2 {post : CMu → Prop} (hl : l.stackTraces = false) (X : MC p l s m args meth c cX5_sum 4 RX5 G ρ A) (hr : meth.sig.returnType = none) (hex : ∀ z ∈ c.exceptionTable.toList, False) (n : Nat) : ∀ (v0 : Nat) (v2 : Int32) (h_v0 : (KD v0).1 = 4) (cm : CMu), B_X5_sum_2 post n v0 v2 cm → LW p l e rm_X5_sum s m args below meth c (Qm below G ρ A (PV (fun u => (u, mm, oo)) post) noX args s 0 0) G ρ A 4 0 0 2 [(0, .ref v0), (1, .ref 4), (2, .int v2)] [] (cm, mm, oo) := by
  induction n with
  | zero =>
    intro v0 v2 h_v0 cm h
    exact False.elim h
  | succ n ih =>
    intro v0 v2 h_v0 cm h
    unfold B_X5_sum_2 at h
    refine L_aload_n (pc := 2) X d_X5_sum_2 rfl 1 rfl ?_
    refine L_callVW (pc := 3) X lk_X5_140 (c_X10_takePart X.hst  h) rfl rfl kd_4 (by decide) rfl rfl ⟨by decide, by decide⟩ ⟨by decide, by decide⟩ (Nat.zero_le _) d_X5_sum_3 rfl (fun x κ1 hx => L_nox hx) (fun r1 u2 h => ?_)
    refine L_astoreW_n (pc := 6) (lv2 := [(3, wv r1), (0, .ref v0), (1, .ref 4), (2, .int v2)]) X d_X5_sum_6 rfl (by decide) rfl ?_
    refine L_aloadW_n (pc := 7) X d_X5_sum_7 rfl 0 rfl ?_
    refine L_getsW (pc := 8) X 30 (by decide) rfl (w := 31) (by decide) d_X5_sum_8 tw_916 ?_
    refine L_acmp_ne (pc := 11) (tgt := 19) X d_X5_sum_11 (by decide) (fun c11 => ?_) (fun c11 => ?_)
    · replace h := h.1 c11
      refine L_aload_n (pc := 19) X d_X5_sum_19 rfl 1 rfl ?_
      refine L_aloadW_n (pc := 20) X d_X5_sum_20 rfl 0 rfl ?_
      refine L_aload_n (pc := 21) X d_X5_sum_21 rfl 2 rfl ?_
      refine gf_X5_147 (pc := 22) X d_X5_sum_22 kd_4 ?_
      refine L_callVV (pc := 25) X lk_X5_110 (c_X5_addStep X.hst h_v0 h) rfl rfl h_v0 (by decide) rfl rfl ⟨by decide, by decide⟩ ⟨by decide, by decide⟩ (Nat.zero_le _) d_X5_sum_25 rfl (fun x κ1 hx => L_nox hx) (fun u4 h => ?_)
      refine L_iload_n (pc := 28) X d_X5_sum_28 rfl 3 rfl ?_
      refine L_if_le (pc := 29) (tgt := 40) X d_X5_sum_29 (by decide) (fun c29 => ?_) (fun c29 => ?_)
      · replace h := h.1 c29
        refine LW.sub [1, 2, 3] rfl ?_
        exact T_X5_sum_40 hl X hr hex ih _ _ h_v0 _ h
      · replace h := h.2 c29
        refine L_aload_n (pc := 32) X d_X5_sum_32 rfl 1 rfl ?_
        refine L_getsW (pc := 33) X 26 (by decide) rfl (w := 27) (by decide) d_X5_sum_33 tw_918 ?_
        refine L_iconst (pc := 36) (v := 0) X d_X5_sum_36 (by decide) ?_
        refine L_callVV (pc := 37) X lk_X5_110 (c_X5_addStep X.hst h_v0 h) rfl rfl h_v0 (by decide) rfl rfl ⟨by decide, by decide⟩ ⟨by decide, by decide⟩ (Nat.zero_le _) d_X5_sum_37 rfl (fun x κ1 hx => L_nox hx) (fun u6 h => ?_)
        refine LW.sub [1, 2, 3] rfl ?_
        exact T_X5_sum_40 hl X hr hex ih _ _ h_v0 _ h
    · replace h := h.2 c11
      refine L_aload_n (pc := 14) X d_X5_sum_14 rfl 2 rfl ?_
      refine L_callVV (pc := 15) X lk_X5_58 (c_X10_refuse X.hst  h) rfl rfl kd_4 (by decide) rfl rfl ⟨by decide, by decide⟩ ⟨by decide, by decide⟩ (Nat.zero_le _) d_X5_sum_15 rfl (fun x κ1 hx => L_nox hx) (fun u8 h => ?_)
      exact L_vret (pc := 18) X hr d_X5_sum_18 (by decide) (by decide) ⟨_, rfl, rfl, h⟩
set_option maxHeartbeats 4000000 in
set_option maxRecDepth 100000 in
theorem c_X5_sum (hl : l.stackTraces = false) {a0 : Nat} (h_a0 : (KD a0).1 = 4) {cm : CMu} {post : CMu → Prop} (h : w_X5_sum post a0 cm) : CT l yX5_sum (.code yX5_sum cX5_sum 4 none) rm_X5_sum 0 0 G ρ [.ref a0, .ref 4] (cm, mm, oo) (PV (fun u => (u, mm, oo)) post) noX := by
  refine CT_of hl (by decide +kernel) rfl (Nat.le_of_ble_eq_true rfl) (lv0 := [(0, .ref a0), (1, .ref 4)]) rfl (fun p e s m args below meth c A X hr hex hnm => ?_)
  unfold w_X5_sum at h
  refine L_iconst (pc := 0) (v := 0) X d_X5_sum_0 (by decide) ?_
  refine L_istore_n (pc := 1) (lv2 := [(2, .int 0), (0, .ref a0), (1, .ref 4)]) X d_X5_sum_1 rfl (by decide) rfl ?_
  obtain ⟨n2, h⟩ := h
  refine LW.sub [1, 2, 0] rfl ?_
  exact T_X5_sum_2 hl X hr hex n2 _ _ h_a0 _ h
end G_X5_sum
