theorem yk_X9_useUp : yX9_useUp.cls = RX9 ∧ yX9_useUp.cls ≠ "java/lang/invoke/MethodHandle" ∧ yX9_useUp.cls ≠ "java/lang/invoke/VarHandle" ∧ (parseMethodDescriptor yX9_useUp.desc).map (fun d => d.parameters.length) = some 0 := by decide +kernel
theorem lk_X8_28 : LinkV RX8 28 RX9 yX9_useUp (.code yX9_useUp cX9_useUp 2 (some .int)) 0 := ⟨tw_1196, tw_580, tw_581, tw_73, tw_582, yk_X9_useUp⟩
theorem d_X8_read_0 : decode cX8_read 0 = .ok (.aload_n 0, 1) := by decide +kernel
theorem d_X8_read_1 : decode cX8_read 1 = .ok (.iconst 0, 1) := by decide +kernel
theorem d_X8_read_2 : decode cX8_read 2 = .ok (.putfield 24, 3) := by decide +kernel
theorem d_X8_read_5 : decode cX8_read 5 = .ok (.aload_n 1, 1) := by decide +kernel
theorem d_X8_read_6 : decode cX8_read 6 = .ok (.invokevirtual 28, 3) := by decide +kernel
theorem d_X8_read_9 : decode cX8_read 9 = .ok (.istore_n 2, 1) := by decide +kernel
theorem d_X8_read_10 : decode cX8_read 10 = .ok (.iload_n 2, 1) := by decide +kernel
theorem d_X8_read_11 : decode cX8_read 11 = .ok (.iconst 1, 1) := by decide +kernel
theorem d_X8_read_12 : decode cX8_read 12 = .ok (.if_icmp .lt 9, 3) := by decide +kernel
theorem d_X8_read_15 : decode cX8_read 15 = .ok (.iload_n 2, 1) := by decide +kernel
theorem d_X8_read_16 : decode cX8_read 16 = .ok (.bipush 6, 2) := by decide +kernel
theorem d_X8_read_18 : decode cX8_read 18 = .ok (.if_icmp .le 5, 3) := by decide +kernel
theorem d_X8_read_21 : decode cX8_read 21 = .ok (.iconst 0, 1) := by decide +kernel
theorem d_X8_read_22 : decode cX8_read 22 = .ok (.ireturn, 1) := by decide +kernel
theorem d_X8_read_23 : decode cX8_read 23 = .ok (.iconst 0, 1) := by decide +kernel
theorem d_X8_read_24 : decode cX8_read 24 = .ok (.istore_n 3, 1) := by decide +kernel
theorem d_X8_read_25 : decode cX8_read 25 = .ok (.iload_n 3, 1) := by decide +kernel
theorem d_X8_read_26 : decode cX8_read 26 = .ok (.iload_n 2, 1) := by decide +kernel
theorem d_X8_read_27 : decode cX8_read 27 = .ok (.if_icmp .ge 47, 3) := by decide +kernel
theorem d_X8_read_30 : decode cX8_read 30 = .ok (.aload_n 0, 1) := by decide +kernel
theorem d_X8_read_31 : decode cX8_read 31 = .ok (.getfield 9, 3) := by decide +kernel
theorem d_X8_read_34 : decode cX8_read 34 = .ok (.iload_n 3, 1) := by decide +kernel
theorem d_X8_read_35 : decode cX8_read 35 = .ok (.aload_n 1, 1) := by decide +kernel
theorem d_X8_read_36 : decode cX8_read 36 = .ok (.getfield 34, 3) := by decide +kernel
theorem d_X8_read_39 : decode cX8_read 39 = .ok (.iload_n 3, 1) := by decide +kernel
theorem d_X8_read_40 : decode cX8_read 40 = .ok (.iaload, 1) := by decide +kernel
theorem d_X8_read_41 : decode cX8_read 41 = .ok (.bipush 48, 2) := by decide +kernel
theorem d_X8_read_43 : decode cX8_read 43 = .ok (.isub, 1) := by decide +kernel
theorem d_X8_read_44 : decode cX8_read 44 = .ok (.iastore, 1) := by decide +kernel
theorem d_X8_read_45 : decode cX8_read 45 = .ok (.aload_n 0, 1) := by decide +kernel
theorem d_X8_read_46 : decode cX8_read 46 = .ok (.getfield 9, 3) := by decide +kernel
theorem d_X8_read_49 : decode cX8_read 49 = .ok (.iload_n 3, 1) := by decide +kernel
theorem d_X8_read_50 : decode cX8_read 50 = .ok (.iaload, 1) := by decide +kernel
theorem d_X8_read_51 : decode cX8_read 51 = .ok (.iconst 1, 1) := by decide +kernel
theorem d_X8_read_52 : decode cX8_read 52 = .ok (.if_icmp .lt 14, 3) := by decide +kernel
theorem d_X8_read_55 : decode cX8_read 55 = .ok (.aload_n 0, 1) := by decide +kernel
theorem d_X8_read_56 : decode cX8_read 56 = .ok (.getfield 9, 3) := by decide +kernel
theorem d_X8_read_59 : decode cX8_read 59 = .ok (.iload_n 3, 1) := by decide +kernel
theorem d_X8_read_60 : decode cX8_read 60 = .ok (.iaload, 1) := by decide +kernel
theorem d_X8_read_61 : decode cX8_read 61 = .ok (.bipush 9, 2) := by decide +kernel
theorem d_X8_read_63 : decode cX8_read 63 = .ok (.if_icmp .le 5, 3) := by decide +kernel
theorem d_X8_read_66 : decode cX8_read 66 = .ok (.iconst 0, 1) := by decide +kernel
theorem d_X8_read_67 : decode cX8_read 67 = .ok (.ireturn, 1) := by decide +kernel
theorem d_X8_read_68 : decode cX8_read 68 = .ok (.iinc 3 1, 3) := by decide +kernel
theorem d_X8_read_71 : decode cX8_read 71 = .ok (.goto (-46), 3) := by decide +kernel
theorem d_X8_read_74 : decode cX8_read 74 = .ok (.aload_n 0, 1) := by decide +kernel
theorem d_X8_read_75 : decode cX8_read 75 = .ok (.iload_n 2, 1) := by decide +kernel
theorem d_X8_read_76 : decode cX8_read 76 = .ok (.putfield 24, 3) := by decide +kernel
theorem d_X8_read_79 : decode cX8_read 79 = .ok (.iconst 1, 1) := by decide +kernel
theorem d_X8_read_80 : decode cX8_read 80 = .ok (.ireturn, 1) := by decide +kernel
abbrev rm_X8_read : Room := { frames := 1, cells := 0, slots := 0, locals := 21 }
def B_X8_read_66 (post : Bool → CMu → Prop) (k25 : Int32 → Int32 → CMu → Prop) (cm : CMu) : Prop := post false cm
def B_X8_read_25 (post : Bool → CMu → Prop) : Nat → Int32 → Int32 → CMu → Prop
  | 0 => fun _ _ _ => False
  | n + 1 => fun v2 v3 cm => (v2 ≤ v3 → (post true (uI cm 377 4 v2))) ∧ (¬ v2 ≤ v3 → ((vp_in v3 400) ∧ (vp_in v3 6) ∧ (vp_in v3 6) ∧ ((gI (uI cm 378 (Int32.toNatClampNeg v3) ((gI cm 3 (Int32.toNatClampNeg v3)) - 48)) 378 (Int32.toNatClampNeg v3)) < 1 → (B_X8_read_66 post (B_X8_read_25 post n) (uI cm 378 (Int32.toNatClampNeg v3) ((gI cm 3 (Int32.toNatClampNeg v3)) - 48)))) ∧ (¬ (gI (uI cm 378 (Int32.toNatClampNeg v3) ((gI cm 3 (Int32.toNatClampNeg v3)) - 48)) 378 (Int32.toNatClampNeg v3)) < 1 → ((vp_in v3 6) ∧ ((gI (uI cm 378 (Int32.toNatClampNeg v3) ((gI cm 3 (Int32.toNatClampNeg v3)) - 48)) 378 (Int32.toNatClampNeg v3)) ≤ 9 → (B_X8_read_25 post n v2 (v3 + 1) (uI cm 378 (Int32.toNatClampNeg v3) ((gI cm 3 (Int32.toNatClampNeg v3)) - 48)))) ∧ (¬ (gI (uI cm 378 (Int32.toNatClampNeg v3) ((gI cm 3 (Int32.toNatClampNeg v3)) - 48)) 378 (Int32.toNatClampNeg v3)) ≤ 9 → (B_X8_read_66 post (B_X8_read_25 post n) (uI cm 378 (Int32.toNatClampNeg v3) ((gI cm 3 (Int32.toNatClampNeg v3)) - 48))))))))
def B_X8_read_21 (post : Bool → CMu → Prop) (cm : CMu) : Prop := post false cm
def w_X8_read (post : Bool → CMu → Prop) (cm : CMu) : Prop := w_X9_useUp (fun (r1 : Int32) (u2 : CMu) => (r1 < 1 → (B_X8_read_21 post u2)) ∧ (¬ r1 < 1 → ((r1 ≤ 6 → (∃ n25, B_X8_read_25 post n25 r1 0 u2)) ∧ (¬ r1 ≤ 6 → (B_X8_read_21 post u2)))))  (uI cm 377 4 0)
section G_X8_read
variable {p : Program} {l : Launch} {e : Env} {s : State} {m : MethodId} {args : Array Value} {below : List Frame} {meth : Method} {c : Code} {G : Gd} {ρ : Nat → Nat} {A : Nat → Prop} {mm : Nat → Nat → Int32} {oo : Nat → Int64}
set_option maxHeartbeats 4000000 in
set_option maxRecDepth 100000 in
theorem T_X8_read_66 {post : Bool → CMu → Prop} {k25 : Int32 → Int32 → CMu → Prop} (hl : l.stackTraces = false) (X : MC p l s m args meth c cX8_read 4 RX8 G ρ A) (hr : meth.sig.returnType = (some .boolean)) (hex : ∀ z ∈ c.exceptionTable.toList, False)
    (hk25 : ∀ (v2 : Int32) (v3 : Int32) (cm : CMu), k25 v2 v3 cm → LW p l e rm_X8_read s m args below meth c (Qm below G ρ A (PZ (fun u => (u, mm, oo)) post) noX args s 0 0) G ρ A 4 0 0 25 [(0, .ref 377), (1, .ref 2), (2, .int v2), (3, .int v3)] [] (cm, mm, oo)) : ∀ (cm : CMu), B_X8_read_66 post k25 cm → LW p l e rm_X8_read s m args below meth c (Qm below G ρ A (PZ (fun u => (u, mm, oo)) post) noX args s 0 0) G ρ A 4 0 0 66 [] [] (cm, mm, oo) := by
  intro cm h
  unfold B_X8_read_66 at h
  refine L_iconst (pc := 66) (v := 0) X d_X8_read_66 (by decide) ?_
  exact L_zretB (pc := 67) X hr d_X8_read_67 false rfl (by decide) (by decide) ⟨_, _, rfl, rfl, h⟩
set_option maxHeartbeats 4000000 in
set_option maxRecDepth 100000 in
theorem T_X8_read_25 {post : Bool → CMu → Prop} (hl : l.stackTraces = false) (X : MC p l s m args meth c cX8_read 4 RX8 G ρ A) (hr : meth.sig.returnType = (some .boolean)) (hex : ∀ z ∈ c.exceptionTable.toList, False) (n : Nat) : ∀ (v2 : Int32) (v3 : Int32) (cm : CMu), B_X8_read_25 post n v2 v3 cm → LW p l e rm_X8_read s m args below meth c (Qm below G ρ A (PZ (fun u => (u, mm, oo)) post) noX args s 0 0) G ρ A 4 0 0 25 [(0, .ref 377), (1, .ref 2), (2, .int v2), (3, .int v3)] [] (cm, mm, oo) := by
  induction n with
  | zero =>
    intro v2 v3 cm h
    exact False.elim h
  | succ n ih =>
    intro v2 v3 cm h
    unfold B_X8_read_25 at h
    refine L_iload_n (pc := 25) X d_X8_read_25 rfl 3 rfl ?_
    refine L_iload_n (pc := 26) X d_X8_read_26 rfl 2 rfl ?_
    refine L_icmp_ge (pc := 27) (tgt := 74) X d_X8_read_27 (by decide) (fun c27 => ?_) (fun c27 => ?_)
    · replace h := h.1 c27
      refine L_aload_n (pc := 74) X d_X8_read_74 rfl 0 rfl ?_
      refine L_iload_n (pc := 75) X d_X8_read_75 rfl 2 rfl ?_
      refine pf_X8_24 (pc := 76) X d_X8_read_76 kd_377 ?_
      refine L_iconst (pc := 79) (v := 1) X d_X8_read_79 (by decide) ?_
      exact L_zretB (pc := 80) X hr d_X8_read_80 true rfl (by decide) (by decide) ⟨_, _, rfl, rfl, h⟩
    · replace h := h.2 c27
      refine L_aload_n (pc := 30) X d_X8_read_30 rfl 0 rfl ?_
      refine gf_X8_9 (pc := 31) (b := 378) X d_X8_read_31 kd_377 rfl ?_
      refine L_iload_n (pc := 34) X d_X8_read_34 rfl 3 rfl ?_
      refine L_aload_n (pc := 35) X d_X8_read_35 rfl 1 rfl ?_
      refine gf_X8_34 (pc := 36) (b := 3) X d_X8_read_36 kd_2 rfl ?_
      refine L_iload_n (pc := 39) X d_X8_read_39 rfl 3 rfl ?_
      obtain ⟨q3, h⟩ := h
      refine L_iald (pc := 40) X d_X8_read_40 kd_3 q3 ?_
      refine L_bipush (pc := 41) (v := 48) X d_X8_read_41 (by decide) ?_
      refine L_isub (pc := 43) X d_X8_read_43 ?_
      obtain ⟨q4, h⟩ := h
      refine L_iast (pc := 44) X d_X8_read_44 kd_378 q4 ?_
      refine L_aload_n (pc := 45) X d_X8_read_45 rfl 0 rfl ?_
      refine gf_X8_9 (pc := 46) (b := 378) X d_X8_read_46 kd_377 rfl ?_
      refine L_iload_n (pc := 49) X d_X8_read_49 rfl 3 rfl ?_
      obtain ⟨q5, h⟩ := h
      refine L_iald (pc := 50) X d_X8_read_50 kd_378 q5 ?_
      refine L_iconst (pc := 51) (v := 1) X d_X8_read_51 (by decide) ?_
      refine L_icmp_lt (pc := 52) (tgt := 66) X d_X8_read_52 (by decide) (fun c52 => ?_) (fun c52 => ?_)
      · replace h := h.1 c52
        refine LW.sub [] rfl ?_
        exact T_X8_read_66 hl X hr hex ih   _ h
      · replace h := h.2 c52
        refine L_aload_n (pc := 55) X d_X8_read_55 rfl 0 rfl ?_
        refine gf_X8_9 (pc := 56) (b := 378) X d_X8_read_56 kd_377 rfl ?_
        refine L_iload_n (pc := 59) X d_X8_read_59 rfl 3 rfl ?_
        obtain ⟨q6, h⟩ := h
        refine L_iald (pc := 60) X d_X8_read_60 kd_378 q6 ?_
        refine L_bipush (pc := 61) (v := 9) X d_X8_read_61 (by decide) ?_
        refine L_icmp_le (pc := 63) (tgt := 68) X d_X8_read_63 (by decide) (fun c63 => ?_) (fun c63 => ?_)
        · replace h := h.1 c63
          refine L_iinc (pc := 68) (v := v3 + 1) (lv2 := [(3, .int (v3 + 1)), (0, .ref 377), (1, .ref 2), (2, .int v2)]) X d_X8_read_68 3 rfl rfl (by decide) rfl ?_
          refine L_goto (pc := 71) (tgt := 25) X d_X8_read_71 (by decide) ?_
          refine LW.sub [1, 2, 3, 0] rfl ?_
          exact ih _ _  _ h
        · replace h := h.2 c63
          refine LW.sub [] rfl ?_
          exact T_X8_read_66 hl X hr hex ih   _ h
set_option maxHeartbeats 4000000 in
set_option maxRecDepth 100000 in
theorem T_X8_read_21 {post : Bool → CMu → Prop} (hl : l.stackTraces = false) (X : MC p l s m args meth c cX8_read 4 RX8 G ρ A) (hr : meth.sig.returnType = (some .boolean)) (hex : ∀ z ∈ c.exceptionTable.toList, False) : ∀ (cm : CMu), B_X8_read_21 post cm → LW p l e rm_X8_read s m args below meth c (Qm below G ρ A (PZ (fun u => (u, mm, oo)) post) noX args s 0 0) G ρ A 4 0 0 21 [] [] (cm, mm, oo) := by
  intro cm h
  unfold B_X8_read_21 at h
  refine L_iconst (pc := 21) (v := 0) X d_X8_read_21 (by decide) ?_
  exact L_zretB (pc := 22) X hr d_X8_read_22 false rfl (by decide) (by decide) ⟨_, _, rfl, rfl, h⟩
set_option maxHeartbeats 4000000 in
set_option maxRecDepth 100000 in
theorem c_X8_read (hl : l.stackTraces = false) {cm : CMu} {post : Bool → CMu → Prop} (h : w_X8_read post cm) : CT l yX8_read (.code yX8_read cX8_read 4 (some .boolean)) rm_X8_read 0 0 G ρ [.ref 377, .ref 2] (cm, mm, oo) (PZ (fun u => (u, mm, oo)) post) noX := by
  refine CT_of hl (by decide +kernel) rfl (Nat.le_of_ble_eq_true rfl) (lv0 := [(0, .ref 377), (1, .ref 2)]) rfl (fun p e s m args below meth c A X hr hex hnm => ?_)
  unfold w_X8_read at h
  refine L_aload_n (pc := 0) X d_X8_read_0 rfl 0 rfl ?_
  refine L_iconst (pc := 1) (v := 0) X d_X8_read_1 (by decide) ?_
  refine pf_X8_24 (pc := 2) X d_X8_read_2 kd_377 ?_
  refine L_aload_n (pc := 5) X d_X8_read_5 rfl 1 rfl ?_
  refine L_callVI (pc := 6) X lk_X8_28 (c_X9_useUp X.hst  h) rfl rfl kd_2 (by decide) rfl rfl ⟨by decide, by decide⟩ ⟨by decide, by decide⟩ (Nat.zero_le _) d_X8_read_6 rfl (fun x κ1 hx => L_nox hx) (fun r1 u2 h => ?_)
  refine L_istore_n (pc := 9) (lv2 := [(2, .int r1), (0, .ref 377), (1, .ref 2)]) X d_X8_read_9 rfl (by decide) rfl ?_
  refine L_iload_n (pc := 10) X d_X8_read_10 rfl 0 rfl ?_
  refine L_iconst (pc := 11) (v := 1) X d_X8_read_11 (by decide) ?_
  refine L_icmp_lt (pc := 12) (tgt := 21) X d_X8_read_12 (by decide) (fun c12 => ?_) (fun c12 => ?_)
  · replace h := h.1 c12
    refine LW.sub [] rfl ?_
    exact T_X8_read_21 hl X hr hex   _ h
  · replace h := h.2 c12
    refine L_iload_n (pc := 15) X d_X8_read_15 rfl 0 rfl ?_
    refine L_bipush (pc := 16) (v := 6) X d_X8_read_16 (by decide) ?_
    refine L_icmp_le (pc := 18) (tgt := 23) X d_X8_read_18 (by decide) (fun c18 => ?_) (fun c18 => ?_)
    · replace h := h.1 c18
      refine L_iconst (pc := 23) (v := 0) X d_X8_read_23 (by decide) ?_
      refine L_istore_n (pc := 24) (lv2 := [(3, .int 0), (2, .int r1), (0, .ref 377), (1, .ref 2)]) X d_X8_read_24 rfl (by decide) rfl ?_
      obtain ⟨n25, h⟩ := h
      refine LW.sub [2, 3, 1, 0] rfl ?_
      exact T_X8_read_25 hl X hr hex n25 _ _  _ h
    · replace h := h.2 c18
      refine LW.sub [] rfl ?_
      exact T_X8_read_21 hl X hr hex   _ h
end G_X8_read
theorem d_X8_sortTold_0 : decode cX8_sortTold 0 = .ok (.iconst 0, 1) := by decide +kernel
theorem d_X8_sortTold_1 : decode cX8_sortTold 1 = .ok (.istore_n 1, 1) := by decide +kernel
theorem d_X8_sortTold_2 : decode cX8_sortTold 2 = .ok (.iload_n 1, 1) := by decide +kernel
theorem d_X8_sortTold_3 : decode cX8_sortTold 3 = .ok (.aload_n 0, 1) := by decide +kernel
theorem d_X8_sortTold_4 : decode cX8_sortTold 4 = .ok (.getfield 24, 3) := by decide +kernel
theorem d_X8_sortTold_7 : decode cX8_sortTold 7 = .ok (.if_icmp .ge 64, 3) := by decide +kernel
theorem d_X8_sortTold_10 : decode cX8_sortTold 10 = .ok (.iload_n 1, 1) := by decide +kernel
theorem d_X8_sortTold_11 : decode cX8_sortTold 11 = .ok (.istore_n 2, 1) := by decide +kernel
theorem d_X8_sortTold_12 : decode cX8_sortTold 12 = .ok (.iload_n 2, 1) := by decide +kernel
theorem d_X8_sortTold_13 : decode cX8_sortTold 13 = .ok (.ifCond .le 40, 3) := by decide +kernel
theorem d_X8_sortTold_16 : decode cX8_sortTold 16 = .ok (.aload_n 0, 1) := by decide +kernel
theorem d_X8_sortTold_17 : decode cX8_sortTold 17 = .ok (.getfield 15, 3) := by decide +kernel
theorem d_X8_sortTold_20 : decode cX8_sortTold 20 = .ok (.iload_n 2, 1) := by decide +kernel
theorem d_X8_sortTold_21 : decode cX8_sortTold 21 = .ok (.iconst 1, 1) := by decide +kernel
theorem d_X8_sortTold_22 : decode cX8_sortTold 22 = .ok (.isub, 1) := by decide +kernel
theorem d_X8_sortTold_23 : decode cX8_sortTold 23 = .ok (.iaload, 1) := by decide +kernel
theorem d_X8_sortTold_24 : decode cX8_sortTold 24 = .ok (.aload_n 0, 1) := by decide +kernel
theorem d_X8_sortTold_25 : decode cX8_sortTold 25 = .ok (.getfield 9, 3) := by decide +kernel
theorem d_X8_sortTold_28 : decode cX8_sortTold 28 = .ok (.iload_n 1, 1) := by decide +kernel
theorem d_X8_sortTold_29 : decode cX8_sortTold 29 = .ok (.iaload, 1) := by decide +kernel
theorem d_X8_sortTold_30 : decode cX8_sortTold 30 = .ok (.if_icmp .le 23, 3) := by decide +kernel
theorem d_X8_sortTold_33 : decode cX8_sortTold 33 = .ok (.aload_n 0, 1) := by decide +kernel
theorem d_X8_sortTold_34 : decode cX8_sortTold 34 = .ok (.getfield 15, 3) := by decide +kernel
theorem d_X8_sortTold_37 : decode cX8_sortTold 37 = .ok (.iload_n 2, 1) := by decide +kernel
theorem d_X8_sortTold_38 : decode cX8_sortTold 38 = .ok (.aload_n 0, 1) := by decide +kernel
theorem d_X8_sortTold_39 : decode cX8_sortTold 39 = .ok (.getfield 15, 3) := by decide +kernel
theorem d_X8_sortTold_42 : decode cX8_sortTold 42 = .ok (.iload_n 2, 1) := by decide +kernel
theorem d_X8_sortTold_43 : decode cX8_sortTold 43 = .ok (.iconst 1, 1) := by decide +kernel
theorem d_X8_sortTold_44 : decode cX8_sortTold 44 = .ok (.isub, 1) := by decide +kernel
theorem d_X8_sortTold_45 : decode cX8_sortTold 45 = .ok (.iaload, 1) := by decide +kernel
theorem d_X8_sortTold_46 : decode cX8_sortTold 46 = .ok (.iastore, 1) := by decide +kernel
theorem d_X8_sortTold_47 : decode cX8_sortTold 47 = .ok (.iinc 2 (-1), 3) := by decide +kernel
theorem d_X8_sortTold_50 : decode cX8_sortTold 50 = .ok (.goto (-38), 3) := by decide +kernel
theorem d_X8_sortTold_53 : decode cX8_sortTold 53 = .ok (.aload_n 0, 1) := by decide +kernel
theorem d_X8_sortTold_54 : decode cX8_sortTold 54 = .ok (.getfield 15, 3) := by decide +kernel
theorem d_X8_sortTold_57 : decode cX8_sortTold 57 = .ok (.iload_n 2, 1) := by decide +kernel
theorem d_X8_sortTold_58 : decode cX8_sortTold 58 = .ok (.aload_n 0, 1) := by decide +kernel
theorem d_X8_sortTold_59 : decode cX8_sortTold 59 = .ok (.getfield 9, 3) := by decide +kernel
theorem d_X8_sortTold_62 : decode cX8_sortTold 62 = .ok (.iload_n 1, 1) := by decide +kernel
theorem d_X8_sortTold_63 : decode cX8_sortTold 63 = .ok (.iaload, 1) := by decide +kernel
theorem d_X8_sortTold_64 : decode cX8_sortTold 64 = .ok (.iastore, 1) := by decide +kernel
theorem d_X8_sortTold_65 : decode cX8_sortTold 65 = .ok (.iinc 1 1, 3) := by decide +kernel
theorem d_X8_sortTold_68 : decode cX8_sortTold 68 = .ok (.goto (-66), 3) := by decide +kernel
theorem d_X8_sortTold_71 : decode cX8_sortTold 71 = .ok (.return_, 1) := by decide +kernel
abbrev rm_X8_sortTold : Room := { frames := 0, cells := 0, slots := 0, locals := 0 }
def B_X8_sortTold_53 (post : CMu → Prop) (k2 : Int32 → CMu → Prop) (v1 : Int32) (v2 : Int32) (cm : CMu) : Prop := (vp_in v1 6) ∧ (vp_in v2 6) ∧ k2 (v1 + 1) (uI cm 379 (Int32.toNatClampNeg v2) (gI cm 378 (Int32.toNatClampNeg v1)))
def B_X8_sortTold_12 (post : CMu → Prop) (k2 : Int32 → CMu → Prop) : Nat → Int32 → Int32 → CMu → Prop
  | 0 => fun _ _ _ => False
  | n + 1 => fun v1 v2 cm => (v2 ≤ 0 → (B_X8_sortTold_53 post k2 v1 v2 cm)) ∧ (¬ v2 ≤ 0 → ((vp_in (v2 - 1) 6) ∧ (vp_in v1 6) ∧ ((gI cm 379 (Int32.toNatClampNeg (v2 - 1))) ≤ (gI cm 378 (Int32.toNatClampNeg v1)) → (B_X8_sortTold_53 post k2 v1 v2 cm)) ∧ (¬ (gI cm 379 (Int32.toNatClampNeg (v2 - 1))) ≤ (gI cm 378 (Int32.toNatClampNeg v1)) → ((vp_in (v2 - 1) 6) ∧ (vp_in v2 6) ∧ B_X8_sortTold_12 post k2 n v1 (v2 + (-1)) (uI cm 379 (Int32.toNatClampNeg v2) (gI cm 379 (Int32.toNatClampNeg (v2 - 1))))))))
def B_X8_sortTold_2 (post : CMu → Prop) : Nat → Int32 → CMu → Prop
  | 0 => fun _ _ => False
  | n + 1 => fun v1 cm => ((gI cm 377 4) ≤ v1 → (post cm)) ∧ (¬ (gI cm 377 4) ≤ v1 → (∃ n12, B_X8_sortTold_12 post (B_X8_sortTold_2 post n) n12 v1 v1 cm))
def w_X8_sortTold (post : CMu → Prop) (cm : CMu) : Prop := ∃ n2, B_X8_sortTold_2 post n2 0 cm
section G_X8_sortTold
variable {p : Program} {l : Launch} {e : Env} {s : State} {m : MethodId} {args : Array Value} {below : List Frame} {meth : Method} {c : Code} {G : Gd} {ρ : Nat → Nat} {A : Nat → Prop} {mm : Nat → Nat → Int32} {oo : Nat → Int64}
set_option maxHeartbeats 4000000 in
set_option maxRecDepth 100000 in
theorem T_X8_sortTold_53 {post : CMu → Prop} {k2 : Int32 → CMu → Prop} (hl : l.stackTraces = false) (X : MC p l s m args meth c cX8_sortTold 3 RX8 G ρ A) (hr : meth.sig.returnType = none) (hex : ∀ z ∈ c.exceptionTable.toList, False)
    (hk2 : ∀ (v1 : Int32) (cm : CMu), k2 v1 cm → LW p l e rm_X8_sortTold s m args below meth c (Qm below G ρ A (PV (fun u => (u, mm, oo)) post) noX args s 0 0) G ρ A 3 0 0 2 [(0, .ref 377), (1, .int v1)] [] (cm, mm, oo)) : ∀ (v1 : Int32) (v2 : Int32) (cm : CMu), B_X8_sortTold_53 post k2 v1 v2 cm → LW p l e rm_X8_sortTold s m args below meth c (Qm below G ρ A (PV (fun u => (u, mm, oo)) post) noX args s 0 0) G ρ A 3 0 0 53 [(0, .ref 377), (1, .int v1), (2, .int v2)] [] (cm, mm, oo) := by
  intro v1 v2 cm h
  unfold B_X8_sortTold_53 at h
  refine L_aload_n (pc := 53) X d_X8_sortTold_53 rfl 0 rfl ?_
  refine gf_X8_15 (pc := 54) (b := 379) X d_X8_sortTold_54 kd_377 rfl ?_
  refine L_iload_n (pc := 57) X d_X8_sortTold_57 rfl 2 rfl ?_
  refine L_aload_n (pc := 58) X d_X8_sortTold_58 rfl 0 rfl ?_
  refine gf_X8_9 (pc := 59) (b := 378) X d_X8_sortTold_59 kd_377 rfl ?_
  refine L_iload_n (pc := 62) X d_X8_sortTold_62 rfl 1 rfl ?_
  obtain ⟨q5, h⟩ := h
  refine L_iald (pc := 63) X d_X8_sortTold_63 kd_378 q5 ?_
  obtain ⟨q6, h⟩ := h
  refine L_iast (pc := 64) X d_X8_sortTold_64 kd_379 q6 ?_
  refine L_iinc (pc := 65) (v := v1 + 1) (lv2 := [(1, .int (v1 + 1)), (0, .ref 377), (2, .int v2)]) X d_X8_sortTold_65 1 rfl rfl (by decide) rfl ?_
  refine L_goto (pc := 68) (tgt := 2) X d_X8_sortTold_68 (by decide) ?_
  refine LW.sub [1, 0] rfl ?_
  exact hk2 _  _ h
set_option maxHeartbeats 4000000 in
set_option maxRecDepth 100000 in
theorem T_X8_sortTold_12 {post : CMu → Prop} {k2 : Int32 → CMu → Prop} (hl : l.stackTraces = false) (X : MC p l s m args meth c cX8_sortTold 3 RX8 G ρ A) (hr : meth.sig.returnType = none) (hex : ∀ z ∈ c.exceptionTable.toList, False)
    (hk2 : ∀ (v1 : Int32) (cm : CMu), k2 v1 cm → LW p l e rm_X8_sortTold s m args below meth c (Qm below G ρ A (PV (fun u => (u, mm, oo)) post) noX args s 0 0) G ρ A 3 0 0 2 [(0, .ref 377), (1, .int v1)] [] (cm, mm, oo)) (n : Nat) : ∀ (v1 : Int32) (v2 : Int32) (cm : CMu), B_X8_sortTold_12 post k2 n v1 v2 cm → LW p l e rm_X8_sortTold s m args below meth c (Qm below G ρ A (PV (fun u => (u, mm, oo)) post) noX args s 0 0) G ρ A 3 0 0 12 [(0, .ref 377), (1, .int v1), (2, .int v2)] [] (cm, mm, oo) := by
  induction n with
  | zero =>
    intro v1 v2 cm h
    exact False.elim h
  | succ n ih =>
    intro v1 v2 cm h
    unfold B_X8_sortTold_12 at h
    refine L_iload_n (pc := 12) X d_X8_sortTold_12 rfl 2 rfl ?_
    refine L_if_le (pc := 13) (tgt := 53) X d_X8_sortTold_13 (by decide) (fun c13 => ?_) (fun c13 => ?_)
    · replace h := h.1 c13
      refine LW.sub [0, 1, 2] rfl ?_
      exact T_X8_sortTold_53 hl X hr hex hk2 _ _  _ h
    · replace h := h.2 c13
      refine L_aload_n (pc := 16) X d_X8_sortTold_16 rfl 0 rfl ?_
      refine gf_X8_15 (pc := 17) (b := 379) X d_X8_sortTold_17 kd_377 rfl ?_
      refine L_iload_n (pc := 20) X d_X8_sortTold_20 rfl 2 rfl ?_
      refine L_iconst (pc := 21) (v := 1) X d_X8_sortTold_21 (by decide) ?_
      refine L_isub (pc := 22) X d_X8_sortTold_22 ?_
      obtain ⟨q1, h⟩ := h
      refine L_iald (pc := 23) X d_X8_sortTold_23 kd_379 q1 ?_
      refine L_aload_n (pc := 24) X d_X8_sortTold_24 rfl 0 rfl ?_
      refine gf_X8_9 (pc := 25) (b := 378) X d_X8_sortTold_25 kd_377 rfl ?_
      refine L_iload_n (pc := 28) X d_X8_sortTold_28 rfl 1 rfl ?_
      obtain ⟨q2, h⟩ := h
      refine L_iald (pc := 29) X d_X8_sortTold_29 kd_378 q2 ?_
      refine L_icmp_le (pc := 30) (tgt := 53) X d_X8_sortTold_30 (by decide) (fun c30 => ?_) (fun c30 => ?_)
      · replace h := h.1 c30
        refine LW.sub [0, 1, 2] rfl ?_
        exact T_X8_sortTold_53 hl X hr hex hk2 _ _  _ h
      · replace h := h.2 c30
        refine L_aload_n (pc := 33) X d_X8_sortTold_33 rfl 0 rfl ?_
        refine gf_X8_15 (pc := 34) (b := 379) X d_X8_sortTold_34 kd_377 rfl ?_
        refine L_iload_n (pc := 37) X d_X8_sortTold_37 rfl 2 rfl ?_
        refine L_aload_n (pc := 38) X d_X8_sortTold_38 rfl 0 rfl ?_
        refine gf_X8_15 (pc := 39) (b := 379) X d_X8_sortTold_39 kd_377 rfl ?_
        refine L_iload_n (pc := 42) X d_X8_sortTold_42 rfl 2 rfl ?_
        refine L_iconst (pc := 43) (v := 1) X d_X8_sortTold_43 (by decide) ?_
        refine L_isub (pc := 44) X d_X8_sortTold_44 ?_
        obtain ⟨q3, h⟩ := h
        refine L_iald (pc := 45) X d_X8_sortTold_45 kd_379 q3 ?_
        obtain ⟨q4, h⟩ := h
        refine L_iast (pc := 46) X d_X8_sortTold_46 kd_379 q4 ?_
        refine L_iinc (pc := 47) (v := v2 + (-1)) (lv2 := [(2, .int (v2 + (-1))), (0, .ref 377), (1, .int v1)]) X d_X8_sortTold_47 2 rfl rfl (by decide) rfl ?_
        refine L_goto (pc := 50) (tgt := 12) X d_X8_sortTold_50 (by decide) ?_
        refine LW.sub [1, 2, 0] rfl ?_
        exact ih _ _  _ h
set_option maxHeartbeats 4000000 in
set_option maxRecDepth 100000 in
theorem T_X8_sortTold_2 {post : CMu → Prop} (hl : l.stackTraces = false) (X : MC p l s m args meth c cX8_sortTold 3 RX8 G ρ A) (hr : meth.sig.returnType = none) (hex : ∀ z ∈ c.exceptionTable.toList, False) (n : Nat) : ∀ (v1 : Int32) (cm : CMu), B_X8_sortTold_2 post n v1 cm → LW p l e rm_X8_sortTold s m args below meth c (Qm below G ρ A (PV (fun u => (u, mm, oo)) post) noX args s 0 0) G ρ A 3 0 0 2 [(0, .ref 377), (1, .int v1)] [] (cm, mm, oo) := by
  induction n with
  | zero =>
    intro v1 cm h
    exact False.elim h
  | succ n ih =>
    intro v1 cm h
    unfold B_X8_sortTold_2 at h
    refine L_iload_n (pc := 2) X d_X8_sortTold_2 rfl 1 rfl ?_
    refine L_aload_n (pc := 3) X d_X8_sortTold_3 rfl 0 rfl ?_
    refine gf_X8_24 (pc := 4) X d_X8_sortTold_4 kd_377 ?_
    refine L_icmp_ge (pc := 7) (tgt := 71) X d_X8_sortTold_7 (by decide) (fun c7 => ?_) (fun c7 => ?_)
    · replace h := h.1 c7
      exact L_vret (pc := 71) X hr d_X8_sortTold_71 (by decide) (by decide) ⟨_, rfl, rfl, h⟩
    · replace h := h.2 c7
      refine L_iload_n (pc := 10) X d_X8_sortTold_10 rfl 1 rfl ?_
      refine L_istore_n (pc := 11) (lv2 := [(2, .int v1), (0, .ref 377), (1, .int v1)]) X d_X8_sortTold_11 rfl (by decide) rfl ?_
      obtain ⟨n12, h⟩ := h
      refine LW.sub [1, 2, 0] rfl ?_
      exact T_X8_sortTold_12 hl X hr hex ih n12 _ _  _ h
set_option maxHeartbeats 4000000 in
set_option maxRecDepth 100000 in
theorem c_X8_sortTold (hl : l.stackTraces = false) {cm : CMu} {post : CMu → Prop} (h : w_X8_sortTold post cm) : CT l yX8_sortTold (.code yX8_sortTold cX8_sortTold 3 none) rm_X8_sortTold 0 0 G ρ [.ref 377] (cm, mm, oo) (PV (fun u => (u, mm, oo)) post) noX := by
  refine CT_of hl (by decide +kernel) rfl (Nat.le_of_ble_eq_true rfl) (lv0 := [(0, .ref 377)]) rfl (fun p e s m args below meth c A X hr hex hnm => ?_)
  unfold w_X8_sortTold at h
  refine L_iconst (pc := 0) (v := 0) X d_X8_sortTold_0 (by decide) ?_
  refine L_istore_n (pc := 1) (lv2 := [(1, .int 0), (0, .ref 377)]) X d_X8_sortTold_1 rfl (by decide) rfl ?_
  obtain ⟨n2, h⟩ := h
  refine LW.sub [1, 0] rfl ?_
  exact T_X8_sortTold_2 hl X hr hex n2 _  _ h
end G_X8_sortTold
theorem d_X8_swap_0 : decode cX8_swap 0 = .ok (.aload_n 0, 1) := by decide +kernel
theorem d_X8_swap_1 : decode cX8_swap 1 = .ok (.getfield 15, 3) := by decide +kernel
theorem d_X8_swap_4 : decode cX8_swap 4 = .ok (.iload_n 1, 1) := by decide +kernel
theorem d_X8_swap_5 : decode cX8_swap 5 = .ok (.iaload, 1) := by decide +kernel
theorem d_X8_swap_6 : decode cX8_swap 6 = .ok (.istore_n 3, 1) := by decide +kernel
theorem d_X8_swap_7 : decode cX8_swap 7 = .ok (.aload_n 0, 1) := by decide +kernel
theorem d_X8_swap_8 : decode cX8_swap 8 = .ok (.getfield 15, 3) := by decide +kernel
theorem d_X8_swap_11 : decode cX8_swap 11 = .ok (.iload_n 1, 1) := by decide +kernel
theorem d_X8_swap_12 : decode cX8_swap 12 = .ok (.aload_n 0, 1) := by decide +kernel
theorem d_X8_swap_13 : decode cX8_swap 13 = .ok (.getfield 15, 3) := by decide +kernel
theorem d_X8_swap_16 : decode cX8_swap 16 = .ok (.iload_n 2, 1) := by decide +kernel
theorem d_X8_swap_17 : decode cX8_swap 17 = .ok (.iaload, 1) := by decide +kernel
theorem d_X8_swap_18 : decode cX8_swap 18 = .ok (.iastore, 1) := by decide +kernel
theorem d_X8_swap_19 : decode cX8_swap 19 = .ok (.aload_n 0, 1) := by decide +kernel
theorem d_X8_swap_20 : decode cX8_swap 20 = .ok (.getfield 15, 3) := by decide +kernel
theorem d_X8_swap_23 : decode cX8_swap 23 = .ok (.iload_n 2, 1) := by decide +kernel
theorem d_X8_swap_24 : decode cX8_swap 24 = .ok (.iload_n 3, 1) := by decide +kernel
theorem d_X8_swap_25 : decode cX8_swap 25 = .ok (.iastore, 1) := by decide +kernel
theorem d_X8_swap_26 : decode cX8_swap 26 = .ok (.return_, 1) := by decide +kernel
abbrev rm_X8_swap : Room := { frames := 0, cells := 0, slots := 0, locals := 0 }
def w_X8_swap (post : CMu → Prop) (x1 : Int32) (x2 : Int32) (cm : CMu) : Prop := (vp_in x1 6) ∧ (vp_in x2 6) ∧ (vp_in x1 6) ∧ (vp_in x2 6) ∧ post (uI (uI cm 379 (Int32.toNatClampNeg x1) (gI cm 379 (Int32.toNatClampNeg x2))) 379 (Int32.toNatClampNeg x2) (gI cm 379 (Int32.toNatClampNeg x1)))
section G_X8_swap
variable {p : Program} {l : Launch} {e : Env} {s : State} {m : MethodId} {args : Array Value} {below : List Frame} {meth : Method} {c : Code} {G : Gd} {ρ : Nat → Nat} {A : Nat → Prop} {mm : Nat → Nat → Int32} {oo : Nat → Int64}
set_option maxHeartbeats 4000000 in
set_option maxRecDepth 100000 in
theorem c_X8_swap (hl : l.stackTraces = false) {x1 : Int32} {x2 : Int32} {cm : CMu} {post : CMu → Prop} (h : w_X8_swap post x1 x2 cm) : CT l yX8_swap (.code yX8_swap cX8_swap 4 none) rm_X8_swap 0 0 G ρ [.ref 377, .int x1, .int x2] (cm, mm, oo) (PV (fun u => (u, mm, oo)) post) noX := by
  refine CT_of hl (by decide +kernel) rfl (Nat.le_of_ble_eq_true rfl) (lv0 := [(0, .ref 377), (1, .int x1), (2, .int x2)]) rfl (fun p e s m args below meth c A X hr hex hnm => ?_)
  unfold w_X8_swap at h
  refine L_aload_n (pc := 0) X d_X8_swap_0 rfl 0 rfl ?_
  refine gf_X8_15 (pc := 1) (b := 379) X d_X8_swap_1 kd_377 rfl ?_
  refine L_iload_n (pc := 4) X d_X8_swap_4 rfl 1 rfl ?_
  obtain ⟨q1, h⟩ := h
  refine L_iald (pc := 5) X d_X8_swap_5 kd_379 q1 ?_
  refine L_istore_n (pc := 6) (lv2 := [(3, .int (gI cm 379 (Int32.toNatClampNeg x1))), (0, .ref 377), (1, .int x1), (2, .int x2)]) X d_X8_swap_6 rfl (by decide) rfl ?_
  refine L_aload_n (pc := 7) X d_X8_swap_7 rfl 1 rfl ?_
  refine gf_X8_15 (pc := 8) (b := 379) X d_X8_swap_8 kd_377 rfl ?_
  refine L_iload_n (pc := 11) X d_X8_swap_11 rfl 2 rfl ?_
  refine L_aload_n (pc := 12) X d_X8_swap_12 rfl 1 rfl ?_
  refine gf_X8_15 (pc := 13) (b := 379) X d_X8_swap_13 kd_377 rfl ?_
  refine L_iload_n (pc := 16) X d_X8_swap_16 rfl 3 rfl ?_
  obtain ⟨q2, h⟩ := h
  refine L_iald (pc := 17) X d_X8_swap_17 kd_379 q2 ?_
  obtain ⟨q3, h⟩ := h
  refine L_iast (pc := 18) X d_X8_swap_18 kd_379 q3 ?_
  refine L_aload_n (pc := 19) X d_X8_swap_19 rfl 1 rfl ?_
  refine gf_X8_15 (pc := 20) (b := 379) X d_X8_swap_20 kd_377 rfl ?_
  refine L_iload_n (pc := 23) X d_X8_swap_23 rfl 3 rfl ?_
  refine L_iload_n (pc := 24) X d_X8_swap_24 rfl 0 rfl ?_
  obtain ⟨q4, h⟩ := h
  refine L_iast (pc := 25) X d_X8_swap_25 kd_379 q4 ?_
  exact L_vret (pc := 26) X hr d_X8_swap_26 (by decide) (by decide) ⟨_, rfl, rfl, h⟩
end G_X8_swap
theorem yk_X8_swap : yX8_swap.cls = RX8 ∧ yX8_swap.cls ≠ "java/lang/invoke/MethodHandle" ∧ yX8_swap.cls ≠ "java/lang/invoke/VarHandle" ∧ (parseMethodDescriptor yX8_swap.desc).map (fun d => d.parameters.length) = some 2 := by decide +kernel
theorem lk_X8_61 : LinkV RX8 61 RX8 yX8_swap (.code yX8_swap cX8_swap 4 none) 2 := ⟨tw_1217, tw_1219, tw_33, tw_77, tw_1220, yk_X8_swap⟩
theorem d_X8_goToNext_0 : decode cX8_goToNext 0 = .ok (.aload_n 0, 1) := by decide +kernel
theorem d_X8_goToNext_1 : decode cX8_goToNext 1 = .ok (.getfield 24, 3) := by decide +kernel
theorem d_X8_goToNext_4 : decode cX8_goToNext 4 = .ok (.iconst 2, 1) := by decide +kernel
theorem d_X8_goToNext_5 : decode cX8_goToNext 5 = .ok (.isub, 1) := by decide +kernel
theorem d_X8_goToNext_6 : decode cX8_goToNext 6 = .ok (.istore_n 1, 1) := by decide +kernel
theorem d_X8_goToNext_7 : decode cX8_goToNext 7 = .ok (.iload_n 1, 1) := by decide +kernel
theorem d_X8_goToNext_8 : decode cX8_goToNext 8 = .ok (.ifCond .lt 26, 3) := by decide +kernel
theorem d_X8_goToNext_11 : decode cX8_goToNext 11 = .ok (.aload_n 0, 1) := by decide +kernel
theorem d_X8_goToNext_12 : decode cX8_goToNext 12 = .ok (.getfield 15, 3) := by decide +kernel
theorem d_X8_goToNext_15 : decode cX8_goToNext 15 = .ok (.iload_n 1, 1) := by decide +kernel
theorem d_X8_goToNext_16 : decode cX8_goToNext 16 = .ok (.iaload, 1) := by decide +kernel
theorem d_X8_goToNext_17 : decode cX8_goToNext 17 = .ok (.aload_n 0, 1) := by decide +kernel
theorem d_X8_goToNext_18 : decode cX8_goToNext 18 = .ok (.getfield 15, 3) := by decide +kernel
theorem d_X8_goToNext_21 : decode cX8_goToNext 21 = .ok (.iload_n 1, 1) := by decide +kernel
theorem d_X8_goToNext_22 : decode cX8_goToNext 22 = .ok (.iconst 1, 1) := by decide +kernel
theorem d_X8_goToNext_23 : decode cX8_goToNext 23 = .ok (.iadd, 1) := by decide +kernel
theorem d_X8_goToNext_24 : decode cX8_goToNext 24 = .ok (.iaload, 1) := by decide +kernel
theorem d_X8_goToNext_25 : decode cX8_goToNext 25 = .ok (.if_icmp .lt 9, 3) := by decide +kernel
theorem d_X8_goToNext_28 : decode cX8_goToNext 28 = .ok (.iinc 1 (-1), 3) := by decide +kernel
theorem d_X8_goToNext_31 : decode cX8_goToNext 31 = .ok (.goto (-24), 3) := by decide +kernel
theorem d_X8_goToNext_34 : decode cX8_goToNext 34 = .ok (.iload_n 1, 1) := by decide +kernel
theorem d_X8_goToNext_35 : decode cX8_goToNext 35 = .ok (.ifCond .ge 5, 3) := by decide +kernel
theorem d_X8_goToNext_38 : decode cX8_goToNext 38 = .ok (.iconst 0, 1) := by decide +kernel
theorem d_X8_goToNext_39 : decode cX8_goToNext 39 = .ok (.ireturn, 1) := by decide +kernel
theorem d_X8_goToNext_40 : decode cX8_goToNext 40 = .ok (.aload_n 0, 1) := by decide +kernel
theorem d_X8_goToNext_41 : decode cX8_goToNext 41 = .ok (.getfield 24, 3) := by decide +kernel
theorem d_X8_goToNext_44 : decode cX8_goToNext 44 = .ok (.iconst 1, 1) := by decide +kernel
theorem d_X8_goToNext_45 : decode cX8_goToNext 45 = .ok (.isub, 1) := by decide +kernel
theorem d_X8_goToNext_46 : decode cX8_goToNext 46 = .ok (.istore_n 2, 1) := by decide +kernel
theorem d_X8_goToNext_47 : decode cX8_goToNext 47 = .ok (.iload_n 2, 1) := by decide +kernel
theorem d_X8_goToNext_48 : decode cX8_goToNext 48 = .ok (.iload_n 1, 1) := by decide +kernel
theorem d_X8_goToNext_49 : decode cX8_goToNext 49 = .ok (.iconst 1, 1) := by decide +kernel
theorem d_X8_goToNext_50 : decode cX8_goToNext 50 = .ok (.iadd, 1) := by decide +kernel
theorem d_X8_goToNext_51 : decode cX8_goToNext 51 = .ok (.if_icmp .le 24, 3) := by decide +kernel
theorem d_X8_goToNext_54 : decode cX8_goToNext 54 = .ok (.aload_n 0, 1) := by decide +kernel
theorem d_X8_goToNext_55 : decode cX8_goToNext 55 = .ok (.getfield 15, 3) := by decide +kernel
theorem d_X8_goToNext_58 : decode cX8_goToNext 58 = .ok (.iload_n 2, 1) := by decide +kernel
theorem d_X8_goToNext_59 : decode cX8_goToNext 59 = .ok (.iaload, 1) := by decide +kernel
theorem d_X8_goToNext_60 : decode cX8_goToNext 60 = .ok (.aload_n 0, 1) := by decide +kernel
theorem d_X8_goToNext_61 : decode cX8_goToNext 61 = .ok (.getfield 15, 3) := by decide +kernel
theorem d_X8_goToNext_64 : decode cX8_goToNext 64 = .ok (.iload_n 1, 1) := by decide +kernel
theorem d_X8_goToNext_65 : decode cX8_goToNext 65 = .ok (.iaload, 1) := by decide +kernel
theorem d_X8_goToNext_66 : decode cX8_goToNext 66 = .ok (.if_icmp .gt 9, 3) := by decide +kernel
theorem d_X8_goToNext_69 : decode cX8_goToNext 69 = .ok (.iinc 2 (-1), 3) := by decide +kernel
theorem d_X8_goToNext_72 : decode cX8_goToNext 72 = .ok (.goto (-25), 3) := by decide +kernel
theorem d_X8_goToNext_75 : decode cX8_goToNext 75 = .ok (.aload_n 0, 1) := by decide +kernel
theorem d_X8_goToNext_76 : decode cX8_goToNext 76 = .ok (.iload_n 1, 1) := by decide +kernel
theorem d_X8_goToNext_77 : decode cX8_goToNext 77 = .ok (.iload_n 2, 1) := by decide +kernel
theorem d_X8_goToNext_78 : decode cX8_goToNext 78 = .ok (.invokevirtual 61, 3) := by decide +kernel
theorem d_X8_goToNext_81 : decode cX8_goToNext 81 = .ok (.iload_n 1, 1) := by decide +kernel
theorem d_X8_goToNext_82 : decode cX8_goToNext 82 = .ok (.iconst 1, 1) := by decide +kernel
theorem d_X8_goToNext_83 : decode cX8_goToNext 83 = .ok (.iadd, 1) := by decide +kernel
theorem d_X8_goToNext_84 : decode cX8_goToNext 84 = .ok (.istore_n 3, 1) := by decide +kernel
theorem d_X8_goToNext_85 : decode cX8_goToNext 85 = .ok (.aload_n 0, 1) := by decide +kernel
theorem d_X8_goToNext_86 : decode cX8_goToNext 86 = .ok (.getfield 24, 3) := by decide +kernel
theorem d_X8_goToNext_89 : decode cX8_goToNext 89 = .ok (.iconst 1, 1) := by decide +kernel
theorem d_X8_goToNext_90 : decode cX8_goToNext 90 = .ok (.isub, 1) := by decide +kernel
theorem d_X8_goToNext_91 : decode cX8_goToNext 91 = .ok (.istore 4, 2) := by decide +kernel
theorem d_X8_goToNext_93 : decode cX8_goToNext 93 = .ok (.iload_n 3, 1) := by decide +kernel
theorem d_X8_goToNext_94 : decode cX8_goToNext 94 = .ok (.iload 4, 2) := by decide +kernel
theorem d_X8_goToNext_96 : decode cX8_goToNext 96 = .ok (.if_icmp .ge 19, 3) := by decide +kernel
theorem d_X8_goToNext_99 : decode cX8_goToNext 99 = .ok (.aload_n 0, 1) := by decide +kernel
theorem d_X8_goToNext_100 : decode cX8_goToNext 100 = .ok (.iload_n 3, 1) := by decide +kernel
theorem d_X8_goToNext_101 : decode cX8_goToNext 101 = .ok (.iload 4, 2) := by decide +kernel
theorem d_X8_goToNext_103 : decode cX8_goToNext 103 = .ok (.invokevirtual 61, 3) := by decide +kernel
theorem d_X8_goToNext_106 : decode cX8_goToNext 106 = .ok (.iinc 3 1, 3) := by decide +kernel
theorem d_X8_goToNext_109 : decode cX8_goToNext 109 = .ok (.iinc 4 (-1), 3) := by decide +kernel
theorem d_X8_goToNext_112 : decode cX8_goToNext 112 = .ok (.goto (-19), 3) := by decide +kernel
theorem d_X8_goToNext_115 : decode cX8_goToNext 115 = .ok (.iconst 1, 1) := by decide +kernel
theorem d_X8_goToNext_116 : decode cX8_goToNext 116 = .ok (.ireturn, 1) := by decide +kernel
abbrev rm_X8_goToNext : Room := { frames := 1, cells := 0, slots := 0, locals := 23 }
def B_X8_goToNext_93 (post : Bool → CMu → Prop) : Nat → Int32 → Int32 → CMu → Prop
  | 0 => fun _ _ _ => False
  | n + 1 => fun v3 v4 cm => (v4 ≤ v3 → (post true cm)) ∧ (¬ v4 ≤ v3 → (w_X8_swap (fun (u8 : CMu) => B_X8_goToNext_93 post n (v3 + 1) (v4 + (-1)) u8) v3 v4 cm))
def B_X8_goToNext_75 (post : Bool → CMu → Prop) (v1 : Int32) (v2 : Int32) (cm : CMu) : Prop := w_X8_swap (fun (u6 : CMu) => ∃ n93, B_X8_goToNext_93 post n93 (v1 + 1) ((gI u6 377 4) - 1) u6) v1 v2 cm
def B_X8_goToNext_47 (post : Bool → CMu → Prop) : Nat → Int32 → Int32 → CMu → Prop
  | 0 => fun _ _ _ => False
  | n + 1 => fun v1 v2 cm => (v2 ≤ (v1 + 1) → (B_X8_goToNext_75 post v1 v2 cm)) ∧ (¬ v2 ≤ (v1 + 1) → ((vp_in v2 6) ∧ (vp_in v1 6) ∧ ((gI cm 379 (Int32.toNatClampNeg v1)) < (gI cm 379 (Int32.toNatClampNeg v2)) → (B_X8_goToNext_75 post v1 v2 cm)) ∧ (¬ (gI cm 379 (Int32.toNatClampNeg v1)) < (gI cm 379 (Int32.toNatClampNeg v2)) → (B_X8_goToNext_47 post n v1 (v2 + (-1)) cm))))
def B_X8_goToNext_34 (post : Bool → CMu → Prop) (v1 : Int32) (cm : CMu) : Prop := (0 ≤ v1 → (∃ n47, B_X8_goToNext_47 post n47 v1 ((gI cm 377 4) - 1) cm)) ∧ (¬ 0 ≤ v1 → (post false cm))
def B_X8_goToNext_7 (post : Bool → CMu → Prop) : Nat → Int32 → CMu → Prop
  | 0 => fun _ _ => False
  | n + 1 => fun v1 cm => (v1 < 0 → (B_X8_goToNext_34 post v1 cm)) ∧ (¬ v1 < 0 → ((vp_in v1 6) ∧ (vp_in (v1 + 1) 6) ∧ ((gI cm 379 (Int32.toNatClampNeg v1)) < (gI cm 379 (Int32.toNatClampNeg (v1 + 1))) → (B_X8_goToNext_34 post v1 cm)) ∧ (¬ (gI cm 379 (Int32.toNatClampNeg v1)) < (gI cm 379 (Int32.toNatClampNeg (v1 + 1))) → (B_X8_goToNext_7 post n (v1 + (-1)) cm))))
def w_X8_goToNext (post : Bool → CMu → Prop) (cm : CMu) : Prop := ∃ n7, B_X8_goToNext_7 post n7 ((gI cm 377 4) - 2) cm
section G_X8_goToNext
variable {p : Program} {l : Launch} {e : Env} {s : State} {m : MethodId} {args : Array Value} {below : List Frame} {meth : Method} {c : Code} {G : Gd} {ρ : Nat → Nat} {A : Nat → Prop} {mm : Nat → Nat → Int32} {oo : Nat → Int64}
set_option maxHeartbeats 4000000 in
set_option maxRecDepth 100000 in
theorem T_X8_goToNext_93 {post : Bool → CMu → Prop} (hl : l.stackTraces = false) (X : MC p l s m args meth c cX8_goToNext 5 RX8 G ρ A) (hr : meth.sig.returnType = (some .boolean)) (hex : ∀ z ∈ c.exceptionTable.toList, False) (n : Nat) : ∀ (v3 : Int32) (v4 : Int32) (cm : CMu), B_X8_goToNext_93 post n v3 v4 cm → LW p l e rm_X8_goToNext s m args below meth c (Qm below G ρ A (PZ (fun u => (u, mm, oo)) post) noX args s 0 0) G ρ A 5 0 0 93 [(0, .ref 377), (3, .int v3), (4, .int v4)] [] (cm, mm, oo) := by
  induction n with
  | zero =>
    intro v3 v4 cm h
    exact False.elim h
  | succ n ih =>
    intro v3 v4 cm h
    unfold B_X8_goToNext_93 at h
    refine L_iload_n (pc := 93) X d_X8_goToNext_93 rfl 1 rfl ?_
    refine L_iload (pc := 94) X d_X8_goToNext_94 2 rfl ?_
    refine L_icmp_ge (pc := 96) (tgt := 115) X d_X8_goToNext_96 (by decide) (fun c96 => ?_) (fun c96 => ?_)
    · replace h := h.1 c96
      refine L_iconst (pc := 115) (v := 1) X d_X8_goToNext_115 (by decide) ?_
      exact L_zretB (pc := 116) X hr d_X8_goToNext_116 true rfl (by decide) (by decide) ⟨_, _, rfl, rfl, h⟩
    · replace h := h.2 c96
      refine L_aload_n (pc := 99) X d_X8_goToNext_99 rfl 0 rfl ?_
      refine L_iload_n (pc := 100) X d_X8_goToNext_100 rfl 1 rfl ?_
      refine L_iload (pc := 101) X d_X8_goToNext_101 2 rfl ?_
      refine L_callVV (pc := 103) X lk_X8_61 (c_X8_swap X.hst  h) rfl rfl kd_377 (by decide) rfl rfl ⟨by decide, by decide⟩ ⟨by decide, by decide⟩ (Nat.zero_le _) d_X8_goToNext_103 rfl (fun x κ1 hx => L_nox hx) (fun u8 h => ?_)
      refine L_iinc (pc := 106) (v := v3 + 1) (lv2 := [(3, .int (v3 + 1)), (0, .ref 377), (4, .int v4)]) X d_X8_goToNext_106 1 rfl rfl (by decide) rfl ?_
      refine L_iinc (pc := 109) (v := v4 + (-1)) (lv2 := [(4, .int (v4 + (-1))), (3, .int (v3 + 1)), (0, .ref 377)]) X d_X8_goToNext_109 2 rfl rfl (by decide) rfl ?_
      refine L_goto (pc := 112) (tgt := 93) X d_X8_goToNext_112 (by decide) ?_
      refine LW.sub [2, 1, 0] rfl ?_
      exact ih _ _  _ h
set_option maxHeartbeats 4000000 in
set_option maxRecDepth 100000 in
theorem T_X8_goToNext_75 {post : Bool → CMu → Prop} (hl : l.stackTraces = false) (X : MC p l s m args meth c cX8_goToNext 5 RX8 G ρ A) (hr : meth.sig.returnType = (some .boolean)) (hex : ∀ z ∈ c.exceptionTable.toList, False) : ∀ (v1 : Int32) (v2 : Int32) (cm : CMu), B_X8_goToNext_75 post v1 v2 cm → LW p l e rm_X8_goToNext s m args below meth c (Qm below G ρ A (PZ (fun u => (u, mm, oo)) post) noX args s 0 0) G ρ A 5 0 0 75 [(0, .ref 377), (1, .int v1), (2, .int v2)] [] (cm, mm, oo) := by
  intro v1 v2 cm h
  unfold B_X8_goToNext_75 at h
  refine L_aload_n (pc := 75) X d_X8_goToNext_75 rfl 0 rfl ?_
  refine L_iload_n (pc := 76) X d_X8_goToNext_76 rfl 1 rfl ?_
  refine L_iload_n (pc := 77) X d_X8_goToNext_77 rfl 2 rfl ?_
  refine L_callVV (pc := 78) X lk_X8_61 (c_X8_swap X.hst  h) rfl rfl kd_377 (by decide) rfl rfl ⟨by decide, by decide⟩ ⟨by decide, by decide⟩ (Nat.zero_le _) d_X8_goToNext_78 rfl (fun x κ1 hx => L_nox hx) (fun u6 h => ?_)
  refine L_iload_n (pc := 81) X d_X8_goToNext_81 rfl 1 rfl ?_
  refine L_iconst (pc := 82) (v := 1) X d_X8_goToNext_82 (by decide) ?_
  refine L_iadd (pc := 83) X d_X8_goToNext_83 ?_
  refine L_istore_n (pc := 84) (lv2 := [(3, .int (v1 + 1)), (0, .ref 377), (1, .int v1), (2, .int v2)]) X d_X8_goToNext_84 rfl (by decide) rfl ?_
  refine L_aload_n (pc := 85) X d_X8_goToNext_85 rfl 1 rfl ?_
  refine gf_X8_24 (pc := 86) X d_X8_goToNext_86 kd_377 ?_
  refine L_iconst (pc := 89) (v := 1) X d_X8_goToNext_89 (by decide) ?_
  refine L_isub (pc := 90) X d_X8_goToNext_90 ?_
  refine L_istore (pc := 91) (lv2 := [(4, .int ((gI u6 377 4) - 1)), (3, .int (v1 + 1)), (0, .ref 377), (1, .int v1), (2, .int v2)]) X d_X8_goToNext_91 (by decide) rfl ?_
  obtain ⟨n93, h⟩ := h
  refine LW.sub [2, 1, 0] rfl ?_
  exact T_X8_goToNext_93 hl X hr hex n93 _ _  _ h
set_option maxHeartbeats 4000000 in
set_option maxRecDepth 100000 in
theorem T_X8_goToNext_47 {post : Bool → CMu → Prop} (hl : l.stackTraces = false) (X : MC p l s m args meth c cX8_goToNext 5 RX8 G ρ A) (hr : meth.sig.returnType = (some .boolean)) (hex : ∀ z ∈ c.exceptionTable.toList, False) (n : Nat) : ∀ (v1 : Int32) (v2 : Int32) (cm : CMu), B_X8_goToNext_47 post n v1 v2 cm → LW p l e rm_X8_goToNext s m args below meth c (Qm below G ρ A (PZ (fun u => (u, mm, oo)) post) noX args s 0 0) G ρ A 5 0 0 47 [(0, .ref 377), (1, .int v1), (2, .int v2)] [] (cm, mm, oo) := by
  induction n with
  | zero =>
    intro v1 v2 cm h
    exact False.elim h
  | succ n ih =>
    intro v1 v2 cm h
    unfold B_X8_goToNext_47 at h
    refine L_iload_n (pc := 47) X d_X8_goToNext_47 rfl 2 rfl ?_
    refine L_iload_n (pc := 48) X d_X8_goToNext_48 rfl 1 rfl ?_
    refine L_iconst (pc := 49) (v := 1) X d_X8_goToNext_49 (by decide) ?_
    refine L_iadd (pc := 50) X d_X8_goToNext_50 ?_
    refine L_icmp_le (pc := 51) (tgt := 75) X d_X8_goToNext_51 (by decide) (fun c51 => ?_) (fun c51 => ?_)
    · replace h := h.1 c51
      refine LW.sub [0, 1, 2] rfl ?_
      exact T_X8_goToNext_75 hl X hr hex _ _  _ h
    · replace h := h.2 c51
      refine L_aload_n (pc := 54) X d_X8_goToNext_54 rfl 0 rfl ?_
      refine gf_X8_15 (pc := 55) (b := 379) X d_X8_goToNext_55 kd_377 rfl ?_
      refine L_iload_n (pc := 58) X d_X8_goToNext_58 rfl 2 rfl ?_
      obtain ⟨q3, h⟩ := h
      refine L_iald (pc := 59) X d_X8_goToNext_59 kd_379 q3 ?_
      refine L_aload_n (pc := 60) X d_X8_goToNext_60 rfl 0 rfl ?_
      refine gf_X8_15 (pc := 61) (b := 379) X d_X8_goToNext_61 kd_377 rfl ?_
      refine L_iload_n (pc := 64) X d_X8_goToNext_64 rfl 1 rfl ?_
      obtain ⟨q4, h⟩ := h
      refine L_iald (pc := 65) X d_X8_goToNext_65 kd_379 q4 ?_
      refine L_icmp_gt (pc := 66) (tgt := 75) X d_X8_goToNext_66 (by decide) (fun c66 => ?_) (fun c66 => ?_)
      · replace h := h.1 c66
        refine LW.sub [0, 1, 2] rfl ?_
        exact T_X8_goToNext_75 hl X hr hex _ _  _ h
      · replace h := h.2 c66
        refine L_iinc (pc := 69) (v := v2 + (-1)) (lv2 := [(2, .int (v2 + (-1))), (0, .ref 377), (1, .int v1)]) X d_X8_goToNext_69 2 rfl rfl (by decide) rfl ?_
        refine L_goto (pc := 72) (tgt := 47) X d_X8_goToNext_72 (by decide) ?_
        refine LW.sub [1, 2, 0] rfl ?_
        exact ih _ _  _ h
set_option maxHeartbeats 4000000 in
set_option maxRecDepth 100000 in
theorem T_X8_goToNext_34 {post : Bool → CMu → Prop} (hl : l.stackTraces = false) (X : MC p l s m args meth c cX8_goToNext 5 RX8 G ρ A) (hr : meth.sig.returnType = (some .boolean)) (hex : ∀ z ∈ c.exceptionTable.toList, False) : ∀ (v1 : Int32) (cm : CMu), B_X8_goToNext_34 post v1 cm → LW p l e rm_X8_goToNext s m args below meth c (Qm below G ρ A (PZ (fun u => (u, mm, oo)) post) noX args s 0 0) G ρ A 5 0 0 34 [(0, .ref 377), (1, .int v1)] [] (cm, mm, oo) := by
  intro v1 cm h
  unfold B_X8_goToNext_34 at h
  refine L_iload_n (pc := 34) X d_X8_goToNext_34 rfl 1 rfl ?_
  refine L_if_ge (pc := 35) (tgt := 40) X d_X8_goToNext_35 (by decide) (fun c35 => ?_) (fun c35 => ?_)
  · replace h := h.1 c35
    refine L_aload_n (pc := 40) X d_X8_goToNext_40 rfl 0 rfl ?_
    refine gf_X8_24 (pc := 41) X d_X8_goToNext_41 kd_377 ?_
    refine L_iconst (pc := 44) (v := 1) X d_X8_goToNext_44 (by decide) ?_
    refine L_isub (pc := 45) X d_X8_goToNext_45 ?_
    refine L_istore_n (pc := 46) (lv2 := [(2, .int ((gI cm 377 4) - 1)), (0, .ref 377), (1, .int v1)]) X d_X8_goToNext_46 rfl (by decide) rfl ?_
    obtain ⟨n47, h⟩ := h
    refine LW.sub [1, 2, 0] rfl ?_
    exact T_X8_goToNext_47 hl X hr hex n47 _ _  _ h
  · replace h := h.2 c35
    refine L_iconst (pc := 38) (v := 0) X d_X8_goToNext_38 (by decide) ?_
    exact L_zretB (pc := 39) X hr d_X8_goToNext_39 false rfl (by decide) (by decide) ⟨_, _, rfl, rfl, h⟩
set_option maxHeartbeats 4000000 in
set_option maxRecDepth 100000 in
theorem T_X8_goToNext_7 {post : Bool → CMu → Prop} (hl : l.stackTraces = false) (X : MC p l s m args meth c cX8_goToNext 5 RX8 G ρ A) (hr : meth.sig.returnType = (some .boolean)) (hex : ∀ z ∈ c.exceptionTable.toList, False) (n : Nat) : ∀ (v1 : Int32) (cm : CMu), B_X8_goToNext_7 post n v1 cm → LW p l e rm_X8_goToNext s m args below meth c (Qm below G ρ A (PZ (fun u => (u, mm, oo)) post) noX args s 0 0) G ρ A 5 0 0 7 [(0, .ref 377), (1, .int v1)] [] (cm, mm, oo) := by
  induction n with
  | zero =>
    intro v1 cm h
    exact False.elim h
  | succ n ih =>
    intro v1 cm h
    unfold B_X8_goToNext_7 at h
    refine L_iload_n (pc := 7) X d_X8_goToNext_7 rfl 1 rfl ?_
    refine L_if_lt (pc := 8) (tgt := 34) X d_X8_goToNext_8 (by decide) (fun c8 => ?_) (fun c8 => ?_)
    · replace h := h.1 c8
      refine LW.sub [0, 1] rfl ?_
      exact T_X8_goToNext_34 hl X hr hex _  _ h
    · replace h := h.2 c8
      refine L_aload_n (pc := 11) X d_X8_goToNext_11 rfl 0 rfl ?_
      refine gf_X8_15 (pc := 12) (b := 379) X d_X8_goToNext_12 kd_377 rfl ?_
      refine L_iload_n (pc := 15) X d_X8_goToNext_15 rfl 1 rfl ?_
      obtain ⟨q1, h⟩ := h
      refine L_iald (pc := 16) X d_X8_goToNext_16 kd_379 q1 ?_
      refine L_aload_n (pc := 17) X d_X8_goToNext_17 rfl 0 rfl ?_
      refine gf_X8_15 (pc := 18) (b := 379) X d_X8_goToNext_18 kd_377 rfl ?_
      refine L_iload_n (pc := 21) X d_X8_goToNext_21 rfl 1 rfl ?_
      refine L_iconst (pc := 22) (v := 1) X d_X8_goToNext_22 (by decide) ?_
      refine L_iadd (pc := 23) X d_X8_goToNext_23 ?_
      obtain ⟨q2, h⟩ := h
      refine L_iald (pc := 24) X d_X8_goToNext_24 kd_379 q2 ?_
      refine L_icmp_lt (pc := 25) (tgt := 34) X d_X8_goToNext_25 (by decide) (fun c25 => ?_) (fun c25 => ?_)
      · replace h := h.1 c25
        refine LW.sub [0, 1] rfl ?_
        exact T_X8_goToNext_34 hl X hr hex _  _ h
      · replace h := h.2 c25
        refine L_iinc (pc := 28) (v := v1 + (-1)) (lv2 := [(1, .int (v1 + (-1))), (0, .ref 377)]) X d_X8_goToNext_28 1 rfl rfl (by decide) rfl ?_
        refine L_goto (pc := 31) (tgt := 7) X d_X8_goToNext_31 (by decide) ?_
        refine LW.sub [1, 0] rfl ?_
        exact ih _  _ h
set_option maxHeartbeats 4000000 in
set_option maxRecDepth 100000 in
theorem c_X8_goToNext (hl : l.stackTraces = false) {cm : CMu} {post : Bool → CMu → Prop} (h : w_X8_goToNext post cm) : CT l yX8_goToNext (.code yX8_goToNext cX8_goToNext 5 (some .boolean)) rm_X8_goToNext 0 0 G ρ [.ref 377] (cm, mm, oo) (PZ (fun u => (u, mm, oo)) post) noX := by
  refine CT_of hl (by decide +kernel) rfl (Nat.le_of_ble_eq_true rfl) (lv0 := [(0, .ref 377)]) rfl (fun p e s m args below meth c A X hr hex hnm => ?_)
  unfold w_X8_goToNext at h
  refine L_aload_n (pc := 0) X d_X8_goToNext_0 rfl 0 rfl ?_
  refine gf_X8_24 (pc := 1) X d_X8_goToNext_1 kd_377 ?_
  refine L_iconst (pc := 4) (v := 2) X d_X8_goToNext_4 (by decide) ?_
  refine L_isub (pc := 5) X d_X8_goToNext_5 ?_
  refine L_istore_n (pc := 6) (lv2 := [(1, .int ((gI cm 377 4) - 2)), (0, .ref 377)]) X d_X8_goToNext_6 rfl (by decide) rfl ?_
  obtain ⟨n7, h⟩ := h
  refine LW.sub [1, 0] rfl ?_
  exact T_X8_goToNext_7 hl X hr hex n7 _  _ h
end G_X8_goToNext
theorem d_X6_add_0 : decode cX6_add 0 = .ok (.aload_n 0, 1) := by decide +kernel
theorem d_X6_add_1 : decode cX6_add 1 = .ok (.getfield 29, 3) := by decide +kernel
theorem d_X6_add_4 : decode cX6_add 4 = .ok (.bipush 12, 2) := by decide +kernel
theorem d_X6_add_6 : decode cX6_add 6 = .ok (.if_icmp .lt 5, 3) := by decide +kernel
theorem d_X6_add_9 : decode cX6_add 9 = .ok (.iconst (-1), 1) := by decide +kernel
theorem d_X6_add_10 : decode cX6_add 10 = .ok (.ireturn, 1) := by decide +kernel
theorem d_X6_add_11 : decode cX6_add 11 = .ok (.aload_n 0, 1) := by decide +kernel
theorem d_X6_add_12 : decode cX6_add 12 = .ok (.getfield 9, 3) := by decide +kernel
theorem d_X6_add_15 : decode cX6_add 15 = .ok (.aload_n 0, 1) := by decide +kernel
theorem d_X6_add_16 : decode cX6_add 16 = .ok (.getfield 29, 3) := by decide +kernel
theorem d_X6_add_19 : decode cX6_add 19 = .ok (.iload_n 1, 1) := by decide +kernel
theorem d_X6_add_20 : decode cX6_add 20 = .ok (.iastore, 1) := by decide +kernel
theorem d_X6_add_21 : decode cX6_add 21 = .ok (.aload_n 0, 1) := by decide +kernel
theorem d_X6_add_22 : decode cX6_add 22 = .ok (.getfield 15, 3) := by decide +kernel
theorem d_X6_add_25 : decode cX6_add 25 = .ok (.aload_n 0, 1) := by decide +kernel
theorem d_X6_add_26 : decode cX6_add 26 = .ok (.getfield 29, 3) := by decide +kernel
theorem d_X6_add_29 : decode cX6_add 29 = .ok (.iload_n 2, 1) := by decide +kernel
theorem d_X6_add_30 : decode cX6_add 30 = .ok (.iastore, 1) := by decide +kernel
theorem d_X6_add_31 : decode cX6_add 31 = .ok (.aload_n 0, 1) := by decide +kernel
theorem d_X6_add_32 : decode cX6_add 32 = .ok (.dup, 1) := by decide +kernel
theorem d_X6_add_33 : decode cX6_add 33 = .ok (.getfield 29, 3) := by decide +kernel
theorem d_X6_add_36 : decode cX6_add 36 = .ok (.iconst 1, 1) := by decide +kernel
theorem d_X6_add_37 : decode cX6_add 37 = .ok (.iadd, 1) := by decide +kernel
theorem d_X6_add_38 : decode cX6_add 38 = .ok (.putfield 29, 3) := by decide +kernel
theorem d_X6_add_41 : decode cX6_add 41 = .ok (.aload_n 0, 1) := by decide +kernel
theorem d_X6_add_42 : decode cX6_add 42 = .ok (.getfield 29, 3) := by decide +kernel
theorem d_X6_add_45 : decode cX6_add 45 = .ok (.iconst 1, 1) := by decide +kernel
theorem d_X6_add_46 : decode cX6_add 46 = .ok (.isub, 1) := by decide +kernel
theorem d_X6_add_47 : decode cX6_add 47 = .ok (.ireturn, 1) := by decide +kernel
abbrev rm_X6_add : Room := { frames := 0, cells := 0, slots := 0, locals := 0 }
def w_X6_add (post : Int32 → CMu → Prop) (a0 : Nat) (x1 : Int32) (x2 : Int32) (cm : CMu) : Prop := ((gI cm a0 3) < 12 → ((vp_in (gI cm a0 3) 12) ∧ (vp_in (gI (uI cm (a0 + 1) (Int32.toNatClampNeg (gI cm a0 3)) x1) a0 3) 12) ∧ post ((gI (uI (uI (uI cm (a0 + 1) (Int32.toNatClampNeg (gI cm a0 3)) x1) (a0 + 2) (Int32.toNatClampNeg (gI (uI cm (a0 + 1) (Int32.toNatClampNeg (gI cm a0 3)) x1) a0 3)) x2) a0 3 ((gI (uI (uI cm (a0 + 1) (Int32.toNatClampNeg (gI cm a0 3)) x1) (a0 + 2) (Int32.toNatClampNeg (gI (uI cm (a0 + 1) (Int32.toNatClampNeg (gI cm a0 3)) x1) a0 3)) x2) a0 3) + 1)) a0 3) - 1) (uI (uI (uI cm (a0 + 1) (Int32.toNatClampNeg (gI cm a0 3)) x1) (a0 + 2) (Int32.toNatClampNeg (gI (uI cm (a0 + 1) (Int32.toNatClampNeg (gI cm a0 3)) x1) a0 3)) x2) a0 3 ((gI (uI (uI cm (a0 + 1) (Int32.toNatClampNeg (gI cm a0 3)) x1) (a0 + 2) (Int32.toNatClampNeg (gI (uI cm (a0 + 1) (Int32.toNatClampNeg (gI cm a0 3)) x1) a0 3)) x2) a0 3) + 1)))) ∧ (¬ (gI cm a0 3) < 12 → (post (-1) cm))
section G_X6_add
variable {p : Program} {l : Launch} {e : Env} {s : State} {m : MethodId} {args : Array Value} {below : List Frame} {meth : Method} {c : Code} {G : Gd} {ρ : Nat → Nat} {A : Nat → Prop} {mm : Nat → Nat → Int32} {oo : Nat → Int64}
set_option maxHeartbeats 4000000 in
set_option maxRecDepth 100000 in
theorem c_X6_add (hl : l.stackTraces = false) {a0 : Nat} {x1 : Int32} {x2 : Int32} (h_a0 : (KD a0).1 = 5) {cm : CMu} {post : Int32 → CMu → Prop} (h : w_X6_add post a0 x1 x2 cm) : CT l yX6_add (.code yX6_add cX6_add 3 (some .int)) rm_X6_add 0 0 G ρ [.ref a0, .int x1, .int x2] (cm, mm, oo) (PI (fun u => (u, mm, oo)) post) noX := by
  refine CT_of hl (by decide +kernel) rfl (Nat.le_of_ble_eq_true rfl) (lv0 := [(0, .ref a0), (1, .int x1), (2, .int x2)]) rfl (fun p e s m args below meth c A X hr hex hnm => ?_)
  unfold w_X6_add at h
  refine L_aload_n (pc := 0) X d_X6_add_0 rfl 0 rfl ?_
  refine gf_X6_29 (pc := 1) X d_X6_add_1 h_a0 ?_
  refine L_bipush (pc := 4) (v := 12) X d_X6_add_4 (by decide) ?_
  refine L_icmp_lt (pc := 6) (tgt := 11) X d_X6_add_6 (by decide) (fun c6 => ?_) (fun c6 => ?_)
  · replace h := h.1 c6
    refine L_aload_n (pc := 11) X d_X6_add_11 rfl 0 rfl ?_
    refine gf_X6_9 (pc := 12) (b := a0 + 1) X d_X6_add_12 h_a0 rfl ?_
    refine L_aload_n (pc := 15) X d_X6_add_15 rfl 0 rfl ?_
    refine gf_X6_29 (pc := 16) X d_X6_add_16 h_a0 ?_
    refine L_iload_n (pc := 19) X d_X6_add_19 rfl 1 rfl ?_
    obtain ⟨q1, h⟩ := h
    refine L_iast (pc := 20) X d_X6_add_20 (kf_5_0 h_a0) q1 ?_
    refine L_aload_n (pc := 21) X d_X6_add_21 rfl 0 rfl ?_
    refine gf_X6_15 (pc := 22) (b := a0 + 2) X d_X6_add_22 h_a0 rfl ?_
    refine L_aload_n (pc := 25) X d_X6_add_25 rfl 0 rfl ?_
    refine gf_X6_29 (pc := 26) X d_X6_add_26 h_a0 ?_
    refine L_iload_n (pc := 29) X d_X6_add_29 rfl 2 rfl ?_
    obtain ⟨q2, h⟩ := h
    refine L_iast (pc := 30) X d_X6_add_30 (kf_5_1 h_a0) q2 ?_
    refine L_aload_n (pc := 31) X d_X6_add_31 rfl 0 rfl ?_
    refine L_dup (pc := 32) X d_X6_add_32 rfl ?_
    refine gf_X6_29 (pc := 33) X d_X6_add_33 h_a0 ?_
    refine L_iconst (pc := 36) (v := 1) X d_X6_add_36 (by decide) ?_
    refine L_iadd (pc := 37) X d_X6_add_37 ?_
    refine pf_X6_29 (pc := 38) X d_X6_add_38 h_a0 ?_
    refine L_aload_n (pc := 41) X d_X6_add_41 rfl 0 rfl ?_
    refine gf_X6_29 (pc := 42) X d_X6_add_42 h_a0 ?_
    refine L_iconst (pc := 45) (v := 1) X d_X6_add_45 (by decide) ?_
    refine L_isub (pc := 46) X d_X6_add_46 ?_
    exact L_iret (pc := 47) X hr d_X6_add_47 (by decide) (by decide) ⟨_, _, rfl, rfl, h⟩
  · replace h := h.2 c6
    refine L_iconst (pc := 9) (v := (-1)) X d_X6_add_9 (by decide) ?_
    exact L_iret (pc := 10) X hr d_X6_add_10 (by decide) (by decide) ⟨_, _, rfl, rfl, h⟩
end G_X6_add
theorem d_X6_delaySome_0 : decode cX6_delaySome 0 = .ok (.iconst 0, 1) := by decide +kernel
theorem d_X6_delaySome_1 : decode cX6_delaySome 1 = .ok (.istore_n 1, 1) := by decide +kernel
theorem d_X6_delaySome_2 : decode cX6_delaySome 2 = .ok (.iconst 0, 1) := by decide +kernel
theorem d_X6_delaySome_3 : decode cX6_delaySome 3 = .ok (.istore_n 2, 1) := by decide +kernel
theorem d_X6_delaySome_4 : decode cX6_delaySome 4 = .ok (.iload_n 2, 1) := by decide +kernel
theorem d_X6_delaySome_5 : decode cX6_delaySome 5 = .ok (.aload_n 0, 1) := by decide +kernel
theorem d_X6_delaySome_6 : decode cX6_delaySome 6 = .ok (.getfield 29, 3) := by decide +kernel
theorem d_X6_delaySome_9 : decode cX6_delaySome 9 = .ok (.if_icmp .ge 88, 3) := by decide +kernel
theorem d_X6_delaySome_12 : decode cX6_delaySome 12 = .ok (.iconst 0, 1) := by decide +kernel
theorem d_X6_delaySome_13 : decode cX6_delaySome 13 = .ok (.istore_n 3, 1) := by decide +kernel
theorem d_X6_delaySome_14 : decode cX6_delaySome 14 = .ok (.iload_n 3, 1) := by decide +kernel
theorem d_X6_delaySome_15 : decode cX6_delaySome 15 = .ok (.aload_n 0, 1) := by decide +kernel
theorem d_X6_delaySome_16 : decode cX6_delaySome 16 = .ok (.getfield 29, 3) := by decide +kernel
theorem d_X6_delaySome_19 : decode cX6_delaySome 19 = .ok (.if_icmp .ge 72, 3) := by decide +kernel
theorem d_X6_delaySome_22 : decode cX6_delaySome 22 = .ok (.aload_n 0, 1) := by decide +kernel
theorem d_X6_delaySome_23 : decode cX6_delaySome 23 = .ok (.getfield 23, 3) := by decide +kernel
theorem d_X6_delaySome_26 : decode cX6_delaySome 26 = .ok (.iload_n 2, 1) := by decide +kernel
theorem d_X6_delaySome_27 : decode cX6_delaySome 27 = .ok (.iaload, 1) := by decide +kernel
theorem d_X6_delaySome_28 : decode cX6_delaySome 28 = .ok (.aload_n 0, 1) := by decide +kernel
theorem d_X6_delaySome_29 : decode cX6_delaySome 29 = .ok (.getfield 26, 3) := by decide +kernel
theorem d_X6_delaySome_32 : decode cX6_delaySome 32 = .ok (.iload_n 2, 1) := by decide +kernel
theorem d_X6_delaySome_33 : decode cX6_delaySome 33 = .ok (.iaload, 1) := by decide +kernel
theorem d_X6_delaySome_34 : decode cX6_delaySome 34 = .ok (.iadd, 1) := by decide +kernel
theorem d_X6_delaySome_35 : decode cX6_delaySome 35 = .ok (.aload_n 0, 1) := by decide +kernel
theorem d_X6_delaySome_36 : decode cX6_delaySome 36 = .ok (.getfield 20, 3) := by decide +kernel
theorem d_X6_delaySome_39 : decode cX6_delaySome 39 = .ok (.iload_n 2, 1) := by decide +kernel
theorem d_X6_delaySome_40 : decode cX6_delaySome 40 = .ok (.aaload, 1) := by decide +kernel
theorem d_X6_delaySome_41 : decode cX6_delaySome 41 = .ok (.iload_n 3, 1) := by decide +kernel
theorem d_X6_delaySome_42 : decode cX6_delaySome 42 = .ok (.iaload, 1) := by decide +kernel
theorem d_X6_delaySome_43 : decode cX6_delaySome 43 = .ok (.iadd, 1) := by decide +kernel
theorem d_X6_delaySome_44 : decode cX6_delaySome 44 = .ok (.aload_n 0, 1) := by decide +kernel
theorem d_X6_delaySome_45 : decode cX6_delaySome 45 = .ok (.getfield 26, 3) := by decide +kernel
theorem d_X6_delaySome_48 : decode cX6_delaySome 48 = .ok (.iload_n 3, 1) := by decide +kernel
theorem d_X6_delaySome_49 : decode cX6_delaySome 49 = .ok (.iaload, 1) := by decide +kernel
theorem d_X6_delaySome_50 : decode cX6_delaySome 50 = .ok (.isub, 1) := by decide +kernel
theorem d_X6_delaySome_51 : decode cX6_delaySome 51 = .ok (.istore 4, 2) := by decide +kernel
theorem d_X6_delaySome_53 : decode cX6_delaySome 53 = .ok (.aload_n 0, 1) := by decide +kernel
theorem d_X6_delaySome_54 : decode cX6_delaySome 54 = .ok (.getfield 20, 3) := by decide +kernel
theorem d_X6_delaySome_57 : decode cX6_delaySome 57 = .ok (.iload_n 2, 1) := by decide +kernel
theorem d_X6_delaySome_58 : decode cX6_delaySome 58 = .ok (.aaload, 1) := by decide +kernel
theorem d_X6_delaySome_59 : decode cX6_delaySome 59 = .ok (.iload_n 3, 1) := by decide +kernel
theorem d_X6_delaySome_60 : decode cX6_delaySome 60 = .ok (.iaload, 1) := by decide +kernel
theorem d_X6_delaySome_61 : decode cX6_delaySome 61 = .ok (.ifCond .le 24, 3) := by decide +kernel
theorem d_X6_delaySome_64 : decode cX6_delaySome 64 = .ok (.aload_n 0, 1) := by decide +kernel
theorem d_X6_delaySome_65 : decode cX6_delaySome 65 = .ok (.getfield 23, 3) := by decide +kernel
theorem d_X6_delaySome_68 : decode cX6_delaySome 68 = .ok (.iload_n 3, 1) := by decide +kernel
theorem d_X6_delaySome_69 : decode cX6_delaySome 69 = .ok (.iaload, 1) := by decide +kernel
theorem d_X6_delaySome_70 : decode cX6_delaySome 70 = .ok (.iload 4, 2) := by decide +kernel
theorem d_X6_delaySome_72 : decode cX6_delaySome 72 = .ok (.if_icmp .ge 13, 3) := by decide +kernel
theorem d_X6_delaySome_75 : decode cX6_delaySome 75 = .ok (.aload_n 0, 1) := by decide +kernel
theorem d_X6_delaySome_76 : decode cX6_delaySome 76 = .ok (.getfield 23, 3) := by decide +kernel
theorem d_X6_delaySome_79 : decode cX6_delaySome 79 = .ok (.iload_n 3, 1) := by decide +kernel
theorem d_X6_delaySome_80 : decode cX6_delaySome 80 = .ok (.iload 4, 2) := by decide +kernel
theorem d_X6_delaySome_82 : decode cX6_delaySome 82 = .ok (.iastore, 1) := by decide +kernel
theorem d_X6_delaySome_83 : decode cX6_delaySome 83 = .ok (.iconst 1, 1) := by decide +kernel
theorem d_X6_delaySome_84 : decode cX6_delaySome 84 = .ok (.istore_n 1, 1) := by decide +kernel
theorem d_X6_delaySome_85 : decode cX6_delaySome 85 = .ok (.iinc 3 1, 3) := by decide +kernel
theorem d_X6_delaySome_88 : decode cX6_delaySome 88 = .ok (.goto (-74), 3) := by decide +kernel
theorem d_X6_delaySome_91 : decode cX6_delaySome 91 = .ok (.iinc 2 1, 3) := by decide +kernel
theorem d_X6_delaySome_94 : decode cX6_delaySome 94 = .ok (.goto (-90), 3) := by decide +kernel
theorem d_X6_delaySome_97 : decode cX6_delaySome 97 = .ok (.iload_n 1, 1) := by decide +kernel
theorem d_X6_delaySome_98 : decode cX6_delaySome 98 = .ok (.ireturn, 1) := by decide +kernel
abbrev rm_X6_delaySome : Room := { frames := 0, cells := 0, slots := 0, locals := 0 }
def B_X6_delaySome_85 (post : Bool → CMu → Prop) (k4 : Nat → Int32 → Int32 → CMu → Prop) (k14 : Nat → Int32 → Int32 → Int32 → CMu → Prop) (v0 : Nat) (v1 : Int32) (v2 : Int32) (v3 : Int32) (cm : CMu) : Prop := k14 v0 v1 v2 (v3 + 1) cm
def B_X6_delaySome_14 (post : Bool → CMu → Prop) (k4 : Nat → Int32 → Int32 → CMu → Prop) : Nat → Nat → Int32 → Int32 → Int32 → CMu → Prop
  | 0 => fun _ _ _ _ _ => False
  | n + 1 => fun v0 v1 v2 v3 cm => ((gI cm v0 3) ≤ v3 → (k4 v0 v1 (v2 + 1) cm)) ∧ (¬ (gI cm v0 3) ≤ v3 → ((vp_in v2 12) ∧ (vp_in v2 12) ∧ (vp_in v2 12) ∧ (vp_in v3 12) ∧ (vp_in v3 12) ∧ (vp_in v2 12) ∧ (vp_in v3 12) ∧ ((gI cm (v0 + 4 + Int32.toNatClampNeg v2) (Int32.toNatClampNeg v3)) ≤ 0 → (B_X6_delaySome_85 post k4 (B_X6_delaySome_14 post k4 n) v0 v1 v2 v3 cm)) ∧ (¬ (gI cm (v0 + 4 + Int32.toNatClampNeg v2) (Int32.toNatClampNeg v3)) ≤ 0 → ((vp_in v3 12) ∧ (((((gI cm (v0 + 16) (Int32.toNatClampNeg v2)) + (gI cm (v0 + 17) (Int32.toNatClampNeg v2))) + (gI cm (v0 + 4 + Int32.toNatClampNeg v2) (Int32.toNatClampNeg v3))) - (gI cm (v0 + 17) (Int32.toNatClampNeg v3))) ≤ (gI cm (v0 + 16) (Int32.toNatClampNeg v3)) → (B_X6_delaySome_85 post k4 (B_X6_delaySome_14 post k4 n) v0 v1 v2 v3 cm)) ∧ (¬ ((((gI cm (v0 + 16) (Int32.toNatClampNeg v2)) + (gI cm (v0 + 17) (Int32.toNatClampNeg v2))) + (gI cm (v0 + 4 + Int32.toNatClampNeg v2) (Int32.toNatClampNeg v3))) - (gI cm (v0 + 17) (Int32.toNatClampNeg v3))) ≤ (gI cm (v0 + 16) (Int32.toNatClampNeg v3)) → ((vp_in v3 12) ∧ B_X6_delaySome_85 post k4 (B_X6_delaySome_14 post k4 n) v0 1 v2 v3 (uI cm (v0 + 16) (Int32.toNatClampNeg v3) ((((gI cm (v0 + 16) (Int32.toNatClampNeg v2)) + (gI cm (v0 + 17) (Int32.toNatClampNeg v2))) + (gI cm (v0 + 4 + Int32.toNatClampNeg v2) (Int32.toNatClampNeg v3))) - (gI cm (v0 + 17) (Int32.toNatClampNeg v3))))))))))
def B_X6_delaySome_4 (post : Bool → CMu → Prop) : Nat → Nat → Int32 → Int32 → CMu → Prop
  | 0 => fun _ _ _ _ => False
  | n + 1 => fun v0 v1 v2 cm => ((gI cm v0 3) ≤ v2 → ((v1 = 0 ∧ post false cm) ∨ (v1 = 1 ∧ post true cm))) ∧ (¬ (gI cm v0 3) ≤ v2 → (∃ n14, B_X6_delaySome_14 post (B_X6_delaySome_4 post n) n14 v0 v1 v2 0 cm))
def w_X6_delaySome (post : Bool → CMu → Prop) (a0 : Nat) (cm : CMu) : Prop := ∃ n4, B_X6_delaySome_4 post n4 a0 0 0 cm
section G_X6_delaySome
variable {p : Program} {l : Launch} {e : Env} {s : State} {m : MethodId} {args : Array Value} {below : List Frame} {meth : Method} {c : Code} {G : Gd} {ρ : Nat → Nat} {A : Nat → Prop} {mm : Nat → Nat → Int32} {oo : Nat → Int64}
set_option maxHeartbeats 4000000 in
set_option maxRecDepth 100000 in
theorem T_X6_delaySome_85 {post : Bool → CMu → Prop} {k4 : Nat → Int32 → Int32 → CMu → Prop} {k14 : Nat → Int32 → Int32 → Int32 → CMu → Prop} (hl : l.stackTraces = false) (X : MC p l s m args meth c cX6_delaySome 5 RX6 G ρ A) (hr : meth.sig.returnType = (some .boolean)) (hex : ∀ z ∈ c.exceptionTable.toList, False)
    (hk4 : ∀ (v0 : Nat) (v1 : Int32) (v2 : Int32) (h_v0 : (KD v0).1 = 5) (cm : CMu), k4 v0 v1 v2 cm → LW p l e rm_X6_delaySome s m args below meth c (Qm below G ρ A (PZ (fun u => (u, mm, oo)) post) noX args s 0 0) G ρ A 5 0 0 4 [(0, .ref v0), (1, .int v1), (2, .int v2)] [] (cm, mm, oo))
    (hk14 : ∀ (v0 : Nat) (v1 : Int32) (v2 : Int32) (v3 : Int32) (h_v0 : (KD v0).1 = 5) (cm : CMu), k14 v0 v1 v2 v3 cm → LW p l e rm_X6_delaySome s m args below meth c (Qm below G ρ A (PZ (fun u => (u, mm, oo)) post) noX args s 0 0) G ρ A 5 0 0 14 [(0, .ref v0), (1, .int v1), (2, .int v2), (3, .int v3)] [] (cm, mm, oo)) : ∀ (v0 : Nat) (v1 : Int32) (v2 : Int32) (v3 : Int32) (h_v0 : (KD v0).1 = 5) (cm : CMu), B_X6_delaySome_85 post k4 k14 v0 v1 v2 v3 cm → LW p l e rm_X6_delaySome s m args below meth c (Qm below G ρ A (PZ (fun u => (u, mm, oo)) post) noX args s 0 0) G ρ A 5 0 0 85 [(0, .ref v0), (1, .int v1), (2, .int v2), (3, .int v3)] [] (cm, mm, oo) := by
  intro v0 v1 v2 v3 h_v0 cm h
  unfold B_X6_delaySome_85 at h
  refine L_iinc (pc := 85) (v := v3 + 1) (lv2 := [(3, .int (v3 + 1)), (0, .ref v0), (1, .int v1), (2, .int v2)]) X d_X6_delaySome_85 3 rfl rfl (by decide) rfl ?_
  refine L_goto (pc := 88) (tgt := 14) X d_X6_delaySome_88 (by decide) ?_
  refine LW.sub [1, 2, 3, 0] rfl ?_
  exact hk14 _ _ _ _ h_v0 _ h
set_option maxHeartbeats 4000000 in
set_option maxRecDepth 100000 in
theorem T_X6_delaySome_14 {post : Bool → CMu → Prop} {k4 : Nat → Int32 → Int32 → CMu → Prop} (hl : l.stackTraces = false) (X : MC p l s m args meth c cX6_delaySome 5 RX6 G ρ A) (hr : meth.sig.returnType = (some .boolean)) (hex : ∀ z ∈ c.exceptionTable.toList, False)
    (hk4 : ∀ (v0 : Nat) (v1 : Int32) (v2 : Int32) (h_v0 : (KD v0).1 = 5) (cm : CMu), k4 v0 v1 v2 cm → LW p l e rm_X6_delaySome s m args below meth c (Qm below G ρ A (PZ (fun u => (u, mm, oo)) post) noX args s 0 0) G ρ A 5 0 0 4 [(0, .ref v0), (1, .int v1), (2, .int v2)] [] (cm, mm, oo)) (n : Nat) : ∀ (v0 : Nat) (v1 : Int32) (v2 : Int32) (v3 : Int32) (h_v0 : (KD v0).1 = 5) (cm : CMu), B_X6_delaySome_14 post k4 n v0 v1 v2 v3 cm → LW p l e rm_X6_delaySome s m args below meth c (Qm below G ρ A (PZ (fun u => (u, mm, oo)) post) noX args s 0 0) G ρ A 5 0 0 14 [(0, .ref v0), (1, .int v1), (2, .int v2), (3, .int v3)] [] (cm, mm, oo) := by
  induction n with
  | zero =>
    intro v0 v1 v2 v3 h_v0 cm h
    exact False.elim h
  | succ n ih =>
    intro v0 v1 v2 v3 h_v0 cm h
    unfold B_X6_delaySome_14 at h
    refine L_iload_n (pc := 14) X d_X6_delaySome_14 rfl 3 rfl ?_
    refine L_aload_n (pc := 15) X d_X6_delaySome_15 rfl 0 rfl ?_
    refine gf_X6_29 (pc := 16) X d_X6_delaySome_16 h_v0 ?_
    refine L_icmp_ge (pc := 19) (tgt := 91) X d_X6_delaySome_19 (by decide) (fun c19 => ?_) (fun c19 => ?_)
    · replace h := h.1 c19
      refine L_iinc (pc := 91) (v := v2 + 1) (lv2 := [(2, .int (v2 + 1)), (0, .ref v0), (1, .int v1), (3, .int v3)]) X d_X6_delaySome_91 2 rfl rfl (by decide) rfl ?_
      refine L_goto (pc := 94) (tgt := 4) X d_X6_delaySome_94 (by decide) ?_
      refine LW.sub [1, 2, 0] rfl ?_
      exact hk4 _ _ _ h_v0 _ h
    · replace h := h.2 c19
      refine L_aload_n (pc := 22) X d_X6_delaySome_22 rfl 0 rfl ?_
      refine gf_X6_23 (pc := 23) (b := v0 + 16) X d_X6_delaySome_23 h_v0 rfl ?_
      refine L_iload_n (pc := 26) X d_X6_delaySome_26 rfl 2 rfl ?_
      obtain ⟨q1, h⟩ := h
      refine L_iald (pc := 27) X d_X6_delaySome_27 (kf_5_4 h_v0) q1 ?_
      refine L_aload_n (pc := 28) X d_X6_delaySome_28 rfl 0 rfl ?_
      refine gf_X6_26 (pc := 29) (b := v0 + 17) X d_X6_delaySome_29 h_v0 rfl ?_
      refine L_iload_n (pc := 32) X d_X6_delaySome_32 rfl 2 rfl ?_
      obtain ⟨q2, h⟩ := h
      refine L_iald (pc := 33) X d_X6_delaySome_33 (kf_5_5 h_v0) q2 ?_
      refine L_iadd (pc := 34) X d_X6_delaySome_34 ?_
      refine L_aload_n (pc := 35) X d_X6_delaySome_35 rfl 0 rfl ?_
      refine gf_X6_20 (pc := 36) (b := v0 + 3) X d_X6_delaySome_36 h_v0 rfl ?_
      refine L_iload_n (pc := 39) X d_X6_delaySome_39 rfl 2 rfl ?_
      obtain ⟨q3, h⟩ := h
      refine L_aald25 (pc := 40) (b := v0 + 4 + Int32.toNatClampNeg v2) X d_X6_delaySome_40 (kf_5_2 h_v0) q3 rfl ?_
      refine L_iload_n (pc := 41) X d_X6_delaySome_41 rfl 3 rfl ?_
      obtain ⟨q4, h⟩ := h
      refine L_iald (pc := 42) X d_X6_delaySome_42 (ka_25 (kf_5_2 h_v0) (vin_lt q3)) q4 ?_
      refine L_iadd (pc := 43) X d_X6_delaySome_43 ?_
      refine L_aload_n (pc := 44) X d_X6_delaySome_44 rfl 0 rfl ?_
      refine gf_X6_26 (pc := 45) (b := v0 + 17) X d_X6_delaySome_45 h_v0 rfl ?_
      refine L_iload_n (pc := 48) X d_X6_delaySome_48 rfl 3 rfl ?_
      obtain ⟨q5, h⟩ := h
      refine L_iald (pc := 49) X d_X6_delaySome_49 (kf_5_5 h_v0) q5 ?_
      refine L_isub (pc := 50) X d_X6_delaySome_50 ?_
      refine L_istore (pc := 51) (lv2 := [(4, .int ((((gI cm (v0 + 16) (Int32.toNatClampNeg v2)) + (gI cm (v0 + 17) (Int32.toNatClampNeg v2))) + (gI cm (v0 + 4 + Int32.toNatClampNeg v2) (Int32.toNatClampNeg v3))) - (gI cm (v0 + 17) (Int32.toNatClampNeg v3)))), (0, .ref v0), (1, .int v1), (2, .int v2), (3, .int v3)]) X d_X6_delaySome_51 (by decide) rfl ?_
      refine L_aload_n (pc := 53) X d_X6_delaySome_53 rfl 1 rfl ?_
      refine gf_X6_20 (pc := 54) (b := v0 + 3) X d_X6_delaySome_54 h_v0 rfl ?_
      refine L_iload_n (pc := 57) X d_X6_delaySome_57 rfl 3 rfl ?_
      obtain ⟨q6, h⟩ := h
      refine L_aald25 (pc := 58) (b := v0 + 4 + Int32.toNatClampNeg v2) X d_X6_delaySome_58 (kf_5_2 h_v0) q6 rfl ?_
      refine L_iload_n (pc := 59) X d_X6_delaySome_59 rfl 4 rfl ?_
      obtain ⟨q7, h⟩ := h
      refine L_iald (pc := 60) X d_X6_delaySome_60 (ka_25 (kf_5_2 h_v0) (vin_lt q6)) q7 ?_
      refine L_if_le (pc := 61) (tgt := 85) X d_X6_delaySome_61 (by decide) (fun c61 => ?_) (fun c61 => ?_)
      · replace h := h.1 c61
        refine LW.sub [1, 2, 3, 4] rfl ?_
        exact T_X6_delaySome_85 hl X hr hex hk4 ih _ _ _ _ h_v0 _ h
      · replace h := h.2 c61
        refine L_aload_n (pc := 64) X d_X6_delaySome_64 rfl 1 rfl ?_
        refine gf_X6_23 (pc := 65) (b := v0 + 16) X d_X6_delaySome_65 h_v0 rfl ?_
        refine L_iload_n (pc := 68) X d_X6_delaySome_68 rfl 4 rfl ?_
        obtain ⟨q8, h⟩ := h
        refine L_iald (pc := 69) X d_X6_delaySome_69 (kf_5_4 h_v0) q8 ?_
        refine L_iload (pc := 70) X d_X6_delaySome_70 0 rfl ?_
        refine L_icmp_ge (pc := 72) (tgt := 85) X d_X6_delaySome_72 (by decide) (fun c72 => ?_) (fun c72 => ?_)
        · replace h := h.1 c72
          refine LW.sub [1, 2, 3, 4] rfl ?_
          exact T_X6_delaySome_85 hl X hr hex hk4 ih _ _ _ _ h_v0 _ h
        · replace h := h.2 c72
          refine L_aload_n (pc := 75) X d_X6_delaySome_75 rfl 1 rfl ?_
          refine gf_X6_23 (pc := 76) (b := v0 + 16) X d_X6_delaySome_76 h_v0 rfl ?_
          refine L_iload_n (pc := 79) X d_X6_delaySome_79 rfl 4 rfl ?_
          refine L_iload (pc := 80) X d_X6_delaySome_80 0 rfl ?_
          obtain ⟨q9, h⟩ := h
          refine L_iast (pc := 82) X d_X6_delaySome_82 (kf_5_4 h_v0) q9 ?_
          refine L_iconst (pc := 83) (v := 1) X d_X6_delaySome_83 (by decide) ?_
          refine L_istore_n (pc := 84) (lv2 := [(1, .int 1), (4, .int ((((gI cm (v0 + 16) (Int32.toNatClampNeg v2)) + (gI cm (v0 + 17) (Int32.toNatClampNeg v2))) + (gI cm (v0 + 4 + Int32.toNatClampNeg v2) (Int32.toNatClampNeg v3))) - (gI cm (v0 + 17) (Int32.toNatClampNeg v3)))), (0, .ref v0), (2, .int v2), (3, .int v3)]) X d_X6_delaySome_84 rfl (by decide) rfl ?_
          refine LW.sub [2, 0, 3, 4] rfl ?_
          exact T_X6_delaySome_85 hl X hr hex hk4 ih _ _ _ _ h_v0 _ h
set_option maxHeartbeats 4000000 in
set_option maxRecDepth 100000 in
theorem T_X6_delaySome_4 {post : Bool → CMu → Prop} (hl : l.stackTraces = false) (X : MC p l s m args meth c cX6_delaySome 5 RX6 G ρ A) (hr : meth.sig.returnType = (some .boolean)) (hex : ∀ z ∈ c.exceptionTable.toList, False) (n : Nat) : ∀ (v0 : Nat) (v1 : Int32) (v2 : Int32) (h_v0 : (KD v0).1 = 5) (cm : CMu), B_X6_delaySome_4 post n v0 v1 v2 cm → LW p l e rm_X6_delaySome s m args below meth c (Qm below G ρ A (PZ (fun u => (u, mm, oo)) post) noX args s 0 0) G ρ A 5 0 0 4 [(0, .ref v0), (1, .int v1), (2, .int v2)] [] (cm, mm, oo) := by
  induction n with
  | zero =>
    intro v0 v1 v2 h_v0 cm h
    exact False.elim h
  | succ n ih =>
    intro v0 v1 v2 h_v0 cm h
    unfold B_X6_delaySome_4 at h
    refine L_iload_n (pc := 4) X d_X6_delaySome_4 rfl 2 rfl ?_
    refine L_aload_n (pc := 5) X d_X6_delaySome_5 rfl 0 rfl ?_
    refine gf_X6_29 (pc := 6) X d_X6_delaySome_6 h_v0 ?_
    refine L_icmp_ge (pc := 9) (tgt := 97) X d_X6_delaySome_9 (by decide) (fun c9 => ?_) (fun c9 => ?_)
    · replace h := h.1 c9
      refine L_iload_n (pc := 97) X d_X6_delaySome_97 rfl 1 rfl ?_
      rcases h with ⟨q, h⟩ | ⟨q, h⟩
      · exact L_zretB (pc := 98) X hr d_X6_delaySome_98 false q (by decide) (by decide) ⟨_, _, rfl, rfl, h⟩
      · exact L_zretB (pc := 98) X hr d_X6_delaySome_98 true q (by decide) (by decide) ⟨_, _, rfl, rfl, h⟩
    · replace h := h.2 c9
      refine L_iconst (pc := 12) (v := 0) X d_X6_delaySome_12 (by decide) ?_
      refine L_istore_n (pc := 13) (lv2 := [(3, .int 0), (0, .ref v0), (1, .int v1), (2, .int v2)]) X d_X6_delaySome_13 rfl (by decide) rfl ?_
      obtain ⟨n14, h⟩ := h
      refine LW.sub [1, 2, 3, 0] rfl ?_
      exact T_X6_delaySome_14 hl X hr hex ih n14 _ _ _ _ h_v0 _ h
set_option maxHeartbeats 4000000 in
set_option maxRecDepth 100000 in
theorem c_X6_delaySome (hl : l.stackTraces = false) {a0 : Nat} (h_a0 : (KD a0).1 = 5) {cm : CMu} {post : Bool → CMu → Prop} (h : w_X6_delaySome post a0 cm) : CT l yX6_delaySome (.code yX6_delaySome cX6_delaySome 5 (some .boolean)) rm_X6_delaySome 0 0 G ρ [.ref a0] (cm, mm, oo) (PZ (fun u => (u, mm, oo)) post) noX := by
  refine CT_of hl (by decide +kernel) rfl (Nat.le_of_ble_eq_true rfl) (lv0 := [(0, .ref a0)]) rfl (fun p e s m args below meth c A X hr hex hnm => ?_)
  unfold w_X6_delaySome at h
  refine L_iconst (pc := 0) (v := 0) X d_X6_delaySome_0 (by decide) ?_
  refine L_istore_n (pc := 1) (lv2 := [(1, .int 0), (0, .ref a0)]) X d_X6_delaySome_1 rfl (by decide) rfl ?_
  refine L_iconst (pc := 2) (v := 0) X d_X6_delaySome_2 (by decide) ?_
  refine L_istore_n (pc := 3) (lv2 := [(2, .int 0), (1, .int 0), (0, .ref a0)]) X d_X6_delaySome_3 rfl (by decide) rfl ?_
  obtain ⟨n4, h⟩ := h
  refine LW.sub [2, 1, 0] rfl ?_
  exact T_X6_delaySome_4 hl X hr hex n4 _ _ _ h_a0 _ h
end G_X6_delaySome
theorem d_X6_span_0 : decode cX6_span 0 = .ok (.iconst 0, 1) := by decide +kernel
theorem d_X6_span_1 : decode cX6_span 1 = .ok (.istore_n 1, 1) := by decide +kernel
theorem d_X6_span_2 : decode cX6_span 2 = .ok (.iconst 0, 1) := by decide +kernel
theorem d_X6_span_3 : decode cX6_span 3 = .ok (.istore_n 2, 1) := by decide +kernel
theorem d_X6_span_4 : decode cX6_span 4 = .ok (.iload_n 2, 1) := by decide +kernel
theorem d_X6_span_5 : decode cX6_span 5 = .ok (.aload_n 0, 1) := by decide +kernel
theorem d_X6_span_6 : decode cX6_span 6 = .ok (.getfield 29, 3) := by decide +kernel
theorem d_X6_span_9 : decode cX6_span 9 = .ok (.if_icmp .ge 27, 3) := by decide +kernel
theorem d_X6_span_12 : decode cX6_span 12 = .ok (.iload_n 1, 1) := by decide +kernel
theorem d_X6_span_13 : decode cX6_span 13 = .ok (.aload_n 0, 1) := by decide +kernel
theorem d_X6_span_14 : decode cX6_span 14 = .ok (.getfield 23, 3) := by decide +kernel
theorem d_X6_span_17 : decode cX6_span 17 = .ok (.iload_n 2, 1) := by decide +kernel
theorem d_X6_span_18 : decode cX6_span 18 = .ok (.iaload, 1) := by decide +kernel
theorem d_X6_span_19 : decode cX6_span 19 = .ok (.aload_n 0, 1) := by decide +kernel
theorem d_X6_span_20 : decode cX6_span 20 = .ok (.getfield 26, 3) := by decide +kernel
theorem d_X6_span_23 : decode cX6_span 23 = .ok (.iload_n 2, 1) := by decide +kernel
theorem d_X6_span_24 : decode cX6_span 24 = .ok (.iaload, 1) := by decide +kernel
theorem d_X6_span_25 : decode cX6_span 25 = .ok (.iadd, 1) := by decide +kernel
theorem d_X6_span_26 : decode cX6_span 26 = .ok (.invokestatic 50, 3) := by decide +kernel
theorem d_X6_span_29 : decode cX6_span 29 = .ok (.istore_n 1, 1) := by decide +kernel
theorem d_X6_span_30 : decode cX6_span 30 = .ok (.iinc 2 1, 3) := by decide +kernel
theorem d_X6_span_33 : decode cX6_span 33 = .ok (.goto (-29), 3) := by decide +kernel
theorem d_X6_span_36 : decode cX6_span 36 = .ok (.iload_n 1, 1) := by decide +kernel
theorem d_X6_span_37 : decode cX6_span 37 = .ok (.ireturn, 1) := by decide +kernel
abbrev rm_X6_span : Room := { frames := 4, cells := 0, slots := 0, locals := 60 }
def B_X6_span_4 (post : Int32 → CMu → Prop) : Nat → Nat → Int32 → Int32 → CMu → Prop
  | 0 => fun _ _ _ _ => False
  | n + 1 => fun v0 v1 v2 cm => ((gI cm v0 3) ≤ v2 → (post v1 cm)) ∧ (¬ (gI cm v0 3) ≤ v2 → ((vp_in v2 12) ∧ (vp_in v2 12) ∧ B_X6_span_4 post n v0 (jmax v1 ((gI cm (v0 + 16) (Int32.toNatClampNeg v2)) + (gI cm (v0 + 17) (Int32.toNatClampNeg v2)))) (v2 + 1) cm))
def w_X6_span (post : Int32 → CMu → Prop) (a0 : Nat) (cm : CMu) : Prop := ∃ n4, B_X6_span_4 post n4 a0 0 0 cm
section G_X6_span
variable {p : Program} {l : Launch} {e : Env} {s : State} {m : MethodId} {args : Array Value} {below : List Frame} {meth : Method} {c : Code} {G : Gd} {ρ : Nat → Nat} {A : Nat → Prop} {mm : Nat → Nat → Int32} {oo : Nat → Int64}
set_option maxHeartbeats 4000000 in
set_option maxRecDepth 100000 in
theorem T_X6_span_4 {post : Int32 → CMu → Prop} (hl : l.stackTraces = false) (X : MC p l s m args meth c cX6_span 3 RX6 G ρ A) (hr : meth.sig.returnType = (some .int)) (hex : ∀ z ∈ c.exceptionTable.toList, False) (n : Nat) : ∀ (v0 : Nat) (v1 : Int32) (v2 : Int32) (h_v0 : (KD v0).1 = 5) (cm : CMu), B_X6_span_4 post n v0 v1 v2 cm → LW p l e rm_X6_span s m args below meth c (Qm below G ρ A (PI (fun u => (u, mm, oo)) post) noX args s 0 0) G ρ A 3 0 0 4 [(0, .ref v0), (1, .int v1), (2, .int v2)] [] (cm, mm, oo) := by
  induction n with
  | zero =>
    intro v0 v1 v2 h_v0 cm h
    exact False.elim h
  | succ n ih =>
    intro v0 v1 v2 h_v0 cm h
    unfold B_X6_span_4 at h
    refine L_iload_n (pc := 4) X d_X6_span_4 rfl 2 rfl ?_
    refine L_aload_n (pc := 5) X d_X6_span_5 rfl 0 rfl ?_
    refine gf_X6_29 (pc := 6) X d_X6_span_6 h_v0 ?_
    refine L_icmp_ge (pc := 9) (tgt := 36) X d_X6_span_9 (by decide) (fun c9 => ?_) (fun c9 => ?_)
    · replace h := h.1 c9
      refine L_iload_n (pc := 36) X d_X6_span_36 rfl 1 rfl ?_
      exact L_iret (pc := 37) X hr d_X6_span_37 (by decide) (by decide) ⟨_, _, rfl, rfl, h⟩
    · replace h := h.2 c9
      refine L_iload_n (pc := 12) X d_X6_span_12 rfl 1 rfl ?_
      refine L_aload_n (pc := 13) X d_X6_span_13 rfl 0 rfl ?_
      refine gf_X6_23 (pc := 14) (b := v0 + 16) X d_X6_span_14 h_v0 rfl ?_
      refine L_iload_n (pc := 17) X d_X6_span_17 rfl 2 rfl ?_
      obtain ⟨q1, h⟩ := h
      refine L_iald (pc := 18) X d_X6_span_18 (kf_5_4 h_v0) q1 ?_
      refine L_aload_n (pc := 19) X d_X6_span_19 rfl 0 rfl ?_
      refine gf_X6_26 (pc := 20) (b := v0 + 17) X d_X6_span_20 h_v0 rfl ?_
      refine L_iload_n (pc := 23) X d_X6_span_23 rfl 2 rfl ?_
      obtain ⟨q2, h⟩ := h
      refine L_iald (pc := 24) X d_X6_span_24 (kf_5_5 h_v0) q2 ?_
      refine L_iadd (pc := 25) X d_X6_span_25 ?_
      refine L_max (pc := 26) X d_X6_span_26 tw_1160 tw_516 tw_84 tw_517 (by decide) (by decide) (by decide) (by decide) ?_
      refine L_istore_n (pc := 29) (lv2 := [(1, .int (jmax v1 ((gI cm (v0 + 16) (Int32.toNatClampNeg v2)) + (gI cm (v0 + 17) (Int32.toNatClampNeg v2))))), (0, .ref v0), (2, .int v2)]) X d_X6_span_29 rfl (by decide) rfl ?_
      refine L_iinc (pc := 30) (v := v2 + 1) (lv2 := [(2, .int (v2 + 1)), (1, .int (jmax v1 ((gI cm (v0 + 16) (Int32.toNatClampNeg v2)) + (gI cm (v0 + 17) (Int32.toNatClampNeg v2))))), (0, .ref v0)]) X d_X6_span_30 2 rfl rfl (by decide) rfl ?_
      refine L_goto (pc := 33) (tgt := 4) X d_X6_span_33 (by decide) ?_
      refine LW.sub [2, 1, 0] rfl ?_
      exact ih _ _ _ h_v0 _ h
set_option maxHeartbeats 4000000 in
set_option maxRecDepth 100000 in
theorem c_X6_span (hl : l.stackTraces = false) {a0 : Nat} (h_a0 : (KD a0).1 = 5) {cm : CMu} {post : Int32 → CMu → Prop} (h : w_X6_span post a0 cm) : CT l yX6_span (.code yX6_span cX6_span 3 (some .int)) rm_X6_span 0 0 G ρ [.ref a0] (cm, mm, oo) (PI (fun u => (u, mm, oo)) post) noX := by
  refine CT_of hl (by decide +kernel) rfl (Nat.le_of_ble_eq_true rfl) (lv0 := [(0, .ref a0)]) rfl (fun p e s m args below meth c A X hr hex hnm => ?_)
  unfold w_X6_span at h
  refine L_iconst (pc := 0) (v := 0) X d_X6_span_0 (by decide) ?_
  refine L_istore_n (pc := 1) (lv2 := [(1, .int 0), (0, .ref a0)]) X d_X6_span_1 rfl (by decide) rfl ?_
  refine L_iconst (pc := 2) (v := 0) X d_X6_span_2 (by decide) ?_
  refine L_istore_n (pc := 3) (lv2 := [(2, .int 0), (1, .int 0), (0, .ref a0)]) X d_X6_span_3 rfl (by decide) rfl ?_
  obtain ⟨n4, h⟩ := h
  refine LW.sub [2, 1, 0] rfl ?_
  exact T_X6_span_4 hl X hr hex n4 _ _ _ h_a0 _ h
end G_X6_span
theorem d_X3_drawBelow_0 : decode cX3_drawBelow 0 = .ok (.aload_n 0, 1) := by decide +kernel
theorem d_X3_drawBelow_1 : decode cX3_drawBelow 1 = .ok (.ldc 234, 2) := by decide +kernel
theorem d_X3_drawBelow_3 : decode cX3_drawBelow 3 = .ok (.aload_n 0, 1) := by decide +kernel
theorem d_X3_drawBelow_4 : decode cX3_drawBelow 4 = .ok (.getfield 235, 3) := by decide +kernel
theorem d_X3_drawBelow_7 : decode cX3_drawBelow 7 = .ok (.imul, 1) := by decide +kernel
theorem d_X3_drawBelow_8 : decode cX3_drawBelow 8 = .ok (.sipush 12345, 3) := by decide +kernel
theorem d_X3_drawBelow_11 : decode cX3_drawBelow 11 = .ok (.iadd, 1) := by decide +kernel
theorem d_X3_drawBelow_12 : decode cX3_drawBelow 12 = .ok (.putfield 235, 3) := by decide +kernel
theorem d_X3_drawBelow_15 : decode cX3_drawBelow 15 = .ok (.aload_n 0, 1) := by decide +kernel
theorem d_X3_drawBelow_16 : decode cX3_drawBelow 16 = .ok (.getfield 235, 3) := by decide +kernel
theorem d_X3_drawBelow_19 : decode cX3_drawBelow 19 = .ok (.bipush 16, 2) := by decide +kernel
theorem d_X3_drawBelow_21 : decode cX3_drawBelow 21 = .ok (.iushr, 1) := by decide +kernel
theorem d_X3_drawBelow_22 : decode cX3_drawBelow 22 = .ok (.sipush 32767, 3) := by decide +kernel
theorem d_X3_drawBelow_25 : decode cX3_drawBelow 25 = .ok (.iand, 1) := by decide +kernel
theorem d_X3_drawBelow_26 : decode cX3_drawBelow 26 = .ok (.bipush 100, 2) := by decide +kernel
theorem d_X3_drawBelow_28 : decode cX3_drawBelow 28 = .ok (.irem, 1) := by decide +kernel
theorem d_X3_drawBelow_29 : decode cX3_drawBelow 29 = .ok (.iload_n 1, 1) := by decide +kernel
theorem d_X3_drawBelow_30 : decode cX3_drawBelow 30 = .ok (.if_icmp .ge 7, 3) := by decide +kernel
theorem d_X3_drawBelow_33 : decode cX3_drawBelow 33 = .ok (.iconst 1, 1) := by decide +kernel
theorem d_X3_drawBelow_34 : decode cX3_drawBelow 34 = .ok (.goto 4, 3) := by decide +kernel
theorem d_X3_drawBelow_37 : decode cX3_drawBelow 37 = .ok (.iconst 0, 1) := by decide +kernel
theorem d_X3_drawBelow_38 : decode cX3_drawBelow 38 = .ok (.ireturn, 1) := by decide +kernel
abbrev rm_X3_drawBelow : Room := { frames := 0, cells := 0, slots := 0, locals := 0 }
def w_X3_drawBelow (post : Bool → CMu → Prop) (a0 : Nat) (x1 : Int32) (cm : CMu) : Prop := (x1 ≤ (((UInt32.toInt32 (Int32.toUInt32 (gI (uI cm a0 13 ((1103515245 * (gI cm a0 13)) + 12345)) a0 13) >>> (Int32.toUInt32 16 &&& Int32.toUInt32 31))) &&& 32767) - ((UInt32.toInt32 (Int32.toUInt32 (gI (uI cm a0 13 ((1103515245 * (gI cm a0 13)) + 12345)) a0 13) >>> (Int32.toUInt32 16 &&& Int32.toUInt32 31))) &&& 32767) / 100 * 100) → (post false (uI cm a0 13 ((1103515245 * (gI cm a0 13)) + 12345)))) ∧ (¬ x1 ≤ (((UInt32.toInt32 (Int32.toUInt32 (gI (uI cm a0 13 ((1103515245 * (gI cm a0 13)) + 12345)) a0 13) >>> (Int32.toUInt32 16 &&& Int32.toUInt32 31))) &&& 32767) - ((UInt32.toInt32 (Int32.toUInt32 (gI (uI cm a0 13 ((1103515245 * (gI cm a0 13)) + 12345)) a0 13) >>> (Int32.toUInt32 16 &&& Int32.toUInt32 31))) &&& 32767) / 100 * 100) → (post true (uI cm a0 13 ((1103515245 * (gI cm a0 13)) + 12345))))
section G_X3_drawBelow
variable {p : Program} {l : Launch} {e : Env} {s : State} {m : MethodId} {args : Array Value} {below : List Frame} {meth : Method} {c : Code} {G : Gd} {ρ : Nat → Nat} {A : Nat → Prop} {mm : Nat → Nat → Int32} {oo : Nat → Int64}
set_option maxHeartbeats 4000000 in
set_option maxRecDepth 100000 in
theorem c_X3_drawBelow (hl : l.stackTraces = false) {a0 : Nat} {x1 : Int32} (h_a0 : (KD a0).1 = 3) {cm : CMu} {post : Bool → CMu → Prop} (h : w_X3_drawBelow post a0 x1 cm) : CT l yX3_drawBelow (.code yX3_drawBelow cX3_drawBelow 2 (some .boolean)) rm_X3_drawBelow 0 0 G ρ [.ref a0, .int x1] (cm, mm, oo) (PZ (fun u => (u, mm, oo)) post) noX := by
  refine CT_of hl (by decide +kernel) rfl (Nat.le_of_ble_eq_true rfl) (lv0 := [(0, .ref a0), (1, .int x1)]) rfl (fun p e s m args below meth c A X hr hex hnm => ?_)
  unfold w_X3_drawBelow at h
  refine L_aload_n (pc := 0) X d_X3_drawBelow_0 rfl 0 rfl ?_
  refine L_ldc (pc := 1) (v := 1103515245) X d_X3_drawBelow_1 tw_1014 ?_
  refine L_aload_n (pc := 3) X d_X3_drawBelow_3 rfl 0 rfl ?_
  refine gf_X3_235 (pc := 4) X d_X3_drawBelow_4 h_a0 ?_
  refine L_imul (pc := 7) X d_X3_drawBelow_7 ?_
  refine L_sipush (pc := 8) (v := 12345) X d_X3_drawBelow_8 (by decide) ?_
  refine L_iadd (pc := 11) X d_X3_drawBelow_11 ?_
  refine pf_X3_235 (pc := 12) X d_X3_drawBelow_12 h_a0 ?_
  refine L_aload_n (pc := 15) X d_X3_drawBelow_15 rfl 0 rfl ?_
  refine gf_X3_235 (pc := 16) X d_X3_drawBelow_16 h_a0 ?_
  refine L_bipush (pc := 19) (v := 16) X d_X3_drawBelow_19 (by decide) ?_
  refine L_iushr (pc := 21) X d_X3_drawBelow_21 ?_
  refine L_sipush (pc := 22) (v := 32767) X d_X3_drawBelow_22 (by decide) ?_
  refine L_iand (pc := 25) X d_X3_drawBelow_25 ?_
  refine L_bipush (pc := 26) (v := 100) X d_X3_drawBelow_26 (by decide) ?_
  refine L_irem (pc := 28) X d_X3_drawBelow_28 (by decide) ?_
  refine L_iload_n (pc := 29) X d_X3_drawBelow_29 rfl 1 rfl ?_
  refine L_icmp_ge (pc := 30) (tgt := 37) X d_X3_drawBelow_30 (by decide) (fun c30 => ?_) (fun c30 => ?_)
  · replace h := h.1 c30
    refine L_iconst (pc := 37) (v := 0) X d_X3_drawBelow_37 (by decide) ?_
    exact L_zretB (pc := 38) X hr d_X3_drawBelow_38 false rfl (by decide) (by decide) ⟨_, _, rfl, rfl, h⟩
  · replace h := h.2 c30
    refine L_iconst (pc := 33) (v := 1) X d_X3_drawBelow_33 (by decide) ?_
    refine L_goto (pc := 34) (tgt := 38) X d_X3_drawBelow_34 (by decide) ?_
    exact L_zretB (pc := 38) X hr d_X3_drawBelow_38 true rfl (by decide) (by decide) ⟨_, _, rfl, rfl, h⟩
end G_X3_drawBelow
theorem d_X3_firstWaiting_0 : decode cX3_firstWaiting 0 = .ok (.iconst (-1), 1) := by decide +kernel
theorem d_X3_firstWaiting_1 : decode cX3_firstWaiting 1 = .ok (.istore_n 2, 1) := by decide +kernel
theorem d_X3_firstWaiting_2 : decode cX3_firstWaiting 2 = .ok (.iconst 0, 1) := by decide +kernel
theorem d_X3_firstWaiting_3 : decode cX3_firstWaiting 3 = .ok (.istore_n 3, 1) := by decide +kernel
theorem d_X3_firstWaiting_4 : decode cX3_firstWaiting 4 = .ok (.iload_n 3, 1) := by decide +kernel
theorem d_X3_firstWaiting_5 : decode cX3_firstWaiting 5 = .ok (.aload_n 0, 1) := by decide +kernel
theorem d_X3_firstWaiting_6 : decode cX3_firstWaiting 6 = .ok (.getfield 36, 3) := by decide +kernel
theorem d_X3_firstWaiting_9 : decode cX3_firstWaiting 9 = .ok (.if_icmp .ge 58, 3) := by decide +kernel
theorem d_X3_firstWaiting_12 : decode cX3_firstWaiting 12 = .ok (.aload_n 0, 1) := by decide +kernel
theorem d_X3_firstWaiting_13 : decode cX3_firstWaiting 13 = .ok (.getfield 40, 3) := by decide +kernel
theorem d_X3_firstWaiting_16 : decode cX3_firstWaiting 16 = .ok (.iload_n 3, 1) := by decide +kernel
theorem d_X3_firstWaiting_17 : decode cX3_firstWaiting 17 = .ok (.aaload, 1) := by decide +kernel
theorem d_X3_firstWaiting_18 : decode cX3_firstWaiting 18 = .ok (.astore 4, 2) := by decide +kernel
theorem d_X3_firstWaiting_20 : decode cX3_firstWaiting 20 = .ok (.aload 4, 2) := by decide +kernel
theorem d_X3_firstWaiting_22 : decode cX3_firstWaiting 22 = .ok (.getfield 44, 3) := by decide +kernel
theorem d_X3_firstWaiting_25 : decode cX3_firstWaiting 25 = .ok (.ifCond .ne 36, 3) := by decide +kernel
theorem d_X3_firstWaiting_28 : decode cX3_firstWaiting 28 = .ok (.aload 4, 2) := by decide +kernel
theorem d_X3_firstWaiting_30 : decode cX3_firstWaiting 30 = .ok (.getfield 71, 3) := by decide +kernel
theorem d_X3_firstWaiting_33 : decode cX3_firstWaiting 33 = .ok (.iload_n 1, 1) := by decide +kernel
theorem d_X3_firstWaiting_34 : decode cX3_firstWaiting 34 = .ok (.if_icmp .ne 27, 3) := by decide +kernel
theorem d_X3_firstWaiting_37 : decode cX3_firstWaiting 37 = .ok (.iload_n 2, 1) := by decide +kernel
theorem d_X3_firstWaiting_38 : decode cX3_firstWaiting 38 = .ok (.iconst (-1), 1) := by decide +kernel
theorem d_X3_firstWaiting_39 : decode cX3_firstWaiting 39 = .ok (.if_icmp .eq 20, 3) := by decide +kernel
theorem d_X3_firstWaiting_42 : decode cX3_firstWaiting 42 = .ok (.aload 4, 2) := by decide +kernel
theorem d_X3_firstWaiting_44 : decode cX3_firstWaiting 44 = .ok (.getfield 83, 3) := by decide +kernel
theorem d_X3_firstWaiting_47 : decode cX3_firstWaiting 47 = .ok (.aload_n 0, 1) := by decide +kernel
theorem d_X3_firstWaiting_48 : decode cX3_firstWaiting 48 = .ok (.getfield 40, 3) := by decide +kernel
theorem d_X3_firstWaiting_51 : decode cX3_firstWaiting 51 = .ok (.iload_n 2, 1) := by decide +kernel
theorem d_X3_firstWaiting_52 : decode cX3_firstWaiting 52 = .ok (.aaload, 1) := by decide +kernel
theorem d_X3_firstWaiting_53 : decode cX3_firstWaiting 53 = .ok (.getfield 83, 3) := by decide +kernel
theorem d_X3_firstWaiting_56 : decode cX3_firstWaiting 56 = .ok (.if_icmp .ge 5, 3) := by decide +kernel
theorem d_X3_firstWaiting_59 : decode cX3_firstWaiting 59 = .ok (.iload_n 3, 1) := by decide +kernel
theorem d_X3_firstWaiting_60 : decode cX3_firstWaiting 60 = .ok (.istore_n 2, 1) := by decide +kernel
theorem d_X3_firstWaiting_61 : decode cX3_firstWaiting 61 = .ok (.iinc 3 1, 3) := by decide +kernel
theorem d_X3_firstWaiting_64 : decode cX3_firstWaiting 64 = .ok (.goto (-60), 3) := by decide +kernel
theorem d_X3_firstWaiting_67 : decode cX3_firstWaiting 67 = .ok (.iload_n 2, 1) := by decide +kernel
theorem d_X3_firstWaiting_68 : decode cX3_firstWaiting 68 = .ok (.ireturn, 1) := by decide +kernel
abbrev rm_X3_firstWaiting : Room := { frames := 0, cells := 0, slots := 0, locals := 0 }
def B_X3_firstWaiting_61 (post : Int32 → CMu → Prop) (k4 : Nat → Int32 → Int32 → Int32 → CMu → Prop) (v0 : Nat) (v1 : Int32) (v2 : Int32) (v3 : Int32) (cm : CMu) : Prop := k4 v0 v1 v2 (v3 + 1) cm
def B_X3_firstWaiting_59 (post : Int32 → CMu → Prop) (k4 : Nat → Int32 → Int32 → Int32 → CMu → Prop) (v0 : Nat) (v1 : Int32) (v3 : Int32) (cm : CMu) : Prop := B_X3_firstWaiting_61 post k4 v0 v1 v3 v3 cm
def B_X3_firstWaiting_4 (post : Int32 → CMu → Prop) : Nat → Nat → Int32 → Int32 → Int32 → CMu → Prop
  | 0 => fun _ _ _ _ _ => False
  | n + 1 => fun v0 v1 v2 v3 cm => ((gI cm v0 6) ≤ v3 → (post v2 cm)) ∧ (¬ (gI cm v0 6) ≤ v3 → ((vp_in v3 60) ∧ (¬ (gI cm (v0 + 47 + Int32.toNatClampNeg v3) 0) = 0 → (B_X3_firstWaiting_61 post (B_X3_firstWaiting_4 post n) v0 v1 v2 v3 cm)) ∧ ((gI cm (v0 + 47 + Int32.toNatClampNeg v3) 0) = 0 → ((¬ (gI cm (v0 + 47 + Int32.toNatClampNeg v3) 1) = v1 → (B_X3_firstWaiting_61 post (B_X3_firstWaiting_4 post n) v0 v1 v2 v3 cm)) ∧ ((gI cm (v0 + 47 + Int32.toNatClampNeg v3) 1) = v1 → ((v2 = (-1) → (B_X3_firstWaiting_59 post (B_X3_firstWaiting_4 post n) v0 v1 v3 cm)) ∧ (¬ v2 = (-1) → ((vp_in v2 60) ∧ ((gI cm (v0 + 47 + Int32.toNatClampNeg v2) 4) ≤ (gI cm (v0 + 47 + Int32.toNatClampNeg v3) 4) → (B_X3_firstWaiting_61 post (B_X3_firstWaiting_4 post n) v0 v1 v2 v3 cm)) ∧ (¬ (gI cm (v0 + 47 + Int32.toNatClampNeg v2) 4) ≤ (gI cm (v0 + 47 + Int32.toNatClampNeg v3) 4) → (B_X3_firstWaiting_59 post (B_X3_firstWaiting_4 post n) v0 v1 v3 cm))))))))))
def w_X3_firstWaiting (post : Int32 → CMu → Prop) (a0 : Nat) (x1 : Int32) (cm : CMu) : Prop := ∃ n4, B_X3_firstWaiting_4 post n4 a0 x1 (-1) 0 cm
section G_X3_firstWaiting
variable {p : Program} {l : Launch} {e : Env} {s : State} {m : MethodId} {args : Array Value} {below : List Frame} {meth : Method} {c : Code} {G : Gd} {ρ : Nat → Nat} {A : Nat → Prop} {mm : Nat → Nat → Int32} {oo : Nat → Int64}
set_option maxHeartbeats 4000000 in
set_option maxRecDepth 100000 in
theorem T_X3_firstWaiting_61 {post : Int32 → CMu → Prop} {k4 : Nat → Int32 → Int32 → Int32 → CMu → Prop} (hl : l.stackTraces = false) (X : MC p l s m args meth c cX3_firstWaiting 5 RX3 G ρ A) (hr : meth.sig.returnType = (some .int)) (hex : ∀ z ∈ c.exceptionTable.toList, False)
    (hk4 : ∀ (v0 : Nat) (v1 : Int32) (v2 : Int32) (v3 : Int32) (h_v0 : (KD v0).1 = 3) (cm : CMu), k4 v0 v1 v2 v3 cm → LW p l e rm_X3_firstWaiting s m args below meth c (Qm below G ρ A (PI (fun u => (u, mm, oo)) post) noX args s 0 0) G ρ A 5 0 0 4 [(0, .ref v0), (1, .int v1), (2, .int v2), (3, .int v3)] [] (cm, mm, oo)) : ∀ (v0 : Nat) (v1 : Int32) (v2 : Int32) (v3 : Int32) (h_v0 : (KD v0).1 = 3) (cm : CMu), B_X3_firstWaiting_61 post k4 v0 v1 v2 v3 cm → LW p l e rm_X3_firstWaiting s m args below meth c (Qm below G ρ A (PI (fun u => (u, mm, oo)) post) noX args s 0 0) G ρ A 5 0 0 61 [(0, .ref v0), (1, .int v1), (2, .int v2), (3, .int v3)] [] (cm, mm, oo) := by
  intro v0 v1 v2 v3 h_v0 cm h
  unfold B_X3_firstWaiting_61 at h
  refine L_iinc (pc := 61) (v := v3 + 1) (lv2 := [(3, .int (v3 + 1)), (0, .ref v0), (1, .int v1), (2, .int v2)]) X d_X3_firstWaiting_61 3 rfl rfl (by decide) rfl ?_
  refine L_goto (pc := 64) (tgt := 4) X d_X3_firstWaiting_64 (by decide) ?_
  refine LW.sub [1, 2, 3, 0] rfl ?_
  exact hk4 _ _ _ _ h_v0 _ h
set_option maxHeartbeats 4000000 in
set_option maxRecDepth 100000 in
theorem T_X3_firstWaiting_59 {post : Int32 → CMu → Prop} {k4 : Nat → Int32 → Int32 → Int32 → CMu → Prop} (hl : l.stackTraces = false) (X : MC p l s m args meth c cX3_firstWaiting 5 RX3 G ρ A) (hr : meth.sig.returnType = (some .int)) (hex : ∀ z ∈ c.exceptionTable.toList, False)
    (hk4 : ∀ (v0 : Nat) (v1 : Int32) (v2 : Int32) (v3 : Int32) (h_v0 : (KD v0).1 = 3) (cm : CMu), k4 v0 v1 v2 v3 cm → LW p l e rm_X3_firstWaiting s m args below meth c (Qm below G ρ A (PI (fun u => (u, mm, oo)) post) noX args s 0 0) G ρ A 5 0 0 4 [(0, .ref v0), (1, .int v1), (2, .int v2), (3, .int v3)] [] (cm, mm, oo)) : ∀ (v0 : Nat) (v1 : Int32) (v3 : Int32) (h_v0 : (KD v0).1 = 3) (cm : CMu), B_X3_firstWaiting_59 post k4 v0 v1 v3 cm → LW p l e rm_X3_firstWaiting s m args below meth c (Qm below G ρ A (PI (fun u => (u, mm, oo)) post) noX args s 0 0) G ρ A 5 0 0 59 [(0, .ref v0), (1, .int v1), (3, .int v3)] [] (cm, mm, oo) := by
  intro v0 v1 v3 h_v0 cm h
  unfold B_X3_firstWaiting_59 at h
  refine L_iload_n (pc := 59) X d_X3_firstWaiting_59 rfl 2 rfl ?_
  refine L_istore_n (pc := 60) (lv2 := [(2, .int v3), (0, .ref v0), (1, .int v1), (3, .int v3)]) X d_X3_firstWaiting_60 rfl (by decide) rfl ?_
  refine LW.sub [1, 2, 0, 3] rfl ?_
  exact T_X3_firstWaiting_61 hl X hr hex hk4 _ _ _ _ h_v0 _ h
set_option maxHeartbeats 4000000 in
set_option maxRecDepth 100000 in
theorem T_X3_firstWaiting_4 {post : Int32 → CMu → Prop} (hl : l.stackTraces = false) (X : MC p l s m args meth c cX3_firstWaiting 5 RX3 G ρ A) (hr : meth.sig.returnType = (some .int)) (hex : ∀ z ∈ c.exceptionTable.toList, False) (n : Nat) : ∀ (v0 : Nat) (v1 : Int32) (v2 : Int32) (v3 : Int32) (h_v0 : (KD v0).1 = 3) (cm : CMu), B_X3_firstWaiting_4 post n v0 v1 v2 v3 cm → LW p l e rm_X3_firstWaiting s m args below meth c (Qm below G ρ A (PI (fun u => (u, mm, oo)) post) noX args s 0 0) G ρ A 5 0 0 4 [(0, .ref v0), (1, .int v1), (2, .int v2), (3, .int v3)] [] (cm, mm, oo) := by
  induction n with
  | zero =>
    intro v0 v1 v2 v3 h_v0 cm h
    exact False.elim h
  | succ n ih =>
    intro v0 v1 v2 v3 h_v0 cm h
    unfold B_X3_firstWaiting_4 at h
    refine L_iload_n (pc := 4) X d_X3_firstWaiting_4 rfl 3 rfl ?_
    refine L_aload_n (pc := 5) X d_X3_firstWaiting_5 rfl 0 rfl ?_
    refine gf_X3_36 (pc := 6) X d_X3_firstWaiting_6 h_v0 ?_
    refine L_icmp_ge (pc := 9) (tgt := 67) X d_X3_firstWaiting_9 (by decide) (fun c9 => ?_) (fun c9 => ?_)
    · replace h := h.1 c9
      refine L_iload_n (pc := 67) X d_X3_firstWaiting_67 rfl 2 rfl ?_
      exact L_iret (pc := 68) X hr d_X3_firstWaiting_68 (by decide) (by decide) ⟨_, _, rfl, rfl, h⟩
    · replace h := h.2 c9
      refine L_aload_n (pc := 12) X d_X3_firstWaiting_12 rfl 0 rfl ?_
      refine gf_X3_40 (pc := 13) (b := v0 + 3) X d_X3_firstWaiting_13 h_v0 rfl ?_
      refine L_iload_n (pc := 16) X d_X3_firstWaiting_16 rfl 3 rfl ?_
      obtain ⟨q1, h⟩ := h
      refine L_aald24 (pc := 17) (b := v0 + 47 + Int32.toNatClampNeg v3) X d_X3_firstWaiting_17 (kf_3_2 h_v0) q1 rfl ?_
      refine L_astore (pc := 18) (lv2 := [(4, .ref (v0 + 47 + Int32.toNatClampNeg v3)), (0, .ref v0), (1, .int v1), (2, .int v2), (3, .int v3)]) X d_X3_firstWaiting_18 (by decide) rfl ?_
      refine L_aload (pc := 20) X d_X3_firstWaiting_20 0 rfl ?_
      refine gf_X3_44 (pc := 22) X d_X3_firstWaiting_22 (ka_24 (kf_3_2 h_v0) (vin_lt q1)) ?_
      refine L_if_ne (pc := 25) (tgt := 61) X d_X3_firstWaiting_25 (by decide) (fun c25 => ?_) (fun c25 => ?_)
      · replace h := h.1 c25
        refine LW.sub [1, 2, 3, 4] rfl ?_
        exact T_X3_firstWaiting_61 hl X hr hex ih _ _ _ _ h_v0 _ h
      · replace h := h.2 c25
        refine L_aload (pc := 28) X d_X3_firstWaiting_28 0 rfl ?_
        refine gf_X3_71 (pc := 30) X d_X3_firstWaiting_30 (ka_24 (kf_3_2 h_v0) (vin_lt q1)) ?_
        refine L_iload_n (pc := 33) X d_X3_firstWaiting_33 rfl 2 rfl ?_
        refine L_icmp_ne (pc := 34) (tgt := 61) X d_X3_firstWaiting_34 (by decide) (fun c34 => ?_) (fun c34 => ?_)
        · replace h := h.1 c34
          refine LW.sub [1, 2, 3, 4] rfl ?_
          exact T_X3_firstWaiting_61 hl X hr hex ih _ _ _ _ h_v0 _ h
        · replace h := h.2 c34
          refine L_iload_n (pc := 37) X d_X3_firstWaiting_37 rfl 3 rfl ?_
          refine L_iconst (pc := 38) (v := (-1)) X d_X3_firstWaiting_38 (by decide) ?_
          refine L_icmp_eq (pc := 39) (tgt := 59) X d_X3_firstWaiting_39 (by decide) (fun c39 => ?_) (fun c39 => ?_)
          · replace h := h.1 c39
            refine LW.sub [1, 2, 4] rfl ?_
            exact T_X3_firstWaiting_59 hl X hr hex ih _ _ _ h_v0 _ h
          · replace h := h.2 c39
            refine L_aload (pc := 42) X d_X3_firstWaiting_42 0 rfl ?_
            refine gf_X3_83 (pc := 44) X d_X3_firstWaiting_44 (ka_24 (kf_3_2 h_v0) (vin_lt q1)) ?_
            refine L_aload_n (pc := 47) X d_X3_firstWaiting_47 rfl 1 rfl ?_
            refine gf_X3_40 (pc := 48) (b := v0 + 3) X d_X3_firstWaiting_48 h_v0 rfl ?_
            refine L_iload_n (pc := 51) X d_X3_firstWaiting_51 rfl 3 rfl ?_
            obtain ⟨q2, h⟩ := h
            refine L_aald24 (pc := 52) (b := v0 + 47 + Int32.toNatClampNeg v2) X d_X3_firstWaiting_52 (kf_3_2 h_v0) q2 rfl ?_
            refine gf_X3_83 (pc := 53) X d_X3_firstWaiting_53 (ka_24 (kf_3_2 h_v0) (vin_lt q2)) ?_
            refine L_icmp_ge (pc := 56) (tgt := 61) X d_X3_firstWaiting_56 (by decide) (fun c56 => ?_) (fun c56 => ?_)
            · replace h := h.1 c56
              refine LW.sub [1, 2, 3, 4] rfl ?_
              exact T_X3_firstWaiting_61 hl X hr hex ih _ _ _ _ h_v0 _ h
            · replace h := h.2 c56
              refine LW.sub [1, 2, 4] rfl ?_
              exact T_X3_firstWaiting_59 hl X hr hex ih _ _ _ h_v0 _ h
set_option maxHeartbeats 4000000 in
set_option maxRecDepth 100000 in
theorem c_X3_firstWaiting (hl : l.stackTraces = false) {a0 : Nat} {x1 : Int32} (h_a0 : (KD a0).1 = 3) {cm : CMu} {post : Int32 → CMu → Prop} (h : w_X3_firstWaiting post a0 x1 cm) : CT l yX3_firstWaiting (.code yX3_firstWaiting cX3_firstWaiting 5 (some .int)) rm_X3_firstWaiting 0 0 G ρ [.ref a0, .int x1] (cm, mm, oo) (PI (fun u => (u, mm, oo)) post) noX := by
  refine CT_of hl (by decide +kernel) rfl (Nat.le_of_ble_eq_true rfl) (lv0 := [(0, .ref a0), (1, .int x1)]) rfl (fun p e s m args below meth c A X hr hex hnm => ?_)
  unfold w_X3_firstWaiting at h
  refine L_iconst (pc := 0) (v := (-1)) X d_X3_firstWaiting_0 (by decide) ?_
  refine L_istore_n (pc := 1) (lv2 := [(2, .int (-1)), (0, .ref a0), (1, .int x1)]) X d_X3_firstWaiting_1 rfl (by decide) rfl ?_
  refine L_iconst (pc := 2) (v := 0) X d_X3_firstWaiting_2 (by decide) ?_
  refine L_istore_n (pc := 3) (lv2 := [(3, .int 0), (2, .int (-1)), (0, .ref a0), (1, .int x1)]) X d_X3_firstWaiting_3 rfl (by decide) rfl ?_
  obtain ⟨n4, h⟩ := h
  refine LW.sub [2, 3, 1, 0] rfl ?_
  exact T_X3_firstWaiting_4 hl X hr hex n4 _ _ _ _ h_a0 _ h
end G_X3_firstWaiting
theorem yk_X4_hasFrost : yX4_hasFrost.cls = RX4 ∧ yX4_hasFrost.cls ≠ "java/lang/invoke/MethodHandle" ∧ yX4_hasFrost.cls ≠ "java/lang/invoke/VarHandle" ∧ (parseMethodDescriptor yX4_hasFrost.desc).map (fun d => d.parameters.length) = some 0 := by decide +kernel
theorem lk_X3_22 : LinkV RX3 22 RX4 yX4_hasFrost (.code yX4_hasFrost cX4_hasFrost 1 (some .boolean)) 0 := ⟨tw_944, tw_559, tw_560, tw_78, tw_561, yk_X4_hasFrost⟩
theorem d_X3_passStill_0 : decode cX3_passStill 0 = .ok (.iload_n 2, 1) := by decide +kernel
theorem d_X3_passStill_1 : decode cX3_passStill 1 = .ok (.bipush 60, 2) := by decide +kernel
theorem d_X3_passStill_3 : decode cX3_passStill 3 = .ok (.aload_n 1, 1) := by decide +kernel
theorem d_X3_passStill_4 : decode cX3_passStill 4 = .ok (.getfield 62, 3) := by decide +kernel
theorem d_X3_passStill_7 : decode cX3_passStill 7 = .ok (.bipush 60, 2) := by decide +kernel
theorem d_X3_passStill_9 : decode cX3_passStill 9 = .ok (.irem, 1) := by decide +kernel
theorem d_X3_passStill_10 : decode cX3_passStill 10 = .ok (.isub, 1) := by decide +kernel
theorem d_X3_passStill_11 : decode cX3_passStill 11 = .ok (.invokestatic 65, 3) := by decide +kernel
theorem d_X3_passStill_14 : decode cX3_passStill 14 = .ok (.istore_n 3, 1) := by decide +kernel
theorem d_X3_passStill_15 : decode cX3_passStill 15 = .ok (.aload_n 1, 1) := by decide +kernel
theorem d_X3_passStill_16 : decode cX3_passStill 16 = .ok (.invokevirtual 22, 3) := by decide +kernel
theorem d_X3_passStill_19 : decode cX3_passStill 19 = .ok (.ifCond .ne 100, 3) := by decide +kernel
theorem d_X3_passStill_22 : decode cX3_passStill 22 = .ok (.iconst 0, 1) := by decide +kernel
theorem d_X3_passStill_23 : decode cX3_passStill 23 = .ok (.istore 4, 2) := by decide +kernel
theorem d_X3_passStill_25 : decode cX3_passStill 25 = .ok (.iload 4, 2) := by decide +kernel
theorem d_X3_passStill_27 : decode cX3_passStill 27 = .ok (.aload_n 1, 1) := by decide +kernel
theorem d_X3_passStill_28 : decode cX3_passStill 28 = .ok (.getfield 36, 3) := by decide +kernel
theorem d_X3_passStill_31 : decode cX3_passStill 31 = .ok (.if_icmp .ge 40, 3) := by decide +kernel
theorem d_X3_passStill_34 : decode cX3_passStill 34 = .ok (.aload_n 1, 1) := by decide +kernel
theorem d_X3_passStill_35 : decode cX3_passStill 35 = .ok (.getfield 40, 3) := by decide +kernel
theorem d_X3_passStill_38 : decode cX3_passStill 38 = .ok (.iload 4, 2) := by decide +kernel
theorem d_X3_passStill_40 : decode cX3_passStill 40 = .ok (.aaload, 1) := by decide +kernel
theorem d_X3_passStill_41 : decode cX3_passStill 41 = .ok (.getfield 44, 3) := by decide +kernel
theorem d_X3_passStill_44 : decode cX3_passStill 44 = .ok (.iconst 1, 1) := by decide +kernel
theorem d_X3_passStill_45 : decode cX3_passStill 45 = .ok (.if_icmp .ne 20, 3) := by decide +kernel
theorem d_X3_passStill_48 : decode cX3_passStill 48 = .ok (.iload_n 3, 1) := by decide +kernel
theorem d_X3_passStill_49 : decode cX3_passStill 49 = .ok (.aload_n 1, 1) := by decide +kernel
theorem d_X3_passStill_50 : decode cX3_passStill 50 = .ok (.getfield 40, 3) := by decide +kernel
theorem d_X3_passStill_53 : decode cX3_passStill 53 = .ok (.iload 4, 2) := by decide +kernel
theorem d_X3_passStill_55 : decode cX3_passStill 55 = .ok (.aaload, 1) := by decide +kernel
theorem d_X3_passStill_56 : decode cX3_passStill 56 = .ok (.getfield 49, 3) := by decide +kernel
theorem d_X3_passStill_59 : decode cX3_passStill 59 = .ok (.iconst 1, 1) := by decide +kernel
theorem d_X3_passStill_60 : decode cX3_passStill 60 = .ok (.isub, 1) := by decide +kernel
theorem d_X3_passStill_61 : decode cX3_passStill 61 = .ok (.invokestatic 65, 3) := by decide +kernel
theorem d_X3_passStill_64 : decode cX3_passStill 64 = .ok (.istore_n 3, 1) := by decide +kernel
theorem d_X3_passStill_65 : decode cX3_passStill 65 = .ok (.iinc 4 1, 3) := by decide +kernel
theorem d_X3_passStill_68 : decode cX3_passStill 68 = .ok (.goto (-43), 3) := by decide +kernel
theorem d_X3_passStill_71 : decode cX3_passStill 71 = .ok (.iconst 0, 1) := by decide +kernel
theorem d_X3_passStill_72 : decode cX3_passStill 72 = .ok (.istore 4, 2) := by decide +kernel
theorem d_X3_passStill_74 : decode cX3_passStill 74 = .ok (.iload 4, 2) := by decide +kernel
theorem d_X3_passStill_76 : decode cX3_passStill 76 = .ok (.aload_n 1, 1) := by decide +kernel
theorem d_X3_passStill_77 : decode cX3_passStill 77 = .ok (.getfield 36, 3) := by decide +kernel
theorem d_X3_passStill_80 : decode cX3_passStill 80 = .ok (.if_icmp .ge 39, 3) := by decide +kernel
theorem d_X3_passStill_83 : decode cX3_passStill 83 = .ok (.aload_n 1, 1) := by decide +kernel
theorem d_X3_passStill_84 : decode cX3_passStill 84 = .ok (.getfield 40, 3) := by decide +kernel
theorem d_X3_passStill_87 : decode cX3_passStill 87 = .ok (.iload 4, 2) := by decide +kernel
theorem d_X3_passStill_89 : decode cX3_passStill 89 = .ok (.aaload, 1) := by decide +kernel
theorem d_X3_passStill_90 : decode cX3_passStill 90 = .ok (.getfield 44, 3) := by decide +kernel
theorem d_X3_passStill_93 : decode cX3_passStill 93 = .ok (.iconst 1, 1) := by decide +kernel
theorem d_X3_passStill_94 : decode cX3_passStill 94 = .ok (.if_icmp .ne 19, 3) := by decide +kernel
theorem d_X3_passStill_97 : decode cX3_passStill 97 = .ok (.aload_n 1, 1) := by decide +kernel
theorem d_X3_passStill_98 : decode cX3_passStill 98 = .ok (.getfield 40, 3) := by decide +kernel
theorem d_X3_passStill_101 : decode cX3_passStill 101 = .ok (.iload 4, 2) := by decide +kernel
theorem d_X3_passStill_103 : decode cX3_passStill 103 = .ok (.aaload, 1) := by decide +kernel
theorem d_X3_passStill_104 : decode cX3_passStill 104 = .ok (.dup, 1) := by decide +kernel
theorem d_X3_passStill_105 : decode cX3_passStill 105 = .ok (.getfield 49, 3) := by decide +kernel
theorem d_X3_passStill_108 : decode cX3_passStill 108 = .ok (.iload_n 3, 1) := by decide +kernel
theorem d_X3_passStill_109 : decode cX3_passStill 109 = .ok (.isub, 1) := by decide +kernel
theorem d_X3_passStill_110 : decode cX3_passStill 110 = .ok (.putfield 49, 3) := by decide +kernel
theorem d_X3_passStill_113 : decode cX3_passStill 113 = .ok (.iinc 4 1, 3) := by decide +kernel
theorem d_X3_passStill_116 : decode cX3_passStill 116 = .ok (.goto (-42), 3) := by decide +kernel
theorem d_X3_passStill_119 : decode cX3_passStill 119 = .ok (.aload_n 1, 1) := by decide +kernel
theorem d_X3_passStill_120 : decode cX3_passStill 120 = .ok (.dup, 1) := by decide +kernel
theorem d_X3_passStill_121 : decode cX3_passStill 121 = .ok (.getfield 62, 3) := by decide +kernel
theorem d_X3_passStill_124 : decode cX3_passStill 124 = .ok (.iload_n 3, 1) := by decide +kernel
theorem d_X3_passStill_125 : decode cX3_passStill 125 = .ok (.iadd, 1) := by decide +kernel
theorem d_X3_passStill_126 : decode cX3_passStill 126 = .ok (.putfield 62, 3) := by decide +kernel
theorem d_X3_passStill_129 : decode cX3_passStill 129 = .ok (.iload_n 3, 1) := by decide +kernel
theorem d_X3_passStill_130 : decode cX3_passStill 130 = .ok (.ireturn, 1) := by decide +kernel
abbrev rm_X3_passStill : Room := { frames := 4, cells := 0, slots := 0, locals := 60 }
def B_X3_passStill_119 (post : Int32 → CMu → Prop) (v1 : Nat) (v3 : Int32) (cm : CMu) : Prop := post v3 (uI cm v1 12 ((gI cm v1 12) + v3))
def B_X3_passStill_113 (post : Int32 → CMu → Prop) (k74 : Nat → Int32 → Int32 → CMu → Prop) (v1 : Nat) (v3 : Int32) (v4 : Int32) (cm : CMu) : Prop := k74 v1 v3 (v4 + 1) cm
def B_X3_passStill_74 (post : Int32 → CMu → Prop) : Nat → Nat → Int32 → Int32 → CMu → Prop
  | 0 => fun _ _ _ _ => False
  | n + 1 => fun v1 v3 v4 cm => ((gI cm v1 6) ≤ v4 → (B_X3_passStill_119 post v1 v3 cm)) ∧ (¬ (gI cm v1 6) ≤ v4 → ((vp_in v4 60) ∧ (¬ (gI cm (v1 + 47 + Int32.toNatClampNeg v4) 0) = 1 → (B_X3_passStill_113 post (B_X3_passStill_74 post n) v1 v3 v4 cm)) ∧ ((gI cm (v1 + 47 + Int32.toNatClampNeg v4) 0) = 1 → ((vp_in v4 60) ∧ B_X3_passStill_113 post (B_X3_passStill_74 post n) v1 v3 v4 (uI cm (v1 + 47 + Int32.toNatClampNeg v4) 2 ((gI cm (v1 + 47 + Int32.toNatClampNeg v4) 2) - v3))))))
def B_X3_passStill_65 (post : Int32 → CMu → Prop) (k25 : Nat → Int32 → Int32 → CMu → Prop) (v1 : Nat) (v3 : Int32) (v4 : Int32) (cm : CMu) : Prop := k25 v1 v3 (v4 + 1) cm
def B_X3_passStill_25 (post : Int32 → CMu → Prop) : Nat → Nat → Int32 → Int32 → CMu → Prop
  | 0 => fun _ _ _ _ => False
  | n + 1 => fun v1 v3 v4 cm => ((gI cm v1 6) ≤ v4 → (∃ n74, B_X3_passStill_74 post n74 v1 v3 0 cm)) ∧ (¬ (gI cm v1 6) ≤ v4 → ((vp_in v4 60) ∧ (¬ (gI cm (v1 + 47 + Int32.toNatClampNeg v4) 0) = 1 → (B_X3_passStill_65 post (B_X3_passStill_25 post n) v1 v3 v4 cm)) ∧ ((gI cm (v1 + 47 + Int32.toNatClampNeg v4) 0) = 1 → ((vp_in v4 60) ∧ B_X3_passStill_65 post (B_X3_passStill_25 post n) v1 (jmin v3 ((gI cm (v1 + 47 + Int32.toNatClampNeg v4) 2) - 1)) v4 cm))))
def w_X3_passStill (post : Int32 → CMu → Prop) (a1 : Nat) (x2 : Int32) (cm : CMu) : Prop := w_X4_hasFrost (fun (r1 : Bool) (u2 : CMu) => (¬ (r1 = false) → (B_X3_passStill_119 post a1 (jmin x2 (60 - ((gI cm a1 12) - (gI cm a1 12) / 60 * 60))) u2)) ∧ ((r1 = false) → (∃ n25, B_X3_passStill_25 post n25 a1 (jmin x2 (60 - ((gI cm a1 12) - (gI cm a1 12) / 60 * 60))) 0 u2))) a1 cm
section G_X3_passStill
variable {p : Program} {l : Launch} {e : Env} {s : State} {m : MethodId} {args : Array Value} {below : List Frame} {meth : Method} {c : Code} {G : Gd} {ρ : Nat → Nat} {A : Nat → Prop} {mm : Nat → Nat → Int32} {oo : Nat → Int64}
set_option maxHeartbeats 4000000 in
set_option maxRecDepth 100000 in
theorem T_X3_passStill_119 {post : Int32 → CMu → Prop} (hl : l.stackTraces = false) (X : MC p l s m args meth c cX3_passStill 5 RX3 G ρ A) (hr : meth.sig.returnType = (some .int)) (hex : ∀ z ∈ c.exceptionTable.toList, False) : ∀ (v1 : Nat) (v3 : Int32) (h_v1 : (KD v1).1 = 3) (cm : CMu), B_X3_passStill_119 post v1 v3 cm → LW p l e rm_X3_passStill s m args below meth c (Qm below G ρ A (PI (fun u => (u, mm, oo)) post) noX args s 0 0) G ρ A 5 0 0 119 [(1, .ref v1), (3, .int v3)] [] (cm, mm, oo) := by
  intro v1 v3 h_v1 cm h
  unfold B_X3_passStill_119 at h
  refine L_aload_n (pc := 119) X d_X3_passStill_119 rfl 0 rfl ?_
  refine L_dup (pc := 120) X d_X3_passStill_120 rfl ?_
  refine gf_X3_62 (pc := 121) X d_X3_passStill_121 h_v1 ?_
  refine L_iload_n (pc := 124) X d_X3_passStill_124 rfl 1 rfl ?_
  refine L_iadd (pc := 125) X d_X3_passStill_125 ?_
  refine pf_X3_62 (pc := 126) X d_X3_passStill_126 h_v1 ?_
  refine L_iload_n (pc := 129) X d_X3_passStill_129 rfl 1 rfl ?_
  exact L_iret (pc := 130) X hr d_X3_passStill_130 (by decide) (by decide) ⟨_, _, rfl, rfl, h⟩
set_option maxHeartbeats 4000000 in
set_option maxRecDepth 100000 in
theorem T_X3_passStill_113 {post : Int32 → CMu → Prop} {k74 : Nat → Int32 → Int32 → CMu → Prop} (hl : l.stackTraces = false) (X : MC p l s m args meth c cX3_passStill 5 RX3 G ρ A) (hr : meth.sig.returnType = (some .int)) (hex : ∀ z ∈ c.exceptionTable.toList, False)
    (hk74 : ∀ (v1 : Nat) (v3 : Int32) (v4 : Int32) (h_v1 : (KD v1).1 = 3) (cm : CMu), k74 v1 v3 v4 cm → LW p l e rm_X3_passStill s m args below meth c (Qm below G ρ A (PI (fun u => (u, mm, oo)) post) noX args s 0 0) G ρ A 5 0 0 74 [(1, .ref v1), (3, .int v3), (4, .int v4)] [] (cm, mm, oo)) : ∀ (v1 : Nat) (v3 : Int32) (v4 : Int32) (h_v1 : (KD v1).1 = 3) (cm : CMu), B_X3_passStill_113 post k74 v1 v3 v4 cm → LW p l e rm_X3_passStill s m args below meth c (Qm below G ρ A (PI (fun u => (u, mm, oo)) post) noX args s 0 0) G ρ A 5 0 0 113 [(1, .ref v1), (3, .int v3), (4, .int v4)] [] (cm, mm, oo) := by
  intro v1 v3 v4 h_v1 cm h
  unfold B_X3_passStill_113 at h
  refine L_iinc (pc := 113) (v := v4 + 1) (lv2 := [(4, .int (v4 + 1)), (1, .ref v1), (3, .int v3)]) X d_X3_passStill_113 2 rfl rfl (by decide) rfl ?_
  refine L_goto (pc := 116) (tgt := 74) X d_X3_passStill_116 (by decide) ?_
  refine LW.sub [1, 2, 0] rfl ?_
  exact hk74 _ _ _ h_v1 _ h
set_option maxHeartbeats 4000000 in
set_option maxRecDepth 100000 in
theorem T_X3_passStill_74 {post : Int32 → CMu → Prop} (hl : l.stackTraces = false) (X : MC p l s m args meth c cX3_passStill 5 RX3 G ρ A) (hr : meth.sig.returnType = (some .int)) (hex : ∀ z ∈ c.exceptionTable.toList, False) (n : Nat) : ∀ (v1 : Nat) (v3 : Int32) (v4 : Int32) (h_v1 : (KD v1).1 = 3) (cm : CMu), B_X3_passStill_74 post n v1 v3 v4 cm → LW p l e rm_X3_passStill s m args below meth c (Qm below G ρ A (PI (fun u => (u, mm, oo)) post) noX args s 0 0) G ρ A 5 0 0 74 [(1, .ref v1), (3, .int v3), (4, .int v4)] [] (cm, mm, oo) := by
  induction n with
  | zero =>
    intro v1 v3 v4 h_v1 cm h
    exact False.elim h
  | succ n ih =>
    intro v1 v3 v4 h_v1 cm h
    unfold B_X3_passStill_74 at h
    refine L_iload (pc := 74) X d_X3_passStill_74 2 rfl ?_
    refine L_aload_n (pc := 76) X d_X3_passStill_76 rfl 0 rfl ?_
    refine gf_X3_36 (pc := 77) X d_X3_passStill_77 h_v1 ?_
    refine L_icmp_ge (pc := 80) (tgt := 119) X d_X3_passStill_80 (by decide) (fun c80 => ?_) (fun c80 => ?_)
    · replace h := h.1 c80
      refine LW.sub [0, 1] rfl ?_
      exact T_X3_passStill_119 hl X hr hex _ _ h_v1 _ h
    · replace h := h.2 c80
      refine L_aload_n (pc := 83) X d_X3_passStill_83 rfl 0 rfl ?_
      refine gf_X3_40 (pc := 84) (b := v1 + 3) X d_X3_passStill_84 h_v1 rfl ?_
      refine L_iload (pc := 87) X d_X3_passStill_87 2 rfl ?_
      obtain ⟨q5, h⟩ := h
      refine L_aald24 (pc := 89) (b := v1 + 47 + Int32.toNatClampNeg v4) X d_X3_passStill_89 (kf_3_2 h_v1) q5 rfl ?_
      refine gf_X3_44 (pc := 90) X d_X3_passStill_90 (ka_24 (kf_3_2 h_v1) (vin_lt q5)) ?_
      refine L_iconst (pc := 93) (v := 1) X d_X3_passStill_93 (by decide) ?_
      refine L_icmp_ne (pc := 94) (tgt := 113) X d_X3_passStill_94 (by decide) (fun c94 => ?_) (fun c94 => ?_)
      · replace h := h.1 c94
        refine LW.sub [0, 1, 2] rfl ?_
        exact T_X3_passStill_113 hl X hr hex ih _ _ _ h_v1 _ h
      · replace h := h.2 c94
        refine L_aload_n (pc := 97) X d_X3_passStill_97 rfl 0 rfl ?_
        refine gf_X3_40 (pc := 98) (b := v1 + 3) X d_X3_passStill_98 h_v1 rfl ?_
        refine L_iload (pc := 101) X d_X3_passStill_101 2 rfl ?_
        obtain ⟨q6, h⟩ := h
        refine L_aald24 (pc := 103) (b := v1 + 47 + Int32.toNatClampNeg v4) X d_X3_passStill_103 (kf_3_2 h_v1) q6 rfl ?_
        refine L_dup (pc := 104) X d_X3_passStill_104 rfl ?_
        refine gf_X3_49 (pc := 105) X d_X3_passStill_105 (ka_24 (kf_3_2 h_v1) (vin_lt q6)) ?_
        refine L_iload_n (pc := 108) X d_X3_passStill_108 rfl 1 rfl ?_
        refine L_isub (pc := 109) X d_X3_passStill_109 ?_
        refine pf_X3_49 (pc := 110) X d_X3_passStill_110 (ka_24 (kf_3_2 h_v1) (vin_lt q6)) ?_
        refine LW.sub [0, 1, 2] rfl ?_
        exact T_X3_passStill_113 hl X hr hex ih _ _ _ h_v1 _ h
set_option maxHeartbeats 4000000 in
set_option maxRecDepth 100000 in
theorem T_X3_passStill_65 {post : Int32 → CMu → Prop} {k25 : Nat → Int32 → Int32 → CMu → Prop} (hl : l.stackTraces = false) (X : MC p l s m args meth c cX3_passStill 5 RX3 G ρ A) (hr : meth.sig.returnType = (some .int)) (hex : ∀ z ∈ c.exceptionTable.toList, False)
    (hk25 : ∀ (v1 : Nat) (v3 : Int32) (v4 : Int32) (h_v1 : (KD v1).1 = 3) (cm : CMu), k25 v1 v3 v4 cm → LW p l e rm_X3_passStill s m args below meth c (Qm below G ρ A (PI (fun u => (u, mm, oo)) post) noX args s 0 0) G ρ A 5 0 0 25 [(1, .ref v1), (3, .int v3), (4, .int v4)] [] (cm, mm, oo)) : ∀ (v1 : Nat) (v3 : Int32) (v4 : Int32) (h_v1 : (KD v1).1 = 3) (cm : CMu), B_X3_passStill_65 post k25 v1 v3 v4 cm → LW p l e rm_X3_passStill s m args below meth c (Qm below G ρ A (PI (fun u => (u, mm, oo)) post) noX args s 0 0) G ρ A 5 0 0 65 [(1, .ref v1), (3, .int v3), (4, .int v4)] [] (cm, mm, oo) := by
  intro v1 v3 v4 h_v1 cm h
  unfold B_X3_passStill_65 at h
  refine L_iinc (pc := 65) (v := v4 + 1) (lv2 := [(4, .int (v4 + 1)), (1, .ref v1), (3, .int v3)]) X d_X3_passStill_65 2 rfl rfl (by decide) rfl ?_
  refine L_goto (pc := 68) (tgt := 25) X d_X3_passStill_68 (by decide) ?_
  refine LW.sub [1, 2, 0] rfl ?_
  exact hk25 _ _ _ h_v1 _ h
set_option maxHeartbeats 4000000 in
set_option maxRecDepth 100000 in
theorem T_X3_passStill_25 {post : Int32 → CMu → Prop} (hl : l.stackTraces = false) (X : MC p l s m args meth c cX3_passStill 5 RX3 G ρ A) (hr : meth.sig.returnType = (some .int)) (hex : ∀ z ∈ c.exceptionTable.toList, False) (n : Nat) : ∀ (v1 : Nat) (v3 : Int32) (v4 : Int32) (h_v1 : (KD v1).1 = 3) (cm : CMu), B_X3_passStill_25 post n v1 v3 v4 cm → LW p l e rm_X3_passStill s m args below meth c (Qm below G ρ A (PI (fun u => (u, mm, oo)) post) noX args s 0 0) G ρ A 5 0 0 25 [(1, .ref v1), (3, .int v3), (4, .int v4)] [] (cm, mm, oo) := by
  induction n with
  | zero =>
    intro v1 v3 v4 h_v1 cm h
    exact False.elim h
  | succ n ih =>
    intro v1 v3 v4 h_v1 cm h
    unfold B_X3_passStill_25 at h
    refine L_iload (pc := 25) X d_X3_passStill_25 2 rfl ?_
    refine L_aload_n (pc := 27) X d_X3_passStill_27 rfl 0 rfl ?_
    refine gf_X3_36 (pc := 28) X d_X3_passStill_28 h_v1 ?_
    refine L_icmp_ge (pc := 31) (tgt := 71) X d_X3_passStill_31 (by decide) (fun c31 => ?_) (fun c31 => ?_)
    · replace h := h.1 c31
      refine L_iconst (pc := 71) (v := 0) X d_X3_passStill_71 (by decide) ?_
      refine L_istore (pc := 72) (lv2 := [(4, .int 0), (1, .ref v1), (3, .int v3)]) X d_X3_passStill_72 (by decide) rfl ?_
      obtain ⟨n74, h⟩ := h
      refine LW.sub [1, 2, 0] rfl ?_
      exact T_X3_passStill_74 hl X hr hex n74 _ _ _ h_v1 _ h
    · replace h := h.2 c31
      refine L_aload_n (pc := 34) X d_X3_passStill_34 rfl 0 rfl ?_
      refine gf_X3_40 (pc := 35) (b := v1 + 3) X d_X3_passStill_35 h_v1 rfl ?_
      refine L_iload (pc := 38) X d_X3_passStill_38 2 rfl ?_
      obtain ⟨q3, h⟩ := h
      refine L_aald24 (pc := 40) (b := v1 + 47 + Int32.toNatClampNeg v4) X d_X3_passStill_40 (kf_3_2 h_v1) q3 rfl ?_
      refine gf_X3_44 (pc := 41) X d_X3_passStill_41 (ka_24 (kf_3_2 h_v1) (vin_lt q3)) ?_
      refine L_iconst (pc := 44) (v := 1) X d_X3_passStill_44 (by decide) ?_
      refine L_icmp_ne (pc := 45) (tgt := 65) X d_X3_passStill_45 (by decide) (fun c45 => ?_) (fun c45 => ?_)
      · replace h := h.1 c45
        refine LW.sub [0, 1, 2] rfl ?_
        exact T_X3_passStill_65 hl X hr hex ih _ _ _ h_v1 _ h
      · replace h := h.2 c45
        refine L_iload_n (pc := 48) X d_X3_passStill_48 rfl 1 rfl ?_
        refine L_aload_n (pc := 49) X d_X3_passStill_49 rfl 0 rfl ?_
        refine gf_X3_40 (pc := 50) (b := v1 + 3) X d_X3_passStill_50 h_v1 rfl ?_
        refine L_iload (pc := 53) X d_X3_passStill_53 2 rfl ?_
        obtain ⟨q4, h⟩ := h
        refine L_aald24 (pc := 55) (b := v1 + 47 + Int32.toNatClampNeg v4) X d_X3_passStill_55 (kf_3_2 h_v1) q4 rfl ?_
        refine gf_X3_49 (pc := 56) X d_X3_passStill_56 (ka_24 (kf_3_2 h_v1) (vin_lt q4)) ?_
        refine L_iconst (pc := 59) (v := 1) X d_X3_passStill_59 (by decide) ?_
        refine L_isub (pc := 60) X d_X3_passStill_60 ?_
        refine L_min (pc := 61) X d_X3_passStill_61 tw_1022 tw_588 tw_84 tw_589 (by decide) (by decide) (by decide) (by decide) ?_
        refine L_istore_n (pc := 64) (lv2 := [(3, .int (jmin v3 ((gI cm (v1 + 47 + Int32.toNatClampNeg v4) 2) - 1))), (1, .ref v1), (4, .int v4)]) X d_X3_passStill_64 rfl (by decide) rfl ?_
        refine LW.sub [1, 0, 2] rfl ?_
        exact T_X3_passStill_65 hl X hr hex ih _ _ _ h_v1 _ h
set_option maxHeartbeats 4000000 in
set_option maxRecDepth 100000 in
theorem c_X3_passStill (hl : l.stackTraces = false) {a1 : Nat} {x2 : Int32} (h_a1 : (KD a1).1 = 3) {cm : CMu} {post : Int32 → CMu → Prop} (h : w_X3_passStill post a1 x2 cm) : CT l yX3_passStill (.code yX3_passStill cX3_passStill 5 (some .int)) rm_X3_passStill 0 0 G ρ [.ref 8, .ref a1, .int x2] (cm, mm, oo) (PI (fun u => (u, mm, oo)) post) noX := by
  refine CT_of hl (by decide +kernel) rfl (Nat.le_of_ble_eq_true rfl) (lv0 := [(0, .ref 8), (1, .ref a1), (2, .int x2)]) rfl (fun p e s m args below meth c A X hr hex hnm => ?_)
  unfold w_X3_passStill at h
  refine L_iload_n (pc := 0) X d_X3_passStill_0 rfl 2 rfl ?_
  refine L_bipush (pc := 1) (v := 60) X d_X3_passStill_1 (by decide) ?_
  refine L_aload_n (pc := 3) X d_X3_passStill_3 rfl 1 rfl ?_
  refine gf_X3_62 (pc := 4) X d_X3_passStill_4 h_a1 ?_
  refine L_bipush (pc := 7) (v := 60) X d_X3_passStill_7 (by decide) ?_
  refine L_irem (pc := 9) X d_X3_passStill_9 (by decide) ?_
  refine L_isub (pc := 10) X d_X3_passStill_10 ?_
  refine L_min (pc := 11) X d_X3_passStill_11 tw_1022 tw_588 tw_84 tw_589 (by decide) (by decide) (by decide) (by decide) ?_
  refine L_istore_n (pc := 14) (lv2 := [(3, .int (jmin x2 (60 - ((gI cm a1 12) - (gI cm a1 12) / 60 * 60)))), (0, .ref 8), (1, .ref a1), (2, .int x2)]) X d_X3_passStill_14 rfl (by decide) rfl ?_
  refine L_aload_n (pc := 15) X d_X3_passStill_15 rfl 2 rfl ?_
  refine L_callVZ (pc := 16) X lk_X3_22 (c_X4_hasFrost X.hst h_a1 h) rfl rfl h_a1 (by decide) rfl rfl ⟨by decide, by decide⟩ ⟨by decide, by decide⟩ (Nat.zero_le _) d_X3_passStill_16 rfl (fun x κ1 hx => L_nox hx) (fun r1 u2 h => ?_)
  refine L_if_ne (pc := 19) (tgt := 119) X d_X3_passStill_19 (by decide) (fun c19 => ?_) (fun c19 => ?_)
  · replace h := h.1 (fun z => c19 ((b2_0 _).mpr z))
    refine LW.sub [2, 0] rfl ?_
    exact T_X3_passStill_119 hl X hr hex _ _ h_a1 _ h
  · replace h := h.2 ((b2_0 _).mp c19)
    refine L_iconst (pc := 22) (v := 0) X d_X3_passStill_22 (by decide) ?_
    refine L_istore (pc := 23) (lv2 := [(4, .int 0), (3, .int (jmin x2 (60 - ((gI cm a1 12) - (gI cm a1 12) / 60 * 60)))), (0, .ref 8), (1, .ref a1), (2, .int x2)]) X d_X3_passStill_23 (by decide) rfl ?_
    obtain ⟨n25, h⟩ := h
    refine LW.sub [3, 1, 0] rfl ?_
    exact T_X3_passStill_25 hl X hr hex n25 _ _ _ h_a1 _ h
end G_X3_passStill
