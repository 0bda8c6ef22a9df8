theorem yk_J0_length_8abf5 : yJ0_length_8abf5.cls = RJ0 ∧ yJ0_length_8abf5.cls ≠ "java/lang/invoke/MethodHandle" ∧ yJ0_length_8abf5.cls ≠ "java/lang/invoke/VarHandle" ∧ (parseMethodDescriptor yJ0_length_8abf5.desc).map (fun d => d.parameters.length) = some 0 := by decide +kernel
theorem lk_X11_137 : LinkV RX11 137 RJ0 yJ0_length_8abf5 (.code yJ0_length_8abf5 cJ0_length_8abf5 1 (some .int)) 0 := ⟨tw_621, tw_622, tw_623, tw_87, tw_624, yk_J0_length_8abf5⟩
theorem yk_J0_charAt_5068e : yJ0_charAt_5068e.cls = RJ0 ∧ yJ0_charAt_5068e.cls ≠ "java/lang/invoke/MethodHandle" ∧ yJ0_charAt_5068e.cls ≠ "java/lang/invoke/VarHandle" ∧ (parseMethodDescriptor yJ0_charAt_5068e.desc).map (fun d => d.parameters.length) = some 1 := by decide +kernel
theorem lk_X11_143 : LinkV RX11 143 RJ0 yJ0_charAt_5068e (.code yJ0_charAt_5068e cJ0_charAt_5068e 2 (some .char)) 1 := ⟨tw_631, tw_632, tw_633, tw_87, tw_634, yk_J0_charAt_5068e⟩
theorem d_X11_isSpelled_0 : decode cX11_isSpelled 0 = .ok (.iload_n 2, 1) := by decide +kernel
theorem d_X11_isSpelled_1 : decode cX11_isSpelled 1 = .ok (.ifCond .lt 22, 3) := by decide +kernel
theorem d_X11_isSpelled_4 : decode cX11_isSpelled 4 = .ok (.iload_n 3, 1) := by decide +kernel
theorem d_X11_isSpelled_5 : decode cX11_isSpelled 5 = .ok (.aload_n 1, 1) := by decide +kernel
theorem d_X11_isSpelled_6 : decode cX11_isSpelled 6 = .ok (.arraylength, 1) := by decide +kernel
theorem d_X11_isSpelled_7 : decode cX11_isSpelled 7 = .ok (.if_icmp .gt 16, 3) := by decide +kernel
theorem d_X11_isSpelled_10 : decode cX11_isSpelled 10 = .ok (.iload_n 3, 1) := by decide +kernel
theorem d_X11_isSpelled_11 : decode cX11_isSpelled 11 = .ok (.iload_n 2, 1) := by decide +kernel
theorem d_X11_isSpelled_12 : decode cX11_isSpelled 12 = .ok (.isub, 1) := by decide +kernel
theorem d_X11_isSpelled_13 : decode cX11_isSpelled 13 = .ok (.aload_n 0, 1) := by decide +kernel
theorem d_X11_isSpelled_14 : decode cX11_isSpelled 14 = .ok (.getfield 119, 3) := by decide +kernel
theorem d_X11_isSpelled_17 : decode cX11_isSpelled 17 = .ok (.invokevirtual 137, 3) := by decide +kernel
theorem d_X11_isSpelled_20 : decode cX11_isSpelled 20 = .ok (.if_icmp .eq 5, 3) := by decide +kernel
theorem d_X11_isSpelled_23 : decode cX11_isSpelled 23 = .ok (.iconst 0, 1) := by decide +kernel
theorem d_X11_isSpelled_24 : decode cX11_isSpelled 24 = .ok (.ireturn, 1) := by decide +kernel
theorem d_X11_isSpelled_25 : decode cX11_isSpelled 25 = .ok (.iconst 0, 1) := by decide +kernel
theorem d_X11_isSpelled_26 : decode cX11_isSpelled 26 = .ok (.istore 4, 2) := by decide +kernel
theorem d_X11_isSpelled_28 : decode cX11_isSpelled 28 = .ok (.iload 4, 2) := by decide +kernel
theorem d_X11_isSpelled_30 : decode cX11_isSpelled 30 = .ok (.aload_n 0, 1) := by decide +kernel
theorem d_X11_isSpelled_31 : decode cX11_isSpelled 31 = .ok (.getfield 119, 3) := by decide +kernel
theorem d_X11_isSpelled_34 : decode cX11_isSpelled 34 = .ok (.invokevirtual 137, 3) := by decide +kernel
theorem d_X11_isSpelled_37 : decode cX11_isSpelled 37 = .ok (.if_icmp .ge 29, 3) := by decide +kernel
theorem d_X11_isSpelled_40 : decode cX11_isSpelled 40 = .ok (.aload_n 1, 1) := by decide +kernel
theorem d_X11_isSpelled_41 : decode cX11_isSpelled 41 = .ok (.iload_n 2, 1) := by decide +kernel
theorem d_X11_isSpelled_42 : decode cX11_isSpelled 42 = .ok (.iload 4, 2) := by decide +kernel
theorem d_X11_isSpelled_44 : decode cX11_isSpelled 44 = .ok (.iadd, 1) := by decide +kernel
theorem d_X11_isSpelled_45 : decode cX11_isSpelled 45 = .ok (.iaload, 1) := by decide +kernel
theorem d_X11_isSpelled_46 : decode cX11_isSpelled 46 = .ok (.aload_n 0, 1) := by decide +kernel
theorem d_X11_isSpelled_47 : decode cX11_isSpelled 47 = .ok (.getfield 119, 3) := by decide +kernel
theorem d_X11_isSpelled_50 : decode cX11_isSpelled 50 = .ok (.iload 4, 2) := by decide +kernel
theorem d_X11_isSpelled_52 : decode cX11_isSpelled 52 = .ok (.invokevirtual 143, 3) := by decide +kernel
theorem d_X11_isSpelled_55 : decode cX11_isSpelled 55 = .ok (.if_icmp .eq 5, 3) := by decide +kernel
theorem d_X11_isSpelled_58 : decode cX11_isSpelled 58 = .ok (.iconst 0, 1) := by decide +kernel
theorem d_X11_isSpelled_59 : decode cX11_isSpelled 59 = .ok (.ireturn, 1) := by decide +kernel
theorem d_X11_isSpelled_60 : decode cX11_isSpelled 60 = .ok (.iinc 4 1, 3) := by decide +kernel
theorem d_X11_isSpelled_63 : decode cX11_isSpelled 63 = .ok (.goto (-35), 3) := by decide +kernel
theorem d_X11_isSpelled_66 : decode cX11_isSpelled 66 = .ok (.iconst 1, 1) := by decide +kernel
theorem d_X11_isSpelled_67 : decode cX11_isSpelled 67 = .ok (.ireturn, 1) := by decide +kernel
abbrev rm_X11_isSpelled : Room := { frames := 4, cells := 0, slots := 0, locals := 85 }
def B_X11_isSpelled_28 (post : Bool → CMu → Prop) : Nat → Fin 32 → Int32 → Int32 → CMu → Prop
  | 0 => fun _ _ _ _ => False
  | n + 1 => fun v0 v2 v4 cm => (¬ v0 = 0) ∧ w_J0_length_8abf5 (fun (r5 : Int32) (u6 : CMu) => (r5 ≤ v4 → (post true u6)) ∧ (¬ r5 ≤ v4 → ((vp_in (v2 + v4) 400) ∧ (¬ v0 = 0) ∧ w_J0_charAt_5068e (fun (r9 : Int32) (u10 : CMu) => ((gI u6 3 (Int32.toNatClampNeg (v2 + v4))) = r9 → (B_X11_isSpelled_28 post n v0 v2 (v4 + 1) u10)) ∧ (¬ (gI u6 3 (Int32.toNatClampNeg (v2 + v4))) = r9 → (post false u10))) (wsp (Fin.val v0 - 1)) v4 u6))) (wsp (Fin.val v0 - 1)) cm
def B_X11_isSpelled_23 (post : Bool → CMu → Prop) (cm : CMu) : Prop := post false cm
def w_X11_isSpelled (post : Bool → CMu → Prop) (a0 : Fin 32) (x2 : Int32) (x3 : Int32) (cm : CMu) : Prop := (x2 < 0 → (B_X11_isSpelled_23 post cm)) ∧ (¬ x2 < 0 → ((400 < x3 → (B_X11_isSpelled_23 post cm)) ∧ (¬ 400 < x3 → ((¬ a0 = 0) ∧ w_J0_length_8abf5 (fun (r2 : Int32) (u3 : CMu) => ((x3 - x2) = r2 → (∃ n28, B_X11_isSpelled_28 post n28 a0 x2 0 u3)) ∧ (¬ (x3 - x2) = r2 → (B_X11_isSpelled_23 post u3))) (wsp (Fin.val a0 - 1)) cm))))
section G_X11_isSpelled
variable {p : Program} {l : Launch} {e : Env} {s : State} {m : MethodId} {args : Array Value} {below : List Frame} {meth : Method} {c : Code} {G : Gd} {ρ : Nat → Nat} {A : Nat → Prop} {mm : Nat → Nat → Int32} {oo : Nat → Int64}
set_option maxHeartbeats 4000000 in
set_option maxRecDepth 100000 in
theorem T_X11_isSpelled_28 {post : Bool → CMu → Prop} (hl : l.stackTraces = false) (X : MC p l s m args meth c cX11_isSpelled 5 RX11 G ρ A) (hr : meth.sig.returnType = (some .boolean)) (hex : ∀ z ∈ c.exceptionTable.toList, False) (n : Nat) : ∀ (v0 : Fin 32) (v2 : Int32) (v4 : Int32) (cm : CMu), B_X11_isSpelled_28 post n v0 v2 v4 cm → LW p l e rm_X11_isSpelled s m args below meth c (Qm below G ρ A (PZ (fun u => (u, mm, oo)) post) noX args s 0 0) G ρ A 5 0 0 28 [(0, wv v0), (1, .ref 3), (2, .int v2), (4, .int v4)] [] (cm, mm, oo) := by
  induction n with
  | zero =>
    intro v0 v2 v4 cm h
    exact False.elim h
  | succ n ih =>
    intro v0 v2 v4 cm h
    unfold B_X11_isSpelled_28 at h
    refine L_iload (pc := 28) X d_X11_isSpelled_28 3 rfl ?_
    refine L_aloadW_n (pc := 30) X d_X11_isSpelled_30 rfl 0 rfl ?_
    obtain ⟨q4, h⟩ := h
    refine L_getWS (pc := 31) X q4 d_X11_isSpelled_31 tw_1625 ?_
    refine L_callVRI (pc := 34) X rfl (X.rvS (wsp_lt _)) lk_X11_137 (c_J0_length_8abf5 X.hst (wsp_lt _) h) rfl rfl rfl ⟨by decide, by decide⟩ ⟨by decide, by decide⟩ (Nat.le_of_ble_eq_true rfl) d_X11_isSpelled_34 rfl (fun r5 u6 h => ?_)
    refine L_icmp_ge (pc := 37) (tgt := 66) X d_X11_isSpelled_37 (by decide) (fun c37 => ?_) (fun c37 => ?_)
    · replace h := h.1 c37
      refine L_iconst (pc := 66) (v := 1) X d_X11_isSpelled_66 (by decide) ?_
      exact L_zretB (pc := 67) X hr d_X11_isSpelled_67 true rfl (by decide) (by decide) ⟨_, _, rfl, rfl, h⟩
    · replace h := h.2 c37
      refine L_aload_n (pc := 40) X d_X11_isSpelled_40 rfl 1 rfl ?_
      refine L_iload_n (pc := 41) X d_X11_isSpelled_41 rfl 2 rfl ?_
      refine L_iload (pc := 42) X d_X11_isSpelled_42 3 rfl ?_
      refine L_iadd (pc := 44) X d_X11_isSpelled_44 ?_
      obtain ⟨q7, h⟩ := h
      refine L_iald (pc := 45) X d_X11_isSpelled_45 kd_3 q7 ?_
      refine L_aloadW_n (pc := 46) X d_X11_isSpelled_46 rfl 0 rfl ?_
      obtain ⟨q8, h⟩ := h
      refine L_getWS (pc := 47) X q8 d_X11_isSpelled_47 tw_1625 ?_
      refine L_iload (pc := 50) X d_X11_isSpelled_50 3 rfl ?_
      refine L_callVRI (pc := 52) X rfl (X.rvS (wsp_lt _)) lk_X11_143 (c_J0_charAt_5068e X.hst (wsp_lt _) h) rfl rfl rfl ⟨by decide, by decide⟩ ⟨by decide, by decide⟩ (Nat.le_of_ble_eq_true rfl) d_X11_isSpelled_52 rfl (fun r9 u10 h => ?_)
      refine L_icmp_eq (pc := 55) (tgt := 60) X d_X11_isSpelled_55 (by decide) (fun c55 => ?_) (fun c55 => ?_)
      · replace h := h.1 c55
        refine L_iinc (pc := 60) (v := v4 + 1) (lv2 := [(4, .int (v4 + 1)), (0, wv v0), (1, .ref 3), (2, .int v2)]) X d_X11_isSpelled_60 3 rfl rfl (by decide) rfl ?_
        refine L_goto (pc := 63) (tgt := 28) X d_X11_isSpelled_63 (by decide) ?_
        refine LW.sub [1, 2, 3, 0] rfl ?_
        exact ih _ _ _  _ h
      · replace h := h.2 c55
        refine L_iconst (pc := 58) (v := 0) X d_X11_isSpelled_58 (by decide) ?_
        exact L_zretB (pc := 59) X hr d_X11_isSpelled_59 false rfl (by decide) (by decide) ⟨_, _, rfl, rfl, h⟩
set_option maxHeartbeats 4000000 in
set_option maxRecDepth 100000 in
theorem T_X11_isSpelled_23 {post : Bool → CMu → Prop} (hl : l.stackTraces = false) (X : MC p l s m args meth c cX11_isSpelled 5 RX11 G ρ A) (hr : meth.sig.returnType = (some .boolean)) (hex : ∀ z ∈ c.exceptionTable.toList, False) : ∀ (cm : CMu), B_X11_isSpelled_23 post cm → LW p l e rm_X11_isSpelled s m args below meth c (Qm below G ρ A (PZ (fun u => (u, mm, oo)) post) noX args s 0 0) G ρ A 5 0 0 23 [] [] (cm, mm, oo) := by
  intro cm h
  unfold B_X11_isSpelled_23 at h
  refine L_iconst (pc := 23) (v := 0) X d_X11_isSpelled_23 (by decide) ?_
  exact L_zretB (pc := 24) X hr d_X11_isSpelled_24 false rfl (by decide) (by decide) ⟨_, _, rfl, rfl, h⟩
set_option maxHeartbeats 4000000 in
set_option maxRecDepth 100000 in
theorem c_X11_isSpelled (hl : l.stackTraces = false) {a0 : Fin 32} {x2 : Int32} {x3 : Int32} {cm : CMu} {post : Bool → CMu → Prop} (h : w_X11_isSpelled post a0 x2 x3 cm) : CT l yX11_isSpelled (.code yX11_isSpelled cX11_isSpelled 5 (some .boolean)) rm_X11_isSpelled 0 0 G ρ [wv a0, .ref 3, .int x2, .int x3] (cm, mm, oo) (PZ (fun u => (u, mm, oo)) post) noX := by
  refine CT_of hl (by decide +kernel) rfl (by simp [wv_cat, cat_r, cat_i, cat_l]) (lv0 := [(0, wv a0), (1, .ref 3), (2, .int x2), (3, .int x3)]) (by simp [lv_args, wv_cat, cat_r, cat_i, cat_l]) (fun p e s m args below meth c A X hr hex hnm => ?_)
  unfold w_X11_isSpelled at h
  refine L_iload_n (pc := 0) X d_X11_isSpelled_0 rfl 2 rfl ?_
  refine L_if_lt (pc := 1) (tgt := 23) X d_X11_isSpelled_1 (by decide) (fun c1 => ?_) (fun c1 => ?_)
  · replace h := h.1 c1
    refine LW.sub [] rfl ?_
    exact T_X11_isSpelled_23 hl X hr hex   _ h
  · replace h := h.2 c1
    refine L_iload_n (pc := 4) X d_X11_isSpelled_4 rfl 3 rfl ?_
    refine L_aload_n (pc := 5) X d_X11_isSpelled_5 rfl 1 rfl ?_
    refine L_alen (pc := 6) (v := 400) X d_X11_isSpelled_6 kd_3 rfl ?_
    refine L_icmp_gt (pc := 7) (tgt := 23) X d_X11_isSpelled_7 (by decide) (fun c7 => ?_) (fun c7 => ?_)
    · replace h := h.1 c7
      refine LW.sub [] rfl ?_
      exact T_X11_isSpelled_23 hl X hr hex   _ h
    · replace h := h.2 c7
      refine L_iload_n (pc := 10) X d_X11_isSpelled_10 rfl 3 rfl ?_
      refine L_iload_n (pc := 11) X d_X11_isSpelled_11 rfl 2 rfl ?_
      refine L_isub (pc := 12) X d_X11_isSpelled_12 ?_
      refine L_aloadW_n (pc := 13) X d_X11_isSpelled_13 rfl 0 rfl ?_
      obtain ⟨q1, h⟩ := h
      refine L_getWS (pc := 14) X q1 d_X11_isSpelled_14 tw_1625 ?_
      refine L_callVRI (pc := 17) X rfl (X.rvS (wsp_lt _)) lk_X11_137 (c_J0_length_8abf5 X.hst (wsp_lt _) h) rfl rfl rfl ⟨by decide, by decide⟩ ⟨by decide, by decide⟩ (Nat.le_of_ble_eq_true rfl) d_X11_isSpelled_17 rfl (fun r2 u3 h => ?_)
      refine L_icmp_eq (pc := 20) (tgt := 25) X d_X11_isSpelled_20 (by decide) (fun c20 => ?_) (fun c20 => ?_)
      · replace h := h.1 c20
        refine L_iconst (pc := 25) (v := 0) X d_X11_isSpelled_25 (by decide) ?_
        refine L_istore (pc := 26) (lv2 := [(4, .int 0), (0, wv a0), (1, .ref 3), (2, .int x2), (3, .int x3)]) X d_X11_isSpelled_26 (by decide) rfl ?_
        obtain ⟨n28, h⟩ := h
        refine LW.sub [1, 2, 3, 0] rfl ?_
        exact T_X11_isSpelled_28 hl X hr hex n28 _ _ _  _ h
      · replace h := h.2 c20
        refine LW.sub [] rfl ?_
        exact T_X11_isSpelled_23 hl X hr hex   _ h
end G_X11_isSpelled
theorem yk_X11_isSpelled : yX11_isSpelled.cls = RX11 ∧ yX11_isSpelled.cls ≠ "java/lang/invoke/MethodHandle" ∧ yX11_isSpelled.cls ≠ "java/lang/invoke/VarHandle" ∧ (parseMethodDescriptor yX11_isSpelled.desc).map (fun d => d.parameters.length) = some 3 := by decide +kernel
theorem lk_X11_133 : LinkV RX11 133 RX11 yX11_isSpelled (.code yX11_isSpelled cX11_isSpelled 5 (some .boolean)) 3 := ⟨tw_616, tw_618, tw_2, tw_86, tw_620, yk_X11_isSpelled⟩
theorem d_X11_of_0 : decode cX11_of 0 = .ok (.iconst 0, 1) := by decide +kernel
theorem d_X11_of_1 : decode cX11_of 1 = .ok (.istore_n 3, 1) := by decide +kernel
theorem d_X11_of_2 : decode cX11_of 2 = .ok (.iload_n 3, 1) := by decide +kernel
theorem d_X11_of_3 : decode cX11_of 3 = .ok (.getstatic 130, 3) := by decide +kernel
theorem d_X11_of_6 : decode cX11_of 6 = .ok (.arraylength, 1) := by decide +kernel
theorem d_X11_of_7 : decode cX11_of 7 = .ok (.if_icmp .ge 29, 3) := by decide +kernel
theorem d_X11_of_10 : decode cX11_of 10 = .ok (.getstatic 130, 3) := by decide +kernel
theorem d_X11_of_13 : decode cX11_of 13 = .ok (.iload_n 3, 1) := by decide +kernel
theorem d_X11_of_14 : decode cX11_of 14 = .ok (.aaload, 1) := by decide +kernel
theorem d_X11_of_15 : decode cX11_of 15 = .ok (.aload_n 0, 1) := by decide +kernel
theorem d_X11_of_16 : decode cX11_of 16 = .ok (.iload_n 1, 1) := by decide +kernel
theorem d_X11_of_17 : decode cX11_of 17 = .ok (.iload_n 2, 1) := by decide +kernel
theorem d_X11_of_18 : decode cX11_of 18 = .ok (.invokevirtual 133, 3) := by decide +kernel
theorem d_X11_of_21 : decode cX11_of 21 = .ok (.ifCond .eq 9, 3) := by decide +kernel
theorem d_X11_of_24 : decode cX11_of 24 = .ok (.getstatic 130, 3) := by decide +kernel
theorem d_X11_of_27 : decode cX11_of 27 = .ok (.iload_n 3, 1) := by decide +kernel
theorem d_X11_of_28 : decode cX11_of 28 = .ok (.aaload, 1) := by decide +kernel
theorem d_X11_of_29 : decode cX11_of 29 = .ok (.areturn, 1) := by decide +kernel
theorem d_X11_of_30 : decode cX11_of 30 = .ok (.iinc 3 1, 3) := by decide +kernel
theorem d_X11_of_33 : decode cX11_of 33 = .ok (.goto (-31), 3) := by decide +kernel
theorem d_X11_of_36 : decode cX11_of 36 = .ok (.getstatic 94, 3) := by decide +kernel
theorem d_X11_of_39 : decode cX11_of 39 = .ok (.areturn, 1) := by decide +kernel
abbrev rm_X11_of : Room := { frames := 5, cells := 0, slots := 0, locals := 109 }
def B_X11_of_2 (post : Fin 32 → CMu → Prop) : Nat → Int32 → Int32 → Int32 → CMu → Prop
  | 0 => fun _ _ _ _ => False
  | n + 1 => fun v1 v2 v3 cm => (31 ≤ v3 → (post 31 cm)) ∧ (¬ 31 ≤ v3 → ((vp_in v3 31) ∧ (¬ (wAt (Int32.toNatClampNeg v3)) = 0) ∧ w_X11_isSpelled (fun (r2 : Bool) (u3 : CMu) => ((r2 = false) → (B_X11_of_2 post n v1 v2 (v3 + 1) u3)) ∧ (¬ (r2 = false) → ((vp_in v3 31) ∧ post (wAt (Int32.toNatClampNeg v3)) u3))) (wAt (Int32.toNatClampNeg v3)) v1 v2 cm))
def w_X11_of (post : Fin 32 → CMu → Prop) (x1 : Int32) (x2 : Int32) (cm : CMu) : Prop := ∃ n2, B_X11_of_2 post n2 x1 x2 0 cm
section G_X11_of
variable {p : Program} {l : Launch} {e : Env} {s : State} {m : MethodId} {args : Array Value} {below : List Frame} {meth : Method} {c : Code} {G : Gd} {ρ : Nat → Nat} {A : Nat → Prop} {mm : Nat → Nat → Int32} {oo : Nat → Int64}
set_option maxHeartbeats 4000000 in
set_option maxRecDepth 100000 in
theorem T_X11_of_2 {post : Fin 32 → CMu → Prop} (hl : l.stackTraces = false) (X : MC p l s m args meth c cX11_of 4 RX11 G ρ A) (hr : meth.sig.returnType = (some (.object "FlumeOrders$Word"))) (hex : ∀ z ∈ c.exceptionTable.toList, False) (n : Nat) : ∀ (v1 : Int32) (v2 : Int32) (v3 : Int32) (cm : CMu), B_X11_of_2 post n v1 v2 v3 cm → LW p l e rm_X11_of s m args below meth c (Qm below G ρ A (PW (fun u => (u, mm, oo)) post) noX args s 0 0) G ρ A 4 0 0 2 [(0, .ref 3), (1, .int v1), (2, .int v2), (3, .int v3)] [] (cm, mm, oo) := by
  induction n with
  | zero =>
    intro v1 v2 v3 cm h
    exact False.elim h
  | succ n ih =>
    intro v1 v2 v3 cm h
    unfold B_X11_of_2 at h
    refine L_iload_n (pc := 2) X d_X11_of_2 rfl 3 rfl ?_
    refine L_getsList (pc := 3) X d_X11_of_3 tw_614 ?_
    refine L_lenList (pc := 6) X d_X11_of_6 ?_
    refine L_icmp_ge (pc := 7) (tgt := 36) X d_X11_of_7 (by decide) (fun c7 => ?_) (fun c7 => ?_)
    · replace h := h.1 c7
      refine L_getsW (pc := 36) X 30 (by decide) rfl (w := 31) (by decide) d_X11_of_36 tw_669 ?_
      exact L_aretW (pc := 39) X hr d_X11_of_39 (by decide) (by decide) ⟨_, _, rfl, rfl, h⟩
    · replace h := h.2 c7
      refine L_getsList (pc := 10) X d_X11_of_10 tw_614 ?_
      refine L_iload_n (pc := 13) X d_X11_of_13 rfl 3 rfl ?_
      obtain ⟨q1, h⟩ := h
      refine L_aaldList (pc := 14) X q1 d_X11_of_14 ?_
      refine L_aload_n (pc := 15) X d_X11_of_15 rfl 0 rfl ?_
      refine L_iload_n (pc := 16) X d_X11_of_16 rfl 1 rfl ?_
      refine L_iload_n (pc := 17) X d_X11_of_17 rfl 2 rfl ?_
      obtain ⟨q5, h⟩ := h
      refine L_callVRZ (pc := 18) X (wv_b ρ q5) (X.rvW q5) lk_X11_133 (c_X11_isSpelled X.hst  h) rfl rfl rfl ⟨by decide, by decide⟩ ⟨by decide, by decide⟩ (Nat.zero_le _) d_X11_of_18 rfl (fun r2 u3 h => ?_)
      refine L_if_eq (pc := 21) (tgt := 30) X d_X11_of_21 (by decide) (fun c21 => ?_) (fun c21 => ?_)
      · replace h := h.1 ((b2_0 _).mp c21)
        refine L_iinc (pc := 30) (v := v3 + 1) (lv2 := [(3, .int (v3 + 1)), (0, .ref 3), (1, .int v1), (2, .int v2)]) X d_X11_of_30 3 rfl rfl (by decide) rfl ?_
        refine L_goto (pc := 33) (tgt := 2) X d_X11_of_33 (by decide) ?_
        refine LW.sub [1, 2, 3, 0] rfl ?_
        exact ih _ _ _  _ h
      · replace h := h.2 (fun z => c21 ((b2_0 _).mpr z))
        refine L_getsList (pc := 24) X d_X11_of_24 tw_614 ?_
        refine L_iload_n (pc := 27) X d_X11_of_27 rfl 3 rfl ?_
        obtain ⟨q4, h⟩ := h
        refine L_aaldList (pc := 28) X q4 d_X11_of_28 ?_
        exact L_aretW (pc := 29) X hr d_X11_of_29 (by decide) (by decide) ⟨_, _, rfl, rfl, h⟩
set_option maxHeartbeats 4000000 in
set_option maxRecDepth 100000 in
theorem c_X11_of (hl : l.stackTraces = false) {x1 : Int32} {x2 : Int32} {cm : CMu} {post : Fin 32 → CMu → Prop} (h : w_X11_of post x1 x2 cm) : CT l yX11_of (.code yX11_of cX11_of 4 (some (.object "FlumeOrders$Word"))) rm_X11_of 0 0 G ρ [.ref 3, .int x1, .int x2] (cm, mm, oo) (PW (fun u => (u, mm, oo)) post) noX := by
  refine CT_of hl (by decide +kernel) rfl (Nat.le_of_ble_eq_true rfl) (lv0 := [(0, .ref 3), (1, .int x1), (2, .int x2)]) rfl (fun p e s m args below meth c A X hr hex hnm => ?_)
  unfold w_X11_of at h
  refine L_iconst (pc := 0) (v := 0) X d_X11_of_0 (by decide) ?_
  refine L_istore_n (pc := 1) (lv2 := [(3, .int 0), (0, .ref 3), (1, .int x1), (2, .int x2)]) X d_X11_of_1 rfl (by decide) rfl ?_
  obtain ⟨n2, h⟩ := h
  refine LW.sub [1, 2, 3, 0] rfl ?_
  exact T_X11_of_2 hl X hr hex n2 _ _ _  _ h
end G_X11_of
theorem yk_X10_valueOf : yX10_valueOf.cls ≠ "java/lang/invoke/MethodHandle" ∧ yX10_valueOf.cls ≠ "java/lang/invoke/VarHandle" ∧ (parseMethodDescriptor yX10_valueOf.desc).map (fun d => d.parameters.length) = some 3 := by decide +kernel
theorem lk_X10_62 : LinkS RX10 62 yX10_valueOf (.code yX10_valueOf cX10_valueOf 5 (some .int)) 3 := ⟨tw_608, tw_609, tw_74, tw_610, yk_X10_valueOf⟩
theorem yk_X11_of : yX11_of.cls ≠ "java/lang/invoke/MethodHandle" ∧ yX11_of.cls ≠ "java/lang/invoke/VarHandle" ∧ (parseMethodDescriptor yX11_of.desc).map (fun d => d.parameters.length) = some 3 := by decide +kernel
theorem lk_X10_66 : LinkS RX10 66 yX11_of (.code yX11_of cX11_of 4 (some (.object "FlumeOrders$Word"))) 3 := ⟨tw_611, tw_612, tw_86, tw_613, yk_X11_of⟩
theorem d_X10_add_0 : decode cX10_add 0 = .ok (.aload_n 0, 1) := by decide +kernel
theorem d_X10_add_1 : decode cX10_add 1 = .ok (.getfield 37, 3) := by decide +kernel
theorem d_X10_add_4 : decode cX10_add 4 = .ok (.sipush 400, 3) := by decide +kernel
theorem d_X10_add_7 : decode cX10_add 7 = .ok (.if_icmp .lt 4, 3) := by decide +kernel
theorem d_X10_add_10 : decode cX10_add 10 = .ok (.return_, 1) := by decide +kernel
theorem d_X10_add_11 : decode cX10_add 11 = .ok (.aload_n 0, 1) := by decide +kernel
theorem d_X10_add_12 : decode cX10_add 12 = .ok (.getfield 17, 3) := by decide +kernel
theorem d_X10_add_15 : decode cX10_add 15 = .ok (.aload_n 0, 1) := by decide +kernel
theorem d_X10_add_16 : decode cX10_add 16 = .ok (.getfield 37, 3) := by decide +kernel
theorem d_X10_add_19 : decode cX10_add 19 = .ok (.iload_n 2, 1) := by decide +kernel
theorem d_X10_add_20 : decode cX10_add 20 = .ok (.iastore, 1) := by decide +kernel
theorem d_X10_add_21 : decode cX10_add 21 = .ok (.aload_n 1, 1) := by decide +kernel
theorem d_X10_add_22 : decode cX10_add 22 = .ok (.iload_n 2, 1) := by decide +kernel
theorem d_X10_add_23 : decode cX10_add 23 = .ok (.iaload, 1) := by decide +kernel
theorem d_X10_add_24 : decode cX10_add 24 = .ok (.invokestatic 51, 3) := by decide +kernel
theorem d_X10_add_27 : decode cX10_add 27 = .ok (.ifCond .eq 67, 3) := by decide +kernel
theorem d_X10_add_30 : decode cX10_add 30 = .ok (.iload_n 3, 1) := by decide +kernel
theorem d_X10_add_31 : decode cX10_add 31 = .ok (.iload_n 2, 1) := by decide +kernel
theorem d_X10_add_32 : decode cX10_add 32 = .ok (.isub, 1) := by decide +kernel
theorem d_X10_add_33 : decode cX10_add 33 = .ok (.iconst 3, 1) := by decide +kernel
theorem d_X10_add_34 : decode cX10_add 34 = .ok (.if_icmp .gt 7, 3) := by decide +kernel
theorem d_X10_add_37 : decode cX10_add 37 = .ok (.iconst 1, 1) := by decide +kernel
theorem d_X10_add_38 : decode cX10_add 38 = .ok (.goto 4, 3) := by decide +kernel
theorem d_X10_add_41 : decode cX10_add 41 = .ok (.iconst 0, 1) := by decide +kernel
theorem d_X10_add_42 : decode cX10_add 42 = .ok (.istore 4, 2) := by decide +kernel
theorem d_X10_add_44 : decode cX10_add 44 = .ok (.aload_n 0, 1) := by decide +kernel
theorem d_X10_add_45 : decode cX10_add 45 = .ok (.getfield 11, 3) := by decide +kernel
theorem d_X10_add_48 : decode cX10_add 48 = .ok (.aload_n 0, 1) := by decide +kernel
theorem d_X10_add_49 : decode cX10_add 49 = .ok (.getfield 37, 3) := by decide +kernel
theorem d_X10_add_52 : decode cX10_add 52 = .ok (.iload 4, 2) := by decide +kernel
theorem d_X10_add_54 : decode cX10_add 54 = .ok (.ifCond .eq 9, 3) := by decide +kernel
theorem d_X10_add_57 : decode cX10_add 57 = .ok (.getstatic 55, 3) := by decide +kernel
theorem d_X10_add_60 : decode cX10_add 60 = .ok (.goto 6, 3) := by decide +kernel
theorem d_X10_add_63 : decode cX10_add 63 = .ok (.getstatic 59, 3) := by decide +kernel
theorem d_X10_add_66 : decode cX10_add 66 = .ok (.aastore, 1) := by decide +kernel
theorem d_X10_add_67 : decode cX10_add 67 = .ok (.aload_n 0, 1) := by decide +kernel
theorem d_X10_add_68 : decode cX10_add 68 = .ok (.getfield 21, 3) := by decide +kernel
theorem d_X10_add_71 : decode cX10_add 71 = .ok (.aload_n 0, 1) := by decide +kernel
theorem d_X10_add_72 : decode cX10_add 72 = .ok (.getfield 37, 3) := by decide +kernel
theorem d_X10_add_75 : decode cX10_add 75 = .ok (.iload 4, 2) := by decide +kernel
theorem d_X10_add_77 : decode cX10_add 77 = .ok (.ifCond .eq 12, 3) := by decide +kernel
theorem d_X10_add_80 : decode cX10_add 80 = .ok (.aload_n 1, 1) := by decide +kernel
theorem d_X10_add_81 : decode cX10_add 81 = .ok (.iload_n 2, 1) := by decide +kernel
theorem d_X10_add_82 : decode cX10_add 82 = .ok (.iload_n 3, 1) := by decide +kernel
theorem d_X10_add_83 : decode cX10_add 83 = .ok (.invokestatic 62, 3) := by decide +kernel
theorem d_X10_add_86 : decode cX10_add 86 = .ok (.goto 4, 3) := by decide +kernel
theorem d_X10_add_89 : decode cX10_add 89 = .ok (.iconst 0, 1) := by decide +kernel
theorem d_X10_add_90 : decode cX10_add 90 = .ok (.iastore, 1) := by decide +kernel
theorem d_X10_add_91 : decode cX10_add 91 = .ok (.goto 28, 3) := by decide +kernel
theorem d_X10_add_94 : decode cX10_add 94 = .ok (.aload_n 0, 1) := by decide +kernel
theorem d_X10_add_95 : decode cX10_add 95 = .ok (.getfield 11, 3) := by decide +kernel
theorem d_X10_add_98 : decode cX10_add 98 = .ok (.aload_n 0, 1) := by decide +kernel
theorem d_X10_add_99 : decode cX10_add 99 = .ok (.getfield 37, 3) := by decide +kernel
theorem d_X10_add_102 : decode cX10_add 102 = .ok (.aload_n 1, 1) := by decide +kernel
theorem d_X10_add_103 : decode cX10_add 103 = .ok (.iload_n 2, 1) := by decide +kernel
theorem d_X10_add_104 : decode cX10_add 104 = .ok (.iload_n 3, 1) := by decide +kernel
theorem d_X10_add_105 : decode cX10_add 105 = .ok (.invokestatic 66, 3) := by decide +kernel
theorem d_X10_add_108 : decode cX10_add 108 = .ok (.aastore, 1) := by decide +kernel
theorem d_X10_add_109 : decode cX10_add 109 = .ok (.aload_n 0, 1) := by decide +kernel
theorem d_X10_add_110 : decode cX10_add 110 = .ok (.getfield 21, 3) := by decide +kernel
theorem d_X10_add_113 : decode cX10_add 113 = .ok (.aload_n 0, 1) := by decide +kernel
theorem d_X10_add_114 : decode cX10_add 114 = .ok (.getfield 37, 3) := by decide +kernel
theorem d_X10_add_117 : decode cX10_add 117 = .ok (.iconst 0, 1) := by decide +kernel
theorem d_X10_add_118 : decode cX10_add 118 = .ok (.iastore, 1) := by decide +kernel
theorem d_X10_add_119 : decode cX10_add 119 = .ok (.aload_n 0, 1) := by decide +kernel
theorem d_X10_add_120 : decode cX10_add 120 = .ok (.dup, 1) := by decide +kernel
theorem d_X10_add_121 : decode cX10_add 121 = .ok (.getfield 37, 3) := by decide +kernel
theorem d_X10_add_124 : decode cX10_add 124 = .ok (.iconst 1, 1) := by decide +kernel
theorem d_X10_add_125 : decode cX10_add 125 = .ok (.iadd, 1) := by decide +kernel
theorem d_X10_add_126 : decode cX10_add 126 = .ok (.putfield 37, 3) := by decide +kernel
theorem d_X10_add_129 : decode cX10_add 129 = .ok (.return_, 1) := by decide +kernel
abbrev rm_X10_add : Room := { frames := 6, cells := 0, slots := 0, locals := 132 }
def B_X10_add_119 (post : CMu → Prop) (cm : CMu) : Prop := post (uI cm 4 3 ((gI cm 4 3) + 1))
def B_X10_add_90 (post : CMu → Prop) (s0 : Int32) (s1 : Int32) (cm : CMu) : Prop := (vp_in s1 400) ∧ B_X10_add_119 post (uI cm 7 (Int32.toNatClampNeg s1) s0)
def B_X10_add_66 (post : CMu → Prop) (v2 : Int32) (v3 : Int32) (v4 : Bool) (s0 : Fin 32) (s1 : Int32) (cm : CMu) : Prop := (vp_in s1 400) ∧ (¬ s0 = 0) ∧ ((v4 = false) → (B_X10_add_90 post 0 (gI (uW cm 5 (Int32.toNatClampNeg s1) s0) 4 3) (uW cm 5 (Int32.toNatClampNeg s1) s0))) ∧ (¬ (v4 = false) → (w_X10_valueOf (fun (r12 : Int32) (u13 : CMu) => B_X10_add_90 post r12 (gI (uW cm 5 (Int32.toNatClampNeg s1) s0) 4 3) u13) v2 v3 (uW cm 5 (Int32.toNatClampNeg s1) s0)))
def B_X10_add_42 (post : CMu → Prop) (v2 : Int32) (v3 : Int32) (s0 : Bool) (cm : CMu) : Prop := ((s0 = false) → (B_X10_add_66 post v2 v3 s0 31 (gI cm 4 3) cm)) ∧ (¬ (s0 = false) → (B_X10_add_66 post v2 v3 s0 30 (gI cm 4 3) cm))
def w_X10_add (post : CMu → Prop) (x2 : Int32) (x3 : Int32) (cm : CMu) : Prop := ((gI cm 4 3) < 400 → ((vp_in (gI cm 4 3) 400) ∧ (vp_in x2 400) ∧ w_X10_isDigit (fun (r3 : Bool) (u4 : CMu) => ((r3 = false) → (w_X11_of (fun (r5 : Fin 32) (u6 : CMu) => (vp_in (gI u4 4 3) 400) ∧ (¬ r5 = 0) ∧ (vp_in (gI (uW u6 5 (Int32.toNatClampNeg (gI u4 4 3)) r5) 4 3) 400) ∧ B_X10_add_119 post (uI (uW u6 5 (Int32.toNatClampNeg (gI u4 4 3)) r5) 7 (Int32.toNatClampNeg (gI (uW u6 5 (Int32.toNatClampNeg (gI u4 4 3)) r5) 4 3)) 0)) x2 x3 u4)) ∧ (¬ (r3 = false) → ((3 < (x3 - x2) → (B_X10_add_42 post x2 x3 false u4)) ∧ (¬ 3 < (x3 - x2) → (B_X10_add_42 post x2 x3 true u4))))) (gI (uI cm 6 (Int32.toNatClampNeg (gI cm 4 3)) x2) 3 (Int32.toNatClampNeg x2)) (uI cm 6 (Int32.toNatClampNeg (gI cm 4 3)) x2))) ∧ (¬ (gI cm 4 3) < 400 → (post cm))
section G_X10_add
variable {p : Program} {l : Launch} {e : Env} {s : State} {m : MethodId} {args : Array Value} {below : List Frame} {meth : Method} {c : Code} {G : Gd} {ρ : Nat → Nat} {A : Nat → Prop} {mm : Nat → Nat → Int32} {oo : Nat → Int64}
set_option maxHeartbeats 4000000 in
set_option maxRecDepth 100000 in
theorem T_X10_add_119 {post : CMu → Prop} (hl : l.stackTraces = false) (X : MC p l s m args meth c cX10_add 5 RX10 G ρ A) (hr : meth.sig.returnType = none) (hex : ∀ z ∈ c.exceptionTable.toList, False) : ∀ (cm : CMu), B_X10_add_119 post cm → LW p l e rm_X10_add s m args below meth c (Qm below G ρ A (PV (fun u => (u, mm, oo)) post) noX args s 0 0) G ρ A 5 0 0 119 [(0, .ref 4)] [] (cm, mm, oo) := by
  intro cm h
  unfold B_X10_add_119 at h
  refine L_aload_n (pc := 119) X d_X10_add_119 rfl 0 rfl ?_
  refine L_dup (pc := 120) X d_X10_add_120 rfl ?_
  refine gf_X10_37 (pc := 121) X d_X10_add_121 kd_4 ?_
  refine L_iconst (pc := 124) (v := 1) X d_X10_add_124 (by decide) ?_
  refine L_iadd (pc := 125) X d_X10_add_125 ?_
  refine pf_X10_37 (pc := 126) X d_X10_add_126 kd_4 ?_
  exact L_vret (pc := 129) X hr d_X10_add_129 (by decide) (by decide) ⟨_, rfl, rfl, h⟩
set_option maxHeartbeats 4000000 in
set_option maxRecDepth 100000 in
theorem T_X10_add_90 {post : CMu → Prop} (hl : l.stackTraces = false) (X : MC p l s m args meth c cX10_add 5 RX10 G ρ A) (hr : meth.sig.returnType = none) (hex : ∀ z ∈ c.exceptionTable.toList, False) : ∀ (s0 : Int32) (s1 : Int32) (cm : CMu), B_X10_add_90 post s0 s1 cm → LW p l e rm_X10_add s m args below meth c (Qm below G ρ A (PV (fun u => (u, mm, oo)) post) noX args s 0 0) G ρ A 5 0 0 90 [(0, .ref 4)] [.int s0, .int s1, .ref 7] (cm, mm, oo) := by
  intro s0 s1 cm h
  unfold B_X10_add_90 at h
  obtain ⟨q14, h⟩ := h
  refine L_iast (pc := 90) X d_X10_add_90 kd_7 q14 ?_
  refine L_goto (pc := 91) (tgt := 119) X d_X10_add_91 (by decide) ?_
  refine LW.sub [0] rfl ?_
  exact T_X10_add_119 hl X hr hex   _ h
set_option maxHeartbeats 4000000 in
set_option maxRecDepth 100000 in
theorem T_X10_add_66 {post : CMu → Prop} (hl : l.stackTraces = false) (X : MC p l s m args meth c cX10_add 5 RX10 G ρ A) (hr : meth.sig.returnType = none) (hex : ∀ z ∈ c.exceptionTable.toList, False) : ∀ (v2 : Int32) (v3 : Int32) (v4 : Bool) (s0 : Fin 32) (s1 : Int32) (cm : CMu), B_X10_add_66 post v2 v3 v4 s0 s1 cm → LW p l e rm_X10_add s m args below meth c (Qm below G ρ A (PV (fun u => (u, mm, oo)) post) noX args s 0 0) G ρ A 5 0 0 66 [(0, .ref 4), (1, .ref 3), (2, .int v2), (3, .int v3), (4, .int (b2 v4))] [wv s0, .int s1, .ref 5] (cm, mm, oo) := by
  intro v2 v3 v4 s0 s1 cm h
  unfold B_X10_add_66 at h
  obtain ⟨q10, h⟩ := h
  obtain ⟨q11, h⟩ := h
  refine L_aastW (pc := 66) X kd_5 q10 q11 d_X10_add_66 ?_
  refine L_aload_n (pc := 67) X d_X10_add_67 rfl 0 rfl ?_
  refine gf_X10_21 (pc := 68) (b := 7) X d_X10_add_68 kd_4 rfl ?_
  refine L_aload_n (pc := 71) X d_X10_add_71 rfl 0 rfl ?_
  refine gf_X10_37 (pc := 72) X d_X10_add_72 kd_4 ?_
  refine L_iload (pc := 75) X d_X10_add_75 4 rfl ?_
  refine L_if_eq (pc := 77) (tgt := 89) X d_X10_add_77 (by decide) (fun c77 => ?_) (fun c77 => ?_)
  · replace h := h.1 ((b2_0 _).mp c77)
    refine L_iconst (pc := 89) (v := 0) X d_X10_add_89 (by decide) ?_
    refine LW.sub [0] rfl ?_
    exact T_X10_add_90 hl X hr hex _ _  _ h
  · replace h := h.2 (fun z => c77 ((b2_0 _).mpr z))
    refine L_aload_n (pc := 80) X d_X10_add_80 rfl 1 rfl ?_
    refine L_iload_n (pc := 81) X d_X10_add_81 rfl 2 rfl ?_
    refine L_iload_n (pc := 82) X d_X10_add_82 rfl 3 rfl ?_
    refine L_callSI (pc := 83) X lk_X10_62 (c_X10_valueOf X.hst  h) rfl rfl rfl ⟨by decide, by decide⟩ ⟨by decide, by decide⟩ (Nat.le_of_ble_eq_true rfl) d_X10_add_83 rfl (fun x κ1 hx => L_nox hx) (fun r12 u13 h => ?_)
    refine L_goto (pc := 86) (tgt := 90) X d_X10_add_86 (by decide) ?_
    refine LW.sub [0] rfl ?_
    exact T_X10_add_90 hl X hr hex _ _  _ h
set_option maxHeartbeats 4000000 in
set_option maxRecDepth 100000 in
theorem T_X10_add_42 {post : CMu → Prop} (hl : l.stackTraces = false) (X : MC p l s m args meth c cX10_add 5 RX10 G ρ A) (hr : meth.sig.returnType = none) (hex : ∀ z ∈ c.exceptionTable.toList, False) : ∀ (v2 : Int32) (v3 : Int32) (s0 : Bool) (cm : CMu), B_X10_add_42 post v2 v3 s0 cm → LW p l e rm_X10_add s m args below meth c (Qm below G ρ A (PV (fun u => (u, mm, oo)) post) noX args s 0 0) G ρ A 5 0 0 42 [(0, .ref 4), (1, .ref 3), (2, .int v2), (3, .int v3)] [.int (b2 s0)] (cm, mm, oo) := by
  intro v2 v3 s0 cm h
  unfold B_X10_add_42 at h
  refine L_istore (pc := 42) (lv2 := [(4, .int (b2 s0)), (0, .ref 4), (1, .ref 3), (2, .int v2), (3, .int v3)]) X d_X10_add_42 (by decide) rfl ?_
  refine L_aload_n (pc := 44) X d_X10_add_44 rfl 1 rfl ?_
  refine gf_X10_11 (pc := 45) (b := 5) X d_X10_add_45 kd_4 rfl ?_
  refine L_aload_n (pc := 48) X d_X10_add_48 rfl 1 rfl ?_
  refine gf_X10_37 (pc := 49) X d_X10_add_49 kd_4 ?_
  refine L_iload (pc := 52) X d_X10_add_52 0 rfl ?_
  refine L_if_eq (pc := 54) (tgt := 63) X d_X10_add_54 (by decide) (fun c54 => ?_) (fun c54 => ?_)
  · replace h := h.1 ((b2_0 _).mp c54)
    refine L_getsW (pc := 63) X 30 (by decide) rfl (w := 31) (by decide) d_X10_add_63 tw_606 ?_
    refine LW.sub [1, 2, 3, 4, 0] rfl ?_
    exact T_X10_add_66 hl X hr hex _ _ _ _ _  _ h
  · replace h := h.2 (fun z => c54 ((b2_0 _).mpr z))
    refine L_getsW (pc := 57) X 29 (by decide) rfl (w := 30) (by decide) d_X10_add_57 tw_604 ?_
    refine L_goto (pc := 60) (tgt := 66) X d_X10_add_60 (by decide) ?_
    refine LW.sub [1, 2, 3, 4, 0] rfl ?_
    exact T_X10_add_66 hl X hr hex _ _ _ _ _  _ h
set_option maxHeartbeats 4000000 in
set_option maxRecDepth 100000 in
theorem c_X10_add (hl : l.stackTraces = false) {x2 : Int32} {x3 : Int32} {cm : CMu} {post : CMu → Prop} (h : w_X10_add post x2 x3 cm) : CT l yX10_add (.code yX10_add cX10_add 5 none) rm_X10_add 0 0 G ρ [.ref 4, .ref 3, .int x2, .int x3] (cm, mm, oo) (PV (fun u => (u, mm, oo)) post) noX := by
  refine CT_of hl (by decide +kernel) rfl (Nat.le_of_ble_eq_true rfl) (lv0 := [(0, .ref 4), (1, .ref 3), (2, .int x2), (3, .int x3)]) rfl (fun p e s m args below meth c A X hr hex hnm => ?_)
  unfold w_X10_add at h
  refine L_aload_n (pc := 0) X d_X10_add_0 rfl 0 rfl ?_
  refine gf_X10_37 (pc := 1) X d_X10_add_1 kd_4 ?_
  refine L_sipush (pc := 4) (v := 400) X d_X10_add_4 (by decide) ?_
  refine L_icmp_lt (pc := 7) (tgt := 11) X d_X10_add_7 (by decide) (fun c7 => ?_) (fun c7 => ?_)
  · replace h := h.1 c7
    refine L_aload_n (pc := 11) X d_X10_add_11 rfl 0 rfl ?_
    refine gf_X10_17 (pc := 12) (b := 6) X d_X10_add_12 kd_4 rfl ?_
    refine L_aload_n (pc := 15) X d_X10_add_15 rfl 0 rfl ?_
    refine gf_X10_37 (pc := 16) X d_X10_add_16 kd_4 ?_
    refine L_iload_n (pc := 19) X d_X10_add_19 rfl 2 rfl ?_
    obtain ⟨q1, h⟩ := h
    refine L_iast (pc := 20) X d_X10_add_20 kd_6 q1 ?_
    refine L_aload_n (pc := 21) X d_X10_add_21 rfl 1 rfl ?_
    refine L_iload_n (pc := 22) X d_X10_add_22 rfl 2 rfl ?_
    obtain ⟨q2, h⟩ := h
    refine L_iald (pc := 23) X d_X10_add_23 kd_3 q2 ?_
    refine L_callSZ (pc := 24) X lk_X10_51 (c_X10_isDigit X.hst  h) rfl rfl rfl ⟨by decide, by decide⟩ ⟨by decide, by decide⟩ (Nat.zero_le _) d_X10_add_24 rfl (fun x κ1 hx => L_nox hx) (fun r3 u4 h => ?_)
    refine L_if_eq (pc := 27) (tgt := 94) X d_X10_add_27 (by decide) (fun c27 => ?_) (fun c27 => ?_)
    · replace h := h.1 ((b2_0 _).mp c27)
      refine L_aload_n (pc := 94) X d_X10_add_94 rfl 0 rfl ?_
      refine gf_X10_11 (pc := 95) (b := 5) X d_X10_add_95 kd_4 rfl ?_
      refine L_aload_n (pc := 98) X d_X10_add_98 rfl 0 rfl ?_
      refine gf_X10_37 (pc := 99) X d_X10_add_99 kd_4 ?_
      refine L_aload_n (pc := 102) X d_X10_add_102 rfl 1 rfl ?_
      refine L_iload_n (pc := 103) X d_X10_add_103 rfl 2 rfl ?_
      refine L_iload_n (pc := 104) X d_X10_add_104 rfl 3 rfl ?_
      refine L_callSW (pc := 105) X lk_X10_66 (c_X11_of X.hst  h) rfl rfl rfl ⟨by decide, by decide⟩ ⟨by decide, by decide⟩ (Nat.le_of_ble_eq_true rfl) d_X10_add_105 rfl (fun x κ1 hx => L_nox hx) (fun r5 u6 h => ?_)
      obtain ⟨q7, h⟩ := h
      obtain ⟨q8, h⟩ := h
      refine L_aastW (pc := 108) X kd_5 q7 q8 d_X10_add_108 ?_
      refine L_aload_n (pc := 109) X d_X10_add_109 rfl 0 rfl ?_
      refine gf_X10_21 (pc := 110) (b := 7) X d_X10_add_110 kd_4 rfl ?_
      refine L_aload_n (pc := 113) X d_X10_add_113 rfl 0 rfl ?_
      refine gf_X10_37 (pc := 114) X d_X10_add_114 kd_4 ?_
      refine L_iconst (pc := 117) (v := 0) X d_X10_add_117 (by decide) ?_
      obtain ⟨q9, h⟩ := h
      refine L_iast (pc := 118) X d_X10_add_118 kd_7 q9 ?_
      refine LW.sub [0] rfl ?_
      exact T_X10_add_119 hl X hr hex   _ h
    · replace h := h.2 (fun z => c27 ((b2_0 _).mpr z))
      refine L_iload_n (pc := 30) X d_X10_add_30 rfl 3 rfl ?_
      refine L_iload_n (pc := 31) X d_X10_add_31 rfl 2 rfl ?_
      refine L_isub (pc := 32) X d_X10_add_32 ?_
      refine L_iconst (pc := 33) (v := 3) X d_X10_add_33 (by decide) ?_
      refine L_icmp_gt (pc := 34) (tgt := 41) X d_X10_add_34 (by decide) (fun c34 => ?_) (fun c34 => ?_)
      · replace h := h.1 c34
        refine L_iconst (pc := 41) (v := 0) X d_X10_add_41 (by decide) ?_
        refine LW.sub [0, 1, 2, 3] rfl ?_
        exact T_X10_add_42 hl X hr hex _ _ _  _ h
      · replace h := h.2 c34
        refine L_iconst (pc := 37) (v := 1) X d_X10_add_37 (by decide) ?_
        refine L_goto (pc := 38) (tgt := 42) X d_X10_add_38 (by decide) ?_
        refine LW.sub [0, 1, 2, 3] rfl ?_
        exact T_X10_add_42 hl X hr hex _ _ _  _ h
  · replace h := h.2 c7
    exact L_vret (pc := 10) X hr d_X10_add_10 (by decide) (by decide) ⟨_, rfl, rfl, h⟩
end G_X10_add
theorem yk_X10_behindRun : yX10_behindRun.cls = RX10 ∧ yX10_behindRun.cls ≠ "java/lang/invoke/MethodHandle" ∧ yX10_behindRun.cls ≠ "java/lang/invoke/VarHandle" ∧ (parseMethodDescriptor yX10_behindRun.desc).map (fun d => d.parameters.length) = some 2 := by decide +kernel
theorem lk_X10_43 : LinkV RX10 43 RX10 yX10_behindRun (.code yX10_behindRun cX10_behindRun 4 (some .int)) 2 := ⟨tw_590, tw_592, tw_0, tw_74, tw_593, yk_X10_behindRun⟩
theorem yk_X10_add : yX10_add.cls = RX10 ∧ yX10_add.cls ≠ "java/lang/invoke/MethodHandle" ∧ yX10_add.cls ≠ "java/lang/invoke/VarHandle" ∧ (parseMethodDescriptor yX10_add.desc).map (fun d => d.parameters.length) = some 3 := by decide +kernel
theorem lk_X10_47 : LinkV RX10 47 RX10 yX10_add (.code yX10_add cX10_add 5 none) 3 := ⟨tw_600, tw_602, tw_1, tw_74, tw_603, yk_X10_add⟩
theorem d_X10_open_0 : decode cX10_open 0 = .ok (.aload_n 0, 1) := by decide +kernel
theorem d_X10_open_1 : decode cX10_open 1 = .ok (.iload_n 2, 1) := by decide +kernel
theorem d_X10_open_2 : decode cX10_open 2 = .ok (.aload_n 1, 1) := by decide +kernel
theorem d_X10_open_3 : decode cX10_open 3 = .ok (.arraylength, 1) := by decide +kernel
theorem d_X10_open_4 : decode cX10_open 4 = .ok (.invokestatic 28, 3) := by decide +kernel
theorem d_X10_open_7 : decode cX10_open 7 = .ok (.putfield 34, 3) := by decide +kernel
theorem d_X10_open_10 : decode cX10_open 10 = .ok (.aload_n 0, 1) := by decide +kernel
theorem d_X10_open_11 : decode cX10_open 11 = .ok (.iconst 0, 1) := by decide +kernel
theorem d_X10_open_12 : decode cX10_open 12 = .ok (.putfield 37, 3) := by decide +kernel
theorem d_X10_open_15 : decode cX10_open 15 = .ok (.aload_n 0, 1) := by decide +kernel
theorem d_X10_open_16 : decode cX10_open 16 = .ok (.iconst 0, 1) := by decide +kernel
theorem d_X10_open_17 : decode cX10_open 17 = .ok (.putfield 40, 3) := by decide +kernel
theorem d_X10_open_20 : decode cX10_open 20 = .ok (.aload_n 0, 1) := by decide +kernel
theorem d_X10_open_21 : decode cX10_open 21 = .ok (.iconst (-1), 1) := by decide +kernel
theorem d_X10_open_22 : decode cX10_open 22 = .ok (.putfield 24, 3) := by decide +kernel
theorem d_X10_open_25 : decode cX10_open 25 = .ok (.iconst 0, 1) := by decide +kernel
theorem d_X10_open_26 : decode cX10_open 26 = .ok (.istore_n 3, 1) := by decide +kernel
theorem d_X10_open_27 : decode cX10_open 27 = .ok (.iconst 0, 1) := by decide +kernel
theorem d_X10_open_28 : decode cX10_open 28 = .ok (.istore 4, 2) := by decide +kernel
theorem d_X10_open_30 : decode cX10_open 30 = .ok (.iload 4, 2) := by decide +kernel
theorem d_X10_open_32 : decode cX10_open 32 = .ok (.sipush 400, 3) := by decide +kernel
theorem d_X10_open_35 : decode cX10_open 35 = .ok (.if_icmp .ge 44, 3) := by decide +kernel
theorem d_X10_open_38 : decode cX10_open 38 = .ok (.iload_n 3, 1) := by decide +kernel
theorem d_X10_open_39 : decode cX10_open 39 = .ok (.aload_n 0, 1) := by decide +kernel
theorem d_X10_open_40 : decode cX10_open 40 = .ok (.getfield 34, 3) := by decide +kernel
theorem d_X10_open_43 : decode cX10_open 43 = .ok (.if_icmp .ge 36, 3) := by decide +kernel
theorem d_X10_open_46 : decode cX10_open 46 = .ok (.aload_n 0, 1) := by decide +kernel
theorem d_X10_open_47 : decode cX10_open 47 = .ok (.aload_n 1, 1) := by decide +kernel
theorem d_X10_open_48 : decode cX10_open 48 = .ok (.iload_n 3, 1) := by decide +kernel
theorem d_X10_open_49 : decode cX10_open 49 = .ok (.invokevirtual 43, 3) := by decide +kernel
theorem d_X10_open_52 : decode cX10_open 52 = .ok (.istore 5, 2) := by decide +kernel
theorem d_X10_open_54 : decode cX10_open 54 = .ok (.aload_n 1, 1) := by decide +kernel
theorem d_X10_open_55 : decode cX10_open 55 = .ok (.iload_n 3, 1) := by decide +kernel
theorem d_X10_open_56 : decode cX10_open 56 = .ok (.iaload, 1) := by decide +kernel
theorem d_X10_open_57 : decode cX10_open 57 = .ok (.bipush 32, 2) := by decide +kernel
theorem d_X10_open_59 : decode cX10_open 59 = .ok (.if_icmp .eq 11, 3) := by decide +kernel
theorem d_X10_open_62 : decode cX10_open 62 = .ok (.aload_n 0, 1) := by decide +kernel
theorem d_X10_open_63 : decode cX10_open 63 = .ok (.aload_n 1, 1) := by decide +kernel
theorem d_X10_open_64 : decode cX10_open 64 = .ok (.iload_n 3, 1) := by decide +kernel
theorem d_X10_open_65 : decode cX10_open 65 = .ok (.iload 5, 2) := by decide +kernel
theorem d_X10_open_67 : decode cX10_open 67 = .ok (.invokevirtual 47, 3) := by decide +kernel
theorem d_X10_open_70 : decode cX10_open 70 = .ok (.iload 5, 2) := by decide +kernel
theorem d_X10_open_72 : decode cX10_open 72 = .ok (.istore_n 3, 1) := by decide +kernel
theorem d_X10_open_73 : decode cX10_open 73 = .ok (.iinc 4 1, 3) := by decide +kernel
theorem d_X10_open_76 : decode cX10_open 76 = .ok (.goto (-46), 3) := by decide +kernel
theorem d_X10_open_79 : decode cX10_open 79 = .ok (.return_, 1) := by decide +kernel
abbrev rm_X10_open : Room := { frames := 7, cells := 0, slots := 0, locals := 156 }
def B_X10_open_79 (post : CMu → Prop) (cm : CMu) : Prop := post cm
def B_X10_open_70 (post : CMu → Prop) (k30 : Int32 → Int32 → CMu → Prop) (v4 : Int32) (v5 : Int32) (cm : CMu) : Prop := k30 v5 (v4 + 1) cm
def B_X10_open_30 (post : CMu → Prop) : Nat → Int32 → Int32 → CMu → Prop
  | 0 => fun _ _ _ => False
  | n + 1 => fun v3 v4 cm => (400 ≤ v4 → (B_X10_open_79 post cm)) ∧ (¬ 400 ≤ v4 → (((gI cm 4 5) ≤ v3 → (B_X10_open_79 post cm)) ∧ (¬ (gI cm 4 5) ≤ v3 → (w_X10_behindRun (fun (r1 : Int32) (u2 : CMu) => (vp_in v3 400) ∧ ((gI u2 3 (Int32.toNatClampNeg v3)) = 32 → (B_X10_open_70 post (B_X10_open_30 post n) v4 r1 u2)) ∧ (¬ (gI u2 3 (Int32.toNatClampNeg v3)) = 32 → (w_X10_add (fun (u5 : CMu) => B_X10_open_70 post (B_X10_open_30 post n) v4 r1 u5) v3 r1 u2))) v3 cm))))
def w_X10_open (post : CMu → Prop) (x2 : Int32) (cm : CMu) : Prop := ∃ n30, B_X10_open_30 post n30 0 0 (uI (uI (uI (uI cm 4 5 (jmin x2 400)) 4 3 0) 4 4 0) 4 7 (-1))
section G_X10_open
variable {p : Program} {l : Launch} {e : Env} {s : State} {m : MethodId} {args : Array Value} {below : List Frame} {meth : Method} {c : Code} {G : Gd} {ρ : Nat → Nat} {A : Nat → Prop} {mm : Nat → Nat → Int32} {oo : Nat → Int64}
set_option maxHeartbeats 4000000 in
set_option maxRecDepth 100000 in
theorem T_X10_open_79 {post : CMu → Prop} (hl : l.stackTraces = false) (X : MC p l s m args meth c cX10_open 6 RX10 G ρ A) (hr : meth.sig.returnType = none) (hex : ∀ z ∈ c.exceptionTable.toList, False) : ∀ (cm : CMu), B_X10_open_79 post cm → LW p l e rm_X10_open s m args below meth c (Qm below G ρ A (PV (fun u => (u, mm, oo)) post) noX args s 0 0) G ρ A 6 0 0 79 [] [] (cm, mm, oo) := by
  intro cm h
  unfold B_X10_open_79 at h
  exact L_vret (pc := 79) X hr d_X10_open_79 (by decide) (by decide) ⟨_, rfl, rfl, h⟩
set_option maxHeartbeats 4000000 in
set_option maxRecDepth 100000 in
theorem T_X10_open_70 {post : CMu → Prop} {k30 : Int32 → Int32 → CMu → Prop} (hl : l.stackTraces = false) (X : MC p l s m args meth c cX10_open 6 RX10 G ρ A) (hr : meth.sig.returnType = none) (hex : ∀ z ∈ c.exceptionTable.toList, False)
    (hk30 : ∀ (v3 : Int32) (v4 : Int32) (cm : CMu), k30 v3 v4 cm → LW p l e rm_X10_open s m args below meth c (Qm below G ρ A (PV (fun u => (u, mm, oo)) post) noX args s 0 0) G ρ A 6 0 0 30 [(0, .ref 4), (1, .ref 3), (3, .int v3), (4, .int v4)] [] (cm, mm, oo)) : ∀ (v4 : Int32) (v5 : Int32) (cm : CMu), B_X10_open_70 post k30 v4 v5 cm → LW p l e rm_X10_open s m args below meth c (Qm below G ρ A (PV (fun u => (u, mm, oo)) post) noX args s 0 0) G ρ A 6 0 0 70 [(0, .ref 4), (1, .ref 3), (4, .int v4), (5, .int v5)] [] (cm, mm, oo) := by
  intro v4 v5 cm h
  unfold B_X10_open_70 at h
  refine L_iload (pc := 70) X d_X10_open_70 3 rfl ?_
  refine L_istore_n (pc := 72) (lv2 := [(3, .int v5), (0, .ref 4), (1, .ref 3), (4, .int v4), (5, .int v5)]) X d_X10_open_72 rfl (by decide) rfl ?_
  refine L_iinc (pc := 73) (v := v4 + 1) (lv2 := [(4, .int (v4 + 1)), (3, .int v5), (0, .ref 4), (1, .ref 3), (5, .int v5)]) X d_X10_open_73 3 rfl rfl (by decide) rfl ?_
  refine L_goto (pc := 76) (tgt := 30) X d_X10_open_76 (by decide) ?_
  refine LW.sub [2, 3, 1, 0] rfl ?_
  exact hk30 _ _  _ h
set_option maxHeartbeats 4000000 in
set_option maxRecDepth 100000 in
theorem T_X10_open_30 {post : CMu → Prop} (hl : l.stackTraces = false) (X : MC p l s m args meth c cX10_open 6 RX10 G ρ A) (hr : meth.sig.returnType = none) (hex : ∀ z ∈ c.exceptionTable.toList, False) (n : Nat) : ∀ (v3 : Int32) (v4 : Int32) (cm : CMu), B_X10_open_30 post n v3 v4 cm → LW p l e rm_X10_open s m args below meth c (Qm below G ρ A (PV (fun u => (u, mm, oo)) post) noX args s 0 0) G ρ A 6 0 0 30 [(0, .ref 4), (1, .ref 3), (3, .int v3), (4, .int v4)] [] (cm, mm, oo) := by
  induction n with
  | zero =>
    intro v3 v4 cm h
    exact False.elim h
  | succ n ih =>
    intro v3 v4 cm h
    unfold B_X10_open_30 at h
    refine L_iload (pc := 30) X d_X10_open_30 3 rfl ?_
    refine L_sipush (pc := 32) (v := 400) X d_X10_open_32 (by decide) ?_
    refine L_icmp_ge (pc := 35) (tgt := 79) X d_X10_open_35 (by decide) (fun c35 => ?_) (fun c35 => ?_)
    · replace h := h.1 c35
      refine LW.sub [] rfl ?_
      exact T_X10_open_79 hl X hr hex   _ h
    · replace h := h.2 c35
      refine L_iload_n (pc := 38) X d_X10_open_38 rfl 2 rfl ?_
      refine L_aload_n (pc := 39) X d_X10_open_39 rfl 0 rfl ?_
      refine gf_X10_34 (pc := 40) X d_X10_open_40 kd_4 ?_
      refine L_icmp_ge (pc := 43) (tgt := 79) X d_X10_open_43 (by decide) (fun c43 => ?_) (fun c43 => ?_)
      · replace h := h.1 c43
        refine LW.sub [] rfl ?_
        exact T_X10_open_79 hl X hr hex   _ h
      · replace h := h.2 c43
        refine L_aload_n (pc := 46) X d_X10_open_46 rfl 0 rfl ?_
        refine L_aload_n (pc := 47) X d_X10_open_47 rfl 1 rfl ?_
        refine L_iload_n (pc := 48) X d_X10_open_48 rfl 2 rfl ?_
        refine L_callVI (pc := 49) X lk_X10_43 (c_X10_behindRun X.hst  h) rfl rfl kd_4 (by decide) rfl rfl ⟨by decide, by decide⟩ ⟨by decide, by decide⟩ (Nat.zero_le _) d_X10_open_49 rfl (fun x κ1 hx => L_nox hx) (fun r1 u2 h => ?_)
        refine L_istore (pc := 52) (lv2 := [(5, .int r1), (0, .ref 4), (1, .ref 3), (3, .int v3), (4, .int v4)]) X d_X10_open_52 (by decide) rfl ?_
        refine L_aload_n (pc := 54) X d_X10_open_54 rfl 2 rfl ?_
        refine L_iload_n (pc := 55) X d_X10_open_55 rfl 3 rfl ?_
        obtain ⟨q3, h⟩ := h
        refine L_iald (pc := 56) X d_X10_open_56 kd_3 q3 ?_
        refine L_bipush (pc := 57) (v := 32) X d_X10_open_57 (by decide) ?_
        refine L_icmp_eq (pc := 59) (tgt := 70) X d_X10_open_59 (by decide) (fun c59 => ?_) (fun c59 => ?_)
        · replace h := h.1 c59
          refine LW.sub [1, 2, 4, 0] rfl ?_
          exact T_X10_open_70 hl X hr hex ih _ _  _ h
        · replace h := h.2 c59
          refine L_aload_n (pc := 62) X d_X10_open_62 rfl 1 rfl ?_
          refine L_aload_n (pc := 63) X d_X10_open_63 rfl 2 rfl ?_
          refine L_iload_n (pc := 64) X d_X10_open_64 rfl 3 rfl ?_
          refine L_iload (pc := 65) X d_X10_open_65 0 rfl ?_
          refine L_callVV (pc := 67) X lk_X10_47 (c_X10_add X.hst  h) rfl rfl kd_4 (by decide) rfl rfl ⟨by decide, by decide⟩ ⟨by decide, by decide⟩ (Nat.zero_le _) d_X10_open_67 rfl (fun x κ1 hx => L_nox hx) (fun u5 h => ?_)
          refine LW.sub [1, 2, 4, 0] rfl ?_
          exact T_X10_open_70 hl X hr hex ih _ _  _ h
set_option maxHeartbeats 4000000 in
set_option maxRecDepth 100000 in
theorem c_X10_open (hl : l.stackTraces = false) {x2 : Int32} {cm : CMu} {post : CMu → Prop} (h : w_X10_open post x2 cm) : CT l yX10_open (.code yX10_open cX10_open 6 none) rm_X10_open 0 0 G ρ [.ref 4, .ref 3, .int x2] (cm, mm, oo) (PV (fun u => (u, mm, oo)) post) noX := by
  refine CT_of hl (by decide +kernel) rfl (Nat.le_of_ble_eq_true rfl) (lv0 := [(0, .ref 4), (1, .ref 3), (2, .int x2)]) rfl (fun p e s m args below meth c A X hr hex hnm => ?_)
  unfold w_X10_open at h
  refine L_aload_n (pc := 0) X d_X10_open_0 rfl 0 rfl ?_
  refine L_iload_n (pc := 1) X d_X10_open_1 rfl 2 rfl ?_
  refine L_aload_n (pc := 2) X d_X10_open_2 rfl 1 rfl ?_
  refine L_alen (pc := 3) (v := 400) X d_X10_open_3 kd_3 rfl ?_
  refine L_min (pc := 4) X d_X10_open_4 tw_587 tw_588 tw_84 tw_589 (by decide) (by decide) (by decide) (by decide) ?_
  refine pf_X10_34 (pc := 7) X d_X10_open_7 kd_4 ?_
  refine L_aload_n (pc := 10) X d_X10_open_10 rfl 0 rfl ?_
  refine L_iconst (pc := 11) (v := 0) X d_X10_open_11 (by decide) ?_
  refine pf_X10_37 (pc := 12) X d_X10_open_12 kd_4 ?_
  refine L_aload_n (pc := 15) X d_X10_open_15 rfl 0 rfl ?_
  refine L_iconst (pc := 16) (v := 0) X d_X10_open_16 (by decide) ?_
  refine pf_X10_40 (pc := 17) X d_X10_open_17 kd_4 ?_
  refine L_aload_n (pc := 20) X d_X10_open_20 rfl 0 rfl ?_
  refine L_iconst (pc := 21) (v := (-1)) X d_X10_open_21 (by decide) ?_
  refine pf_X10_24 (pc := 22) X d_X10_open_22 kd_4 ?_
  refine L_iconst (pc := 25) (v := 0) X d_X10_open_25 (by decide) ?_
  refine L_istore_n (pc := 26) (lv2 := [(3, .int 0), (0, .ref 4), (1, .ref 3), (2, .int x2)]) X d_X10_open_26 rfl (by decide) rfl ?_
  refine L_iconst (pc := 27) (v := 0) X d_X10_open_27 (by decide) ?_
  refine L_istore (pc := 28) (lv2 := [(4, .int 0), (3, .int 0), (0, .ref 4), (1, .ref 3), (2, .int x2)]) X d_X10_open_28 (by decide) rfl ?_
  obtain ⟨n30, h⟩ := h
  refine LW.sub [2, 3, 1, 0] rfl ?_
  exact T_X10_open_30 hl X hr hex n30 _ _  _ h
end G_X10_open
