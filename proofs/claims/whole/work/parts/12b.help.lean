theorem d_L_forest_0 : decode cL_forest 0 = .ok (.aload_n 1, 1) := by decide +kernel
theorem d_L_forest_1 : decode cL_forest 1 = .ok (.iconst 0, 1) := by decide +kernel
theorem d_L_forest_2 : decode cL_forest 2 = .ok (.aload_n 0, 1) := by decide +kernel
theorem d_L_forest_3 : decode cL_forest 3 = .ok (.invokevirtual 7, 3) := by decide +kernel
theorem d_L_forest_6 : decode cL_forest 6 = .ok (.i2l, 1) := by decide +kernel
theorem d_L_forest_7 : decode cL_forest 7 = .ok (.lastore, 1) := by decide +kernel
theorem d_L_forest_8 : decode cL_forest 8 = .ok (.goto 9, 3) := by decide +kernel
theorem d_L_forest_11 : decode cL_forest 11 = .ok (.astore_n 2, 1) := by decide +kernel
theorem d_L_forest_12 : decode cL_forest 12 = .ok (.iconst 1, 1) := by decide +kernel
theorem d_L_forest_13 : decode cL_forest 13 = .ok (.ireturn, 1) := by decide +kernel
theorem d_L_forest_14 : decode cL_forest 14 = .ok (.astore_n 2, 1) := by decide +kernel
theorem d_L_forest_15 : decode cL_forest 15 = .ok (.iconst 2, 1) := by decide +kernel
theorem d_L_forest_16 : decode cL_forest 16 = .ok (.ireturn, 1) := by decide +kernel
theorem d_L_forest_17 : decode cL_forest 17 = .ok (.iconst 0, 1) := by decide +kernel
theorem d_L_forest_18 : decode cL_forest 18 = .ok (.ireturn, 1) := by decide +kernel
theorem yk_X12_forest : yX12_forest.cls = RX12 ∧ yX12_forest.cls ≠ "java/lang/invoke/MethodHandle" ∧ yX12_forest.cls ≠ "java/lang/invoke/VarHandle" ∧ (parseMethodDescriptor yX12_forest.desc).map (fun d => d.parameters.length) = some 0 := by decide +kernel
theorem lk_L_7 : LinkV RL 7 RX12 yX12_forest (.code yX12_forest cX12_forest 1 (some .int)) 0 := ⟨tw_575, tw_576, tw_577, tw_72, tw_578, yk_X12_forest⟩
abbrev rm_L_forest : Room := { frames := 9, cells := 1, slots := 6, locals := 201 }
def w_L_forest (post : Int32 → CMu × (Nat → Int64) → Prop) (cm : CMu) (oo : Nat → Int64) : Prop := w_X12_forest (fun (r : Int32) (u : CMu) => post 0 (u, vp_updL oo (Int32.toNatClampNeg (0 : Int32)) (Int32.toInt64 r))) (fun (x : Nat) (u : CMu) => (x = 0 ∧ post 1 (u, oo)) ∨ (x = 2 ∧ post 2 (u, oo))) cm
set_option maxHeartbeats 4000000 in
set_option maxRecDepth 100000 in
theorem c_L_forest {l : Launch} {G : Gd} {ρ : Nat → Nat} {mm : Nat → Nat → Int32} (hl : l.stackTraces = false) {cm : CMu} {oo : Nat → Int64} {post : Int32 → CMu × (Nat → Int64) → Prop} (h : w_L_forest post cm oo) : CT l yL_forest (.codeWith yL_forest cL_forest 3 (some .int) [(0, 8, 11, 13), (0, 8, 14, 15)]) rm_L_forest 1 6 G ρ [.ref 1, .ref 715] (cm, mm, oo) (PI (fun u => (u.1, mm, u.2)) post) noX := by
  refine CT_ofH hl (by decide +kernel) rfl (Nat.le_of_ble_eq_true rfl) (lv0 := [(0, .ref 1), (1, .ref 715)]) rfl (fun p e s m args below meth c A X hr htb => ?_)
  unfold w_L_forest at h
  refine L_aload_n (pc := 0) X d_L_forest_0 rfl 1 rfl ?_
  refine L_iconst (pc := 1) (v := 0) X d_L_forest_1 (by decide) ?_
  refine L_aload_n (pc := 2) X d_L_forest_2 rfl 0 rfl ?_
  refine L_callVI (pc := 3) X lk_L_7 (c_X12_forest X.hst h) rfl rfl kd_1 (by decide) rfl rfl ⟨by decide, by decide⟩ ⟨by decide, by decide⟩ (Nat.le_of_ble_eq_true rfl) d_L_forest_3 rfl (fun x κ1 hx => ?_) (fun r u h => ?_)
  · obtain ⟨u, rfl, h⟩ := hx
    rcases h with ⟨rfl, h⟩ | ⟨rfl, h⟩
    · exact L_handle (pc := 3) X hr [] [(0, 8, 14, 15)] (0, 8, 11, 13) htb (fun z hz => absurd hz List.not_mem_nil) (by decide) (by decide) tw_573 (by decide) (pc2 := 12) (st_n X d_L_forest_11 rfl (by decide)) d_L_forest_12 (v := 1) (by decide) d_L_forest_13 (by decide) (by decide) ⟨_, (u, oo), rfl, rfl, h⟩
    · exact L_handle (pc := 3) X hr [(0, 8, 11, 13)] [] (0, 8, 14, 15) htb (fun z hz => by
        simp only [List.mem_cons, List.not_mem_nil, or_false] at hz
        rcases hz with rfl
        · exact ⟨by decide, "java/lang/IllegalArgumentException", tw_573, by decide⟩) (by decide) (by decide) tw_574 (by decide) (pc2 := 15) (st_n X d_L_forest_14 rfl (by decide)) d_L_forest_15 (v := 2) (by decide) d_L_forest_16 (by decide) (by decide) ⟨_, (u, oo), rfl, rfl, h⟩
  · refine L_i2l (pc := 6) X d_L_forest_6 ?_
    refine L_lastO (pc := 7) X (by unfold vp_in; decide) d_L_forest_7 ?_
    refine L_goto (pc := 8) (tgt := 17) X d_L_forest_8 (by decide) ?_
    refine L_iconst (pc := 17) (v := 0) X d_L_forest_17 (by decide) ?_
    exact L_iret (pc := 18) X hr d_L_forest_18 (by decide) (by decide) ⟨_, (u, _), rfl, rfl, h⟩
theorem d_L_chip_0 : decode cL_chip 0 = .ok (.aload_n 3, 1) := by decide +kernel
theorem d_L_chip_1 : decode cL_chip 1 = .ok (.iconst 0, 1) := by decide +kernel
theorem d_L_chip_2 : decode cL_chip 2 = .ok (.aload_n 0, 1) := by decide +kernel
theorem d_L_chip_3 : decode cL_chip 3 = .ok (.iload_n 1, 1) := by decide +kernel
theorem d_L_chip_4 : decode cL_chip 4 = .ok (.iload_n 2, 1) := by decide +kernel
theorem d_L_chip_5 : decode cL_chip 5 = .ok (.invokevirtual 17, 3) := by decide +kernel
theorem d_L_chip_8 : decode cL_chip 8 = .ok (.i2l, 1) := by decide +kernel
theorem d_L_chip_9 : decode cL_chip 9 = .ok (.lastore, 1) := by decide +kernel
theorem d_L_chip_10 : decode cL_chip 10 = .ok (.goto 15, 3) := by decide +kernel
theorem d_L_chip_13 : decode cL_chip 13 = .ok (.astore 4, 2) := by decide +kernel
theorem d_L_chip_15 : decode cL_chip 15 = .ok (.iconst 1, 1) := by decide +kernel
theorem d_L_chip_16 : decode cL_chip 16 = .ok (.ireturn, 1) := by decide +kernel
theorem d_L_chip_17 : decode cL_chip 17 = .ok (.astore 4, 2) := by decide +kernel
theorem d_L_chip_19 : decode cL_chip 19 = .ok (.iconst 2, 1) := by decide +kernel
theorem d_L_chip_20 : decode cL_chip 20 = .ok (.ireturn, 1) := by decide +kernel
theorem d_L_chip_21 : decode cL_chip 21 = .ok (.astore 4, 2) := by decide +kernel
theorem d_L_chip_23 : decode cL_chip 23 = .ok (.iconst 3, 1) := by decide +kernel
theorem d_L_chip_24 : decode cL_chip 24 = .ok (.ireturn, 1) := by decide +kernel
theorem d_L_chip_25 : decode cL_chip 25 = .ok (.iconst 0, 1) := by decide +kernel
theorem d_L_chip_26 : decode cL_chip 26 = .ok (.ireturn, 1) := by decide +kernel
theorem yk_X12_chip : yX12_chip.cls = RX12 ∧ yX12_chip.cls ≠ "java/lang/invoke/MethodHandle" ∧ yX12_chip.cls ≠ "java/lang/invoke/VarHandle" ∧ (parseMethodDescriptor yX12_chip.desc).map (fun d => d.parameters.length) = some 2 := by decide +kernel
theorem lk_L_17 : LinkV RL 17 RX12 yX12_chip (.code yX12_chip cX12_chip 5 (some .int)) 2 := ⟨tw_823, tw_824, tw_825, tw_72, tw_826, yk_X12_chip⟩
abbrev rm_L_chip : Room := { frames := 36, cells := 2, slots := 12, locals := 855 }
def w_L_chip (post : Int32 → CMu × (Nat → Int64) → Prop) (x1 : Int32) (x2 : Int32) (cm : CMu) (oo : Nat → Int64) : Prop := w_X12_chip (fun (r : Int32) (u : CMu) => post 0 (u, vp_updL oo (Int32.toNatClampNeg (0 : Int32)) (Int32.toInt64 r))) (fun (x : Nat) (u : CMu) => (x = 1 ∧ post 1 (u, oo)) ∨ (x = 0 ∧ post 2 (u, oo)) ∨ (x = 2 ∧ post 3 (u, oo))) x1 x2 cm
set_option maxHeartbeats 4000000 in
set_option maxRecDepth 100000 in
theorem c_L_chip {l : Launch} {G : Gd} {ρ : Nat → Nat} {mm : Nat → Nat → Int32} (hl : l.stackTraces = false) {x1 : Int32} {x2 : Int32} {cm : CMu} {oo : Nat → Int64} {post : Int32 → CMu × (Nat → Int64) → Prop} (h : w_L_chip post x1 x2 cm oo) : CT l yL_chip (.codeWith yL_chip cL_chip 5 (some .int) [(0, 10, 13, 21), (0, 10, 17, 13), (0, 10, 21, 15)]) rm_L_chip 2 12 G ρ [.ref 1, .int x1, .int x2, .ref 715] (cm, mm, oo) (PI (fun u => (u.1, mm, u.2)) post) noX := by
  refine CT_ofH hl (by decide +kernel) rfl (Nat.le_of_ble_eq_true rfl) (lv0 := [(0, .ref 1), (1, .int x1), (2, .int x2), (3, .ref 715)]) rfl (fun p e s m args below meth c A X hr htb => ?_)
  unfold w_L_chip at h
  refine L_aload_n (pc := 0) X d_L_chip_0 rfl 3 rfl ?_
  refine L_iconst (pc := 1) (v := 0) X d_L_chip_1 (by decide) ?_
  refine L_aload_n (pc := 2) X d_L_chip_2 rfl 0 rfl ?_
  refine L_iload_n (pc := 3) X d_L_chip_3 rfl 1 rfl ?_
  refine L_iload_n (pc := 4) X d_L_chip_4 rfl 2 rfl ?_
  refine L_callVI (pc := 5) X lk_L_17 (c_X12_chip X.hst h) rfl rfl kd_1 (by decide) rfl rfl ⟨by decide, by decide⟩ ⟨by decide, by decide⟩ (Nat.le_of_ble_eq_true rfl) d_L_chip_5 rfl (fun x κ1 hx => ?_) (fun r u h => ?_)
  · obtain ⟨u, rfl, h⟩ := hx
    rcases h with ⟨rfl, h⟩ | ⟨rfl, h⟩ | ⟨rfl, h⟩
    · exact L_handle (pc := 5) X hr [] [(0, 10, 17, 13), (0, 10, 21, 15)] (0, 10, 13, 21) htb (fun z hz => absurd hz List.not_mem_nil) (by decide) (by decide) tw_822 (by decide) (pc2 := 15) (st_w X d_L_chip_13 (by decide)) d_L_chip_15 (v := 1) (by decide) d_L_chip_16 (by decide) (by decide) ⟨_, (u, oo), rfl, rfl, h⟩
    · exact L_handle (pc := 5) X hr [(0, 10, 13, 21)] [(0, 10, 21, 15)] (0, 10, 17, 13) htb (fun z hz => by
        simp only [List.mem_cons, List.not_mem_nil, or_false] at hz
        rcases hz with rfl
        · exact ⟨by decide, "java/lang/IndexOutOfBoundsException", tw_822, by decide⟩) (by decide) (by decide) tw_573 (by decide) (pc2 := 19) (st_w X d_L_chip_17 (by decide)) d_L_chip_19 (v := 2) (by decide) d_L_chip_20 (by decide) (by decide) ⟨_, (u, oo), rfl, rfl, h⟩
    · exact L_handle (pc := 5) X hr [(0, 10, 13, 21), (0, 10, 17, 13)] [] (0, 10, 21, 15) htb (fun z hz => by
        simp only [List.mem_cons, List.not_mem_nil, or_false] at hz
        rcases hz with rfl | rfl
        · exact ⟨by decide, "java/lang/IndexOutOfBoundsException", tw_822, by decide⟩
        · exact ⟨by decide, "java/lang/IllegalArgumentException", tw_573, by decide⟩) (by decide) (by decide) tw_574 (by decide) (pc2 := 23) (st_w X d_L_chip_21 (by decide)) d_L_chip_23 (v := 3) (by decide) d_L_chip_24 (by decide) (by decide) ⟨_, (u, oo), rfl, rfl, h⟩
  · refine L_i2l (pc := 8) X d_L_chip_8 ?_
    refine L_lastO (pc := 9) X (by unfold vp_in; decide) d_L_chip_9 ?_
    refine L_goto (pc := 10) (tgt := 25) X d_L_chip_10 (by decide) ?_
    refine L_iconst (pc := 25) (v := 0) X d_L_chip_25 (by decide) ?_
    exact L_iret (pc := 26) X hr d_L_chip_26 (by decide) (by decide) ⟨_, (u, _), rfl, rfl, h⟩
theorem d_L_run_0 : decode cL_run 0 = .ok (.aload_n 2, 1) := by decide +kernel
theorem d_L_run_1 : decode cL_run 1 = .ok (.iconst 0, 1) := by decide +kernel
theorem d_L_run_2 : decode cL_run 2 = .ok (.aload_n 0, 1) := by decide +kernel
theorem d_L_run_3 : decode cL_run 3 = .ok (.iload_n 1, 1) := by decide +kernel
theorem d_L_run_4 : decode cL_run 4 = .ok (.invokevirtual 23, 3) := by decide +kernel
theorem d_L_run_7 : decode cL_run 7 = .ok (.i2l, 1) := by decide +kernel
theorem d_L_run_8 : decode cL_run 8 = .ok (.lastore, 1) := by decide +kernel
theorem d_L_run_9 : decode cL_run 9 = .ok (.goto 6, 3) := by decide +kernel
theorem d_L_run_12 : decode cL_run 12 = .ok (.astore_n 3, 1) := by decide +kernel
theorem d_L_run_13 : decode cL_run 13 = .ok (.iconst 1, 1) := by decide +kernel
theorem d_L_run_14 : decode cL_run 14 = .ok (.ireturn, 1) := by decide +kernel
theorem d_L_run_15 : decode cL_run 15 = .ok (.iconst 0, 1) := by decide +kernel
theorem d_L_run_16 : decode cL_run 16 = .ok (.ireturn, 1) := by decide +kernel
theorem yk_X12_run : yX12_run.cls = RX12 ∧ yX12_run.cls ≠ "java/lang/invoke/MethodHandle" ∧ yX12_run.cls ≠ "java/lang/invoke/VarHandle" ∧ (parseMethodDescriptor yX12_run.desc).map (fun d => d.parameters.length) = some 1 := by decide +kernel
theorem lk_L_23 : LinkV RL 23 RX12 yX12_run (.code yX12_run cX12_run 3 (some .int)) 1 := ⟨tw_936, tw_937, tw_938, tw_72, tw_939, yk_X12_run⟩
abbrev rm_L_run : Room := { frames := 11, cells := 1, slots := 6, locals := 230 }
def w_L_run (post : Int32 → CMu × (Nat → Int64) → Prop) (x1 : Int32) (cm : CMu) (oo : Nat → Int64) : Prop := w_X12_run (fun (r : Int32) (u : CMu) => post 0 (u, vp_updL oo (Int32.toNatClampNeg (0 : Int32)) (Int32.toInt64 r))) (fun (x : Nat) (u : CMu) => (x = 0 ∧ post 1 (u, oo))) x1 cm
set_option maxHeartbeats 4000000 in
set_option maxRecDepth 100000 in
theorem c_L_run {l : Launch} {G : Gd} {ρ : Nat → Nat} {mm : Nat → Nat → Int32} (hl : l.stackTraces = false) {x1 : Int32} {cm : CMu} {oo : Nat → Int64} {post : Int32 → CMu × (Nat → Int64) → Prop} (h : w_L_run post x1 cm oo) : CT l yL_run (.codeWith yL_run cL_run 4 (some .int) [(0, 9, 12, 13)]) rm_L_run 1 6 G ρ [.ref 1, .int x1, .ref 715] (cm, mm, oo) (PI (fun u => (u.1, mm, u.2)) post) noX := by
  refine CT_ofH hl (by decide +kernel) rfl (Nat.le_of_ble_eq_true rfl) (lv0 := [(0, .ref 1), (1, .int x1), (2, .ref 715)]) rfl (fun p e s m args below meth c A X hr htb => ?_)
  unfold w_L_run at h
  refine L_aload_n (pc := 0) X d_L_run_0 rfl 2 rfl ?_
  refine L_iconst (pc := 1) (v := 0) X d_L_run_1 (by decide) ?_
  refine L_aload_n (pc := 2) X d_L_run_2 rfl 0 rfl ?_
  refine L_iload_n (pc := 3) X d_L_run_3 rfl 1 rfl ?_
  refine L_callVI (pc := 4) X lk_L_23 (c_X12_run X.hst h) rfl rfl kd_1 (by decide) rfl rfl ⟨by decide, by decide⟩ ⟨by decide, by decide⟩ (Nat.le_of_ble_eq_true rfl) d_L_run_4 rfl (fun x κ1 hx => ?_) (fun r u h => ?_)
  · obtain ⟨u, rfl, h⟩ := hx
    rcases h with ⟨rfl, h⟩
    · exact L_handle (pc := 4) X hr [] [] (0, 9, 12, 13) htb (fun z hz => absurd hz List.not_mem_nil) (by decide) (by decide) tw_573 (by decide) (pc2 := 13) (st_n X d_L_run_12 rfl (by decide)) d_L_run_13 (v := 1) (by decide) d_L_run_14 (by decide) (by decide) ⟨_, (u, oo), rfl, rfl, h⟩
  · refine L_i2l (pc := 7) X d_L_run_7 ?_
    refine L_lastO (pc := 8) X (by unfold vp_in; decide) d_L_run_8 ?_
    refine L_goto (pc := 9) (tgt := 15) X d_L_run_9 (by decide) ?_
    refine L_iconst (pc := 15) (v := 0) X d_L_run_15 (by decide) ?_
    exact L_iret (pc := 16) X hr d_L_run_16 (by decide) (by decide) ⟨_, (u, _), rfl, rfl, h⟩
theorem d_L_pole_0 : decode cL_pole 0 = .ok (.aload_n 2, 1) := by decide +kernel
theorem d_L_pole_1 : decode cL_pole 1 = .ok (.iconst 0, 1) := by decide +kernel
theorem d_L_pole_2 : decode cL_pole 2 = .ok (.aload_n 0, 1) := by decide +kernel
theorem d_L_pole_3 : decode cL_pole 3 = .ok (.iload_n 1, 1) := by decide +kernel
theorem d_L_pole_4 : decode cL_pole 4 = .ok (.invokevirtual 27, 3) := by decide +kernel
theorem d_L_pole_7 : decode cL_pole 7 = .ok (.i2l, 1) := by decide +kernel
theorem d_L_pole_8 : decode cL_pole 8 = .ok (.lastore, 1) := by decide +kernel
theorem d_L_pole_9 : decode cL_pole 9 = .ok (.goto 6, 3) := by decide +kernel
theorem d_L_pole_12 : decode cL_pole 12 = .ok (.astore_n 3, 1) := by decide +kernel
theorem d_L_pole_13 : decode cL_pole 13 = .ok (.iconst 1, 1) := by decide +kernel
theorem d_L_pole_14 : decode cL_pole 14 = .ok (.ireturn, 1) := by decide +kernel
theorem d_L_pole_15 : decode cL_pole 15 = .ok (.iconst 0, 1) := by decide +kernel
theorem d_L_pole_16 : decode cL_pole 16 = .ok (.ireturn, 1) := by decide +kernel
theorem yk_X12_pole : yX12_pole.cls = RX12 ∧ yX12_pole.cls ≠ "java/lang/invoke/MethodHandle" ∧ yX12_pole.cls ≠ "java/lang/invoke/VarHandle" ∧ (parseMethodDescriptor yX12_pole.desc).map (fun d => d.parameters.length) = some 1 := by decide +kernel
theorem lk_L_27 : LinkV RL 27 RX12 yX12_pole (.code yX12_pole cX12_pole 2 (some .int)) 1 := ⟨tw_1026, tw_1027, tw_1028, tw_72, tw_1029, yk_X12_pole⟩
abbrev rm_L_pole : Room := { frames := 8, cells := 1, slots := 6, locals := 142 }
def w_L_pole (post : Int32 → CMu × (Nat → Int64) → Prop) (x1 : Int32) (cm : CMu) (oo : Nat → Int64) : Prop := w_X12_pole (fun (r : Int32) (u : CMu) => post 0 (u, vp_updL oo (Int32.toNatClampNeg (0 : Int32)) (Int32.toInt64 r))) (fun (x : Nat) (u : CMu) => (x = 1 ∧ post 1 (u, oo))) x1 cm
set_option maxHeartbeats 4000000 in
set_option maxRecDepth 100000 in
theorem c_L_pole {l : Launch} {G : Gd} {ρ : Nat → Nat} {mm : Nat → Nat → Int32} (hl : l.stackTraces = false) {x1 : Int32} {cm : CMu} {oo : Nat → Int64} {post : Int32 → CMu × (Nat → Int64) → Prop} (h : w_L_pole post x1 cm oo) : CT l yL_pole (.codeWith yL_pole cL_pole 4 (some .int) [(0, 9, 12, 21)]) rm_L_pole 1 6 G ρ [.ref 1, .int x1, .ref 715] (cm, mm, oo) (PI (fun u => (u.1, mm, u.2)) post) noX := by
  refine CT_ofH hl (by decide +kernel) rfl (Nat.le_of_ble_eq_true rfl) (lv0 := [(0, .ref 1), (1, .int x1), (2, .ref 715)]) rfl (fun p e s m args below meth c A X hr htb => ?_)
  unfold w_L_pole at h
  refine L_aload_n (pc := 0) X d_L_pole_0 rfl 2 rfl ?_
  refine L_iconst (pc := 1) (v := 0) X d_L_pole_1 (by decide) ?_
  refine L_aload_n (pc := 2) X d_L_pole_2 rfl 0 rfl ?_
  refine L_iload_n (pc := 3) X d_L_pole_3 rfl 1 rfl ?_
  refine L_callVI (pc := 4) X lk_L_27 (c_X12_pole X.hst h) rfl rfl kd_1 (by decide) rfl rfl ⟨by decide, by decide⟩ ⟨by decide, by decide⟩ (Nat.le_of_ble_eq_true rfl) d_L_pole_4 rfl (fun x κ1 hx => ?_) (fun r u h => ?_)
  · obtain ⟨u, rfl, h⟩ := hx
    rcases h with ⟨rfl, h⟩
    · exact L_handle (pc := 4) X hr [] [] (0, 9, 12, 21) htb (fun z hz => absurd hz List.not_mem_nil) (by decide) (by decide) tw_822 (by decide) (pc2 := 13) (st_n X d_L_pole_12 rfl (by decide)) d_L_pole_13 (v := 1) (by decide) d_L_pole_14 (by decide) (by decide) ⟨_, (u, oo), rfl, rfl, h⟩
  · refine L_i2l (pc := 7) X d_L_pole_7 ?_
    refine L_lastO (pc := 8) X (by unfold vp_in; decide) d_L_pole_8 ?_
    refine L_goto (pc := 9) (tgt := 15) X d_L_pole_9 (by decide) ?_
    refine L_iconst (pc := 15) (v := 0) X d_L_pole_15 (by decide) ?_
    exact L_iret (pc := 16) X hr d_L_pole_16 (by decide) (by decide) ⟨_, (u, _), rfl, rfl, h⟩
theorem d_L_water_0 : decode cL_water 0 = .ok (.aload_n 2, 1) := by decide +kernel
theorem d_L_water_1 : decode cL_water 1 = .ok (.iconst 0, 1) := by decide +kernel
theorem d_L_water_2 : decode cL_water 2 = .ok (.aload_n 0, 1) := by decide +kernel
theorem d_L_water_3 : decode cL_water 3 = .ok (.iload_n 1, 1) := by decide +kernel
theorem d_L_water_4 : decode cL_water 4 = .ok (.invokevirtual 30, 3) := by decide +kernel
theorem d_L_water_7 : decode cL_water 7 = .ok (.i2l, 1) := by decide +kernel
theorem d_L_water_8 : decode cL_water 8 = .ok (.lastore, 1) := by decide +kernel
theorem d_L_water_9 : decode cL_water 9 = .ok (.goto 6, 3) := by decide +kernel
theorem d_L_water_12 : decode cL_water 12 = .ok (.astore_n 3, 1) := by decide +kernel
theorem d_L_water_13 : decode cL_water 13 = .ok (.iconst 1, 1) := by decide +kernel
theorem d_L_water_14 : decode cL_water 14 = .ok (.ireturn, 1) := by decide +kernel
theorem d_L_water_15 : decode cL_water 15 = .ok (.iconst 0, 1) := by decide +kernel
theorem d_L_water_16 : decode cL_water 16 = .ok (.ireturn, 1) := by decide +kernel
theorem yk_X12_water : yX12_water.cls = RX12 ∧ yX12_water.cls ≠ "java/lang/invoke/MethodHandle" ∧ yX12_water.cls ≠ "java/lang/invoke/VarHandle" ∧ (parseMethodDescriptor yX12_water.desc).map (fun d => d.parameters.length) = some 1 := by decide +kernel
theorem lk_L_30 : LinkV RL 30 RX12 yX12_water (.code yX12_water cX12_water 3 (some .int)) 1 := ⟨tw_1041, tw_1042, tw_1043, tw_72, tw_1044, yk_X12_water⟩
abbrev rm_L_water : Room := { frames := 8, cells := 1, slots := 6, locals := 142 }
def w_L_water (post : Int32 → CMu × (Nat → Int64) → Prop) (x1 : Int32) (cm : CMu) (oo : Nat → Int64) : Prop := w_X12_water (fun (r : Int32) (u : CMu) => post 0 (u, vp_updL oo (Int32.toNatClampNeg (0 : Int32)) (Int32.toInt64 r))) (fun (x : Nat) (u : CMu) => (x = 0 ∧ post 1 (u, oo))) x1 cm
set_option maxHeartbeats 4000000 in
set_option maxRecDepth 100000 in
theorem c_L_water {l : Launch} {G : Gd} {ρ : Nat → Nat} {mm : Nat → Nat → Int32} (hl : l.stackTraces = false) {x1 : Int32} {cm : CMu} {oo : Nat → Int64} {post : Int32 → CMu × (Nat → Int64) → Prop} (h : w_L_water post x1 cm oo) : CT l yL_water (.codeWith yL_water cL_water 4 (some .int) [(0, 9, 12, 13)]) rm_L_water 1 6 G ρ [.ref 1, .int x1, .ref 715] (cm, mm, oo) (PI (fun u => (u.1, mm, u.2)) post) noX := by
  refine CT_ofH hl (by decide +kernel) rfl (Nat.le_of_ble_eq_true rfl) (lv0 := [(0, .ref 1), (1, .int x1), (2, .ref 715)]) rfl (fun p e s m args below meth c A X hr htb => ?_)
  unfold w_L_water at h
  refine L_aload_n (pc := 0) X d_L_water_0 rfl 2 rfl ?_
  refine L_iconst (pc := 1) (v := 0) X d_L_water_1 (by decide) ?_
  refine L_aload_n (pc := 2) X d_L_water_2 rfl 0 rfl ?_
  refine L_iload_n (pc := 3) X d_L_water_3 rfl 1 rfl ?_
  refine L_callVI (pc := 4) X lk_L_30 (c_X12_water X.hst h) rfl rfl kd_1 (by decide) rfl rfl ⟨by decide, by decide⟩ ⟨by decide, by decide⟩ (Nat.le_of_ble_eq_true rfl) d_L_water_4 rfl (fun x κ1 hx => ?_) (fun r u h => ?_)
  · obtain ⟨u, rfl, h⟩ := hx
    rcases h with ⟨rfl, h⟩
    · exact L_handle (pc := 4) X hr [] [] (0, 9, 12, 13) htb (fun z hz => absurd hz List.not_mem_nil) (by decide) (by decide) tw_573 (by decide) (pc2 := 13) (st_n X d_L_water_12 rfl (by decide)) d_L_water_13 (v := 1) (by decide) d_L_water_14 (by decide) (by decide) ⟨_, (u, oo), rfl, rfl, h⟩
  · refine L_i2l (pc := 7) X d_L_water_7 ?_
    refine L_lastO (pc := 8) X (by unfold vp_in; decide) d_L_water_8 ?_
    refine L_goto (pc := 9) (tgt := 15) X d_L_water_9 (by decide) ?_
    refine L_iconst (pc := 15) (v := 0) X d_L_water_15 (by decide) ?_
    exact L_iret (pc := 16) X hr d_L_water_16 (by decide) (by decide) ⟨_, (u, _), rfl, rfl, h⟩
theorem d_L_look_0 : decode cL_look 0 = .ok (.aload_n 3, 1) := by decide +kernel
theorem d_L_look_1 : decode cL_look 1 = .ok (.iconst 0, 1) := by decide +kernel
theorem d_L_look_2 : decode cL_look 2 = .ok (.aload_n 0, 1) := by decide +kernel
theorem d_L_look_3 : decode cL_look 3 = .ok (.iload_n 1, 1) := by decide +kernel
theorem d_L_look_4 : decode cL_look 4 = .ok (.iload_n 2, 1) := by decide +kernel
theorem d_L_look_5 : decode cL_look 5 = .ok (.invokevirtual 33, 3) := by decide +kernel
theorem d_L_look_8 : decode cL_look 8 = .ok (.i2l, 1) := by decide +kernel
theorem d_L_look_9 : decode cL_look 9 = .ok (.lastore, 1) := by decide +kernel
theorem d_L_look_10 : decode cL_look 10 = .ok (.goto 11, 3) := by decide +kernel
theorem d_L_look_13 : decode cL_look 13 = .ok (.astore 4, 2) := by decide +kernel
theorem d_L_look_15 : decode cL_look 15 = .ok (.iconst 1, 1) := by decide +kernel
theorem d_L_look_16 : decode cL_look 16 = .ok (.ireturn, 1) := by decide +kernel
theorem d_L_look_17 : decode cL_look 17 = .ok (.astore 4, 2) := by decide +kernel
theorem d_L_look_19 : decode cL_look 19 = .ok (.iconst 2, 1) := by decide +kernel
theorem d_L_look_20 : decode cL_look 20 = .ok (.ireturn, 1) := by decide +kernel
theorem d_L_look_21 : decode cL_look 21 = .ok (.iconst 0, 1) := by decide +kernel
theorem d_L_look_22 : decode cL_look 22 = .ok (.ireturn, 1) := by decide +kernel
theorem yk_X12_look : yX12_look.cls = RX12 ∧ yX12_look.cls ≠ "java/lang/invoke/MethodHandle" ∧ yX12_look.cls ≠ "java/lang/invoke/VarHandle" ∧ (parseMethodDescriptor yX12_look.desc).map (fun d => d.parameters.length) = some 2 := by decide +kernel
theorem lk_L_33 : LinkV RL 33 RX12 yX12_look (.code yX12_look cX12_look 4 (some .int)) 2 := ⟨tw_1052, tw_1053, tw_1054, tw_72, tw_1055, yk_X12_look⟩
abbrev rm_L_look : Room := { frames := 7, cells := 1, slots := 6, locals := 123 }
def w_L_look (post : Int32 → CMu × (Nat → Int64) → Prop) (x1 : Int32) (x2 : Int32) (cm : CMu) (oo : Nat → Int64) : Prop := w_X12_look (fun (r : Int32) (u : CMu) => post 0 (u, vp_updL oo (Int32.toNatClampNeg (0 : Int32)) (Int32.toInt64 r))) (fun (x : Nat) (u : CMu) => (x = 1 ∧ post 1 (u, oo)) ∨ (x = 3 ∧ post 2 (u, oo))) x1 x2 cm
set_option maxHeartbeats 4000000 in
set_option maxRecDepth 100000 in
theorem c_L_look {l : Launch} {G : Gd} {ρ : Nat → Nat} {mm : Nat → Nat → Int32} (hl : l.stackTraces = false) {x1 : Int32} {x2 : Int32} {cm : CMu} {oo : Nat → Int64} {post : Int32 → CMu × (Nat → Int64) → Prop} (h : w_L_look post x1 x2 cm oo) : CT l yL_look (.codeWith yL_look cL_look 5 (some .int) [(0, 10, 13, 21), (0, 10, 17, 36)]) rm_L_look 1 6 G ρ [.ref 1, .int x1, .int x2, .ref 715] (cm, mm, oo) (PI (fun u => (u.1, mm, u.2)) post) noX := by
  refine CT_ofH hl (by decide +kernel) rfl (Nat.le_of_ble_eq_true rfl) (lv0 := [(0, .ref 1), (1, .int x1), (2, .int x2), (3, .ref 715)]) rfl (fun p e s m args below meth c A X hr htb => ?_)
  unfold w_L_look at h
  refine L_aload_n (pc := 0) X d_L_look_0 rfl 3 rfl ?_
  refine L_iconst (pc := 1) (v := 0) X d_L_look_1 (by decide) ?_
  refine L_aload_n (pc := 2) X d_L_look_2 rfl 0 rfl ?_
  refine L_iload_n (pc := 3) X d_L_look_3 rfl 1 rfl ?_
  refine L_iload_n (pc := 4) X d_L_look_4 rfl 2 rfl ?_
  refine L_callVI (pc := 5) X lk_L_33 (c_X12_look X.hst h) rfl rfl kd_1 (by decide) rfl rfl ⟨by decide, by decide⟩ ⟨by decide, by decide⟩ (Nat.le_of_ble_eq_true rfl) d_L_look_5 rfl (fun x κ1 hx => ?_) (fun r u h => ?_)
  · obtain ⟨u, rfl, h⟩ := hx
    rcases h with ⟨rfl, h⟩ | ⟨rfl, h⟩
    · exact L_handle (pc := 5) X hr [] [(0, 10, 17, 36)] (0, 10, 13, 21) htb (fun z hz => absurd hz List.not_mem_nil) (by decide) (by decide) tw_822 (by decide) (pc2 := 15) (st_w X d_L_look_13 (by decide)) d_L_look_15 (v := 1) (by decide) d_L_look_16 (by decide) (by decide) ⟨_, (u, oo), rfl, rfl, h⟩
    · exact L_handle (pc := 5) X hr [(0, 10, 13, 21)] [] (0, 10, 17, 36) htb (fun z hz => by
        simp only [List.mem_cons, List.not_mem_nil, or_false] at hz
        rcases hz with rfl
        · exact ⟨by decide, "java/lang/IndexOutOfBoundsException", tw_822, by decide⟩) (by decide) (by decide) tw_1051 (by decide) (pc2 := 19) (st_w X d_L_look_17 (by decide)) d_L_look_19 (v := 2) (by decide) d_L_look_20 (by decide) (by decide) ⟨_, (u, oo), rfl, rfl, h⟩
  · refine L_i2l (pc := 8) X d_L_look_8 ?_
    refine L_lastO (pc := 9) X (by unfold vp_in; decide) d_L_look_9 ?_
    refine L_goto (pc := 10) (tgt := 21) X d_L_look_10 (by decide) ?_
    refine L_iconst (pc := 21) (v := 0) X d_L_look_21 (by decide) ?_
    exact L_iret (pc := 22) X hr d_L_look_22 (by decide) (by decide) ⟨_, (u, _), rfl, rfl, h⟩
theorem d_L_camp_0 : decode cL_camp 0 = .ok (.aload_n 3, 1) := by decide +kernel
theorem d_L_camp_1 : decode cL_camp 1 = .ok (.iconst 0, 1) := by decide +kernel
theorem d_L_camp_2 : decode cL_camp 2 = .ok (.aload_n 0, 1) := by decide +kernel
theorem d_L_camp_3 : decode cL_camp 3 = .ok (.iload_n 1, 1) := by decide +kernel
theorem d_L_camp_4 : decode cL_camp 4 = .ok (.iload_n 2, 1) := by decide +kernel
theorem d_L_camp_5 : decode cL_camp 5 = .ok (.invokevirtual 38, 3) := by decide +kernel
theorem d_L_camp_8 : decode cL_camp 8 = .ok (.i2l, 1) := by decide +kernel
theorem d_L_camp_9 : decode cL_camp 9 = .ok (.lastore, 1) := by decide +kernel
theorem d_L_camp_10 : decode cL_camp 10 = .ok (.goto 11, 3) := by decide +kernel
theorem d_L_camp_13 : decode cL_camp 13 = .ok (.astore 4, 2) := by decide +kernel
theorem d_L_camp_15 : decode cL_camp 15 = .ok (.iconst 1, 1) := by decide +kernel
theorem d_L_camp_16 : decode cL_camp 16 = .ok (.ireturn, 1) := by decide +kernel
theorem d_L_camp_17 : decode cL_camp 17 = .ok (.astore 4, 2) := by decide +kernel
theorem d_L_camp_19 : decode cL_camp 19 = .ok (.iconst 2, 1) := by decide +kernel
theorem d_L_camp_20 : decode cL_camp 20 = .ok (.ireturn, 1) := by decide +kernel
theorem d_L_camp_21 : decode cL_camp 21 = .ok (.iconst 0, 1) := by decide +kernel
theorem d_L_camp_22 : decode cL_camp 22 = .ok (.ireturn, 1) := by decide +kernel
theorem yk_X12_camp : yX12_camp.cls = RX12 ∧ yX12_camp.cls ≠ "java/lang/invoke/MethodHandle" ∧ yX12_camp.cls ≠ "java/lang/invoke/VarHandle" ∧ (parseMethodDescriptor yX12_camp.desc).map (fun d => d.parameters.length) = some 2 := by decide +kernel
theorem lk_L_38 : LinkV RL 38 RX12 yX12_camp (.code yX12_camp cX12_camp 4 (some .int)) 2 := ⟨tw_1074, tw_1075, tw_1076, tw_72, tw_1077, yk_X12_camp⟩
abbrev rm_L_camp : Room := { frames := 8, cells := 2, slots := 12, locals := 144 }
def w_L_camp (post : Int32 → CMu × (Nat → Int64) → Prop) (x1 : Int32) (x2 : Int32) (cm : CMu) (oo : Nat → Int64) : Prop := w_X12_camp (fun (r : Int32) (u : CMu) => post 0 (u, vp_updL oo (Int32.toNatClampNeg (0 : Int32)) (Int32.toInt64 r))) (fun (x : Nat) (u : CMu) => (x = 1 ∧ post 1 (u, oo)) ∨ (x = 3 ∧ post 2 (u, oo))) x1 x2 cm
set_option maxHeartbeats 4000000 in
set_option maxRecDepth 100000 in
theorem c_L_camp {l : Launch} {G : Gd} {ρ : Nat → Nat} {mm : Nat → Nat → Int32} (hl : l.stackTraces = false) {x1 : Int32} {x2 : Int32} {cm : CMu} {oo : Nat → Int64} {post : Int32 → CMu × (Nat → Int64) → Prop} (h : w_L_camp post x1 x2 cm oo) : CT l yL_camp (.codeWith yL_camp cL_camp 5 (some .int) [(0, 10, 13, 21), (0, 10, 17, 36)]) rm_L_camp 2 12 G ρ [.ref 1, .int x1, .int x2, .ref 715] (cm, mm, oo) (PI (fun u => (u.1, mm, u.2)) post) noX := by
  refine CT_ofH hl (by decide +kernel) rfl (Nat.le_of_ble_eq_true rfl) (lv0 := [(0, .ref 1), (1, .int x1), (2, .int x2), (3, .ref 715)]) rfl (fun p e s m args below meth c A X hr htb => ?_)
  unfold w_L_camp at h
  refine L_aload_n (pc := 0) X d_L_camp_0 rfl 3 rfl ?_
  refine L_iconst (pc := 1) (v := 0) X d_L_camp_1 (by decide) ?_
  refine L_aload_n (pc := 2) X d_L_camp_2 rfl 0 rfl ?_
  refine L_iload_n (pc := 3) X d_L_camp_3 rfl 1 rfl ?_
  refine L_iload_n (pc := 4) X d_L_camp_4 rfl 2 rfl ?_
  refine L_callVI (pc := 5) X lk_L_38 (c_X12_camp X.hst h) rfl rfl kd_1 (by decide) rfl rfl ⟨by decide, by decide⟩ ⟨by decide, by decide⟩ (Nat.le_of_ble_eq_true rfl) d_L_camp_5 rfl (fun x κ1 hx => ?_) (fun r u h => ?_)
  · obtain ⟨u, rfl, h⟩ := hx
    rcases h with ⟨rfl, h⟩ | ⟨rfl, h⟩
    · exact L_handle (pc := 5) X hr [] [(0, 10, 17, 36)] (0, 10, 13, 21) htb (fun z hz => absurd hz List.not_mem_nil) (by decide) (by decide) tw_822 (by decide) (pc2 := 15) (st_w X d_L_camp_13 (by decide)) d_L_camp_15 (v := 1) (by decide) d_L_camp_16 (by decide) (by decide) ⟨_, (u, oo), rfl, rfl, h⟩
    · exact L_handle (pc := 5) X hr [(0, 10, 13, 21)] [] (0, 10, 17, 36) htb (fun z hz => by
        simp only [List.mem_cons, List.not_mem_nil, or_false] at hz
        rcases hz with rfl
        · exact ⟨by decide, "java/lang/IndexOutOfBoundsException", tw_822, by decide⟩) (by decide) (by decide) tw_1051 (by decide) (pc2 := 19) (st_w X d_L_camp_17 (by decide)) d_L_camp_19 (v := 2) (by decide) d_L_camp_20 (by decide) (by decide) ⟨_, (u, oo), rfl, rfl, h⟩
  · refine L_i2l (pc := 8) X d_L_camp_8 ?_
    refine L_lastO (pc := 9) X (by unfold vp_in; decide) d_L_camp_9 ?_
    refine L_goto (pc := 10) (tgt := 21) X d_L_camp_10 (by decide) ?_
    refine L_iconst (pc := 21) (v := 0) X d_L_camp_21 (by decide) ?_
    exact L_iret (pc := 22) X hr d_L_camp_22 (by decide) (by decide) ⟨_, (u, _), rfl, rfl, h⟩
theorem d_L_reach_0 : decode cL_reach 0 = .ok (.aload_n 3, 1) := by decide +kernel
theorem d_L_reach_1 : decode cL_reach 1 = .ok (.iconst 0, 1) := by decide +kernel
theorem d_L_reach_2 : decode cL_reach 2 = .ok (.aload_n 0, 1) := by decide +kernel
theorem d_L_reach_3 : decode cL_reach 3 = .ok (.iload_n 1, 1) := by decide +kernel
theorem d_L_reach_4 : decode cL_reach 4 = .ok (.iload_n 2, 1) := by decide +kernel
theorem d_L_reach_5 : decode cL_reach 5 = .ok (.invokevirtual 41, 3) := by decide +kernel
theorem d_L_reach_8 : decode cL_reach 8 = .ok (.i2l, 1) := by decide +kernel
theorem d_L_reach_9 : decode cL_reach 9 = .ok (.lastore, 1) := by decide +kernel
theorem d_L_reach_10 : decode cL_reach 10 = .ok (.goto 11, 3) := by decide +kernel
theorem d_L_reach_13 : decode cL_reach 13 = .ok (.astore 4, 2) := by decide +kernel
theorem d_L_reach_15 : decode cL_reach 15 = .ok (.iconst 1, 1) := by decide +kernel
theorem d_L_reach_16 : decode cL_reach 16 = .ok (.ireturn, 1) := by decide +kernel
theorem d_L_reach_17 : decode cL_reach 17 = .ok (.astore 4, 2) := by decide +kernel
theorem d_L_reach_19 : decode cL_reach 19 = .ok (.iconst 2, 1) := by decide +kernel
theorem d_L_reach_20 : decode cL_reach 20 = .ok (.ireturn, 1) := by decide +kernel
theorem d_L_reach_21 : decode cL_reach 21 = .ok (.iconst 0, 1) := by decide +kernel
theorem d_L_reach_22 : decode cL_reach 22 = .ok (.ireturn, 1) := by decide +kernel
theorem yk_X12_reach : yX12_reach.cls = RX12 ∧ yX12_reach.cls ≠ "java/lang/invoke/MethodHandle" ∧ yX12_reach.cls ≠ "java/lang/invoke/VarHandle" ∧ (parseMethodDescriptor yX12_reach.desc).map (fun d => d.parameters.length) = some 2 := by decide +kernel
theorem lk_L_41 : LinkV RL 41 RX12 yX12_reach (.code yX12_reach cX12_reach 4 (some .int)) 2 := ⟨tw_1085, tw_1086, tw_1087, tw_72, tw_1088, yk_X12_reach⟩
abbrev rm_L_reach : Room := { frames := 8, cells := 2, slots := 12, locals := 144 }
def w_L_reach (post : Int32 → CMu × (Nat → Int64) → Prop) (x1 : Int32) (x2 : Int32) (cm : CMu) (oo : Nat → Int64) : Prop := w_X12_reach (fun (r : Int32) (u : CMu) => post 0 (u, vp_updL oo (Int32.toNatClampNeg (0 : Int32)) (Int32.toInt64 r))) (fun (x : Nat) (u : CMu) => (x = 1 ∧ post 1 (u, oo)) ∨ (x = 3 ∧ post 2 (u, oo))) x1 x2 cm
set_option maxHeartbeats 4000000 in
set_option maxRecDepth 100000 in
theorem c_L_reach {l : Launch} {G : Gd} {ρ : Nat → Nat} {mm : Nat → Nat → Int32} (hl : l.stackTraces = false) {x1 : Int32} {x2 : Int32} {cm : CMu} {oo : Nat → Int64} {post : Int32 → CMu × (Nat → Int64) → Prop} (h : w_L_reach post x1 x2 cm oo) : CT l yL_reach (.codeWith yL_reach cL_reach 5 (some .int) [(0, 10, 13, 21), (0, 10, 17, 36)]) rm_L_reach 2 12 G ρ [.ref 1, .int x1, .int x2, .ref 715] (cm, mm, oo) (PI (fun u => (u.1, mm, u.2)) post) noX := by
  refine CT_ofH hl (by decide +kernel) rfl (Nat.le_of_ble_eq_true rfl) (lv0 := [(0, .ref 1), (1, .int x1), (2, .int x2), (3, .ref 715)]) rfl (fun p e s m args below meth c A X hr htb => ?_)
  unfold w_L_reach at h
  refine L_aload_n (pc := 0) X d_L_reach_0 rfl 3 rfl ?_
  refine L_iconst (pc := 1) (v := 0) X d_L_reach_1 (by decide) ?_
  refine L_aload_n (pc := 2) X d_L_reach_2 rfl 0 rfl ?_
  refine L_iload_n (pc := 3) X d_L_reach_3 rfl 1 rfl ?_
  refine L_iload_n (pc := 4) X d_L_reach_4 rfl 2 rfl ?_
  refine L_callVI (pc := 5) X lk_L_41 (c_X12_reach X.hst h) rfl rfl kd_1 (by decide) rfl rfl ⟨by decide, by decide⟩ ⟨by decide, by decide⟩ (Nat.le_of_ble_eq_true rfl) d_L_reach_5 rfl (fun x κ1 hx => ?_) (fun r u h => ?_)
  · obtain ⟨u, rfl, h⟩ := hx
    rcases h with ⟨rfl, h⟩ | ⟨rfl, h⟩
    · exact L_handle (pc := 5) X hr [] [(0, 10, 17, 36)] (0, 10, 13, 21) htb (fun z hz => absurd hz List.not_mem_nil) (by decide) (by decide) tw_822 (by decide) (pc2 := 15) (st_w X d_L_reach_13 (by decide)) d_L_reach_15 (v := 1) (by decide) d_L_reach_16 (by decide) (by decide) ⟨_, (u, oo), rfl, rfl, h⟩
    · exact L_handle (pc := 5) X hr [(0, 10, 13, 21)] [] (0, 10, 17, 36) htb (fun z hz => by
        simp only [List.mem_cons, List.not_mem_nil, or_false] at hz
        rcases hz with rfl
        · exact ⟨by decide, "java/lang/IndexOutOfBoundsException", tw_822, by decide⟩) (by decide) (by decide) tw_1051 (by decide) (pc2 := 19) (st_w X d_L_reach_17 (by decide)) d_L_reach_19 (v := 2) (by decide) d_L_reach_20 (by decide) (by decide) ⟨_, (u, oo), rfl, rfl, h⟩
  · refine L_i2l (pc := 8) X d_L_reach_8 ?_
    refine L_lastO (pc := 9) X (by unfold vp_in; decide) d_L_reach_9 ?_
    refine L_goto (pc := 10) (tgt := 21) X d_L_reach_10 (by decide) ?_
    refine L_iconst (pc := 21) (v := 0) X d_L_reach_21 (by decide) ?_
    exact L_iret (pc := 22) X hr d_L_reach_22 (by decide) (by decide) ⟨_, (u, _), rfl, rfl, h⟩
theorem d_L_time_0 : decode cL_time 0 = .ok (.aload 5, 2) := by decide +kernel
theorem d_L_time_2 : decode cL_time 2 = .ok (.iconst 0, 1) := by decide +kernel
theorem d_L_time_3 : decode cL_time 3 = .ok (.aload_n 0, 1) := by decide +kernel
theorem d_L_time_4 : decode cL_time 4 = .ok (.iload_n 1, 1) := by decide +kernel
theorem d_L_time_5 : decode cL_time 5 = .ok (.iload_n 2, 1) := by decide +kernel
theorem d_L_time_6 : decode cL_time 6 = .ok (.iload_n 3, 1) := by decide +kernel
theorem d_L_time_7 : decode cL_time 7 = .ok (.iload 4, 2) := by decide +kernel
theorem d_L_time_9 : decode cL_time 9 = .ok (.invokevirtual 44, 3) := by decide +kernel
theorem d_L_time_12 : decode cL_time 12 = .ok (.i2l, 1) := by decide +kernel
theorem d_L_time_13 : decode cL_time 13 = .ok (.lastore, 1) := by decide +kernel
theorem d_L_time_14 : decode cL_time 14 = .ok (.goto 11, 3) := by decide +kernel
theorem d_L_time_17 : decode cL_time 17 = .ok (.astore 6, 2) := by decide +kernel
theorem d_L_time_19 : decode cL_time 19 = .ok (.iconst 1, 1) := by decide +kernel
theorem d_L_time_20 : decode cL_time 20 = .ok (.ireturn, 1) := by decide +kernel
theorem d_L_time_21 : decode cL_time 21 = .ok (.astore 6, 2) := by decide +kernel
theorem d_L_time_23 : decode cL_time 23 = .ok (.iconst 2, 1) := by decide +kernel
theorem d_L_time_24 : decode cL_time 24 = .ok (.ireturn, 1) := by decide +kernel
theorem d_L_time_25 : decode cL_time 25 = .ok (.iconst 0, 1) := by decide +kernel
theorem d_L_time_26 : decode cL_time 26 = .ok (.ireturn, 1) := by decide +kernel
theorem yk_X12_time : yX12_time.cls = RX12 ∧ yX12_time.cls ≠ "java/lang/invoke/MethodHandle" ∧ yX12_time.cls ≠ "java/lang/invoke/VarHandle" ∧ (parseMethodDescriptor yX12_time.desc).map (fun d => d.parameters.length) = some 4 := by decide +kernel
theorem lk_L_44 : LinkV RL 44 RX12 yX12_time (.code yX12_time cX12_time 5 (some .int)) 4 := ⟨tw_1092, tw_1093, tw_1094, tw_72, tw_1095, yk_X12_time⟩
abbrev rm_L_time : Room := { frames := 9, cells := 5, slots := 30, locals := 167 }
def w_L_time (post : Int32 → CMu × (Nat → Int64) → Prop) (x1 : Int32) (x2 : Int32) (x3 : Int32) (x4 : Int32) (cm : CMu) (oo : Nat → Int64) : Prop := w_X12_time (fun (r : Int32) (u : CMu) => post 0 (u, vp_updL oo (Int32.toNatClampNeg (0 : Int32)) (Int32.toInt64 r))) (fun (x : Nat) (u : CMu) => (x = 1 ∧ post 1 (u, oo)) ∨ (x = 0 ∧ post 2 (u, oo))) x1 x2 x3 x4 cm
set_option maxHeartbeats 4000000 in
set_option maxRecDepth 100000 in
theorem c_L_time {l : Launch} {G : Gd} {ρ : Nat → Nat} {mm : Nat → Nat → Int32} (hl : l.stackTraces = false) {x1 : Int32} {x2 : Int32} {x3 : Int32} {x4 : Int32} {cm : CMu} {oo : Nat → Int64} {post : Int32 → CMu × (Nat → Int64) → Prop} (h : w_L_time post x1 x2 x3 x4 cm oo) : CT l yL_time (.codeWith yL_time cL_time 7 (some .int) [(0, 14, 17, 21), (0, 14, 21, 13)]) rm_L_time 5 30 G ρ [.ref 1, .int x1, .int x2, .int x3, .int x4, .ref 715] (cm, mm, oo) (PI (fun u => (u.1, mm, u.2)) post) noX := by
  refine CT_ofH hl (by decide +kernel) rfl (Nat.le_of_ble_eq_true rfl) (lv0 := [(0, .ref 1), (1, .int x1), (2, .int x2), (3, .int x3), (4, .int x4), (5, .ref 715)]) rfl (fun p e s m args below meth c A X hr htb => ?_)
  unfold w_L_time at h
  refine L_aload (pc := 0) X d_L_time_0 5 rfl ?_
  refine L_iconst (pc := 2) (v := 0) X d_L_time_2 (by decide) ?_
  refine L_aload_n (pc := 3) X d_L_time_3 rfl 0 rfl ?_
  refine L_iload_n (pc := 4) X d_L_time_4 rfl 1 rfl ?_
  refine L_iload_n (pc := 5) X d_L_time_5 rfl 2 rfl ?_
  refine L_iload_n (pc := 6) X d_L_time_6 rfl 3 rfl ?_
  refine L_iload (pc := 7) X d_L_time_7 4 rfl ?_
  refine L_callVI (pc := 9) X lk_L_44 (c_X12_time X.hst h) rfl rfl kd_1 (by decide) rfl rfl ⟨by decide, by decide⟩ ⟨by decide, by decide⟩ (Nat.le_of_ble_eq_true rfl) d_L_time_9 rfl (fun x κ1 hx => ?_) (fun r u h => ?_)
  · obtain ⟨u, rfl, h⟩ := hx
    rcases h with ⟨rfl, h⟩ | ⟨rfl, h⟩
    · exact L_handle (pc := 9) X hr [] [(0, 14, 21, 13)] (0, 14, 17, 21) htb (fun z hz => absurd hz List.not_mem_nil) (by decide) (by decide) tw_822 (by decide) (pc2 := 19) (st_w X d_L_time_17 (by decide)) d_L_time_19 (v := 1) (by decide) d_L_time_20 (by decide) (by decide) ⟨_, (u, oo), rfl, rfl, h⟩
    · exact L_handle (pc := 9) X hr [(0, 14, 17, 21)] [] (0, 14, 21, 13) htb (fun z hz => by
        simp only [List.mem_cons, List.not_mem_nil, or_false] at hz
        rcases hz with rfl
        · exact ⟨by decide, "java/lang/IndexOutOfBoundsException", tw_822, by decide⟩) (by decide) (by decide) tw_573 (by decide) (pc2 := 23) (st_w X d_L_time_21 (by decide)) d_L_time_23 (v := 2) (by decide) d_L_time_24 (by decide) (by decide) ⟨_, (u, oo), rfl, rfl, h⟩
  · refine L_i2l (pc := 12) X d_L_time_12 ?_
    refine L_lastO (pc := 13) X (by unfold vp_in; decide) d_L_time_13 ?_
    refine L_goto (pc := 14) (tgt := 25) X d_L_time_14 (by decide) ?_
    refine L_iconst (pc := 25) (v := 0) X d_L_time_25 (by decide) ?_
    exact L_iret (pc := 26) X hr d_L_time_26 (by decide) (by decide) ⟨_, (u, _), rfl, rfl, h⟩
theorem d_L_waits_0 : decode cL_waits 0 = .ok (.aload 6, 2) := by decide +kernel
theorem d_L_waits_2 : decode cL_waits 2 = .ok (.iconst 0, 1) := by decide +kernel
theorem d_L_waits_3 : decode cL_waits 3 = .ok (.aload_n 0, 1) := by decide +kernel
theorem d_L_waits_4 : decode cL_waits 4 = .ok (.iload_n 1, 1) := by decide +kernel
theorem d_L_waits_5 : decode cL_waits 5 = .ok (.iload_n 2, 1) := by decide +kernel
theorem d_L_waits_6 : decode cL_waits 6 = .ok (.iload_n 3, 1) := by decide +kernel
theorem d_L_waits_7 : decode cL_waits 7 = .ok (.iload 4, 2) := by decide +kernel
theorem d_L_waits_9 : decode cL_waits 9 = .ok (.iload 5, 2) := by decide +kernel
theorem d_L_waits_11 : decode cL_waits 11 = .ok (.invokevirtual 48, 3) := by decide +kernel
theorem d_L_waits_14 : decode cL_waits 14 = .ok (.i2l, 1) := by decide +kernel
theorem d_L_waits_15 : decode cL_waits 15 = .ok (.lastore, 1) := by decide +kernel
theorem d_L_waits_16 : decode cL_waits 16 = .ok (.goto 11, 3) := by decide +kernel
theorem d_L_waits_19 : decode cL_waits 19 = .ok (.astore 7, 2) := by decide +kernel
theorem d_L_waits_21 : decode cL_waits 21 = .ok (.iconst 1, 1) := by decide +kernel
theorem d_L_waits_22 : decode cL_waits 22 = .ok (.ireturn, 1) := by decide +kernel
theorem d_L_waits_23 : decode cL_waits 23 = .ok (.astore 7, 2) := by decide +kernel
theorem d_L_waits_25 : decode cL_waits 25 = .ok (.iconst 2, 1) := by decide +kernel
theorem d_L_waits_26 : decode cL_waits 26 = .ok (.ireturn, 1) := by decide +kernel
theorem d_L_waits_27 : decode cL_waits 27 = .ok (.iconst 0, 1) := by decide +kernel
theorem d_L_waits_28 : decode cL_waits 28 = .ok (.ireturn, 1) := by decide +kernel
theorem yk_X12_waits : yX12_waits.cls = RX12 ∧ yX12_waits.cls ≠ "java/lang/invoke/MethodHandle" ∧ yX12_waits.cls ≠ "java/lang/invoke/VarHandle" ∧ (parseMethodDescriptor yX12_waits.desc).map (fun d => d.parameters.length) = some 5 := by decide +kernel
theorem lk_L_48 : LinkV RL 48 RX12 yX12_waits (.code yX12_waits cX12_waits 10 (some .int)) 5 := ⟨tw_1113, tw_1114, tw_1115, tw_72, tw_1116, yk_X12_waits⟩
abbrev rm_L_waits : Room := { frames := 8, cells := 6, slots := 36, locals := 150 }
def w_L_waits (post : Int32 → CMu × (Nat → Int64) → Prop) (x1 : Int32) (x2 : Int32) (x3 : Int32) (x4 : Int32) (x5 : Int32) (cm : CMu) (oo : Nat → Int64) : Prop := w_X12_waits (fun (r : Int32) (u : CMu) => post 0 (u, vp_updL oo (Int32.toNatClampNeg (0 : Int32)) (Int32.toInt64 r))) (fun (x : Nat) (u : CMu) => (x = 1 ∧ post 1 (u, oo)) ∨ (x = 0 ∧ post 2 (u, oo))) x1 x2 x3 x4 x5 cm
set_option maxHeartbeats 4000000 in
set_option maxRecDepth 100000 in
theorem c_L_waits {l : Launch} {G : Gd} {ρ : Nat → Nat} {mm : Nat → Nat → Int32} (hl : l.stackTraces = false) {x1 : Int32} {x2 : Int32} {x3 : Int32} {x4 : Int32} {x5 : Int32} {cm : CMu} {oo : Nat → Int64} {post : Int32 → CMu × (Nat → Int64) → Prop} (h : w_L_waits post x1 x2 x3 x4 x5 cm oo) : CT l yL_waits (.codeWith yL_waits cL_waits 8 (some .int) [(0, 16, 19, 21), (0, 16, 23, 13)]) rm_L_waits 6 36 G ρ [.ref 1, .int x1, .int x2, .int x3, .int x4, .int x5, .ref 715] (cm, mm, oo) (PI (fun u => (u.1, mm, u.2)) post) noX := by
  refine CT_ofH hl (by decide +kernel) rfl (Nat.le_of_ble_eq_true rfl) (lv0 := [(0, .ref 1), (1, .int x1), (2, .int x2), (3, .int x3), (4, .int x4), (5, .int x5), (6, .ref 715)]) rfl (fun p e s m args below meth c A X hr htb => ?_)
  unfold w_L_waits at h
  refine L_aload (pc := 0) X d_L_waits_0 6 rfl ?_
  refine L_iconst (pc := 2) (v := 0) X d_L_waits_2 (by decide) ?_
  refine L_aload_n (pc := 3) X d_L_waits_3 rfl 0 rfl ?_
  refine L_iload_n (pc := 4) X d_L_waits_4 rfl 1 rfl ?_
  refine L_iload_n (pc := 5) X d_L_waits_5 rfl 2 rfl ?_
  refine L_iload_n (pc := 6) X d_L_waits_6 rfl 3 rfl ?_
  refine L_iload (pc := 7) X d_L_waits_7 4 rfl ?_
  refine L_iload (pc := 9) X d_L_waits_9 5 rfl ?_
  refine L_callVI (pc := 11) X lk_L_48 (c_X12_waits X.hst h) rfl rfl kd_1 (by decide) rfl rfl ⟨by decide, by decide⟩ ⟨by decide, by decide⟩ (Nat.le_of_ble_eq_true rfl) d_L_waits_11 rfl (fun x κ1 hx => ?_) (fun r u h => ?_)
  · obtain ⟨u, rfl, h⟩ := hx
    rcases h with ⟨rfl, h⟩ | ⟨rfl, h⟩
    · exact L_handle (pc := 11) X hr [] [(0, 16, 23, 13)] (0, 16, 19, 21) htb (fun z hz => absurd hz List.not_mem_nil) (by decide) (by decide) tw_822 (by decide) (pc2 := 21) (st_w X d_L_waits_19 (by decide)) d_L_waits_21 (v := 1) (by decide) d_L_waits_22 (by decide) (by decide) ⟨_, (u, oo), rfl, rfl, h⟩
    · exact L_handle (pc := 11) X hr [(0, 16, 19, 21)] [] (0, 16, 23, 13) htb (fun z hz => by
        simp only [List.mem_cons, List.not_mem_nil, or_false] at hz
        rcases hz with rfl
        · exact ⟨by decide, "java/lang/IndexOutOfBoundsException", tw_822, by decide⟩) (by decide) (by decide) tw_573 (by decide) (pc2 := 25) (st_w X d_L_waits_23 (by decide)) d_L_waits_25 (v := 2) (by decide) d_L_waits_26 (by decide) (by decide) ⟨_, (u, oo), rfl, rfl, h⟩
  · refine L_i2l (pc := 14) X d_L_waits_14 ?_
    refine L_lastO (pc := 15) X (by unfold vp_in; decide) d_L_waits_15 ?_
    refine L_goto (pc := 16) (tgt := 27) X d_L_waits_16 (by decide) ?_
    refine L_iconst (pc := 27) (v := 0) X d_L_waits_27 (by decide) ?_
    exact L_iret (pc := 28) X hr d_L_waits_28 (by decide) (by decide) ⟨_, (u, _), rfl, rfl, h⟩
theorem d_L_order_0 : decode cL_order 0 = .ok (.aload_n 3, 1) := by decide +kernel
theorem d_L_order_1 : decode cL_order 1 = .ok (.iconst 0, 1) := by decide +kernel
theorem d_L_order_2 : decode cL_order 2 = .ok (.aload_n 0, 1) := by decide +kernel
theorem d_L_order_3 : decode cL_order 3 = .ok (.iload_n 1, 1) := by decide +kernel
theorem d_L_order_4 : decode cL_order 4 = .ok (.iload_n 2, 1) := by decide +kernel
theorem d_L_order_5 : decode cL_order 5 = .ok (.invokevirtual 52, 3) := by decide +kernel
theorem d_L_order_8 : decode cL_order 8 = .ok (.i2l, 1) := by decide +kernel
theorem d_L_order_9 : decode cL_order 9 = .ok (.lastore, 1) := by decide +kernel
theorem d_L_order_10 : decode cL_order 10 = .ok (.goto 15, 3) := by decide +kernel
theorem d_L_order_13 : decode cL_order 13 = .ok (.astore 4, 2) := by decide +kernel
theorem d_L_order_15 : decode cL_order 15 = .ok (.iconst 1, 1) := by decide +kernel
theorem d_L_order_16 : decode cL_order 16 = .ok (.ireturn, 1) := by decide +kernel
theorem d_L_order_17 : decode cL_order 17 = .ok (.astore 4, 2) := by decide +kernel
theorem d_L_order_19 : decode cL_order 19 = .ok (.iconst 2, 1) := by decide +kernel
theorem d_L_order_20 : decode cL_order 20 = .ok (.ireturn, 1) := by decide +kernel
theorem d_L_order_21 : decode cL_order 21 = .ok (.astore 4, 2) := by decide +kernel
theorem d_L_order_23 : decode cL_order 23 = .ok (.iconst 3, 1) := by decide +kernel
theorem d_L_order_24 : decode cL_order 24 = .ok (.ireturn, 1) := by decide +kernel
theorem d_L_order_25 : decode cL_order 25 = .ok (.iconst 0, 1) := by decide +kernel
theorem d_L_order_26 : decode cL_order 26 = .ok (.ireturn, 1) := by decide +kernel
theorem yk_X12_order : yX12_order.cls = RX12 ∧ yX12_order.cls ≠ "java/lang/invoke/MethodHandle" ∧ yX12_order.cls ≠ "java/lang/invoke/VarHandle" ∧ (parseMethodDescriptor yX12_order.desc).map (fun d => d.parameters.length) = some 2 := by decide +kernel
theorem lk_L_52 : LinkV RL 52 RX12 yX12_order (.code yX12_order cX12_order 3 (some .int)) 2 := ⟨tw_1120, tw_1121, tw_1122, tw_72, tw_1123, yk_X12_order⟩
abbrev rm_L_order : Room := { frames := 8, cells := 3, slots := 18, locals := 143 }
def w_L_order (post : Int32 → CMu × (Nat → Int64) → Prop) (x1 : Int32) (x2 : Int32) (cm : CMu) (oo : Nat → Int64) : Prop := w_X12_order (fun (r : Int32) (u : CMu) => post 0 (u, vp_updL oo (Int32.toNatClampNeg (0 : Int32)) (Int32.toInt64 r))) (fun (x : Nat) (u : CMu) => (x = 1 ∧ post 1 (u, oo)) ∨ (x = 0 ∧ post 2 (u, oo)) ∨ (x = 2 ∧ post 3 (u, oo))) x1 x2 cm
set_option maxHeartbeats 4000000 in
set_option maxRecDepth 100000 in
theorem c_L_order {l : Launch} {G : Gd} {ρ : Nat → Nat} {mm : Nat → Nat → Int32} (hl : l.stackTraces = false) {x1 : Int32} {x2 : Int32} {cm : CMu} {oo : Nat → Int64} {post : Int32 → CMu × (Nat → Int64) → Prop} (h : w_L_order post x1 x2 cm oo) : CT l yL_order (.codeWith yL_order cL_order 5 (some .int) [(0, 10, 13, 21), (0, 10, 17, 13), (0, 10, 21, 15)]) rm_L_order 3 18 G ρ [.ref 1, .int x1, .int x2, .ref 715] (cm, mm, oo) (PI (fun u => (u.1, mm, u.2)) post) noX := by
  refine CT_ofH hl (by decide +kernel) rfl (Nat.le_of_ble_eq_true rfl) (lv0 := [(0, .ref 1), (1, .int x1), (2, .int x2), (3, .ref 715)]) rfl (fun p e s m args below meth c A X hr htb => ?_)
  unfold w_L_order at h
  refine L_aload_n (pc := 0) X d_L_order_0 rfl 3 rfl ?_
  refine L_iconst (pc := 1) (v := 0) X d_L_order_1 (by decide) ?_
  refine L_aload_n (pc := 2) X d_L_order_2 rfl 0 rfl ?_
  refine L_iload_n (pc := 3) X d_L_order_3 rfl 1 rfl ?_
  refine L_iload_n (pc := 4) X d_L_order_4 rfl 2 rfl ?_
  refine L_callVI (pc := 5) X lk_L_52 (c_X12_order X.hst h) rfl rfl kd_1 (by decide) rfl rfl ⟨by decide, by decide⟩ ⟨by decide, by decide⟩ (Nat.le_of_ble_eq_true rfl) d_L_order_5 rfl (fun x κ1 hx => ?_) (fun r u h => ?_)
  · obtain ⟨u, rfl, h⟩ := hx
    rcases h with ⟨rfl, h⟩ | ⟨rfl, h⟩ | ⟨rfl, h⟩
    · exact L_handle (pc := 5) X hr [] [(0, 10, 17, 13), (0, 10, 21, 15)] (0, 10, 13, 21) htb (fun z hz => absurd hz List.not_mem_nil) (by decide) (by decide) tw_822 (by decide) (pc2 := 15) (st_w X d_L_order_13 (by decide)) d_L_order_15 (v := 1) (by decide) d_L_order_16 (by decide) (by decide) ⟨_, (u, oo), rfl, rfl, h⟩
    · exact L_handle (pc := 5) X hr [(0, 10, 13, 21)] [(0, 10, 21, 15)] (0, 10, 17, 13) htb (fun z hz => by
        simp only [List.mem_cons, List.not_mem_nil, or_false] at hz
        rcases hz with rfl
        · exact ⟨by decide, "java/lang/IndexOutOfBoundsException", tw_822, by decide⟩) (by decide) (by decide) tw_573 (by decide) (pc2 := 19) (st_w X d_L_order_17 (by decide)) d_L_order_19 (v := 2) (by decide) d_L_order_20 (by decide) (by decide) ⟨_, (u, oo), rfl, rfl, h⟩
    · exact L_handle (pc := 5) X hr [(0, 10, 13, 21), (0, 10, 17, 13)] [] (0, 10, 21, 15) htb (fun z hz => by
        simp only [List.mem_cons, List.not_mem_nil, or_false] at hz
        rcases hz with rfl | rfl
        · exact ⟨by decide, "java/lang/IndexOutOfBoundsException", tw_822, by decide⟩
        · exact ⟨by decide, "java/lang/IllegalArgumentException", tw_573, by decide⟩) (by decide) (by decide) tw_574 (by decide) (pc2 := 23) (st_w X d_L_order_21 (by decide)) d_L_order_23 (v := 3) (by decide) d_L_order_24 (by decide) (by decide) ⟨_, (u, oo), rfl, rfl, h⟩
  · refine L_i2l (pc := 8) X d_L_order_8 ?_
    refine L_lastO (pc := 9) X (by unfold vp_in; decide) d_L_order_9 ?_
    refine L_goto (pc := 10) (tgt := 25) X d_L_order_10 (by decide) ?_
    refine L_iconst (pc := 25) (v := 0) X d_L_order_25 (by decide) ?_
    exact L_iret (pc := 26) X hr d_L_order_26 (by decide) (by decide) ⟨_, (u, _), rfl, rfl, h⟩
theorem d_L_ahead_0 : decode cL_ahead 0 = .ok (.aload 4, 2) := by decide +kernel
theorem d_L_ahead_2 : decode cL_ahead 2 = .ok (.iconst 0, 1) := by decide +kernel
theorem d_L_ahead_3 : decode cL_ahead 3 = .ok (.aload_n 0, 1) := by decide +kernel
theorem d_L_ahead_4 : decode cL_ahead 4 = .ok (.iload_n 1, 1) := by decide +kernel
theorem d_L_ahead_5 : decode cL_ahead 5 = .ok (.iload_n 2, 1) := by decide +kernel
theorem d_L_ahead_6 : decode cL_ahead 6 = .ok (.iload_n 3, 1) := by decide +kernel
theorem d_L_ahead_7 : decode cL_ahead 7 = .ok (.invokevirtual 55, 3) := by decide +kernel
theorem d_L_ahead_10 : decode cL_ahead 10 = .ok (.i2l, 1) := by decide +kernel
theorem d_L_ahead_11 : decode cL_ahead 11 = .ok (.lastore, 1) := by decide +kernel
theorem d_L_ahead_12 : decode cL_ahead 12 = .ok (.goto 11, 3) := by decide +kernel
theorem d_L_ahead_15 : decode cL_ahead 15 = .ok (.astore 5, 2) := by decide +kernel
theorem d_L_ahead_17 : decode cL_ahead 17 = .ok (.iconst 1, 1) := by decide +kernel
theorem d_L_ahead_18 : decode cL_ahead 18 = .ok (.ireturn, 1) := by decide +kernel
theorem d_L_ahead_19 : decode cL_ahead 19 = .ok (.astore 5, 2) := by decide +kernel
theorem d_L_ahead_21 : decode cL_ahead 21 = .ok (.iconst 2, 1) := by decide +kernel
theorem d_L_ahead_22 : decode cL_ahead 22 = .ok (.ireturn, 1) := by decide +kernel
theorem d_L_ahead_23 : decode cL_ahead 23 = .ok (.iconst 0, 1) := by decide +kernel
theorem d_L_ahead_24 : decode cL_ahead 24 = .ok (.ireturn, 1) := by decide +kernel
theorem yk_X12_ahead : yX12_ahead.cls = RX12 ∧ yX12_ahead.cls ≠ "java/lang/invoke/MethodHandle" ∧ yX12_ahead.cls ≠ "java/lang/invoke/VarHandle" ∧ (parseMethodDescriptor yX12_ahead.desc).map (fun d => d.parameters.length) = some 3 := by decide +kernel
theorem lk_L_55 : LinkV RL 55 RX12 yX12_ahead (.code yX12_ahead cX12_ahead 5 (some .int)) 3 := ⟨tw_1131, tw_1132, tw_1133, tw_72, tw_1134, yk_X12_ahead⟩
abbrev rm_L_ahead : Room := { frames := 8, cells := 3, slots := 18, locals := 145 }
def w_L_ahead (post : Int32 → CMu × (Nat → Int64) → Prop) (x1 : Int32) (x2 : Int32) (x3 : Int32) (cm : CMu) (oo : Nat → Int64) : Prop := w_X12_ahead (fun (r : Int32) (u : CMu) => post 0 (u, vp_updL oo (Int32.toNatClampNeg (0 : Int32)) (Int32.toInt64 r))) (fun (x : Nat) (u : CMu) => (x = 1 ∧ post 1 (u, oo)) ∨ (x = 0 ∧ post 2 (u, oo))) x1 x2 x3 cm
set_option maxHeartbeats 4000000 in
set_option maxRecDepth 100000 in
theorem c_L_ahead {l : Launch} {G : Gd} {ρ : Nat → Nat} {mm : Nat → Nat → Int32} (hl : l.stackTraces = false) {x1 : Int32} {x2 : Int32} {x3 : Int32} {cm : CMu} {oo : Nat → Int64} {post : Int32 → CMu × (Nat → Int64) → Prop} (h : w_L_ahead post x1 x2 x3 cm oo) : CT l yL_ahead (.codeWith yL_ahead cL_ahead 6 (some .int) [(0, 12, 15, 21), (0, 12, 19, 13)]) rm_L_ahead 3 18 G ρ [.ref 1, .int x1, .int x2, .int x3, .ref 715] (cm, mm, oo) (PI (fun u => (u.1, mm, u.2)) post) noX := by
  refine CT_ofH hl (by decide +kernel) rfl (Nat.le_of_ble_eq_true rfl) (lv0 := [(0, .ref 1), (1, .int x1), (2, .int x2), (3, .int x3), (4, .ref 715)]) rfl (fun p e s m args below meth c A X hr htb => ?_)
  unfold w_L_ahead at h
  refine L_aload (pc := 0) X d_L_ahead_0 4 rfl ?_
  refine L_iconst (pc := 2) (v := 0) X d_L_ahead_2 (by decide) ?_
  refine L_aload_n (pc := 3) X d_L_ahead_3 rfl 0 rfl ?_
  refine L_iload_n (pc := 4) X d_L_ahead_4 rfl 1 rfl ?_
  refine L_iload_n (pc := 5) X d_L_ahead_5 rfl 2 rfl ?_
  refine L_iload_n (pc := 6) X d_L_ahead_6 rfl 3 rfl ?_
  refine L_callVI (pc := 7) X lk_L_55 (c_X12_ahead X.hst h) rfl rfl kd_1 (by decide) rfl rfl ⟨by decide, by decide⟩ ⟨by decide, by decide⟩ (Nat.le_of_ble_eq_true rfl) d_L_ahead_7 rfl (fun x κ1 hx => ?_) (fun r u h => ?_)
  · obtain ⟨u, rfl, h⟩ := hx
    rcases h with ⟨rfl, h⟩ | ⟨rfl, h⟩
    · exact L_handle (pc := 7) X hr [] [(0, 12, 19, 13)] (0, 12, 15, 21) htb (fun z hz => absurd hz List.not_mem_nil) (by decide) (by decide) tw_822 (by decide) (pc2 := 17) (st_w X d_L_ahead_15 (by decide)) d_L_ahead_17 (v := 1) (by decide) d_L_ahead_18 (by decide) (by decide) ⟨_, (u, oo), rfl, rfl, h⟩
    · exact L_handle (pc := 7) X hr [(0, 12, 15, 21)] [] (0, 12, 19, 13) htb (fun z hz => by
        simp only [List.mem_cons, List.not_mem_nil, or_false] at hz
        rcases hz with rfl
        · exact ⟨by decide, "java/lang/IndexOutOfBoundsException", tw_822, by decide⟩) (by decide) (by decide) tw_573 (by decide) (pc2 := 21) (st_w X d_L_ahead_19 (by decide)) d_L_ahead_21 (v := 2) (by decide) d_L_ahead_22 (by decide) (by decide) ⟨_, (u, oo), rfl, rfl, h⟩
  · refine L_i2l (pc := 10) X d_L_ahead_10 ?_
    refine L_lastO (pc := 11) X (by unfold vp_in; decide) d_L_ahead_11 ?_
    refine L_goto (pc := 12) (tgt := 23) X d_L_ahead_12 (by decide) ?_
    refine L_iconst (pc := 23) (v := 0) X d_L_ahead_23 (by decide) ?_
    exact L_iret (pc := 24) X hr d_L_ahead_24 (by decide) (by decide) ⟨_, (u, _), rfl, rfl, h⟩
theorem d_L_plan_0 : decode cL_plan 0 = .ok (.aload_n 2, 1) := by decide +kernel
theorem d_L_plan_1 : decode cL_plan 1 = .ok (.iconst 0, 1) := by decide +kernel
theorem d_L_plan_2 : decode cL_plan 2 = .ok (.aload_n 0, 1) := by decide +kernel
theorem d_L_plan_3 : decode cL_plan 3 = .ok (.iload_n 1, 1) := by decide +kernel
theorem d_L_plan_4 : decode cL_plan 4 = .ok (.invokevirtual 59, 3) := by decide +kernel
theorem d_L_plan_7 : decode cL_plan 7 = .ok (.i2l, 1) := by decide +kernel
theorem d_L_plan_8 : decode cL_plan 8 = .ok (.lastore, 1) := by decide +kernel
theorem d_L_plan_9 : decode cL_plan 9 = .ok (.goto 6, 3) := by decide +kernel
theorem d_L_plan_12 : decode cL_plan 12 = .ok (.astore_n 3, 1) := by decide +kernel
theorem d_L_plan_13 : decode cL_plan 13 = .ok (.iconst 1, 1) := by decide +kernel
theorem d_L_plan_14 : decode cL_plan 14 = .ok (.ireturn, 1) := by decide +kernel
theorem d_L_plan_15 : decode cL_plan 15 = .ok (.iconst 0, 1) := by decide +kernel
theorem d_L_plan_16 : decode cL_plan 16 = .ok (.ireturn, 1) := by decide +kernel
theorem yk_X12_plan : yX12_plan.cls = RX12 ∧ yX12_plan.cls ≠ "java/lang/invoke/MethodHandle" ∧ yX12_plan.cls ≠ "java/lang/invoke/VarHandle" ∧ (parseMethodDescriptor yX12_plan.desc).map (fun d => d.parameters.length) = some 1 := by decide +kernel
theorem lk_L_59 : LinkV RL 59 RX12 yX12_plan (.code yX12_plan cX12_plan 2 (some .int)) 1 := ⟨tw_1142, tw_1143, tw_1144, tw_72, tw_1145, yk_X12_plan⟩
abbrev rm_L_plan : Room := { frames := 8, cells := 1, slots := 6, locals := 142 }
def w_L_plan (post : Int32 → CMu × (Nat → Int64) → Prop) (x1 : Int32) (cm : CMu) (oo : Nat → Int64) : Prop := w_X12_plan (fun (r : Int32) (u : CMu) => post 0 (u, vp_updL oo (Int32.toNatClampNeg (0 : Int32)) (Int32.toInt64 r))) (fun (x : Nat) (u : CMu) => (x = 1 ∧ post 1 (u, oo))) x1 cm
set_option maxHeartbeats 4000000 in
set_option maxRecDepth 100000 in
theorem c_L_plan {l : Launch} {G : Gd} {ρ : Nat → Nat} {mm : Nat → Nat → Int32} (hl : l.stackTraces = false) {x1 : Int32} {cm : CMu} {oo : Nat → Int64} {post : Int32 → CMu × (Nat → Int64) → Prop} (h : w_L_plan post x1 cm oo) : CT l yL_plan (.codeWith yL_plan cL_plan 4 (some .int) [(0, 9, 12, 21)]) rm_L_plan 1 6 G ρ [.ref 1, .int x1, .ref 715] (cm, mm, oo) (PI (fun u => (u.1, mm, u.2)) post) noX := by
  refine CT_ofH hl (by decide +kernel) rfl (Nat.le_of_ble_eq_true rfl) (lv0 := [(0, .ref 1), (1, .int x1), (2, .ref 715)]) rfl (fun p e s m args below meth c A X hr htb => ?_)
  unfold w_L_plan at h
  refine L_aload_n (pc := 0) X d_L_plan_0 rfl 2 rfl ?_
  refine L_iconst (pc := 1) (v := 0) X d_L_plan_1 (by decide) ?_
  refine L_aload_n (pc := 2) X d_L_plan_2 rfl 0 rfl ?_
  refine L_iload_n (pc := 3) X d_L_plan_3 rfl 1 rfl ?_
  refine L_callVI (pc := 4) X lk_L_59 (c_X12_plan X.hst h) rfl rfl kd_1 (by decide) rfl rfl ⟨by decide, by decide⟩ ⟨by decide, by decide⟩ (Nat.le_of_ble_eq_true rfl) d_L_plan_4 rfl (fun x κ1 hx => ?_) (fun r u h => ?_)
  · obtain ⟨u, rfl, h⟩ := hx
    rcases h with ⟨rfl, h⟩
    · exact L_handle (pc := 4) X hr [] [] (0, 9, 12, 21) htb (fun z hz => absurd hz List.not_mem_nil) (by decide) (by decide) tw_822 (by decide) (pc2 := 13) (st_n X d_L_plan_12 rfl (by decide)) d_L_plan_13 (v := 1) (by decide) d_L_plan_14 (by decide) (by decide) ⟨_, (u, oo), rfl, rfl, h⟩
  · refine L_i2l (pc := 7) X d_L_plan_7 ?_
    refine L_lastO (pc := 8) X (by unfold vp_in; decide) d_L_plan_8 ?_
    refine L_goto (pc := 9) (tgt := 15) X d_L_plan_9 (by decide) ?_
    refine L_iconst (pc := 15) (v := 0) X d_L_plan_15 (by decide) ?_
    exact L_iret (pc := 16) X hr d_L_plan_16 (by decide) (by decide) ⟨_, (u, _), rfl, rfl, h⟩
theorem d_L_chance_0 : decode cL_chance 0 = .ok (.aload_n 3, 1) := by decide +kernel
theorem d_L_chance_1 : decode cL_chance 1 = .ok (.iconst 0, 1) := by decide +kernel
theorem d_L_chance_2 : decode cL_chance 2 = .ok (.aload_n 0, 1) := by decide +kernel
theorem d_L_chance_3 : decode cL_chance 3 = .ok (.iload_n 1, 1) := by decide +kernel
theorem d_L_chance_4 : decode cL_chance 4 = .ok (.iload_n 2, 1) := by decide +kernel
theorem d_L_chance_5 : decode cL_chance 5 = .ok (.invokevirtual 62, 3) := by decide +kernel
theorem d_L_chance_8 : decode cL_chance 8 = .ok (.i2l, 1) := by decide +kernel
theorem d_L_chance_9 : decode cL_chance 9 = .ok (.lastore, 1) := by decide +kernel
theorem d_L_chance_10 : decode cL_chance 10 = .ok (.goto 11, 3) := by decide +kernel
theorem d_L_chance_13 : decode cL_chance 13 = .ok (.astore 4, 2) := by decide +kernel
theorem d_L_chance_15 : decode cL_chance 15 = .ok (.iconst 1, 1) := by decide +kernel
theorem d_L_chance_16 : decode cL_chance 16 = .ok (.ireturn, 1) := by decide +kernel
theorem d_L_chance_17 : decode cL_chance 17 = .ok (.astore 4, 2) := by decide +kernel
theorem d_L_chance_19 : decode cL_chance 19 = .ok (.iconst 2, 1) := by decide +kernel
theorem d_L_chance_20 : decode cL_chance 20 = .ok (.ireturn, 1) := by decide +kernel
theorem d_L_chance_21 : decode cL_chance 21 = .ok (.iconst 0, 1) := by decide +kernel
theorem d_L_chance_22 : decode cL_chance 22 = .ok (.ireturn, 1) := by decide +kernel
theorem yk_X12_chance : yX12_chance.cls = RX12 ∧ yX12_chance.cls ≠ "java/lang/invoke/MethodHandle" ∧ yX12_chance.cls ≠ "java/lang/invoke/VarHandle" ∧ (parseMethodDescriptor yX12_chance.desc).map (fun d => d.parameters.length) = some 2 := by decide +kernel
theorem lk_L_62 : LinkV RL 62 RX12 yX12_chance (.code yX12_chance cX12_chance 3 (some .int)) 2 := ⟨tw_1164, tw_1165, tw_1166, tw_72, tw_1167, yk_X12_chance⟩
abbrev rm_L_chance : Room := { frames := 9, cells := 3, slots := 18, locals := 165 }
def w_L_chance (post : Int32 → CMu × (Nat → Int64) → Prop) (x1 : Int32) (x2 : Int32) (cm : CMu) (oo : Nat → Int64) : Prop := w_X12_chance (fun (r : Int32) (u : CMu) => post 0 (u, vp_updL oo (Int32.toNatClampNeg (0 : Int32)) (Int32.toInt64 r))) (fun (x : Nat) (u : CMu) => (x = 1 ∧ post 1 (u, oo)) ∨ (x = 0 ∧ post 2 (u, oo))) x1 x2 cm
set_option maxHeartbeats 4000000 in
set_option maxRecDepth 100000 in
theorem c_L_chance {l : Launch} {G : Gd} {ρ : Nat → Nat} {mm : Nat → Nat → Int32} (hl : l.stackTraces = false) {x1 : Int32} {x2 : Int32} {cm : CMu} {oo : Nat → Int64} {post : Int32 → CMu × (Nat → Int64) → Prop} (h : w_L_chance post x1 x2 cm oo) : CT l yL_chance (.codeWith yL_chance cL_chance 5 (some .int) [(0, 10, 13, 21), (0, 10, 17, 13)]) rm_L_chance 3 18 G ρ [.ref 1, .int x1, .int x2, .ref 715] (cm, mm, oo) (PI (fun u => (u.1, mm, u.2)) post) noX := by
  refine CT_ofH hl (by decide +kernel) rfl (Nat.le_of_ble_eq_true rfl) (lv0 := [(0, .ref 1), (1, .int x1), (2, .int x2), (3, .ref 715)]) rfl (fun p e s m args below meth c A X hr htb => ?_)
  unfold w_L_chance at h
  refine L_aload_n (pc := 0) X d_L_chance_0 rfl 3 rfl ?_
  refine L_iconst (pc := 1) (v := 0) X d_L_chance_1 (by decide) ?_
  refine L_aload_n (pc := 2) X d_L_chance_2 rfl 0 rfl ?_
  refine L_iload_n (pc := 3) X d_L_chance_3 rfl 1 rfl ?_
  refine L_iload_n (pc := 4) X d_L_chance_4 rfl 2 rfl ?_
  refine L_callVI (pc := 5) X lk_L_62 (c_X12_chance X.hst h) rfl rfl kd_1 (by decide) rfl rfl ⟨by decide, by decide⟩ ⟨by decide, by decide⟩ (Nat.le_of_ble_eq_true rfl) d_L_chance_5 rfl (fun x κ1 hx => ?_) (fun r u h => ?_)
  · obtain ⟨u, rfl, h⟩ := hx
    rcases h with ⟨rfl, h⟩ | ⟨rfl, h⟩
    · exact L_handle (pc := 5) X hr [] [(0, 10, 17, 13)] (0, 10, 13, 21) htb (fun z hz => absurd hz List.not_mem_nil) (by decide) (by decide) tw_822 (by decide) (pc2 := 15) (st_w X d_L_chance_13 (by decide)) d_L_chance_15 (v := 1) (by decide) d_L_chance_16 (by decide) (by decide) ⟨_, (u, oo), rfl, rfl, h⟩
    · exact L_handle (pc := 5) X hr [(0, 10, 13, 21)] [] (0, 10, 17, 13) htb (fun z hz => by
        simp only [List.mem_cons, List.not_mem_nil, or_false] at hz
        rcases hz with rfl
        · exact ⟨by decide, "java/lang/IndexOutOfBoundsException", tw_822, by decide⟩) (by decide) (by decide) tw_573 (by decide) (pc2 := 19) (st_w X d_L_chance_17 (by decide)) d_L_chance_19 (v := 2) (by decide) d_L_chance_20 (by decide) (by decide) ⟨_, (u, oo), rfl, rfl, h⟩
  · refine L_i2l (pc := 8) X d_L_chance_8 ?_
    refine L_lastO (pc := 9) X (by unfold vp_in; decide) d_L_chance_9 ?_
    refine L_goto (pc := 10) (tgt := 21) X d_L_chance_10 (by decide) ?_
    refine L_iconst (pc := 21) (v := 0) X d_L_chance_21 (by decide) ?_
    exact L_iret (pc := 22) X hr d_L_chance_22 (by decide) (by decide) ⟨_, (u, _), rfl, rfl, h⟩
theorem d_L_repeats_0 : decode cL_repeats 0 = .ok (.aload 4, 2) := by decide +kernel
theorem d_L_repeats_2 : decode cL_repeats 2 = .ok (.iconst 0, 1) := by decide +kernel
theorem d_L_repeats_3 : decode cL_repeats 3 = .ok (.aload_n 0, 1) := by decide +kernel
theorem d_L_repeats_4 : decode cL_repeats 4 = .ok (.iload_n 1, 1) := by decide +kernel
theorem d_L_repeats_5 : decode cL_repeats 5 = .ok (.iload_n 2, 1) := by decide +kernel
theorem d_L_repeats_6 : decode cL_repeats 6 = .ok (.iload_n 3, 1) := by decide +kernel
theorem d_L_repeats_7 : decode cL_repeats 7 = .ok (.invokevirtual 65, 3) := by decide +kernel
theorem d_L_repeats_10 : decode cL_repeats 10 = .ok (.i2l, 1) := by decide +kernel
theorem d_L_repeats_11 : decode cL_repeats 11 = .ok (.lastore, 1) := by decide +kernel
theorem d_L_repeats_12 : decode cL_repeats 12 = .ok (.goto 11, 3) := by decide +kernel
theorem d_L_repeats_15 : decode cL_repeats 15 = .ok (.astore 5, 2) := by decide +kernel
theorem d_L_repeats_17 : decode cL_repeats 17 = .ok (.iconst 1, 1) := by decide +kernel
theorem d_L_repeats_18 : decode cL_repeats 18 = .ok (.ireturn, 1) := by decide +kernel
theorem d_L_repeats_19 : decode cL_repeats 19 = .ok (.astore 5, 2) := by decide +kernel
theorem d_L_repeats_21 : decode cL_repeats 21 = .ok (.iconst 2, 1) := by decide +kernel
theorem d_L_repeats_22 : decode cL_repeats 22 = .ok (.ireturn, 1) := by decide +kernel
theorem d_L_repeats_23 : decode cL_repeats 23 = .ok (.iconst 0, 1) := by decide +kernel
theorem d_L_repeats_24 : decode cL_repeats 24 = .ok (.ireturn, 1) := by decide +kernel
theorem yk_X12_repeats : yX12_repeats.cls = RX12 ∧ yX12_repeats.cls ≠ "java/lang/invoke/MethodHandle" ∧ yX12_repeats.cls ≠ "java/lang/invoke/VarHandle" ∧ (parseMethodDescriptor yX12_repeats.desc).map (fun d => d.parameters.length) = some 3 := by decide +kernel
theorem lk_L_65 : LinkV RL 65 RX12 yX12_repeats (.code yX12_repeats cX12_repeats 11 (some .int)) 3 := ⟨tw_1177, tw_1178, tw_1179, tw_72, tw_1180, yk_X12_repeats⟩
abbrev rm_L_repeats : Room := { frames := 9, cells := 4, slots := 24, locals := 173 }
def w_L_repeats (post : Int32 → CMu × (Nat → Int64) → Prop) (x1 : Int32) (x2 : Int32) (x3 : Int32) (cm : CMu) (oo : Nat → Int64) : Prop := w_X12_repeats (fun (r : Int32) (u : CMu) => post 0 (u, vp_updL oo (Int32.toNatClampNeg (0 : Int32)) (Int32.toInt64 r))) (fun (x : Nat) (u : CMu) => (x = 1 ∧ post 1 (u, oo)) ∨ (x = 0 ∧ post 2 (u, oo))) x1 x2 x3 cm
set_option maxHeartbeats 4000000 in
set_option maxRecDepth 100000 in
theorem c_L_repeats {l : Launch} {G : Gd} {ρ : Nat → Nat} {mm : Nat → Nat → Int32} (hl : l.stackTraces = false) {x1 : Int32} {x2 : Int32} {x3 : Int32} {cm : CMu} {oo : Nat → Int64} {post : Int32 → CMu × (Nat → Int64) → Prop} (h : w_L_repeats post x1 x2 x3 cm oo) : CT l yL_repeats (.codeWith yL_repeats cL_repeats 6 (some .int) [(0, 12, 15, 21), (0, 12, 19, 13)]) rm_L_repeats 4 24 G ρ [.ref 1, .int x1, .int x2, .int x3, .ref 715] (cm, mm, oo) (PI (fun u => (u.1, mm, u.2)) post) noX := by
  refine CT_ofH hl (by decide +kernel) rfl (Nat.le_of_ble_eq_true rfl) (lv0 := [(0, .ref 1), (1, .int x1), (2, .int x2), (3, .int x3), (4, .ref 715)]) rfl (fun p e s m args below meth c A X hr htb => ?_)
  unfold w_L_repeats at h
  refine L_aload (pc := 0) X d_L_repeats_0 4 rfl ?_
  refine L_iconst (pc := 2) (v := 0) X d_L_repeats_2 (by decide) ?_
  refine L_aload_n (pc := 3) X d_L_repeats_3 rfl 0 rfl ?_
  refine L_iload_n (pc := 4) X d_L_repeats_4 rfl 1 rfl ?_
  refine L_iload_n (pc := 5) X d_L_repeats_5 rfl 2 rfl ?_
  refine L_iload_n (pc := 6) X d_L_repeats_6 rfl 3 rfl ?_
  refine L_callVI (pc := 7) X lk_L_65 (c_X12_repeats X.hst h) rfl rfl kd_1 (by decide) rfl rfl ⟨by decide, by decide⟩ ⟨by decide, by decide⟩ (Nat.le_of_ble_eq_true rfl) d_L_repeats_7 rfl (fun x κ1 hx => ?_) (fun r u h => ?_)
  · obtain ⟨u, rfl, h⟩ := hx
    rcases h with ⟨rfl, h⟩ | ⟨rfl, h⟩
    · exact L_handle (pc := 7) X hr [] [(0, 12, 19, 13)] (0, 12, 15, 21) htb (fun z hz => absurd hz List.not_mem_nil) (by decide) (by decide) tw_822 (by decide) (pc2 := 17) (st_w X d_L_repeats_15 (by decide)) d_L_repeats_17 (v := 1) (by decide) d_L_repeats_18 (by decide) (by decide) ⟨_, (u, oo), rfl, rfl, h⟩
    · exact L_handle (pc := 7) X hr [(0, 12, 15, 21)] [] (0, 12, 19, 13) htb (fun z hz => by
        simp only [List.mem_cons, List.not_mem_nil, or_false] at hz
        rcases hz with rfl
        · exact ⟨by decide, "java/lang/IndexOutOfBoundsException", tw_822, by decide⟩) (by decide) (by decide) tw_573 (by decide) (pc2 := 21) (st_w X d_L_repeats_19 (by decide)) d_L_repeats_21 (v := 2) (by decide) d_L_repeats_22 (by decide) (by decide) ⟨_, (u, oo), rfl, rfl, h⟩
  · refine L_i2l (pc := 10) X d_L_repeats_10 ?_
    refine L_lastO (pc := 11) X (by unfold vp_in; decide) d_L_repeats_11 ?_
    refine L_goto (pc := 12) (tgt := 23) X d_L_repeats_12 (by decide) ?_
    refine L_iconst (pc := 23) (v := 0) X d_L_repeats_23 (by decide) ?_
    exact L_iret (pc := 24) X hr d_L_repeats_24 (by decide) (by decide) ⟨_, (u, _), rfl, rfl, h⟩
theorem d_L_fits_0 : decode cL_fits 0 = .ok (.aload_n 2, 1) := by decide +kernel
theorem d_L_fits_1 : decode cL_fits 1 = .ok (.iconst 0, 1) := by decide +kernel
theorem d_L_fits_2 : decode cL_fits 2 = .ok (.aload_n 0, 1) := by decide +kernel
theorem d_L_fits_3 : decode cL_fits 3 = .ok (.iload_n 1, 1) := by decide +kernel
theorem d_L_fits_4 : decode cL_fits 4 = .ok (.invokevirtual 68, 3) := by decide +kernel
theorem d_L_fits_7 : decode cL_fits 7 = .ok (.i2l, 1) := by decide +kernel
theorem d_L_fits_8 : decode cL_fits 8 = .ok (.lastore, 1) := by decide +kernel
theorem d_L_fits_9 : decode cL_fits 9 = .ok (.goto 6, 3) := by decide +kernel
theorem d_L_fits_12 : decode cL_fits 12 = .ok (.astore_n 3, 1) := by decide +kernel
theorem d_L_fits_13 : decode cL_fits 13 = .ok (.iconst 1, 1) := by decide +kernel
theorem d_L_fits_14 : decode cL_fits 14 = .ok (.ireturn, 1) := by decide +kernel
theorem d_L_fits_15 : decode cL_fits 15 = .ok (.iconst 0, 1) := by decide +kernel
theorem d_L_fits_16 : decode cL_fits 16 = .ok (.ireturn, 1) := by decide +kernel
theorem yk_X12_fits : yX12_fits.cls = RX12 ∧ yX12_fits.cls ≠ "java/lang/invoke/MethodHandle" ∧ yX12_fits.cls ≠ "java/lang/invoke/VarHandle" ∧ (parseMethodDescriptor yX12_fits.desc).map (fun d => d.parameters.length) = some 1 := by decide +kernel
theorem lk_L_68 : LinkV RL 68 RX12 yX12_fits (.code yX12_fits cX12_fits 3 (some .int)) 1 := ⟨tw_1188, tw_1189, tw_1190, tw_72, tw_1191, yk_X12_fits⟩
abbrev rm_L_fits : Room := { frames := 7, cells := 1, slots := 6, locals := 122 }
def w_L_fits (post : Int32 → CMu × (Nat → Int64) → Prop) (x1 : Int32) (cm : CMu) (oo : Nat → Int64) : Prop := w_X12_fits (fun (r : Int32) (u : CMu) => post 0 (u, vp_updL oo (Int32.toNatClampNeg (0 : Int32)) (Int32.toInt64 r))) (fun (x : Nat) (u : CMu) => (x = 0 ∧ post 1 (u, oo))) x1 cm
set_option maxHeartbeats 4000000 in
set_option maxRecDepth 100000 in
theorem c_L_fits {l : Launch} {G : Gd} {ρ : Nat → Nat} {mm : Nat → Nat → Int32} (hl : l.stackTraces = false) {x1 : Int32} {cm : CMu} {oo : Nat → Int64} {post : Int32 → CMu × (Nat → Int64) → Prop} (h : w_L_fits post x1 cm oo) : CT l yL_fits (.codeWith yL_fits cL_fits 4 (some .int) [(0, 9, 12, 13)]) rm_L_fits 1 6 G ρ [.ref 1, .int x1, .ref 715] (cm, mm, oo) (PI (fun u => (u.1, mm, u.2)) post) noX := by
  refine CT_ofH hl (by decide +kernel) rfl (Nat.le_of_ble_eq_true rfl) (lv0 := [(0, .ref 1), (1, .int x1), (2, .ref 715)]) rfl (fun p e s m args below meth c A X hr htb => ?_)
  unfold w_L_fits at h
  refine L_aload_n (pc := 0) X d_L_fits_0 rfl 2 rfl ?_
  refine L_iconst (pc := 1) (v := 0) X d_L_fits_1 (by decide) ?_
  refine L_aload_n (pc := 2) X d_L_fits_2 rfl 0 rfl ?_
  refine L_iload_n (pc := 3) X d_L_fits_3 rfl 1 rfl ?_
  refine L_callVI (pc := 4) X lk_L_68 (c_X12_fits X.hst h) rfl rfl kd_1 (by decide) rfl rfl ⟨by decide, by decide⟩ ⟨by decide, by decide⟩ (Nat.le_of_ble_eq_true rfl) d_L_fits_4 rfl (fun x κ1 hx => ?_) (fun r u h => ?_)
  · obtain ⟨u, rfl, h⟩ := hx
    rcases h with ⟨rfl, h⟩
    · exact L_handle (pc := 4) X hr [] [] (0, 9, 12, 13) htb (fun z hz => absurd hz List.not_mem_nil) (by decide) (by decide) tw_573 (by decide) (pc2 := 13) (st_n X d_L_fits_12 rfl (by decide)) d_L_fits_13 (v := 1) (by decide) d_L_fits_14 (by decide) (by decide) ⟨_, (u, oo), rfl, rfl, h⟩
  · refine L_i2l (pc := 7) X d_L_fits_7 ?_
    refine L_lastO (pc := 8) X (by unfold vp_in; decide) d_L_fits_8 ?_
    refine L_goto (pc := 9) (tgt := 15) X d_L_fits_9 (by decide) ?_
    refine L_iconst (pc := 15) (v := 0) X d_L_fits_15 (by decide) ?_
    exact L_iret (pc := 16) X hr d_L_fits_16 (by decide) (by decide) ⟨_, (u, _), rfl, rfl, h⟩
theorem d_L_later_0 : decode cL_later 0 = .ok (.aload_n 3, 1) := by decide +kernel
theorem d_L_later_1 : decode cL_later 1 = .ok (.iconst 0, 1) := by decide +kernel
theorem d_L_later_2 : decode cL_later 2 = .ok (.aload_n 0, 1) := by decide +kernel
theorem d_L_later_3 : decode cL_later 3 = .ok (.iload_n 1, 1) := by decide +kernel
theorem d_L_later_4 : decode cL_later 4 = .ok (.iload_n 2, 1) := by decide +kernel
theorem d_L_later_5 : decode cL_later 5 = .ok (.invokevirtual 71, 3) := by decide +kernel
theorem d_L_later_8 : decode cL_later 8 = .ok (.i2l, 1) := by decide +kernel
theorem d_L_later_9 : decode cL_later 9 = .ok (.lastore, 1) := by decide +kernel
theorem d_L_later_10 : decode cL_later 10 = .ok (.goto 11, 3) := by decide +kernel
theorem d_L_later_13 : decode cL_later 13 = .ok (.astore 4, 2) := by decide +kernel
theorem d_L_later_15 : decode cL_later 15 = .ok (.iconst 1, 1) := by decide +kernel
theorem d_L_later_16 : decode cL_later 16 = .ok (.ireturn, 1) := by decide +kernel
theorem d_L_later_17 : decode cL_later 17 = .ok (.astore 4, 2) := by decide +kernel
theorem d_L_later_19 : decode cL_later 19 = .ok (.iconst 2, 1) := by decide +kernel
theorem d_L_later_20 : decode cL_later 20 = .ok (.ireturn, 1) := by decide +kernel
theorem d_L_later_21 : decode cL_later 21 = .ok (.iconst 0, 1) := by decide +kernel
theorem d_L_later_22 : decode cL_later 22 = .ok (.ireturn, 1) := by decide +kernel
theorem yk_X12_later : yX12_later.cls = RX12 ∧ yX12_later.cls ≠ "java/lang/invoke/MethodHandle" ∧ yX12_later.cls ≠ "java/lang/invoke/VarHandle" ∧ (parseMethodDescriptor yX12_later.desc).map (fun d => d.parameters.length) = some 2 := by decide +kernel
theorem lk_L_71 : LinkV RL 71 RX12 yX12_later (.code yX12_later cX12_later 3 (some .int)) 2 := ⟨tw_1224, tw_1225, tw_1226, tw_72, tw_1227, yk_X12_later⟩
abbrev rm_L_later : Room := { frames := 11, cells := 1, slots := 6, locals := 230 }
def w_L_later (post : Int32 → CMu × (Nat → Int64) → Prop) (x1 : Int32) (x2 : Int32) (cm : CMu) (oo : Nat → Int64) : Prop := w_X12_later (fun (r : Int32) (u : CMu) => post 0 (u, vp_updL oo (Int32.toNatClampNeg (0 : Int32)) (Int32.toInt64 r))) (fun (x : Nat) (u : CMu) => (x = 0 ∧ post 1 (u, oo)) ∨ (x = 3 ∧ post 2 (u, oo))) x1 x2 cm
set_option maxHeartbeats 4000000 in
set_option maxRecDepth 100000 in
theorem c_L_later {l : Launch} {G : Gd} {ρ : Nat → Nat} {mm : Nat → Nat → Int32} (hl : l.stackTraces = false) {x1 : Int32} {x2 : Int32} {cm : CMu} {oo : Nat → Int64} {post : Int32 → CMu × (Nat → Int64) → Prop} (h : w_L_later post x1 x2 cm oo) : CT l yL_later (.codeWith yL_later cL_later 5 (some .int) [(0, 10, 13, 13), (0, 10, 17, 36)]) rm_L_later 1 6 G ρ [.ref 1, .int x1, .int x2, .ref 715] (cm, mm, oo) (PI (fun u => (u.1, mm, u.2)) post) noX := by
  refine CT_ofH hl (by decide +kernel) rfl (Nat.le_of_ble_eq_true rfl) (lv0 := [(0, .ref 1), (1, .int x1), (2, .int x2), (3, .ref 715)]) rfl (fun p e s m args below meth c A X hr htb => ?_)
  unfold w_L_later at h
  refine L_aload_n (pc := 0) X d_L_later_0 rfl 3 rfl ?_
  refine L_iconst (pc := 1) (v := 0) X d_L_later_1 (by decide) ?_
  refine L_aload_n (pc := 2) X d_L_later_2 rfl 0 rfl ?_
  refine L_iload_n (pc := 3) X d_L_later_3 rfl 1 rfl ?_
  refine L_iload_n (pc := 4) X d_L_later_4 rfl 2 rfl ?_
  refine L_callVI (pc := 5) X lk_L_71 (c_X12_later X.hst h) rfl rfl kd_1 (by decide) rfl rfl ⟨by decide, by decide⟩ ⟨by decide, by decide⟩ (Nat.le_of_ble_eq_true rfl) d_L_later_5 rfl (fun x κ1 hx => ?_) (fun r u h => ?_)
  · obtain ⟨u, rfl, h⟩ := hx
    rcases h with ⟨rfl, h⟩ | ⟨rfl, h⟩
    · exact L_handle (pc := 5) X hr [] [(0, 10, 17, 36)] (0, 10, 13, 13) htb (fun z hz => absurd hz List.not_mem_nil) (by decide) (by decide) tw_573 (by decide) (pc2 := 15) (st_w X d_L_later_13 (by decide)) d_L_later_15 (v := 1) (by decide) d_L_later_16 (by decide) (by decide) ⟨_, (u, oo), rfl, rfl, h⟩
    · exact L_handle (pc := 5) X hr [(0, 10, 13, 13)] [] (0, 10, 17, 36) htb (fun z hz => by
        simp only [List.mem_cons, List.not_mem_nil, or_false] at hz
        rcases hz with rfl
        · exact ⟨by decide, "java/lang/IllegalArgumentException", tw_573, by decide⟩) (by decide) (by decide) tw_1051 (by decide) (pc2 := 19) (st_w X d_L_later_17 (by decide)) d_L_later_19 (v := 2) (by decide) d_L_later_20 (by decide) (by decide) ⟨_, (u, oo), rfl, rfl, h⟩
  · refine L_i2l (pc := 8) X d_L_later_8 ?_
    refine L_lastO (pc := 9) X (by unfold vp_in; decide) d_L_later_9 ?_
    refine L_goto (pc := 10) (tgt := 21) X d_L_later_10 (by decide) ?_
    refine L_iconst (pc := 21) (v := 0) X d_L_later_21 (by decide) ?_
    exact L_iret (pc := 22) X hr d_L_later_22 (by decide) (by decide) ⟨_, (u, _), rfl, rfl, h⟩
