abbrev rmG_quest (d : Nat) : Room := { frames := d + 2, cells := 0, slots := 0, locals := d * 24 + 45 }
theorem yk_X5_allOf : yX5_allOf.cls = RX5 ∧ yX5_allOf.cls ≠ "java/lang/invoke/MethodHandle" ∧ yX5_allOf.cls ≠ "java/lang/invoke/VarHandle" ∧ (parseMethodDescriptor yX5_allOf.desc).map (fun d => d.parameters.length) = some 2 := by decide +kernel
theorem lk_X5_104 : LinkV RX5 104 RX5 yX5_allOf (.code yX5_allOf cX5_allOf 4 none) 2 := ⟨tw_889, tw_891, tw_14, tw_76, tw_892, yk_X5_allOf⟩
theorem d_X5_question_0 : decode cX5_question 0 = .ok (.aload_n 0, 1) := by decide +kernel
theorem d_X5_question_1 : decode cX5_question 1 = .ok (.aload_n 1, 1) := by decide +kernel
theorem d_X5_question_2 : decode cX5_question 2 = .ok (.iload_n 2, 1) := by decide +kernel
theorem d_X5_question_3 : decode cX5_question 3 = .ok (.invokevirtual 104, 3) := by decide +kernel
theorem d_X5_question_6 : decode cX5_question 6 = .ok (.iconst 0, 1) := by decide +kernel
theorem d_X5_question_7 : decode cX5_question 7 = .ok (.istore_n 3, 1) := by decide +kernel
theorem d_X5_question_8 : decode cX5_question 8 = .ok (.iload_n 3, 1) := by decide +kernel
theorem d_X5_question_9 : decode cX5_question 9 = .ok (.sipush 400, 3) := by decide +kernel
theorem d_X5_question_12 : decode cX5_question 12 = .ok (.if_icmp .ge 33, 3) := by decide +kernel
theorem d_X5_question_15 : decode cX5_question 15 = .ok (.aload_n 1, 1) := by decide +kernel
theorem d_X5_question_16 : decode cX5_question 16 = .ok (.getstatic 107, 3) := by decide +kernel
theorem d_X5_question_19 : decode cX5_question 19 = .ok (.invokevirtual 45, 3) := by decide +kernel
theorem d_X5_question_22 : decode cX5_question 22 = .ok (.ifCond .eq 23, 3) := by decide +kernel
theorem d_X5_question_25 : decode cX5_question 25 = .ok (.aload_n 0, 1) := by decide +kernel
theorem d_X5_question_26 : decode cX5_question 26 = .ok (.aload_n 1, 1) := by decide +kernel
theorem d_X5_question_27 : decode cX5_question 27 = .ok (.iload_n 2, 1) := by decide +kernel
theorem d_X5_question_28 : decode cX5_question 28 = .ok (.invokevirtual 104, 3) := by decide +kernel
theorem d_X5_question_31 : decode cX5_question 31 = .ok (.aload_n 0, 1) := by decide +kernel
theorem d_X5_question_32 : decode cX5_question 32 = .ok (.getstatic 107, 3) := by decide +kernel
theorem d_X5_question_35 : decode cX5_question 35 = .ok (.iconst 0, 1) := by decide +kernel
theorem d_X5_question_36 : decode cX5_question 36 = .ok (.invokevirtual 110, 3) := by decide +kernel
theorem d_X5_question_39 : decode cX5_question 39 = .ok (.iinc 3 1, 3) := by decide +kernel
theorem d_X5_question_42 : decode cX5_question 42 = .ok (.goto (-34), 3) := by decide +kernel
theorem d_X5_question_45 : decode cX5_question 45 = .ok (.return_, 1) := by decide +kernel
def B_X5_question_45 (r_X5_question : (CMu → Prop) → Nat → Int32 → CMu → Prop) (r_X5_allOf : (CMu → Prop) → Nat → Int32 → CMu → Prop) (r_X5_atom : (CMu → Prop) → Nat → Int32 → CMu → Prop) (post : CMu → Prop) (cm : CMu) : Prop := post cm
def B_X5_question_8 (r_X5_question : (CMu → Prop) → Nat → Int32 → CMu → Prop) (r_X5_allOf : (CMu → Prop) → Nat → Int32 → CMu → Prop) (r_X5_atom : (CMu → Prop) → Nat → Int32 → CMu → Prop) (post : CMu → Prop) : Nat → Nat → Int32 → Int32 → CMu → Prop
  | 0 => fun _ _ _ _ => False
  | n + 1 => fun v0 v2 v3 cm => (400 ≤ v3 → (B_X5_question_45 r_X5_question r_X5_allOf r_X5_atom post cm)) ∧ (¬ 400 ≤ v3 → (w_X10_take (fun (r3 : Bool) (u4 : CMu) => ((r3 = false) → (B_X5_question_45 r_X5_question r_X5_allOf r_X5_atom post u4)) ∧ (¬ (r3 = false) → (r_X5_allOf (fun (u6 : CMu) => w_X5_addStep (fun (u8 : CMu) => B_X5_question_8 r_X5_question r_X5_allOf r_X5_atom post n v0 v2 (v3 + 1) u8) v0 25 0 u6) v0 v2 u4))) 25 cm))
def wb_X5_question (r_X5_question : (CMu → Prop) → Nat → Int32 → CMu → Prop) (r_X5_allOf : (CMu → Prop) → Nat → Int32 → CMu → Prop) (r_X5_atom : (CMu → Prop) → Nat → Int32 → CMu → Prop) (post : CMu → Prop) (a0 : Nat) (x2 : Int32) (cm : CMu) : Prop := r_X5_allOf (fun (u2 : CMu) => ∃ n8, B_X5_question_8 r_X5_question r_X5_allOf r_X5_atom post n8 a0 x2 0 u2) a0 x2 cm
section G_X5_question
variable {p : Program} {l : Launch} {e : Env} {s : State} {m : MethodId} {args : Array Value} {below : List Frame} {meth : Method} {c : Code} {G : Gd} {ρ : Nat → Nat} {A : Nat → Prop} {mm : Nat → Nat → Int32} {oo : Nat → Int64}
set_option maxHeartbeats 4000000 in
set_option maxRecDepth 100000 in
theorem T_X5_question_45 {d : Nat} {r_X5_question : (CMu → Prop) → Nat → Int32 → CMu → Prop} {r_X5_allOf : (CMu → Prop) → Nat → Int32 → CMu → Prop} {r_X5_atom : (CMu → Prop) → Nat → Int32 → CMu → Prop} {post : CMu → Prop} (hl : l.stackTraces = false)
    (hg_X5_question : ∀ (a0 : Nat) (x2 : Int32) (h_a0 : (KD a0).1 = 4) (cm : CMu) {post : CMu → Prop}, r_X5_question post a0 x2 cm → CT l yX5_question (.code yX5_question cX5_question 4 none) (rmG_quest d) 0 0 G ρ [.ref a0, .ref 4, .int x2] (cm, mm, oo) (PV (fun u => (u, mm, oo)) post) noX)
    (hg_X5_allOf : ∀ (a0 : Nat) (x2 : Int32) (h_a0 : (KD a0).1 = 4) (cm : CMu) {post : CMu → Prop}, r_X5_allOf post a0 x2 cm → CT l yX5_allOf (.code yX5_allOf cX5_allOf 4 none) (rmG_quest d) 0 0 G ρ [.ref a0, .ref 4, .int x2] (cm, mm, oo) (PV (fun u => (u, mm, oo)) post) noX)
    (hg_X5_atom : ∀ (a0 : Nat) (x2 : Int32) (h_a0 : (KD a0).1 = 4) (cm : CMu) {post : CMu → Prop}, r_X5_atom post a0 x2 cm → CT l yX5_atom (.code yX5_atom cX5_atom 5 none) (rmG_quest d) 0 0 G ρ [.ref a0, .ref 4, .int x2] (cm, mm, oo) (PV (fun u => (u, mm, oo)) post) noX) (X : MC p l s m args meth c cX5_question 4 RX5 G ρ A) (hr : meth.sig.returnType = none) (hex : ∀ z ∈ c.exceptionTable.toList, False) : ∀ (cm : CMu), B_X5_question_45 r_X5_question r_X5_allOf r_X5_atom post cm → LW p l e (rmG_quest (d + 1)) s m args below meth c (Qm below G ρ A (PV (fun u => (u, mm, oo)) post) noX args s 0 0) G ρ A 4 0 0 45 [] [] (cm, mm, oo) := by
  intro cm h
  unfold B_X5_question_45 at h
  exact L_vret (pc := 45) X hr d_X5_question_45 (by decide) (by decide) ⟨_, rfl, rfl, h⟩
set_option maxHeartbeats 4000000 in
set_option maxRecDepth 100000 in
theorem T_X5_question_8 {d : Nat} {r_X5_question : (CMu → Prop) → Nat → Int32 → CMu → Prop} {r_X5_allOf : (CMu → Prop) → Nat → Int32 → CMu → Prop} {r_X5_atom : (CMu → Prop) → Nat → Int32 → CMu → Prop} {post : CMu → Prop} (hl : l.stackTraces = false)
    (hg_X5_question : ∀ (a0 : Nat) (x2 : Int32) (h_a0 : (KD a0).1 = 4) (cm : CMu) {post : CMu → Prop}, r_X5_question post a0 x2 cm → CT l yX5_question (.code yX5_question cX5_question 4 none) (rmG_quest d) 0 0 G ρ [.ref a0, .ref 4, .int x2] (cm, mm, oo) (PV (fun u => (u, mm, oo)) post) noX)
    (hg_X5_allOf : ∀ (a0 : Nat) (x2 : Int32) (h_a0 : (KD a0).1 = 4) (cm : CMu) {post : CMu → Prop}, r_X5_allOf post a0 x2 cm → CT l yX5_allOf (.code yX5_allOf cX5_allOf 4 none) (rmG_quest d) 0 0 G ρ [.ref a0, .ref 4, .int x2] (cm, mm, oo) (PV (fun u => (u, mm, oo)) post) noX)
    (hg_X5_atom : ∀ (a0 : Nat) (x2 : Int32) (h_a0 : (KD a0).1 = 4) (cm : CMu) {post : CMu → Prop}, r_X5_atom post a0 x2 cm → CT l yX5_atom (.code yX5_atom cX5_atom 5 none) (rmG_quest d) 0 0 G ρ [.ref a0, .ref 4, .int x2] (cm, mm, oo) (PV (fun u => (u, mm, oo)) post) noX) (X : MC p l s m args meth c cX5_question 4 RX5 G ρ A) (hr : meth.sig.returnType = none) (hex : ∀ z ∈ c.exceptionTable.toList, False) (n : Nat) : ∀ (v0 : Nat) (v2 : Int32) (v3 : Int32) (h_v0 : (KD v0).1 = 4) (cm : CMu), B_X5_question_8 r_X5_question r_X5_allOf r_X5_atom post n v0 v2 v3 cm → LW p l e (rmG_quest (d + 1)) s m args below meth c (Qm below G ρ A (PV (fun u => (u, mm, oo)) post) noX args s 0 0) G ρ A 4 0 0 8 [(0, .ref v0), (1, .ref 4), (2, .int v2), (3, .int v3)] [] (cm, mm, oo) := by
  induction n with
  | zero =>
    intro v0 v2 v3 h_v0 cm h
    exact False.elim h
  | succ n ih =>
    intro v0 v2 v3 h_v0 cm h
    unfold B_X5_question_8 at h
    refine L_iload_n (pc := 8) X d_X5_question_8 rfl 3 rfl ?_
    refine L_sipush (pc := 9) (v := 400) X d_X5_question_9 (by decide) ?_
    refine L_icmp_ge (pc := 12) (tgt := 45) X d_X5_question_12 (by decide) (fun c12 => ?_) (fun c12 => ?_)
    · replace h := h.1 c12
      refine LW.sub [] rfl ?_
      exact T_X5_question_45 hl hg_X5_question hg_X5_allOf hg_X5_atom X hr hex   _ h
    · replace h := h.2 c12
      refine L_aload_n (pc := 15) X d_X5_question_15 rfl 1 rfl ?_
      refine L_getsW (pc := 16) X 24 (by decide) rfl (w := 25) (by decide) d_X5_question_16 tw_926 ?_
      refine L_callVZ (pc := 19) X lk_X5_45 (c_X10_take X.hst  h) rfl rfl kd_4 (by decide) rfl rfl ⟨Nat.le_trans (m := 2) (Nat.le_of_ble_eq_true rfl) (by show 2 ≤ d + 1 + 2; omega), Nat.le_trans (m := 45) (Nat.le_of_ble_eq_true rfl) (by show 45 ≤ (d + 1) * 24 + 45; omega)⟩ ⟨Nat.le_of_ble_eq_true rfl, Nat.le_of_ble_eq_true rfl⟩ (Nat.zero_le _) d_X5_question_19 rfl (fun x κ1 hx => L_nox hx) (fun r3 u4 h => ?_)
      refine L_if_eq (pc := 22) (tgt := 45) X d_X5_question_22 (by decide) (fun c22 => ?_) (fun c22 => ?_)
      · replace h := h.1 ((b2_0 _).mp c22)
        refine LW.sub [] rfl ?_
        exact T_X5_question_45 hl hg_X5_question hg_X5_allOf hg_X5_atom X hr hex   _ h
      · replace h := h.2 (fun z => c22 ((b2_0 _).mpr z))
        refine L_aload_n (pc := 25) X d_X5_question_25 rfl 0 rfl ?_
        refine L_aload_n (pc := 26) X d_X5_question_26 rfl 1 rfl ?_
        refine L_iload_n (pc := 27) X d_X5_question_27 rfl 2 rfl ?_
        refine L_callVV (pc := 28) X lk_X5_104 (hg_X5_allOf _ _ h_v0 _ h) rfl rfl h_v0 (by decide) rfl rfl ⟨by show d + 2 + 1 ≤ d + 1 + 2; omega, by show 8 + (4 + 11) + (d * 24 + 45) ≤ (d + 1) * 24 + 45; omega⟩ ⟨Nat.le_of_ble_eq_true rfl, Nat.le_of_ble_eq_true rfl⟩ (Nat.zero_le _) d_X5_question_28 rfl (fun x κ1 hx => L_nox hx) (fun u6 h => ?_)
        refine L_aload_n (pc := 31) X d_X5_question_31 rfl 0 rfl ?_
        refine L_getsW (pc := 32) X 24 (by decide) rfl (w := 25) (by decide) d_X5_question_32 tw_926 ?_
        refine L_iconst (pc := 35) (v := 0) X d_X5_question_35 (by decide) ?_
        refine L_callVV (pc := 36) X lk_X5_110 (c_X5_addStep X.hst h_v0 h) rfl rfl h_v0 (by decide) rfl rfl ⟨Nat.le_trans (m := 2) (Nat.le_of_ble_eq_true rfl) (by show 2 ≤ d + 1 + 2; omega), Nat.le_trans (m := 45) (Nat.le_of_ble_eq_true rfl) (by show 45 ≤ (d + 1) * 24 + 45; omega)⟩ ⟨Nat.le_of_ble_eq_true rfl, Nat.le_of_ble_eq_true rfl⟩ (Nat.zero_le _) d_X5_question_36 rfl (fun x κ1 hx => L_nox hx) (fun u8 h => ?_)
        refine L_iinc (pc := 39) (v := v3 + 1) (lv2 := [(3, .int (v3 + 1)), (0, .ref v0), (1, .ref 4), (2, .int v2)]) X d_X5_question_39 3 rfl rfl (by decide) rfl ?_
        refine L_goto (pc := 42) (tgt := 8) X d_X5_question_42 (by decide) ?_
        refine LW.sub [1, 2, 3, 0] rfl ?_
        exact ih _ _ _ h_v0 _ h
set_option maxHeartbeats 4000000 in
set_option maxRecDepth 100000 in
theorem cb_X5_question {d : Nat} {r_X5_question : (CMu → Prop) → Nat → Int32 → CMu → Prop} {r_X5_allOf : (CMu → Prop) → Nat → Int32 → CMu → Prop} {r_X5_atom : (CMu → Prop) → Nat → Int32 → CMu → Prop} (hl : l.stackTraces = false)
    (hg_X5_question : ∀ (a0 : Nat) (x2 : Int32) (h_a0 : (KD a0).1 = 4) (cm : CMu) {post : CMu → Prop}, r_X5_question post a0 x2 cm → CT l yX5_question (.code yX5_question cX5_question 4 none) (rmG_quest d) 0 0 G ρ [.ref a0, .ref 4, .int x2] (cm, mm, oo) (PV (fun u => (u, mm, oo)) post) noX)
    (hg_X5_allOf : ∀ (a0 : Nat) (x2 : Int32) (h_a0 : (KD a0).1 = 4) (cm : CMu) {post : CMu → Prop}, r_X5_allOf post a0 x2 cm → CT l yX5_allOf (.code yX5_allOf cX5_allOf 4 none) (rmG_quest d) 0 0 G ρ [.ref a0, .ref 4, .int x2] (cm, mm, oo) (PV (fun u => (u, mm, oo)) post) noX)
    (hg_X5_atom : ∀ (a0 : Nat) (x2 : Int32) (h_a0 : (KD a0).1 = 4) (cm : CMu) {post : CMu → Prop}, r_X5_atom post a0 x2 cm → CT l yX5_atom (.code yX5_atom cX5_atom 5 none) (rmG_quest d) 0 0 G ρ [.ref a0, .ref 4, .int x2] (cm, mm, oo) (PV (fun u => (u, mm, oo)) post) noX) {a0 : Nat} {x2 : Int32} (h_a0 : (KD a0).1 = 4) {cm : CMu} {post : CMu → Prop} (h : wb_X5_question r_X5_question r_X5_allOf r_X5_atom post a0 x2 cm) : CT l yX5_question (.code yX5_question cX5_question 4 none) (rmG_quest (d + 1)) 0 0 G ρ [.ref a0, .ref 4, .int x2] (cm, mm, oo) (PV (fun u => (u, mm, oo)) post) noX := by
  refine CT_of hl (by decide +kernel) rfl (Nat.le_of_ble_eq_true rfl) (lv0 := [(0, .ref a0), (1, .ref 4), (2, .int x2)]) rfl (fun p e s m args below meth c A X hr hex hnm => ?_)
  unfold wb_X5_question at h
  refine L_aload_n (pc := 0) X d_X5_question_0 rfl 0 rfl ?_
  refine L_aload_n (pc := 1) X d_X5_question_1 rfl 1 rfl ?_
  refine L_iload_n (pc := 2) X d_X5_question_2 rfl 2 rfl ?_
  refine L_callVV (pc := 3) X lk_X5_104 (hg_X5_allOf _ _ h_a0 _ h) rfl rfl h_a0 (by decide) rfl rfl ⟨by show d + 2 + 1 ≤ d + 1 + 2; omega, by show 8 + (4 + 11) + (d * 24 + 45) ≤ (d + 1) * 24 + 45; omega⟩ ⟨Nat.le_of_ble_eq_true rfl, Nat.le_of_ble_eq_true rfl⟩ (Nat.zero_le _) d_X5_question_3 rfl (fun x κ1 hx => L_nox hx) (fun u2 h => ?_)
  refine L_iconst (pc := 6) (v := 0) X d_X5_question_6 (by decide) ?_
  refine L_istore_n (pc := 7) (lv2 := [(3, .int 0), (0, .ref a0), (1, .ref 4), (2, .int x2)]) X d_X5_question_7 rfl (by decide) rfl ?_
  obtain ⟨n8, h⟩ := h
  refine LW.sub [1, 2, 3, 0] rfl ?_
  exact T_X5_question_8 hl hg_X5_question hg_X5_allOf hg_X5_atom X hr hex n8 _ _ _ h_a0 _ h
end G_X5_question
theorem yk_X5_atom : yX5_atom.cls = RX5 ∧ yX5_atom.cls ≠ "java/lang/invoke/MethodHandle" ∧ yX5_atom.cls ≠ "java/lang/invoke/VarHandle" ∧ (parseMethodDescriptor yX5_atom.desc).map (fun d => d.parameters.length) = some 2 := by decide +kernel
theorem lk_X5_113 : LinkV RX5 113 RX5 yX5_atom (.code yX5_atom cX5_atom 5 none) 2 := ⟨tw_893, tw_895, tw_15, tw_76, tw_896, yk_X5_atom⟩
theorem d_X5_allOf_0 : decode cX5_allOf 0 = .ok (.aload_n 0, 1) := by decide +kernel
theorem d_X5_allOf_1 : decode cX5_allOf 1 = .ok (.aload_n 1, 1) := by decide +kernel
theorem d_X5_allOf_2 : decode cX5_allOf 2 = .ok (.iload_n 2, 1) := by decide +kernel
theorem d_X5_allOf_3 : decode cX5_allOf 3 = .ok (.invokevirtual 113, 3) := by decide +kernel
theorem d_X5_allOf_6 : decode cX5_allOf 6 = .ok (.iconst 0, 1) := by decide +kernel
theorem d_X5_allOf_7 : decode cX5_allOf 7 = .ok (.istore_n 3, 1) := by decide +kernel
theorem d_X5_allOf_8 : decode cX5_allOf 8 = .ok (.iload_n 3, 1) := by decide +kernel
theorem d_X5_allOf_9 : decode cX5_allOf 9 = .ok (.sipush 400, 3) := by decide +kernel
theorem d_X5_allOf_12 : decode cX5_allOf 12 = .ok (.if_icmp .ge 33, 3) := by decide +kernel
theorem d_X5_allOf_15 : decode cX5_allOf 15 = .ok (.aload_n 1, 1) := by decide +kernel
theorem d_X5_allOf_16 : decode cX5_allOf 16 = .ok (.getstatic 116, 3) := by decide +kernel
theorem d_X5_allOf_19 : decode cX5_allOf 19 = .ok (.invokevirtual 45, 3) := by decide +kernel
theorem d_X5_allOf_22 : decode cX5_allOf 22 = .ok (.ifCond .eq 23, 3) := by decide +kernel
theorem d_X5_allOf_25 : decode cX5_allOf 25 = .ok (.aload_n 0, 1) := by decide +kernel
theorem d_X5_allOf_26 : decode cX5_allOf 26 = .ok (.aload_n 1, 1) := by decide +kernel
theorem d_X5_allOf_27 : decode cX5_allOf 27 = .ok (.iload_n 2, 1) := by decide +kernel
theorem d_X5_allOf_28 : decode cX5_allOf 28 = .ok (.invokevirtual 113, 3) := by decide +kernel
theorem d_X5_allOf_31 : decode cX5_allOf 31 = .ok (.aload_n 0, 1) := by decide +kernel
theorem d_X5_allOf_32 : decode cX5_allOf 32 = .ok (.getstatic 116, 3) := by decide +kernel
theorem d_X5_allOf_35 : decode cX5_allOf 35 = .ok (.iconst 0, 1) := by decide +kernel
theorem d_X5_allOf_36 : decode cX5_allOf 36 = .ok (.invokevirtual 110, 3) := by decide +kernel
theorem d_X5_allOf_39 : decode cX5_allOf 39 = .ok (.iinc 3 1, 3) := by decide +kernel
theorem d_X5_allOf_42 : decode cX5_allOf 42 = .ok (.goto (-34), 3) := by decide +kernel
theorem d_X5_allOf_45 : decode cX5_allOf 45 = .ok (.return_, 1) := by decide +kernel
def B_X5_allOf_45 (r_X5_question : (CMu → Prop) → Nat → Int32 → CMu → Prop) (r_X5_allOf : (CMu → Prop) → Nat → Int32 → CMu → Prop) (r_X5_atom : (CMu → Prop) → Nat → Int32 → CMu → Prop) (post : CMu → Prop) (cm : CMu) : Prop := post cm
def B_X5_allOf_8 (r_X5_question : (CMu → Prop) → Nat → Int32 → CMu → Prop) (r_X5_allOf : (CMu → Prop) → Nat → Int32 → CMu → Prop) (r_X5_atom : (CMu → Prop) → Nat → Int32 → CMu → Prop) (post : CMu → Prop) : Nat → Nat → Int32 → Int32 → CMu → Prop
  | 0 => fun _ _ _ _ => False
  | n + 1 => fun v0 v2 v3 cm => (400 ≤ v3 → (B_X5_allOf_45 r_X5_question r_X5_allOf r_X5_atom post cm)) ∧ (¬ 400 ≤ v3 → (w_X10_take (fun (r3 : Bool) (u4 : CMu) => ((r3 = false) → (B_X5_allOf_45 r_X5_question r_X5_allOf r_X5_atom post u4)) ∧ (¬ (r3 = false) → (r_X5_atom (fun (u6 : CMu) => w_X5_addStep (fun (u8 : CMu) => B_X5_allOf_8 r_X5_question r_X5_allOf r_X5_atom post n v0 v2 (v3 + 1) u8) v0 26 0 u6) v0 v2 u4))) 26 cm))
def wb_X5_allOf (r_X5_question : (CMu → Prop) → Nat → Int32 → CMu → Prop) (r_X5_allOf : (CMu → Prop) → Nat → Int32 → CMu → Prop) (r_X5_atom : (CMu → Prop) → Nat → Int32 → CMu → Prop) (post : CMu → Prop) (a0 : Nat) (x2 : Int32) (cm : CMu) : Prop := r_X5_atom (fun (u2 : CMu) => ∃ n8, B_X5_allOf_8 r_X5_question r_X5_allOf r_X5_atom post n8 a0 x2 0 u2) a0 x2 cm
section G_X5_allOf
variable {p : Program} {l : Launch} {e : Env} {s : State} {m : MethodId} {args : Array Value} {below : List Frame} {meth : Method} {c : Code} {G : Gd} {ρ : Nat → Nat} {A : Nat → Prop} {mm : Nat → Nat → Int32} {oo : Nat → Int64}
set_option maxHeartbeats 4000000 in
set_option maxRecDepth 100000 in
theorem T_X5_allOf_45 {d : Nat} {r_X5_question : (CMu → Prop) → Nat → Int32 → CMu → Prop} {r_X5_allOf : (CMu → Prop) → Nat → Int32 → CMu → Prop} {r_X5_atom : (CMu → Prop) → Nat → Int32 → CMu → Prop} {post : CMu → Prop} (hl : l.stackTraces = false)
    (hg_X5_question : ∀ (a0 : Nat) (x2 : Int32) (h_a0 : (KD a0).1 = 4) (cm : CMu) {post : CMu → Prop}, r_X5_question post a0 x2 cm → CT l yX5_question (.code yX5_question cX5_question 4 none) (rmG_quest d) 0 0 G ρ [.ref a0, .ref 4, .int x2] (cm, mm, oo) (PV (fun u => (u, mm, oo)) post) noX)
    (hg_X5_allOf : ∀ (a0 : Nat) (x2 : Int32) (h_a0 : (KD a0).1 = 4) (cm : CMu) {post : CMu → Prop}, r_X5_allOf post a0 x2 cm → CT l yX5_allOf (.code yX5_allOf cX5_allOf 4 none) (rmG_quest d) 0 0 G ρ [.ref a0, .ref 4, .int x2] (cm, mm, oo) (PV (fun u => (u, mm, oo)) post) noX)
    (hg_X5_atom : ∀ (a0 : Nat) (x2 : Int32) (h_a0 : (KD a0).1 = 4) (cm : CMu) {post : CMu → Prop}, r_X5_atom post a0 x2 cm → CT l yX5_atom (.code yX5_atom cX5_atom 5 none) (rmG_quest d) 0 0 G ρ [.ref a0, .ref 4, .int x2] (cm, mm, oo) (PV (fun u => (u, mm, oo)) post) noX) (X : MC p l s m args meth c cX5_allOf 4 RX5 G ρ A) (hr : meth.sig.returnType = none) (hex : ∀ z ∈ c.exceptionTable.toList, False) : ∀ (cm : CMu), B_X5_allOf_45 r_X5_question r_X5_allOf r_X5_atom post cm → LW p l e (rmG_quest (d + 1)) s m args below meth c (Qm below G ρ A (PV (fun u => (u, mm, oo)) post) noX args s 0 0) G ρ A 4 0 0 45 [] [] (cm, mm, oo) := by
  intro cm h
  unfold B_X5_allOf_45 at h
  exact L_vret (pc := 45) X hr d_X5_allOf_45 (by decide) (by decide) ⟨_, rfl, rfl, h⟩
set_option maxHeartbeats 4000000 in
set_option maxRecDepth 100000 in
theorem T_X5_allOf_8 {d : Nat} {r_X5_question : (CMu → Prop) → Nat → Int32 → CMu → Prop} {r_X5_allOf : (CMu → Prop) → Nat → Int32 → CMu → Prop} {r_X5_atom : (CMu → Prop) → Nat → Int32 → CMu → Prop} {post : CMu → Prop} (hl : l.stackTraces = false)
    (hg_X5_question : ∀ (a0 : Nat) (x2 : Int32) (h_a0 : (KD a0).1 = 4) (cm : CMu) {post : CMu → Prop}, r_X5_question post a0 x2 cm → CT l yX5_question (.code yX5_question cX5_question 4 none) (rmG_quest d) 0 0 G ρ [.ref a0, .ref 4, .int x2] (cm, mm, oo) (PV (fun u => (u, mm, oo)) post) noX)
    (hg_X5_allOf : ∀ (a0 : Nat) (x2 : Int32) (h_a0 : (KD a0).1 = 4) (cm : CMu) {post : CMu → Prop}, r_X5_allOf post a0 x2 cm → CT l yX5_allOf (.code yX5_allOf cX5_allOf 4 none) (rmG_quest d) 0 0 G ρ [.ref a0, .ref 4, .int x2] (cm, mm, oo) (PV (fun u => (u, mm, oo)) post) noX)
    (hg_X5_atom : ∀ (a0 : Nat) (x2 : Int32) (h_a0 : (KD a0).1 = 4) (cm : CMu) {post : CMu → Prop}, r_X5_atom post a0 x2 cm → CT l yX5_atom (.code yX5_atom cX5_atom 5 none) (rmG_quest d) 0 0 G ρ [.ref a0, .ref 4, .int x2] (cm, mm, oo) (PV (fun u => (u, mm, oo)) post) noX) (X : MC p l s m args meth c cX5_allOf 4 RX5 G ρ A) (hr : meth.sig.returnType = none) (hex : ∀ z ∈ c.exceptionTable.toList, False) (n : Nat) : ∀ (v0 : Nat) (v2 : Int32) (v3 : Int32) (h_v0 : (KD v0).1 = 4) (cm : CMu), B_X5_allOf_8 r_X5_question r_X5_allOf r_X5_atom post n v0 v2 v3 cm → LW p l e (rmG_quest (d + 1)) s m args below meth c (Qm below G ρ A (PV (fun u => (u, mm, oo)) post) noX args s 0 0) G ρ A 4 0 0 8 [(0, .ref v0), (1, .ref 4), (2, .int v2), (3, .int v3)] [] (cm, mm, oo) := by
  induction n with
  | zero =>
    intro v0 v2 v3 h_v0 cm h
    exact False.elim h
  | succ n ih =>
    intro v0 v2 v3 h_v0 cm h
    unfold B_X5_allOf_8 at h
    refine L_iload_n (pc := 8) X d_X5_allOf_8 rfl 3 rfl ?_
    refine L_sipush (pc := 9) (v := 400) X d_X5_allOf_9 (by decide) ?_
    refine L_icmp_ge (pc := 12) (tgt := 45) X d_X5_allOf_12 (by decide) (fun c12 => ?_) (fun c12 => ?_)
    · replace h := h.1 c12
      refine LW.sub [] rfl ?_
      exact T_X5_allOf_45 hl hg_X5_question hg_X5_allOf hg_X5_atom X hr hex   _ h
    · replace h := h.2 c12
      refine L_aload_n (pc := 15) X d_X5_allOf_15 rfl 1 rfl ?_
      refine L_getsW (pc := 16) X 25 (by decide) rfl (w := 26) (by decide) d_X5_allOf_16 tw_924 ?_
      refine L_callVZ (pc := 19) X lk_X5_45 (c_X10_take X.hst  h) rfl rfl kd_4 (by decide) rfl rfl ⟨Nat.le_trans (m := 2) (Nat.le_of_ble_eq_true rfl) (by show 2 ≤ d + 1 + 2; omega), Nat.le_trans (m := 45) (Nat.le_of_ble_eq_true rfl) (by show 45 ≤ (d + 1) * 24 + 45; omega)⟩ ⟨Nat.le_of_ble_eq_true rfl, Nat.le_of_ble_eq_true rfl⟩ (Nat.zero_le _) d_X5_allOf_19 rfl (fun x κ1 hx => L_nox hx) (fun r3 u4 h => ?_)
      refine L_if_eq (pc := 22) (tgt := 45) X d_X5_allOf_22 (by decide) (fun c22 => ?_) (fun c22 => ?_)
      · replace h := h.1 ((b2_0 _).mp c22)
        refine LW.sub [] rfl ?_
        exact T_X5_allOf_45 hl hg_X5_question hg_X5_allOf hg_X5_atom X hr hex   _ h
      · replace h := h.2 (fun z => c22 ((b2_0 _).mpr z))
        refine L_aload_n (pc := 25) X d_X5_allOf_25 rfl 0 rfl ?_
        refine L_aload_n (pc := 26) X d_X5_allOf_26 rfl 1 rfl ?_
        refine L_iload_n (pc := 27) X d_X5_allOf_27 rfl 2 rfl ?_
        refine L_callVV (pc := 28) X lk_X5_113 (hg_X5_atom _ _ h_v0 _ h) rfl rfl h_v0 (by decide) rfl rfl ⟨by show d + 2 + 1 ≤ d + 1 + 2; omega, by show 8 + (5 + 11) + (d * 24 + 45) ≤ (d + 1) * 24 + 45; omega⟩ ⟨Nat.le_of_ble_eq_true rfl, Nat.le_of_ble_eq_true rfl⟩ (Nat.zero_le _) d_X5_allOf_28 rfl (fun x κ1 hx => L_nox hx) (fun u6 h => ?_)
        refine L_aload_n (pc := 31) X d_X5_allOf_31 rfl 0 rfl ?_
        refine L_getsW (pc := 32) X 25 (by decide) rfl (w := 26) (by decide) d_X5_allOf_32 tw_924 ?_
        refine L_iconst (pc := 35) (v := 0) X d_X5_allOf_35 (by decide) ?_
        refine L_callVV (pc := 36) X lk_X5_110 (c_X5_addStep X.hst h_v0 h) rfl rfl h_v0 (by decide) rfl rfl ⟨Nat.le_trans (m := 2) (Nat.le_of_ble_eq_true rfl) (by show 2 ≤ d + 1 + 2; omega), Nat.le_trans (m := 45) (Nat.le_of_ble_eq_true rfl) (by show 45 ≤ (d + 1) * 24 + 45; omega)⟩ ⟨Nat.le_of_ble_eq_true rfl, Nat.le_of_ble_eq_true rfl⟩ (Nat.zero_le _) d_X5_allOf_36 rfl (fun x κ1 hx => L_nox hx) (fun u8 h => ?_)
        refine L_iinc (pc := 39) (v := v3 + 1) (lv2 := [(3, .int (v3 + 1)), (0, .ref v0), (1, .ref 4), (2, .int v2)]) X d_X5_allOf_39 3 rfl rfl (by decide) rfl ?_
        refine L_goto (pc := 42) (tgt := 8) X d_X5_allOf_42 (by decide) ?_
        refine LW.sub [1, 2, 3, 0] rfl ?_
        exact ih _ _ _ h_v0 _ h
set_option maxHeartbeats 4000000 in
set_option maxRecDepth 100000 in
theorem cb_X5_allOf {d : Nat} {r_X5_question : (CMu → Prop) → Nat → Int32 → CMu → Prop} {r_X5_allOf : (CMu → Prop) → Nat → Int32 → CMu → Prop} {r_X5_atom : (CMu → Prop) → Nat → Int32 → CMu → Prop} (hl : l.stackTraces = false)
    (hg_X5_question : ∀ (a0 : Nat) (x2 : Int32) (h_a0 : (KD a0).1 = 4) (cm : CMu) {post : CMu → Prop}, r_X5_question post a0 x2 cm → CT l yX5_question (.code yX5_question cX5_question 4 none) (rmG_quest d) 0 0 G ρ [.ref a0, .ref 4, .int x2] (cm, mm, oo) (PV (fun u => (u, mm, oo)) post) noX)
    (hg_X5_allOf : ∀ (a0 : Nat) (x2 : Int32) (h_a0 : (KD a0).1 = 4) (cm : CMu) {post : CMu → Prop}, r_X5_allOf post a0 x2 cm → CT l yX5_allOf (.code yX5_allOf cX5_allOf 4 none) (rmG_quest d) 0 0 G ρ [.ref a0, .ref 4, .int x2] (cm, mm, oo) (PV (fun u => (u, mm, oo)) post) noX)
    (hg_X5_atom : ∀ (a0 : Nat) (x2 : Int32) (h_a0 : (KD a0).1 = 4) (cm : CMu) {post : CMu → Prop}, r_X5_atom post a0 x2 cm → CT l yX5_atom (.code yX5_atom cX5_atom 5 none) (rmG_quest d) 0 0 G ρ [.ref a0, .ref 4, .int x2] (cm, mm, oo) (PV (fun u => (u, mm, oo)) post) noX) {a0 : Nat} {x2 : Int32} (h_a0 : (KD a0).1 = 4) {cm : CMu} {post : CMu → Prop} (h : wb_X5_allOf r_X5_question r_X5_allOf r_X5_atom post a0 x2 cm) : CT l yX5_allOf (.code yX5_allOf cX5_allOf 4 none) (rmG_quest (d + 1)) 0 0 G ρ [.ref a0, .ref 4, .int x2] (cm, mm, oo) (PV (fun u => (u, mm, oo)) post) noX := by
  refine CT_of hl (by decide +kernel) rfl (Nat.le_of_ble_eq_true rfl) (lv0 := [(0, .ref a0), (1, .ref 4), (2, .int x2)]) rfl (fun p e s m args below meth c A X hr hex hnm => ?_)
  unfold wb_X5_allOf at h
  refine L_aload_n (pc := 0) X d_X5_allOf_0 rfl 0 rfl ?_
  refine L_aload_n (pc := 1) X d_X5_allOf_1 rfl 1 rfl ?_
  refine L_iload_n (pc := 2) X d_X5_allOf_2 rfl 2 rfl ?_
  refine L_callVV (pc := 3) X lk_X5_113 (hg_X5_atom _ _ h_a0 _ h) rfl rfl h_a0 (by decide) rfl rfl ⟨by show d + 2 + 1 ≤ d + 1 + 2; omega, by show 8 + (5 + 11) + (d * 24 + 45) ≤ (d + 1) * 24 + 45; omega⟩ ⟨Nat.le_of_ble_eq_true rfl, Nat.le_of_ble_eq_true rfl⟩ (Nat.zero_le _) d_X5_allOf_3 rfl (fun x κ1 hx => L_nox hx) (fun u2 h => ?_)
  refine L_iconst (pc := 6) (v := 0) X d_X5_allOf_6 (by decide) ?_
  refine L_istore_n (pc := 7) (lv2 := [(3, .int 0), (0, .ref a0), (1, .ref 4), (2, .int x2)]) X d_X5_allOf_7 rfl (by decide) rfl ?_
  obtain ⟨n8, h⟩ := h
  refine LW.sub [1, 2, 3, 0] rfl ?_
  exact T_X5_allOf_8 hl hg_X5_question hg_X5_allOf hg_X5_atom X hr hex n8 _ _ _ h_a0 _ h
end G_X5_allOf
theorem yk_X5_question : yX5_question.cls = RX5 ∧ yX5_question.cls ≠ "java/lang/invoke/MethodHandle" ∧ yX5_question.cls ≠ "java/lang/invoke/VarHandle" ∧ (parseMethodDescriptor yX5_question.desc).map (fun d => d.parameters.length) = some 2 := by decide +kernel
theorem lk_X5_100 : LinkV RX5 100 RX5 yX5_question (.code yX5_question cX5_question 4 none) 2 := ⟨tw_885, tw_887, tw_13, tw_76, tw_888, yk_X5_question⟩
theorem yk_X5_sum : yX5_sum.cls = RX5 ∧ yX5_sum.cls ≠ "java/lang/invoke/MethodHandle" ∧ yX5_sum.cls ≠ "java/lang/invoke/VarHandle" ∧ (parseMethodDescriptor yX5_sum.desc).map (fun d => d.parameters.length) = some 1 := by decide +kernel
theorem lk_X5_131 : LinkV RX5 131 RX5 yX5_sum (.code yX5_sum cX5_sum 4 none) 1 := ⟨tw_908, tw_910, tw_17, tw_76, tw_911, yk_X5_sum⟩
theorem d_X5_atom_0 : decode cX5_atom 0 = .ok (.iload_n 2, 1) := by decide +kernel
theorem d_X5_atom_1 : decode cX5_atom 1 = .ok (.bipush 6, 2) := by decide +kernel
theorem d_X5_atom_3 : decode cX5_atom 3 = .ok (.if_icmp .ge 7, 3) := by decide +kernel
theorem d_X5_atom_6 : decode cX5_atom 6 = .ok (.iconst 1, 1) := by decide +kernel
theorem d_X5_atom_7 : decode cX5_atom 7 = .ok (.goto 4, 3) := by decide +kernel
theorem d_X5_atom_10 : decode cX5_atom 10 = .ok (.iconst 0, 1) := by decide +kernel
theorem d_X5_atom_11 : decode cX5_atom 11 = .ok (.istore_n 3, 1) := by decide +kernel
theorem d_X5_atom_12 : decode cX5_atom 12 = .ok (.iload_n 3, 1) := by decide +kernel
theorem d_X5_atom_13 : decode cX5_atom 13 = .ok (.ifCond .eq 32, 3) := by decide +kernel
theorem d_X5_atom_16 : decode cX5_atom 16 = .ok (.aload_n 1, 1) := by decide +kernel
theorem d_X5_atom_17 : decode cX5_atom 17 = .ok (.getstatic 119, 3) := by decide +kernel
theorem d_X5_atom_20 : decode cX5_atom 20 = .ok (.invokevirtual 45, 3) := by decide +kernel
theorem d_X5_atom_23 : decode cX5_atom 23 = .ok (.ifCond .eq 22, 3) := by decide +kernel
theorem d_X5_atom_26 : decode cX5_atom 26 = .ok (.aload_n 0, 1) := by decide +kernel
theorem d_X5_atom_27 : decode cX5_atom 27 = .ok (.aload_n 1, 1) := by decide +kernel
theorem d_X5_atom_28 : decode cX5_atom 28 = .ok (.iload_n 2, 1) := by decide +kernel
theorem d_X5_atom_29 : decode cX5_atom 29 = .ok (.iconst 1, 1) := by decide +kernel
theorem d_X5_atom_30 : decode cX5_atom 30 = .ok (.iadd, 1) := by decide +kernel
theorem d_X5_atom_31 : decode cX5_atom 31 = .ok (.invokevirtual 113, 3) := by decide +kernel
theorem d_X5_atom_34 : decode cX5_atom 34 = .ok (.aload_n 0, 1) := by decide +kernel
theorem d_X5_atom_35 : decode cX5_atom 35 = .ok (.getstatic 119, 3) := by decide +kernel
theorem d_X5_atom_38 : decode cX5_atom 38 = .ok (.iconst 0, 1) := by decide +kernel
theorem d_X5_atom_39 : decode cX5_atom 39 = .ok (.invokevirtual 110, 3) := by decide +kernel
theorem d_X5_atom_42 : decode cX5_atom 42 = .ok (.goto 106, 3) := by decide +kernel
theorem d_X5_atom_45 : decode cX5_atom 45 = .ok (.iload_n 3, 1) := by decide +kernel
theorem d_X5_atom_46 : decode cX5_atom 46 = .ok (.ifCond .eq 31, 3) := by decide +kernel
theorem d_X5_atom_49 : decode cX5_atom 49 = .ok (.aload_n 1, 1) := by decide +kernel
theorem d_X5_atom_50 : decode cX5_atom 50 = .ok (.getstatic 122, 3) := by decide +kernel
theorem d_X5_atom_53 : decode cX5_atom 53 = .ok (.invokevirtual 45, 3) := by decide +kernel
theorem d_X5_atom_56 : decode cX5_atom 56 = .ok (.ifCond .eq 21, 3) := by decide +kernel
theorem d_X5_atom_59 : decode cX5_atom 59 = .ok (.aload_n 0, 1) := by decide +kernel
theorem d_X5_atom_60 : decode cX5_atom 60 = .ok (.aload_n 1, 1) := by decide +kernel
theorem d_X5_atom_61 : decode cX5_atom 61 = .ok (.iload_n 2, 1) := by decide +kernel
theorem d_X5_atom_62 : decode cX5_atom 62 = .ok (.iconst 1, 1) := by decide +kernel
theorem d_X5_atom_63 : decode cX5_atom 63 = .ok (.iadd, 1) := by decide +kernel
theorem d_X5_atom_64 : decode cX5_atom 64 = .ok (.invokevirtual 100, 3) := by decide +kernel
theorem d_X5_atom_67 : decode cX5_atom 67 = .ok (.aload_n 1, 1) := by decide +kernel
theorem d_X5_atom_68 : decode cX5_atom 68 = .ok (.getstatic 125, 3) := by decide +kernel
theorem d_X5_atom_71 : decode cX5_atom 71 = .ok (.invokevirtual 77, 3) := by decide +kernel
theorem d_X5_atom_74 : decode cX5_atom 74 = .ok (.goto 74, 3) := by decide +kernel
theorem d_X5_atom_77 : decode cX5_atom 77 = .ok (.aload_n 1, 1) := by decide +kernel
theorem d_X5_atom_78 : decode cX5_atom 78 = .ok (.getstatic 128, 3) := by decide +kernel
theorem d_X5_atom_81 : decode cX5_atom 81 = .ok (.invokevirtual 45, 3) := by decide +kernel
theorem d_X5_atom_84 : decode cX5_atom 84 = .ok (.ifCond .eq 14, 3) := by decide +kernel
theorem d_X5_atom_87 : decode cX5_atom 87 = .ok (.aload_n 0, 1) := by decide +kernel
theorem d_X5_atom_88 : decode cX5_atom 88 = .ok (.getstatic 128, 3) := by decide +kernel
theorem d_X5_atom_91 : decode cX5_atom 91 = .ok (.iconst 0, 1) := by decide +kernel
theorem d_X5_atom_92 : decode cX5_atom 92 = .ok (.invokevirtual 110, 3) := by decide +kernel
theorem d_X5_atom_95 : decode cX5_atom 95 = .ok (.goto 53, 3) := by decide +kernel
theorem d_X5_atom_98 : decode cX5_atom 98 = .ok (.aload_n 0, 1) := by decide +kernel
theorem d_X5_atom_99 : decode cX5_atom 99 = .ok (.aload_n 1, 1) := by decide +kernel
theorem d_X5_atom_100 : decode cX5_atom 100 = .ok (.invokevirtual 131, 3) := by decide +kernel
theorem d_X5_atom_103 : decode cX5_atom 103 = .ok (.aload_n 1, 1) := by decide +kernel
theorem d_X5_atom_104 : decode cX5_atom 104 = .ok (.getstatic 134, 3) := by decide +kernel
theorem d_X5_atom_107 : decode cX5_atom 107 = .ok (.invokevirtual 45, 3) := by decide +kernel
theorem d_X5_atom_110 : decode cX5_atom 110 = .ok (.istore 4, 2) := by decide +kernel
theorem d_X5_atom_112 : decode cX5_atom 112 = .ok (.iload 4, 2) := by decide +kernel
theorem d_X5_atom_114 : decode cX5_atom 114 = .ok (.ifCond .ne 10, 3) := by decide +kernel
theorem d_X5_atom_117 : decode cX5_atom 117 = .ok (.aload_n 1, 1) := by decide +kernel
theorem d_X5_atom_118 : decode cX5_atom 118 = .ok (.getstatic 137, 3) := by decide +kernel
theorem d_X5_atom_121 : decode cX5_atom 121 = .ok (.invokevirtual 77, 3) := by decide +kernel
theorem d_X5_atom_124 : decode cX5_atom 124 = .ok (.aload_n 0, 1) := by decide +kernel
theorem d_X5_atom_125 : decode cX5_atom 125 = .ok (.aload_n 1, 1) := by decide +kernel
theorem d_X5_atom_126 : decode cX5_atom 126 = .ok (.invokevirtual 131, 3) := by decide +kernel
theorem d_X5_atom_129 : decode cX5_atom 129 = .ok (.aload_n 0, 1) := by decide +kernel
theorem d_X5_atom_130 : decode cX5_atom 130 = .ok (.iload 4, 2) := by decide +kernel
theorem d_X5_atom_132 : decode cX5_atom 132 = .ok (.ifCond .eq 9, 3) := by decide +kernel
theorem d_X5_atom_135 : decode cX5_atom 135 = .ok (.getstatic 134, 3) := by decide +kernel
theorem d_X5_atom_138 : decode cX5_atom 138 = .ok (.goto 6, 3) := by decide +kernel
theorem d_X5_atom_141 : decode cX5_atom 141 = .ok (.getstatic 137, 3) := by decide +kernel
theorem d_X5_atom_144 : decode cX5_atom 144 = .ok (.iconst 0, 1) := by decide +kernel
theorem d_X5_atom_145 : decode cX5_atom 145 = .ok (.invokevirtual 110, 3) := by decide +kernel
theorem d_X5_atom_148 : decode cX5_atom 148 = .ok (.return_, 1) := by decide +kernel
def B_X5_atom_148 (r_X5_question : (CMu → Prop) → Nat → Int32 → CMu → Prop) (r_X5_allOf : (CMu → Prop) → Nat → Int32 → CMu → Prop) (r_X5_atom : (CMu → Prop) → Nat → Int32 → CMu → Prop) (post : CMu → Prop) (cm : CMu) : Prop := post cm
def B_X5_atom_144 (r_X5_question : (CMu → Prop) → Nat → Int32 → CMu → Prop) (r_X5_allOf : (CMu → Prop) → Nat → Int32 → CMu → Prop) (r_X5_atom : (CMu → Prop) → Nat → Int32 → CMu → Prop) (post : CMu → Prop) (s0 : Fin 32) (s1 : Nat) (cm : CMu) : Prop := w_X5_addStep (fun (u26 : CMu) => B_X5_atom_148 r_X5_question r_X5_allOf r_X5_atom post u26) s1 s0 0 cm
def B_X5_atom_124 (r_X5_question : (CMu → Prop) → Nat → Int32 → CMu → Prop) (r_X5_allOf : (CMu → Prop) → Nat → Int32 → CMu → Prop) (r_X5_atom : (CMu → Prop) → Nat → Int32 → CMu → Prop) (post : CMu → Prop) (v0 : Nat) (v4 : Bool) (cm : CMu) : Prop := w_X5_sum (fun (u24 : CMu) => ((v4 = false) → (B_X5_atom_144 r_X5_question r_X5_allOf r_X5_atom post 29 v0 u24)) ∧ (¬ (v4 = false) → (B_X5_atom_144 r_X5_question r_X5_allOf r_X5_atom post 28 v0 u24))) v0 cm
def B_X5_atom_77 (r_X5_question : (CMu → Prop) → Nat → Int32 → CMu → Prop) (r_X5_allOf : (CMu → Prop) → Nat → Int32 → CMu → Prop) (r_X5_atom : (CMu → Prop) → Nat → Int32 → CMu → Prop) (post : CMu → Prop) (v0 : Nat) (cm : CMu) : Prop := w_X10_take (fun (r13 : Bool) (u14 : CMu) => ((r13 = false) → (w_X5_sum (fun (u16 : CMu) => w_X10_take (fun (r17 : Bool) (u18 : CMu) => (¬ (r17 = false) → (B_X5_atom_124 r_X5_question r_X5_allOf r_X5_atom post v0 r17 u18)) ∧ ((r17 = false) → (w_X10_demand (fun (u20 : CMu) => B_X5_atom_124 r_X5_question r_X5_allOf r_X5_atom post v0 r17 u20) 29 u18))) 28 u16) v0 u14)) ∧ (¬ (r13 = false) → (w_X5_addStep (fun (u22 : CMu) => B_X5_atom_148 r_X5_question r_X5_allOf r_X5_atom post u22) v0 15 0 u14))) 15 cm
def B_X5_atom_45 (r_X5_question : (CMu → Prop) → Nat → Int32 → CMu → Prop) (r_X5_allOf : (CMu → Prop) → Nat → Int32 → CMu → Prop) (r_X5_atom : (CMu → Prop) → Nat → Int32 → CMu → Prop) (post : CMu → Prop) (v0 : Nat) (v2 : Int32) (v3 : Bool) (cm : CMu) : Prop := ((v3 = false) → (B_X5_atom_77 r_X5_question r_X5_allOf r_X5_atom post v0 cm)) ∧ (¬ (v3 = false) → (w_X10_take (fun (r7 : Bool) (u8 : CMu) => ((r7 = false) → (B_X5_atom_77 r_X5_question r_X5_allOf r_X5_atom post v0 u8)) ∧ (¬ (r7 = false) → (r_X5_question (fun (u10 : CMu) => w_X10_demand (fun (u12 : CMu) => B_X5_atom_148 r_X5_question r_X5_allOf r_X5_atom post u12) 18 u10) v0 (v2 + 1) u8))) 17 cm))
def B_X5_atom_11 (r_X5_question : (CMu → Prop) → Nat → Int32 → CMu → Prop) (r_X5_allOf : (CMu → Prop) → Nat → Int32 → CMu → Prop) (r_X5_atom : (CMu → Prop) → Nat → Int32 → CMu → Prop) (post : CMu → Prop) (v0 : Nat) (v2 : Int32) (s0 : Bool) (cm : CMu) : Prop := ((s0 = false) → (B_X5_atom_45 r_X5_question r_X5_allOf r_X5_atom post v0 v2 s0 cm)) ∧ (¬ (s0 = false) → (w_X10_take (fun (r1 : Bool) (u2 : CMu) => ((r1 = false) → (B_X5_atom_45 r_X5_question r_X5_allOf r_X5_atom post v0 v2 s0 u2)) ∧ (¬ (r1 = false) → (r_X5_atom (fun (u4 : CMu) => w_X5_addStep (fun (u6 : CMu) => B_X5_atom_148 r_X5_question r_X5_allOf r_X5_atom post u6) v0 14 0 u4) v0 (v2 + 1) u2))) 14 cm))
def wb_X5_atom (r_X5_question : (CMu → Prop) → Nat → Int32 → CMu → Prop) (r_X5_allOf : (CMu → Prop) → Nat → Int32 → CMu → Prop) (r_X5_atom : (CMu → Prop) → Nat → Int32 → CMu → Prop) (post : CMu → Prop) (a0 : Nat) (x2 : Int32) (cm : CMu) : Prop := (6 ≤ x2 → (B_X5_atom_11 r_X5_question r_X5_allOf r_X5_atom post a0 x2 false cm)) ∧ (¬ 6 ≤ x2 → (B_X5_atom_11 r_X5_question r_X5_allOf r_X5_atom post a0 x2 true cm))
section G_X5_atom
variable {p : Program} {l : Launch} {e : Env} {s : State} {m : MethodId} {args : Array Value} {below : List Frame} {meth : Method} {c : Code} {G : Gd} {ρ : Nat → Nat} {A : Nat → Prop} {mm : Nat → Nat → Int32} {oo : Nat → Int64}
set_option maxHeartbeats 4000000 in
set_option maxRecDepth 100000 in
theorem T_X5_atom_148 {d : Nat} {r_X5_question : (CMu → Prop) → Nat → Int32 → CMu → Prop} {r_X5_allOf : (CMu → Prop) → Nat → Int32 → CMu → Prop} {r_X5_atom : (CMu → Prop) → Nat → Int32 → CMu → Prop} {post : CMu → Prop} (hl : l.stackTraces = false)
    (hg_X5_question : ∀ (a0 : Nat) (x2 : Int32) (h_a0 : (KD a0).1 = 4) (cm : CMu) {post : CMu → Prop}, r_X5_question post a0 x2 cm → CT l yX5_question (.code yX5_question cX5_question 4 none) (rmG_quest d) 0 0 G ρ [.ref a0, .ref 4, .int x2] (cm, mm, oo) (PV (fun u => (u, mm, oo)) post) noX)
    (hg_X5_allOf : ∀ (a0 : Nat) (x2 : Int32) (h_a0 : (KD a0).1 = 4) (cm : CMu) {post : CMu → Prop}, r_X5_allOf post a0 x2 cm → CT l yX5_allOf (.code yX5_allOf cX5_allOf 4 none) (rmG_quest d) 0 0 G ρ [.ref a0, .ref 4, .int x2] (cm, mm, oo) (PV (fun u => (u, mm, oo)) post) noX)
    (hg_X5_atom : ∀ (a0 : Nat) (x2 : Int32) (h_a0 : (KD a0).1 = 4) (cm : CMu) {post : CMu → Prop}, r_X5_atom post a0 x2 cm → CT l yX5_atom (.code yX5_atom cX5_atom 5 none) (rmG_quest d) 0 0 G ρ [.ref a0, .ref 4, .int x2] (cm, mm, oo) (PV (fun u => (u, mm, oo)) post) noX) (X : MC p l s m args meth c cX5_atom 5 RX5 G ρ A) (hr : meth.sig.returnType = none) (hex : ∀ z ∈ c.exceptionTable.toList, False) : ∀ (cm : CMu), B_X5_atom_148 r_X5_question r_X5_allOf r_X5_atom post cm → LW p l e (rmG_quest (d + 1)) s m args below meth c (Qm below G ρ A (PV (fun u => (u, mm, oo)) post) noX args s 0 0) G ρ A 5 0 0 148 [] [] (cm, mm, oo) := by
  intro cm h
  unfold B_X5_atom_148 at h
  exact L_vret (pc := 148) X hr d_X5_atom_148 (by decide) (by decide) ⟨_, rfl, rfl, h⟩
set_option maxHeartbeats 4000000 in
set_option maxRecDepth 100000 in
theorem T_X5_atom_144 {d : Nat} {r_X5_question : (CMu → Prop) → Nat → Int32 → CMu → Prop} {r_X5_allOf : (CMu → Prop) → Nat → Int32 → CMu → Prop} {r_X5_atom : (CMu → Prop) → Nat → Int32 → CMu → Prop} {post : CMu → Prop} (hl : l.stackTraces = false)
    (hg_X5_question : ∀ (a0 : Nat) (x2 : Int32) (h_a0 : (KD a0).1 = 4) (cm : CMu) {post : CMu → Prop}, r_X5_question post a0 x2 cm → CT l yX5_question (.code yX5_question cX5_question 4 none) (rmG_quest d) 0 0 G ρ [.ref a0, .ref 4, .int x2] (cm, mm, oo) (PV (fun u => (u, mm, oo)) post) noX)
    (hg_X5_allOf : ∀ (a0 : Nat) (x2 : Int32) (h_a0 : (KD a0).1 = 4) (cm : CMu) {post : CMu → Prop}, r_X5_allOf post a0 x2 cm → CT l yX5_allOf (.code yX5_allOf cX5_allOf 4 none) (rmG_quest d) 0 0 G ρ [.ref a0, .ref 4, .int x2] (cm, mm, oo) (PV (fun u => (u, mm, oo)) post) noX)
    (hg_X5_atom : ∀ (a0 : Nat) (x2 : Int32) (h_a0 : (KD a0).1 = 4) (cm : CMu) {post : CMu → Prop}, r_X5_atom post a0 x2 cm → CT l yX5_atom (.code yX5_atom cX5_atom 5 none) (rmG_quest d) 0 0 G ρ [.ref a0, .ref 4, .int x2] (cm, mm, oo) (PV (fun u => (u, mm, oo)) post) noX) (X : MC p l s m args meth c cX5_atom 5 RX5 G ρ A) (hr : meth.sig.returnType = none) (hex : ∀ z ∈ c.exceptionTable.toList, False) : ∀ (s0 : Fin 32) (s1 : Nat) (h_s1 : (KD s1).1 = 4) (cm : CMu), B_X5_atom_144 r_X5_question r_X5_allOf r_X5_atom post s0 s1 cm → LW p l e (rmG_quest (d + 1)) s m args below meth c (Qm below G ρ A (PV (fun u => (u, mm, oo)) post) noX args s 0 0) G ρ A 5 0 0 144 [] [wv s0, .ref s1] (cm, mm, oo) := by
  intro s0 s1 h_s1 cm h
  unfold B_X5_atom_144 at h
  refine L_iconst (pc := 144) (v := 0) X d_X5_atom_144 (by decide) ?_
  refine L_callVV (pc := 145) X lk_X5_110 (c_X5_addStep X.hst h_s1 h) rfl rfl h_s1 (by decide) rfl rfl ⟨Nat.le_trans (m := 2) (Nat.le_of_ble_eq_true rfl) (by show 2 ≤ d + 1 + 2; omega), Nat.le_trans (m := 45) (Nat.le_of_ble_eq_true rfl) (by show 45 ≤ (d + 1) * 24 + 45; omega)⟩ ⟨Nat.le_of_ble_eq_true rfl, Nat.le_of_ble_eq_true rfl⟩ (Nat.zero_le _) d_X5_atom_145 rfl (fun x κ1 hx => L_nox hx) (fun u26 h => ?_)
  refine LW.sub [] rfl ?_
  exact T_X5_atom_148 hl hg_X5_question hg_X5_allOf hg_X5_atom X hr hex   _ h
set_option maxHeartbeats 4000000 in
set_option maxRecDepth 100000 in
theorem T_X5_atom_124 {d : Nat} {r_X5_question : (CMu → Prop) → Nat → Int32 → CMu → Prop} {r_X5_allOf : (CMu → Prop) → Nat → Int32 → CMu → Prop} {r_X5_atom : (CMu → Prop) → Nat → Int32 → CMu → Prop} {post : CMu → Prop} (hl : l.stackTraces = false)
    (hg_X5_question : ∀ (a0 : Nat) (x2 : Int32) (h_a0 : (KD a0).1 = 4) (cm : CMu) {post : CMu → Prop}, r_X5_question post a0 x2 cm → CT l yX5_question (.code yX5_question cX5_question 4 none) (rmG_quest d) 0 0 G ρ [.ref a0, .ref 4, .int x2] (cm, mm, oo) (PV (fun u => (u, mm, oo)) post) noX)
    (hg_X5_allOf : ∀ (a0 : Nat) (x2 : Int32) (h_a0 : (KD a0).1 = 4) (cm : CMu) {post : CMu → Prop}, r_X5_allOf post a0 x2 cm → CT l yX5_allOf (.code yX5_allOf cX5_allOf 4 none) (rmG_quest d) 0 0 G ρ [.ref a0, .ref 4, .int x2] (cm, mm, oo) (PV (fun u => (u, mm, oo)) post) noX)
    (hg_X5_atom : ∀ (a0 : Nat) (x2 : Int32) (h_a0 : (KD a0).1 = 4) (cm : CMu) {post : CMu → Prop}, r_X5_atom post a0 x2 cm → CT l yX5_atom (.code yX5_atom cX5_atom 5 none) (rmG_quest d) 0 0 G ρ [.ref a0, .ref 4, .int x2] (cm, mm, oo) (PV (fun u => (u, mm, oo)) post) noX) (X : MC p l s m args meth c cX5_atom 5 RX5 G ρ A) (hr : meth.sig.returnType = none) (hex : ∀ z ∈ c.exceptionTable.toList, False) : ∀ (v0 : Nat) (v4 : Bool) (h_v0 : (KD v0).1 = 4) (cm : CMu), B_X5_atom_124 r_X5_question r_X5_allOf r_X5_atom post v0 v4 cm → LW p l e (rmG_quest (d + 1)) s m args below meth c (Qm below G ρ A (PV (fun u => (u, mm, oo)) post) noX args s 0 0) G ρ A 5 0 0 124 [(0, .ref v0), (1, .ref 4), (4, .int (b2 v4))] [] (cm, mm, oo) := by
  intro v0 v4 h_v0 cm h
  unfold B_X5_atom_124 at h
  refine L_aload_n (pc := 124) X d_X5_atom_124 rfl 0 rfl ?_
  refine L_aload_n (pc := 125) X d_X5_atom_125 rfl 1 rfl ?_
  refine L_callVV (pc := 126) X lk_X5_131 (c_X5_sum X.hst h_v0 h) rfl rfl h_v0 (by decide) rfl rfl ⟨Nat.le_trans (m := 2) (Nat.le_of_ble_eq_true rfl) (by show 2 ≤ d + 1 + 2; omega), Nat.le_trans (m := 45) (Nat.le_of_ble_eq_true rfl) (by show 45 ≤ (d + 1) * 24 + 45; omega)⟩ ⟨Nat.le_of_ble_eq_true rfl, Nat.le_of_ble_eq_true rfl⟩ (Nat.zero_le _) d_X5_atom_126 rfl (fun x κ1 hx => L_nox hx) (fun u24 h => ?_)
  refine L_aload_n (pc := 129) X d_X5_atom_129 rfl 0 rfl ?_
  refine L_iload (pc := 130) X d_X5_atom_130 2 rfl ?_
  refine L_if_eq (pc := 132) (tgt := 141) X d_X5_atom_132 (by decide) (fun c132 => ?_) (fun c132 => ?_)
  · replace h := h.1 ((b2_0 _).mp c132)
    refine L_getsW (pc := 141) X 28 (by decide) rfl (w := 29) (by decide) d_X5_atom_141 tw_922 ?_
    refine LW.sub [] rfl ?_
    exact T_X5_atom_144 hl hg_X5_question hg_X5_allOf hg_X5_atom X hr hex _ _ h_v0 _ h
  · replace h := h.2 (fun z => c132 ((b2_0 _).mpr z))
    refine L_getsW (pc := 135) X 27 (by decide) rfl (w := 28) (by decide) d_X5_atom_135 tw_920 ?_
    refine L_goto (pc := 138) (tgt := 144) X d_X5_atom_138 (by decide) ?_
    refine LW.sub [] rfl ?_
    exact T_X5_atom_144 hl hg_X5_question hg_X5_allOf hg_X5_atom X hr hex _ _ h_v0 _ h
set_option maxHeartbeats 4000000 in
set_option maxRecDepth 100000 in
theorem T_X5_atom_77 {d : Nat} {r_X5_question : (CMu → Prop) → Nat → Int32 → CMu → Prop} {r_X5_allOf : (CMu → Prop) → Nat → Int32 → CMu → Prop} {r_X5_atom : (CMu → Prop) → Nat → Int32 → CMu → Prop} {post : CMu → Prop} (hl : l.stackTraces = false)
    (hg_X5_question : ∀ (a0 : Nat) (x2 : Int32) (h_a0 : (KD a0).1 = 4) (cm : CMu) {post : CMu → Prop}, r_X5_question post a0 x2 cm → CT l yX5_question (.code yX5_question cX5_question 4 none) (rmG_quest d) 0 0 G ρ [.ref a0, .ref 4, .int x2] (cm, mm, oo) (PV (fun u => (u, mm, oo)) post) noX)
    (hg_X5_allOf : ∀ (a0 : Nat) (x2 : Int32) (h_a0 : (KD a0).1 = 4) (cm : CMu) {post : CMu → Prop}, r_X5_allOf post a0 x2 cm → CT l yX5_allOf (.code yX5_allOf cX5_allOf 4 none) (rmG_quest d) 0 0 G ρ [.ref a0, .ref 4, .int x2] (cm, mm, oo) (PV (fun u => (u, mm, oo)) post) noX)
    (hg_X5_atom : ∀ (a0 : Nat) (x2 : Int32) (h_a0 : (KD a0).1 = 4) (cm : CMu) {post : CMu → Prop}, r_X5_atom post a0 x2 cm → CT l yX5_atom (.code yX5_atom cX5_atom 5 none) (rmG_quest d) 0 0 G ρ [.ref a0, .ref 4, .int x2] (cm, mm, oo) (PV (fun u => (u, mm, oo)) post) noX) (X : MC p l s m args meth c cX5_atom 5 RX5 G ρ A) (hr : meth.sig.returnType = none) (hex : ∀ z ∈ c.exceptionTable.toList, False) : ∀ (v0 : Nat) (h_v0 : (KD v0).1 = 4) (cm : CMu), B_X5_atom_77 r_X5_question r_X5_allOf r_X5_atom post v0 cm → LW p l e (rmG_quest (d + 1)) s m args below meth c (Qm below G ρ A (PV (fun u => (u, mm, oo)) post) noX args s 0 0) G ρ A 5 0 0 77 [(0, .ref v0), (1, .ref 4)] [] (cm, mm, oo) := by
  intro v0 h_v0 cm h
  unfold B_X5_atom_77 at h
  refine L_aload_n (pc := 77) X d_X5_atom_77 rfl 1 rfl ?_
  refine L_getsW (pc := 78) X 14 (by decide) rfl (w := 15) (by decide) d_X5_atom_78 tw_907 ?_
  refine L_callVZ (pc := 81) X lk_X5_45 (c_X10_take X.hst  h) rfl rfl kd_4 (by decide) rfl rfl ⟨Nat.le_trans (m := 2) (Nat.le_of_ble_eq_true rfl) (by show 2 ≤ d + 1 + 2; omega), Nat.le_trans (m := 45) (Nat.le_of_ble_eq_true rfl) (by show 45 ≤ (d + 1) * 24 + 45; omega)⟩ ⟨Nat.le_of_ble_eq_true rfl, Nat.le_of_ble_eq_true rfl⟩ (Nat.zero_le _) d_X5_atom_81 rfl (fun x κ1 hx => L_nox hx) (fun r13 u14 h => ?_)
  refine L_if_eq (pc := 84) (tgt := 98) X d_X5_atom_84 (by decide) (fun c84 => ?_) (fun c84 => ?_)
  · replace h := h.1 ((b2_0 _).mp c84)
    refine L_aload_n (pc := 98) X d_X5_atom_98 rfl 0 rfl ?_
    refine L_aload_n (pc := 99) X d_X5_atom_99 rfl 1 rfl ?_
    refine L_callVV (pc := 100) X lk_X5_131 (c_X5_sum X.hst h_v0 h) rfl rfl h_v0 (by decide) rfl rfl ⟨Nat.le_trans (m := 2) (Nat.le_of_ble_eq_true rfl) (by show 2 ≤ d + 1 + 2; omega), Nat.le_trans (m := 45) (Nat.le_of_ble_eq_true rfl) (by show 45 ≤ (d + 1) * 24 + 45; omega)⟩ ⟨Nat.le_of_ble_eq_true rfl, Nat.le_of_ble_eq_true rfl⟩ (Nat.zero_le _) d_X5_atom_100 rfl (fun x κ1 hx => L_nox hx) (fun u16 h => ?_)
    refine L_aload_n (pc := 103) X d_X5_atom_103 rfl 1 rfl ?_
    refine L_getsW (pc := 104) X 27 (by decide) rfl (w := 28) (by decide) d_X5_atom_104 tw_920 ?_
    refine L_callVZ (pc := 107) X lk_X5_45 (c_X10_take X.hst  h) rfl rfl kd_4 (by decide) rfl rfl ⟨Nat.le_trans (m := 2) (Nat.le_of_ble_eq_true rfl) (by show 2 ≤ d + 1 + 2; omega), Nat.le_trans (m := 45) (Nat.le_of_ble_eq_true rfl) (by show 45 ≤ (d + 1) * 24 + 45; omega)⟩ ⟨Nat.le_of_ble_eq_true rfl, Nat.le_of_ble_eq_true rfl⟩ (Nat.zero_le _) d_X5_atom_107 rfl (fun x κ1 hx => L_nox hx) (fun r17 u18 h => ?_)
    refine L_istore (pc := 110) (lv2 := [(4, .int (b2 r17)), (0, .ref v0), (1, .ref 4)]) X d_X5_atom_110 (by decide) rfl ?_
    refine L_iload (pc := 112) X d_X5_atom_112 0 rfl ?_
    refine L_if_ne (pc := 114) (tgt := 124) X d_X5_atom_114 (by decide) (fun c114 => ?_) (fun c114 => ?_)
    · replace h := h.1 (fun z => c114 ((b2_0 _).mpr z))
      refine LW.sub [1, 2, 0] rfl ?_
      exact T_X5_atom_124 hl hg_X5_question hg_X5_allOf hg_X5_atom X hr hex _ _ h_v0 _ h
    · replace h := h.2 ((b2_0 _).mp c114)
      refine L_aload_n (pc := 117) X d_X5_atom_117 rfl 2 rfl ?_
      refine L_getsW (pc := 118) X 28 (by decide) rfl (w := 29) (by decide) d_X5_atom_118 tw_922 ?_
      refine L_callVV (pc := 121) X lk_X5_77 (c_X10_demand X.hst  h) rfl rfl kd_4 (by decide) rfl rfl ⟨Nat.le_trans (m := 2) (Nat.le_of_ble_eq_true rfl) (by show 2 ≤ d + 1 + 2; omega), Nat.le_trans (m := 45) (Nat.le_of_ble_eq_true rfl) (by show 45 ≤ (d + 1) * 24 + 45; omega)⟩ ⟨Nat.le_of_ble_eq_true rfl, Nat.le_of_ble_eq_true rfl⟩ (Nat.zero_le _) d_X5_atom_121 rfl (fun x κ1 hx => L_nox hx) (fun u20 h => ?_)
      refine LW.sub [1, 2, 0] rfl ?_
      exact T_X5_atom_124 hl hg_X5_question hg_X5_allOf hg_X5_atom X hr hex _ _ h_v0 _ h
  · replace h := h.2 (fun z => c84 ((b2_0 _).mpr z))
    refine L_aload_n (pc := 87) X d_X5_atom_87 rfl 0 rfl ?_
    refine L_getsW (pc := 88) X 14 (by decide) rfl (w := 15) (by decide) d_X5_atom_88 tw_907 ?_
    refine L_iconst (pc := 91) (v := 0) X d_X5_atom_91 (by decide) ?_
    refine L_callVV (pc := 92) X lk_X5_110 (c_X5_addStep X.hst h_v0 h) rfl rfl h_v0 (by decide) rfl rfl ⟨Nat.le_trans (m := 2) (Nat.le_of_ble_eq_true rfl) (by show 2 ≤ d + 1 + 2; omega), Nat.le_trans (m := 45) (Nat.le_of_ble_eq_true rfl) (by show 45 ≤ (d + 1) * 24 + 45; omega)⟩ ⟨Nat.le_of_ble_eq_true rfl, Nat.le_of_ble_eq_true rfl⟩ (Nat.zero_le _) d_X5_atom_92 rfl (fun x κ1 hx => L_nox hx) (fun u22 h => ?_)
    refine L_goto (pc := 95) (tgt := 148) X d_X5_atom_95 (by decide) ?_
    refine LW.sub [] rfl ?_
    exact T_X5_atom_148 hl hg_X5_question hg_X5_allOf hg_X5_atom X hr hex   _ h
set_option maxHeartbeats 4000000 in
set_option maxRecDepth 100000 in
theorem T_X5_atom_45 {d : Nat} {r_X5_question : (CMu → Prop) → Nat → Int32 → CMu → Prop} {r_X5_allOf : (CMu → Prop) → Nat → Int32 → CMu → Prop} {r_X5_atom : (CMu → Prop) → Nat → Int32 → CMu → Prop} {post : CMu → Prop} (hl : l.stackTraces = false)
    (hg_X5_question : ∀ (a0 : Nat) (x2 : Int32) (h_a0 : (KD a0).1 = 4) (cm : CMu) {post : CMu → Prop}, r_X5_question post a0 x2 cm → CT l yX5_question (.code yX5_question cX5_question 4 none) (rmG_quest d) 0 0 G ρ [.ref a0, .ref 4, .int x2] (cm, mm, oo) (PV (fun u => (u, mm, oo)) post) noX)
    (hg_X5_allOf : ∀ (a0 : Nat) (x2 : Int32) (h_a0 : (KD a0).1 = 4) (cm : CMu) {post : CMu → Prop}, r_X5_allOf post a0 x2 cm → CT l yX5_allOf (.code yX5_allOf cX5_allOf 4 none) (rmG_quest d) 0 0 G ρ [.ref a0, .ref 4, .int x2] (cm, mm, oo) (PV (fun u => (u, mm, oo)) post) noX)
    (hg_X5_atom : ∀ (a0 : Nat) (x2 : Int32) (h_a0 : (KD a0).1 = 4) (cm : CMu) {post : CMu → Prop}, r_X5_atom post a0 x2 cm → CT l yX5_atom (.code yX5_atom cX5_atom 5 none) (rmG_quest d) 0 0 G ρ [.ref a0, .ref 4, .int x2] (cm, mm, oo) (PV (fun u => (u, mm, oo)) post) noX) (X : MC p l s m args meth c cX5_atom 5 RX5 G ρ A) (hr : meth.sig.returnType = none) (hex : ∀ z ∈ c.exceptionTable.toList, False) : ∀ (v0 : Nat) (v2 : Int32) (v3 : Bool) (h_v0 : (KD v0).1 = 4) (cm : CMu), B_X5_atom_45 r_X5_question r_X5_allOf r_X5_atom post v0 v2 v3 cm → LW p l e (rmG_quest (d + 1)) s m args below meth c (Qm below G ρ A (PV (fun u => (u, mm, oo)) post) noX args s 0 0) G ρ A 5 0 0 45 [(0, .ref v0), (1, .ref 4), (2, .int v2), (3, .int (b2 v3))] [] (cm, mm, oo) := by
  intro v0 v2 v3 h_v0 cm h
  unfold B_X5_atom_45 at h
  refine L_iload_n (pc := 45) X d_X5_atom_45 rfl 3 rfl ?_
  refine L_if_eq (pc := 46) (tgt := 77) X d_X5_atom_46 (by decide) (fun c46 => ?_) (fun c46 => ?_)
  · replace h := h.1 ((b2_0 _).mp c46)
    refine LW.sub [0, 1] rfl ?_
    exact T_X5_atom_77 hl hg_X5_question hg_X5_allOf hg_X5_atom X hr hex _ h_v0 _ h
  · replace h := h.2 (fun z => c46 ((b2_0 _).mpr z))
    refine L_aload_n (pc := 49) X d_X5_atom_49 rfl 1 rfl ?_
    refine L_getsW (pc := 50) X 16 (by decide) rfl (w := 17) (by decide) d_X5_atom_50 tw_903 ?_
    refine L_callVZ (pc := 53) X lk_X5_45 (c_X10_take X.hst  h) rfl rfl kd_4 (by decide) rfl rfl ⟨Nat.le_trans (m := 2) (Nat.le_of_ble_eq_true rfl) (by show 2 ≤ d + 1 + 2; omega), Nat.le_trans (m := 45) (Nat.le_of_ble_eq_true rfl) (by show 45 ≤ (d + 1) * 24 + 45; omega)⟩ ⟨Nat.le_of_ble_eq_true rfl, Nat.le_of_ble_eq_true rfl⟩ (Nat.zero_le _) d_X5_atom_53 rfl (fun x κ1 hx => L_nox hx) (fun r7 u8 h => ?_)
    refine L_if_eq (pc := 56) (tgt := 77) X d_X5_atom_56 (by decide) (fun c56 => ?_) (fun c56 => ?_)
    · replace h := h.1 ((b2_0 _).mp c56)
      refine LW.sub [0, 1] rfl ?_
      exact T_X5_atom_77 hl hg_X5_question hg_X5_allOf hg_X5_atom X hr hex _ h_v0 _ h
    · replace h := h.2 (fun z => c56 ((b2_0 _).mpr z))
      refine L_aload_n (pc := 59) X d_X5_atom_59 rfl 0 rfl ?_
      refine L_aload_n (pc := 60) X d_X5_atom_60 rfl 1 rfl ?_
      refine L_iload_n (pc := 61) X d_X5_atom_61 rfl 2 rfl ?_
      refine L_iconst (pc := 62) (v := 1) X d_X5_atom_62 (by decide) ?_
      refine L_iadd (pc := 63) X d_X5_atom_63 ?_
      refine L_callVV (pc := 64) X lk_X5_100 (hg_X5_question _ _ h_v0 _ h) rfl rfl h_v0 (by decide) rfl rfl ⟨by show d + 2 + 1 ≤ d + 1 + 2; omega, by show 8 + (4 + 11) + (d * 24 + 45) ≤ (d + 1) * 24 + 45; omega⟩ ⟨Nat.le_of_ble_eq_true rfl, Nat.le_of_ble_eq_true rfl⟩ (Nat.zero_le _) d_X5_atom_64 rfl (fun x κ1 hx => L_nox hx) (fun u10 h => ?_)
      refine L_aload_n (pc := 67) X d_X5_atom_67 rfl 1 rfl ?_
      refine L_getsW (pc := 68) X 17 (by decide) rfl (w := 18) (by decide) d_X5_atom_68 tw_905 ?_
      refine L_callVV (pc := 71) X lk_X5_77 (c_X10_demand X.hst  h) rfl rfl kd_4 (by decide) rfl rfl ⟨Nat.le_trans (m := 2) (Nat.le_of_ble_eq_true rfl) (by show 2 ≤ d + 1 + 2; omega), Nat.le_trans (m := 45) (Nat.le_of_ble_eq_true rfl) (by show 45 ≤ (d + 1) * 24 + 45; omega)⟩ ⟨Nat.le_of_ble_eq_true rfl, Nat.le_of_ble_eq_true rfl⟩ (Nat.zero_le _) d_X5_atom_71 rfl (fun x κ1 hx => L_nox hx) (fun u12 h => ?_)
      refine L_goto (pc := 74) (tgt := 148) X d_X5_atom_74 (by decide) ?_
      refine LW.sub [] rfl ?_
      exact T_X5_atom_148 hl hg_X5_question hg_X5_allOf hg_X5_atom X hr hex   _ h
set_option maxHeartbeats 4000000 in
set_option maxRecDepth 100000 in
theorem T_X5_atom_11 {d : Nat} {r_X5_question : (CMu → Prop) → Nat → Int32 → CMu → Prop} {r_X5_allOf : (CMu → Prop) → Nat → Int32 → CMu → Prop} {r_X5_atom : (CMu → Prop) → Nat → Int32 → CMu → Prop} {post : CMu → Prop} (hl : l.stackTraces = false)
    (hg_X5_question : ∀ (a0 : Nat) (x2 : Int32) (h_a0 : (KD a0).1 = 4) (cm : CMu) {post : CMu → Prop}, r_X5_question post a0 x2 cm → CT l yX5_question (.code yX5_question cX5_question 4 none) (rmG_quest d) 0 0 G ρ [.ref a0, .ref 4, .int x2] (cm, mm, oo) (PV (fun u => (u, mm, oo)) post) noX)
    (hg_X5_allOf : ∀ (a0 : Nat) (x2 : Int32) (h_a0 : (KD a0).1 = 4) (cm : CMu) {post : CMu → Prop}, r_X5_allOf post a0 x2 cm → CT l yX5_allOf (.code yX5_allOf cX5_allOf 4 none) (rmG_quest d) 0 0 G ρ [.ref a0, .ref 4, .int x2] (cm, mm, oo) (PV (fun u => (u, mm, oo)) post) noX)
    (hg_X5_atom : ∀ (a0 : Nat) (x2 : Int32) (h_a0 : (KD a0).1 = 4) (cm : CMu) {post : CMu → Prop}, r_X5_atom post a0 x2 cm → CT l yX5_atom (.code yX5_atom cX5_atom 5 none) (rmG_quest d) 0 0 G ρ [.ref a0, .ref 4, .int x2] (cm, mm, oo) (PV (fun u => (u, mm, oo)) post) noX) (X : MC p l s m args meth c cX5_atom 5 RX5 G ρ A) (hr : meth.sig.returnType = none) (hex : ∀ z ∈ c.exceptionTable.toList, False) : ∀ (v0 : Nat) (v2 : Int32) (s0 : Bool) (h_v0 : (KD v0).1 = 4) (cm : CMu), B_X5_atom_11 r_X5_question r_X5_allOf r_X5_atom post v0 v2 s0 cm → LW p l e (rmG_quest (d + 1)) s m args below meth c (Qm below G ρ A (PV (fun u => (u, mm, oo)) post) noX args s 0 0) G ρ A 5 0 0 11 [(0, .ref v0), (1, .ref 4), (2, .int v2)] [.int (b2 s0)] (cm, mm, oo) := by
  intro v0 v2 s0 h_v0 cm h
  unfold B_X5_atom_11 at h
  refine L_istore_n (pc := 11) (lv2 := [(3, .int (b2 s0)), (0, .ref v0), (1, .ref 4), (2, .int v2)]) X d_X5_atom_11 rfl (by decide) rfl ?_
  refine L_iload_n (pc := 12) X d_X5_atom_12 rfl 0 rfl ?_
  refine L_if_eq (pc := 13) (tgt := 45) X d_X5_atom_13 (by decide) (fun c13 => ?_) (fun c13 => ?_)
  · replace h := h.1 ((b2_0 _).mp c13)
    refine LW.sub [1, 2, 3, 0] rfl ?_
    exact T_X5_atom_45 hl hg_X5_question hg_X5_allOf hg_X5_atom X hr hex _ _ _ h_v0 _ h
  · replace h := h.2 (fun z => c13 ((b2_0 _).mpr z))
    refine L_aload_n (pc := 16) X d_X5_atom_16 rfl 2 rfl ?_
    refine L_getsW (pc := 17) X 13 (by decide) rfl (w := 14) (by decide) d_X5_atom_17 tw_897 ?_
    refine L_callVZ (pc := 20) X lk_X5_45 (c_X10_take X.hst  h) rfl rfl kd_4 (by decide) rfl rfl ⟨Nat.le_trans (m := 2) (Nat.le_of_ble_eq_true rfl) (by show 2 ≤ d + 1 + 2; omega), Nat.le_trans (m := 45) (Nat.le_of_ble_eq_true rfl) (by show 45 ≤ (d + 1) * 24 + 45; omega)⟩ ⟨Nat.le_of_ble_eq_true rfl, Nat.le_of_ble_eq_true rfl⟩ (Nat.zero_le _) d_X5_atom_20 rfl (fun x κ1 hx => L_nox hx) (fun r1 u2 h => ?_)
    refine L_if_eq (pc := 23) (tgt := 45) X d_X5_atom_23 (by decide) (fun c23 => ?_) (fun c23 => ?_)
    · replace h := h.1 ((b2_0 _).mp c23)
      refine LW.sub [1, 2, 3, 0] rfl ?_
      exact T_X5_atom_45 hl hg_X5_question hg_X5_allOf hg_X5_atom X hr hex _ _ _ h_v0 _ h
    · replace h := h.2 (fun z => c23 ((b2_0 _).mpr z))
      refine L_aload_n (pc := 26) X d_X5_atom_26 rfl 1 rfl ?_
      refine L_aload_n (pc := 27) X d_X5_atom_27 rfl 2 rfl ?_
      refine L_iload_n (pc := 28) X d_X5_atom_28 rfl 3 rfl ?_
      refine L_iconst (pc := 29) (v := 1) X d_X5_atom_29 (by decide) ?_
      refine L_iadd (pc := 30) X d_X5_atom_30 ?_
      refine L_callVV (pc := 31) X lk_X5_113 (hg_X5_atom _ _ h_v0 _ h) rfl rfl h_v0 (by decide) rfl rfl ⟨by show d + 2 + 1 ≤ d + 1 + 2; omega, by show 8 + (5 + 11) + (d * 24 + 45) ≤ (d + 1) * 24 + 45; omega⟩ ⟨Nat.le_of_ble_eq_true rfl, Nat.le_of_ble_eq_true rfl⟩ (Nat.zero_le _) d_X5_atom_31 rfl (fun x κ1 hx => L_nox hx) (fun u4 h => ?_)
      refine L_aload_n (pc := 34) X d_X5_atom_34 rfl 1 rfl ?_
      refine L_getsW (pc := 35) X 13 (by decide) rfl (w := 14) (by decide) d_X5_atom_35 tw_897 ?_
      refine L_iconst (pc := 38) (v := 0) X d_X5_atom_38 (by decide) ?_
      refine L_callVV (pc := 39) X lk_X5_110 (c_X5_addStep X.hst h_v0 h) rfl rfl h_v0 (by decide) rfl rfl ⟨Nat.le_trans (m := 2) (Nat.le_of_ble_eq_true rfl) (by show 2 ≤ d + 1 + 2; omega), Nat.le_trans (m := 45) (Nat.le_of_ble_eq_true rfl) (by show 45 ≤ (d + 1) * 24 + 45; omega)⟩ ⟨Nat.le_of_ble_eq_true rfl, Nat.le_of_ble_eq_true rfl⟩ (Nat.zero_le _) d_X5_atom_39 rfl (fun x κ1 hx => L_nox hx) (fun u6 h => ?_)
      refine L_goto (pc := 42) (tgt := 148) X d_X5_atom_42 (by decide) ?_
      refine LW.sub [] rfl ?_
      exact T_X5_atom_148 hl hg_X5_question hg_X5_allOf hg_X5_atom X hr hex   _ h
set_option maxHeartbeats 4000000 in
set_option maxRecDepth 100000 in
theorem cb_X5_atom {d : Nat} {r_X5_question : (CMu → Prop) → Nat → Int32 → CMu → Prop} {r_X5_allOf : (CMu → Prop) → Nat → Int32 → CMu → Prop} {r_X5_atom : (CMu → Prop) → Nat → Int32 → CMu → Prop} (hl : l.stackTraces = false)
    (hg_X5_question : ∀ (a0 : Nat) (x2 : Int32) (h_a0 : (KD a0).1 = 4) (cm : CMu) {post : CMu → Prop}, r_X5_question post a0 x2 cm → CT l yX5_question (.code yX5_question cX5_question 4 none) (rmG_quest d) 0 0 G ρ [.ref a0, .ref 4, .int x2] (cm, mm, oo) (PV (fun u => (u, mm, oo)) post) noX)
    (hg_X5_allOf : ∀ (a0 : Nat) (x2 : Int32) (h_a0 : (KD a0).1 = 4) (cm : CMu) {post : CMu → Prop}, r_X5_allOf post a0 x2 cm → CT l yX5_allOf (.code yX5_allOf cX5_allOf 4 none) (rmG_quest d) 0 0 G ρ [.ref a0, .ref 4, .int x2] (cm, mm, oo) (PV (fun u => (u, mm, oo)) post) noX)
    (hg_X5_atom : ∀ (a0 : Nat) (x2 : Int32) (h_a0 : (KD a0).1 = 4) (cm : CMu) {post : CMu → Prop}, r_X5_atom post a0 x2 cm → CT l yX5_atom (.code yX5_atom cX5_atom 5 none) (rmG_quest d) 0 0 G ρ [.ref a0, .ref 4, .int x2] (cm, mm, oo) (PV (fun u => (u, mm, oo)) post) noX) {a0 : Nat} {x2 : Int32} (h_a0 : (KD a0).1 = 4) {cm : CMu} {post : CMu → Prop} (h : wb_X5_atom r_X5_question r_X5_allOf r_X5_atom post a0 x2 cm) : CT l yX5_atom (.code yX5_atom cX5_atom 5 none) (rmG_quest (d + 1)) 0 0 G ρ [.ref a0, .ref 4, .int x2] (cm, mm, oo) (PV (fun u => (u, mm, oo)) post) noX := by
  refine CT_of hl (by decide +kernel) rfl (Nat.le_of_ble_eq_true rfl) (lv0 := [(0, .ref a0), (1, .ref 4), (2, .int x2)]) rfl (fun p e s m args below meth c A X hr hex hnm => ?_)
  unfold wb_X5_atom at h
  refine L_iload_n (pc := 0) X d_X5_atom_0 rfl 2 rfl ?_
  refine L_bipush (pc := 1) (v := 6) X d_X5_atom_1 (by decide) ?_
  refine L_icmp_ge (pc := 3) (tgt := 10) X d_X5_atom_3 (by decide) (fun c3 => ?_) (fun c3 => ?_)
  · replace h := h.1 c3
    refine L_iconst (pc := 10) (v := 0) X d_X5_atom_10 (by decide) ?_
    refine LW.sub [0, 1, 2] rfl ?_
    exact T_X5_atom_11 hl hg_X5_question hg_X5_allOf hg_X5_atom X hr hex _ _ _ h_a0 _ h
  · replace h := h.2 c3
    refine L_iconst (pc := 6) (v := 1) X d_X5_atom_6 (by decide) ?_
    refine L_goto (pc := 7) (tgt := 11) X d_X5_atom_7 (by decide) ?_
    refine LW.sub [0, 1, 2] rfl ?_
    exact T_X5_atom_11 hl hg_X5_question hg_X5_allOf hg_X5_atom X hr hex _ _ _ h_a0 _ h
end G_X5_atom
def WG_quest : Nat → ((CMu → Prop) → Nat → Int32 → CMu → Prop) × ((CMu → Prop) → Nat → Int32 → CMu → Prop) × ((CMu → Prop) → Nat → Int32 → CMu → Prop)
  | 0 => (fun _ _ _ _ => False, fun _ _ _ _ => False, fun _ _ _ _ => False)
  | d + 1 => (wb_X5_question ((WG_quest d).1) ((WG_quest d).2.1) ((WG_quest d).2.2), wb_X5_allOf ((WG_quest d).1) ((WG_quest d).2.1) ((WG_quest d).2.2), wb_X5_atom ((WG_quest d).1) ((WG_quest d).2.1) ((WG_quest d).2.2))
section GG_quest
variable {l : Launch} {G : Gd} {ρ : Nat → Nat} {mm : Nat → Nat → Int32} {oo : Nat → Int64}
theorem CG_quest (hl : l.stackTraces = false) : ∀ d : Nat, (∀ (a0 : Nat) (x2 : Int32) (h_a0 : (KD a0).1 = 4) (cm : CMu) {post : CMu → Prop}, ((WG_quest d).1) post a0 x2 cm → CT l yX5_question (.code yX5_question cX5_question 4 none) (rmG_quest d) 0 0 G ρ [.ref a0, .ref 4, .int x2] (cm, mm, oo) (PV (fun u => (u, mm, oo)) post) noX) ∧ (∀ (a0 : Nat) (x2 : Int32) (h_a0 : (KD a0).1 = 4) (cm : CMu) {post : CMu → Prop}, ((WG_quest d).2.1) post a0 x2 cm → CT l yX5_allOf (.code yX5_allOf cX5_allOf 4 none) (rmG_quest d) 0 0 G ρ [.ref a0, .ref 4, .int x2] (cm, mm, oo) (PV (fun u => (u, mm, oo)) post) noX) ∧ (∀ (a0 : Nat) (x2 : Int32) (h_a0 : (KD a0).1 = 4) (cm : CMu) {post : CMu → Prop}, ((WG_quest d).2.2) post a0 x2 cm → CT l yX5_atom (.code yX5_atom cX5_atom 5 none) (rmG_quest d) 0 0 G ρ [.ref a0, .ref 4, .int x2] (cm, mm, oo) (PV (fun u => (u, mm, oo)) post) noX) := by
  intro d
  induction d with
  | zero => exact ⟨fun a0 x2 h_a0 cm _ h => False.elim h, fun a0 x2 h_a0 cm _ h => False.elim h, fun a0 x2 h_a0 cm _ h => False.elim h⟩
  | succ d ih => exact ⟨fun a0 x2 h_a0 cm _ h => cb_X5_question hl ih.1 ih.2.1 ih.2.2 h_a0 h, fun a0 x2 h_a0 cm _ h => cb_X5_allOf hl ih.1 ih.2.1 ih.2.2 h_a0 h, fun a0 x2 h_a0 cm _ h => cb_X5_atom hl ih.1 ih.2.1 ih.2.2 h_a0 h⟩
def w_X5_question (post : CMu → Prop) (a0 : Nat) (x2 : Int32) (cm : CMu) : Prop := ((WG_quest 30).1) post a0 x2 cm
abbrev rm_X5_question : Room := rmG_quest 30
theorem c_X5_question (hl : l.stackTraces = false) {a0 : Nat} {x2 : Int32} (h_a0 : (KD a0).1 = 4) {cm : CMu} {post : CMu → Prop} (h : w_X5_question post a0 x2 cm) : CT l yX5_question (.code yX5_question cX5_question 4 none) rm_X5_question 0 0 G ρ [.ref a0, .ref 4, .int x2] (cm, mm, oo) (PV (fun u => (u, mm, oo)) post) noX := ((CG_quest hl 30).1) a0 x2 h_a0 _ h
def w_X5_allOf (post : CMu → Prop) (a0 : Nat) (x2 : Int32) (cm : CMu) : Prop := ((WG_quest 30).2.1) post a0 x2 cm
abbrev rm_X5_allOf : Room := rmG_quest 30
theorem c_X5_allOf (hl : l.stackTraces = false) {a0 : Nat} {x2 : Int32} (h_a0 : (KD a0).1 = 4) {cm : CMu} {post : CMu → Prop} (h : w_X5_allOf post a0 x2 cm) : CT l yX5_allOf (.code yX5_allOf cX5_allOf 4 none) rm_X5_allOf 0 0 G ρ [.ref a0, .ref 4, .int x2] (cm, mm, oo) (PV (fun u => (u, mm, oo)) post) noX := ((CG_quest hl 30).2.1) a0 x2 h_a0 _ h
def w_X5_atom (post : CMu → Prop) (a0 : Nat) (x2 : Int32) (cm : CMu) : Prop := ((WG_quest 30).2.2) post a0 x2 cm
abbrev rm_X5_atom : Room := rmG_quest 30
theorem c_X5_atom (hl : l.stackTraces = false) {a0 : Nat} {x2 : Int32} (h_a0 : (KD a0).1 = 4) {cm : CMu} {post : CMu → Prop} (h : w_X5_atom post a0 x2 cm) : CT l yX5_atom (.code yX5_atom cX5_atom 5 none) rm_X5_atom 0 0 G ρ [.ref a0, .ref 4, .int x2] (cm, mm, oo) (PV (fun u => (u, mm, oo)) post) noX := ((CG_quest hl 30).2.2) a0 x2 h_a0 _ h
end GG_quest
theorem yk_X5_addAct : yX5_addAct.cls = RX5 ∧ yX5_addAct.cls ≠ "java/lang/invoke/MethodHandle" ∧ yX5_addAct.cls ≠ "java/lang/invoke/VarHandle" ∧ (parseMethodDescriptor yX5_addAct.desc).map (fun d => d.parameters.length) = some 2 := by decide +kernel
theorem lk_X5_84 : LinkV RX5 84 RX5 yX5_addAct (.code yX5_addAct cX5_addAct 3 none) 2 := ⟨tw_873, tw_875, tw_12, tw_76, tw_876, yk_X5_addAct⟩
theorem d_X5_readAct_0 : decode cX5_readAct 0 = .ok (.aload_n 1, 1) := by decide +kernel
theorem d_X5_readAct_1 : decode cX5_readAct 1 = .ok (.getstatic 81, 3) := by decide +kernel
theorem d_X5_readAct_4 : decode cX5_readAct 4 = .ok (.invokevirtual 45, 3) := by decide +kernel
theorem d_X5_readAct_7 : decode cX5_readAct 7 = .ok (.ifCond .eq 18, 3) := by decide +kernel
theorem d_X5_readAct_10 : decode cX5_readAct 10 = .ok (.aload_n 0, 1) := by decide +kernel
theorem d_X5_readAct_11 : decode cX5_readAct 11 = .ok (.getstatic 81, 3) := by decide +kernel
theorem d_X5_readAct_14 : decode cX5_readAct 14 = .ok (.aload_n 1, 1) := by decide +kernel
theorem d_X5_readAct_15 : decode cX5_readAct 15 = .ok (.iconst 0, 1) := by decide +kernel
theorem d_X5_readAct_16 : decode cX5_readAct 16 = .ok (.bipush 59, 2) := by decide +kernel
theorem d_X5_readAct_18 : decode cX5_readAct 18 = .ok (.invokevirtual 64, 3) := by decide +kernel
theorem d_X5_readAct_21 : decode cX5_readAct 21 = .ok (.invokevirtual 84, 3) := by decide +kernel
theorem d_X5_readAct_24 : decode cX5_readAct 24 = .ok (.return_, 1) := by decide +kernel
theorem d_X5_readAct_25 : decode cX5_readAct 25 = .ok (.aload_n 1, 1) := by decide +kernel
theorem d_X5_readAct_26 : decode cX5_readAct 26 = .ok (.getstatic 88, 3) := by decide +kernel
theorem d_X5_readAct_29 : decode cX5_readAct 29 = .ok (.invokevirtual 45, 3) := by decide +kernel
theorem d_X5_readAct_32 : decode cX5_readAct 32 = .ok (.ifCond .eq 21, 3) := by decide +kernel
theorem d_X5_readAct_35 : decode cX5_readAct 35 = .ok (.aload_n 0, 1) := by decide +kernel
theorem d_X5_readAct_36 : decode cX5_readAct 36 = .ok (.getstatic 88, 3) := by decide +kernel
theorem d_X5_readAct_39 : decode cX5_readAct 39 = .ok (.aload_n 1, 1) := by decide +kernel
theorem d_X5_readAct_40 : decode cX5_readAct 40 = .ok (.iconst 1, 1) := by decide +kernel
theorem d_X5_readAct_41 : decode cX5_readAct 41 = .ok (.sipush 999, 3) := by decide +kernel
theorem d_X5_readAct_44 : decode cX5_readAct 44 = .ok (.invokevirtual 64, 3) := by decide +kernel
theorem d_X5_readAct_47 : decode cX5_readAct 47 = .ok (.invokevirtual 84, 3) := by decide +kernel
theorem d_X5_readAct_50 : decode cX5_readAct 50 = .ok (.goto 46, 3) := by decide +kernel
theorem d_X5_readAct_53 : decode cX5_readAct 53 = .ok (.aload_n 1, 1) := by decide +kernel
theorem d_X5_readAct_54 : decode cX5_readAct 54 = .ok (.getstatic 91, 3) := by decide +kernel
theorem d_X5_readAct_57 : decode cX5_readAct 57 = .ok (.invokevirtual 45, 3) := by decide +kernel
theorem d_X5_readAct_60 : decode cX5_readAct 60 = .ok (.ifCond .eq 21, 3) := by decide +kernel
theorem d_X5_readAct_63 : decode cX5_readAct 63 = .ok (.aload_n 0, 1) := by decide +kernel
theorem d_X5_readAct_64 : decode cX5_readAct 64 = .ok (.getstatic 91, 3) := by decide +kernel
theorem d_X5_readAct_67 : decode cX5_readAct 67 = .ok (.aload_n 1, 1) := by decide +kernel
theorem d_X5_readAct_68 : decode cX5_readAct 68 = .ok (.iconst 1, 1) := by decide +kernel
theorem d_X5_readAct_69 : decode cX5_readAct 69 = .ok (.sipush 999, 3) := by decide +kernel
theorem d_X5_readAct_72 : decode cX5_readAct 72 = .ok (.invokevirtual 64, 3) := by decide +kernel
theorem d_X5_readAct_75 : decode cX5_readAct 75 = .ok (.invokevirtual 84, 3) := by decide +kernel
theorem d_X5_readAct_78 : decode cX5_readAct 78 = .ok (.goto 18, 3) := by decide +kernel
theorem d_X5_readAct_81 : decode cX5_readAct 81 = .ok (.aload_n 1, 1) := by decide +kernel
theorem d_X5_readAct_82 : decode cX5_readAct 82 = .ok (.getstatic 94, 3) := by decide +kernel
theorem d_X5_readAct_85 : decode cX5_readAct 85 = .ok (.invokevirtual 77, 3) := by decide +kernel
theorem d_X5_readAct_88 : decode cX5_readAct 88 = .ok (.aload_n 0, 1) := by decide +kernel
theorem d_X5_readAct_89 : decode cX5_readAct 89 = .ok (.getstatic 94, 3) := by decide +kernel
theorem d_X5_readAct_92 : decode cX5_readAct 92 = .ok (.iconst 0, 1) := by decide +kernel
theorem d_X5_readAct_93 : decode cX5_readAct 93 = .ok (.invokevirtual 84, 3) := by decide +kernel
theorem d_X5_readAct_96 : decode cX5_readAct 96 = .ok (.aload_n 1, 1) := by decide +kernel
theorem d_X5_readAct_97 : decode cX5_readAct 97 = .ok (.getstatic 97, 3) := by decide +kernel
theorem d_X5_readAct_100 : decode cX5_readAct 100 = .ok (.invokevirtual 45, 3) := by decide +kernel
theorem d_X5_readAct_103 : decode cX5_readAct 103 = .ok (.ifCond .eq 9, 3) := by decide +kernel
theorem d_X5_readAct_106 : decode cX5_readAct 106 = .ok (.aload_n 0, 1) := by decide +kernel
theorem d_X5_readAct_107 : decode cX5_readAct 107 = .ok (.aload_n 1, 1) := by decide +kernel
theorem d_X5_readAct_108 : decode cX5_readAct 108 = .ok (.iconst 0, 1) := by decide +kernel
theorem d_X5_readAct_109 : decode cX5_readAct 109 = .ok (.invokevirtual 100, 3) := by decide +kernel
theorem d_X5_readAct_112 : decode cX5_readAct 112 = .ok (.return_, 1) := by decide +kernel
abbrev rm_X5_readAct : Room := { frames := 33, cells := 0, slots := 0, locals := 788 }
def B_X5_readAct_112 (post : CMu → Prop) (cm : CMu) : Prop := post cm
def B_X5_readAct_96 (post : CMu → Prop) (v0 : Nat) (cm : CMu) : Prop := w_X10_take (fun (r23 : Bool) (u24 : CMu) => ((r23 = false) → (B_X5_readAct_112 post u24)) ∧ (¬ (r23 = false) → (w_X5_question (fun (u26 : CMu) => B_X5_readAct_112 post u26) v0 0 u24))) 13 cm
def w_X5_readAct (post : CMu → Prop) (a0 : Nat) (cm : CMu) : Prop := w_X10_take (fun (r1 : Bool) (u2 : CMu) => ((r1 = false) → (w_X10_take (fun (r3 : Bool) (u4 : CMu) => ((r3 = false) → (w_X10_take (fun (r5 : Bool) (u6 : CMu) => ((r5 = false) → (w_X10_demand (fun (u8 : CMu) => w_X5_addAct (fun (u10 : CMu) => B_X5_readAct_96 post a0 u10) a0 11 0 u8) 11 u6)) ∧ (¬ (r5 = false) → (w_X10_takeNumber (fun (r11 : Int32) (u12 : CMu) => w_X5_addAct (fun (u14 : CMu) => B_X5_readAct_96 post a0 u14) a0 10 r11 u12) 1 999 u6))) 10 u4)) ∧ (¬ (r3 = false) → (w_X10_takeNumber (fun (r15 : Int32) (u16 : CMu) => w_X5_addAct (fun (u18 : CMu) => B_X5_readAct_96 post a0 u18) a0 9 r15 u16) 1 999 u4))) 9 u2)) ∧ (¬ (r1 = false) → (w_X10_takeNumber (fun (r19 : Int32) (u20 : CMu) => w_X5_addAct (fun (u22 : CMu) => post u22) a0 12 r19 u20) 0 59 u2))) 12 cm
section G_X5_readAct
variable {p : Program} {l : Launch} {e : Env} {s : State} {m : MethodId} {args : Array Value} {below : List Frame} {meth : Method} {c : Code} {G : Gd} {ρ : Nat → Nat} {A : Nat → Prop} {mm : Nat → Nat → Int32} {oo : Nat → Int64}
set_option maxHeartbeats 4000000 in
set_option maxRecDepth 100000 in
theorem T_X5_readAct_112 {post : CMu → Prop} (hl : l.stackTraces = false) (X : MC p l s m args meth c cX5_readAct 2 RX5 G ρ A) (hr : meth.sig.returnType = none) (hex : ∀ z ∈ c.exceptionTable.toList, False) : ∀ (cm : CMu), B_X5_readAct_112 post cm → LW p l e rm_X5_readAct s m args below meth c (Qm below G ρ A (PV (fun u => (u, mm, oo)) post) noX args s 0 0) G ρ A 2 0 0 112 [] [] (cm, mm, oo) := by
  intro cm h
  unfold B_X5_readAct_112 at h
  exact L_vret (pc := 112) X hr d_X5_readAct_112 (by decide) (by decide) ⟨_, rfl, rfl, h⟩
set_option maxHeartbeats 4000000 in
set_option maxRecDepth 100000 in
theorem T_X5_readAct_96 {post : CMu → Prop} (hl : l.stackTraces = false) (X : MC p l s m args meth c cX5_readAct 2 RX5 G ρ A) (hr : meth.sig.returnType = none) (hex : ∀ z ∈ c.exceptionTable.toList, False) : ∀ (v0 : Nat) (h_v0 : (KD v0).1 = 4) (cm : CMu), B_X5_readAct_96 post v0 cm → LW p l e rm_X5_readAct s m args below meth c (Qm below G ρ A (PV (fun u => (u, mm, oo)) post) noX args s 0 0) G ρ A 2 0 0 96 [(0, .ref v0), (1, .ref 4)] [] (cm, mm, oo) := by
  intro v0 h_v0 cm h
  unfold B_X5_readAct_96 at h
  refine L_aload_n (pc := 96) X d_X5_readAct_96 rfl 1 rfl ?_
  refine L_getsW (pc := 97) X 12 (by decide) rfl (w := 13) (by decide) d_X5_readAct_97 tw_883 ?_
  refine L_callVZ (pc := 100) X lk_X5_45 (c_X10_take X.hst  h) rfl rfl kd_4 (by decide) rfl rfl ⟨by decide, by decide⟩ ⟨by decide, by decide⟩ (Nat.zero_le _) d_X5_readAct_100 rfl (fun x κ1 hx => L_nox hx) (fun r23 u24 h => ?_)
  refine L_if_eq (pc := 103) (tgt := 112) X d_X5_readAct_103 (by decide) (fun c103 => ?_) (fun c103 => ?_)
  · replace h := h.1 ((b2_0 _).mp c103)
    refine LW.sub [] rfl ?_
    exact T_X5_readAct_112 hl X hr hex   _ h
  · replace h := h.2 (fun z => c103 ((b2_0 _).mpr z))
    refine L_aload_n (pc := 106) X d_X5_readAct_106 rfl 0 rfl ?_
    refine L_aload_n (pc := 107) X d_X5_readAct_107 rfl 1 rfl ?_
    refine L_iconst (pc := 108) (v := 0) X d_X5_readAct_108 (by decide) ?_
    refine L_callVV (pc := 109) X lk_X5_100 (c_X5_question X.hst h_v0 h) rfl rfl h_v0 (by decide) rfl rfl ⟨by decide, by decide⟩ ⟨by decide, by decide⟩ (Nat.zero_le _) d_X5_readAct_109 rfl (fun x κ1 hx => L_nox hx) (fun u26 h => ?_)
    refine LW.sub [] rfl ?_
    exact T_X5_readAct_112 hl X hr hex   _ h
set_option maxHeartbeats 4000000 in
set_option maxRecDepth 100000 in
theorem c_X5_readAct (hl : l.stackTraces = false) {a0 : Nat} (h_a0 : (KD a0).1 = 4) {cm : CMu} {post : CMu → Prop} (h : w_X5_readAct post a0 cm) : CT l yX5_readAct (.code yX5_readAct cX5_readAct 2 none) rm_X5_readAct 0 0 G ρ [.ref a0, .ref 4] (cm, mm, oo) (PV (fun u => (u, mm, oo)) post) noX := by
  refine CT_of hl (by decide +kernel) rfl (Nat.le_of_ble_eq_true rfl) (lv0 := [(0, .ref a0), (1, .ref 4)]) rfl (fun p e s m args below meth c A X hr hex hnm => ?_)
  unfold w_X5_readAct at h
  refine L_aload_n (pc := 0) X d_X5_readAct_0 rfl 1 rfl ?_
  refine L_getsW (pc := 1) X 11 (by decide) rfl (w := 12) (by decide) d_X5_readAct_1 tw_871 ?_
  refine L_callVZ (pc := 4) X lk_X5_45 (c_X10_take X.hst  h) rfl rfl kd_4 (by decide) rfl rfl ⟨by decide, by decide⟩ ⟨by decide, by decide⟩ (Nat.zero_le _) d_X5_readAct_4 rfl (fun x κ1 hx => L_nox hx) (fun r1 u2 h => ?_)
  refine L_if_eq (pc := 7) (tgt := 25) X d_X5_readAct_7 (by decide) (fun c7 => ?_) (fun c7 => ?_)
  · replace h := h.1 ((b2_0 _).mp c7)
    refine L_aload_n (pc := 25) X d_X5_readAct_25 rfl 1 rfl ?_
    refine L_getsW (pc := 26) X 8 (by decide) rfl (w := 9) (by decide) d_X5_readAct_26 tw_877 ?_
    refine L_callVZ (pc := 29) X lk_X5_45 (c_X10_take X.hst  h) rfl rfl kd_4 (by decide) rfl rfl ⟨by decide, by decide⟩ ⟨by decide, by decide⟩ (Nat.zero_le _) d_X5_readAct_29 rfl (fun x κ1 hx => L_nox hx) (fun r3 u4 h => ?_)
    refine L_if_eq (pc := 32) (tgt := 53) X d_X5_readAct_32 (by decide) (fun c32 => ?_) (fun c32 => ?_)
    · replace h := h.1 ((b2_0 _).mp c32)
      refine L_aload_n (pc := 53) X d_X5_readAct_53 rfl 1 rfl ?_
      refine L_getsW (pc := 54) X 9 (by decide) rfl (w := 10) (by decide) d_X5_readAct_54 tw_879 ?_
      refine L_callVZ (pc := 57) X lk_X5_45 (c_X10_take X.hst  h) rfl rfl kd_4 (by decide) rfl rfl ⟨by decide, by decide⟩ ⟨by decide, by decide⟩ (Nat.zero_le _) d_X5_readAct_57 rfl (fun x κ1 hx => L_nox hx) (fun r5 u6 h => ?_)
      refine L_if_eq (pc := 60) (tgt := 81) X d_X5_readAct_60 (by decide) (fun c60 => ?_) (fun c60 => ?_)
      · replace h := h.1 ((b2_0 _).mp c60)
        refine L_aload_n (pc := 81) X d_X5_readAct_81 rfl 1 rfl ?_
        refine L_getsW (pc := 82) X 10 (by decide) rfl (w := 11) (by decide) d_X5_readAct_82 tw_881 ?_
        refine L_callVV (pc := 85) X lk_X5_77 (c_X10_demand X.hst  h) rfl rfl kd_4 (by decide) rfl rfl ⟨by decide, by decide⟩ ⟨by decide, by decide⟩ (Nat.zero_le _) d_X5_readAct_85 rfl (fun x κ1 hx => L_nox hx) (fun u8 h => ?_)
        refine L_aload_n (pc := 88) X d_X5_readAct_88 rfl 0 rfl ?_
        refine L_getsW (pc := 89) X 10 (by decide) rfl (w := 11) (by decide) d_X5_readAct_89 tw_881 ?_
        refine L_iconst (pc := 92) (v := 0) X d_X5_readAct_92 (by decide) ?_
        refine L_callVV (pc := 93) X lk_X5_84 (c_X5_addAct X.hst h_a0 h) rfl rfl h_a0 (by decide) rfl rfl ⟨by decide, by decide⟩ ⟨by decide, by decide⟩ (Nat.zero_le _) d_X5_readAct_93 rfl (fun x κ1 hx => L_nox hx) (fun u10 h => ?_)
        refine LW.sub [0, 1] rfl ?_
        exact T_X5_readAct_96 hl X hr hex _ h_a0 _ h
      · replace h := h.2 (fun z => c60 ((b2_0 _).mpr z))
        refine L_aload_n (pc := 63) X d_X5_readAct_63 rfl 0 rfl ?_
        refine L_getsW (pc := 64) X 9 (by decide) rfl (w := 10) (by decide) d_X5_readAct_64 tw_879 ?_
        refine L_aload_n (pc := 67) X d_X5_readAct_67 rfl 1 rfl ?_
        refine L_iconst (pc := 68) (v := 1) X d_X5_readAct_68 (by decide) ?_
        refine L_sipush (pc := 69) (v := 999) X d_X5_readAct_69 (by decide) ?_
        refine L_callVI (pc := 72) X lk_X5_64 (c_X10_takeNumber X.hst  h) rfl rfl kd_4 (by decide) rfl rfl ⟨by decide, by decide⟩ ⟨by decide, by decide⟩ (by simp [wv_cat, cat_r, cat_i, cat_l]) d_X5_readAct_72 rfl (fun x κ1 hx => L_nox hx) (fun r11 u12 h => ?_)
        refine L_callVV (pc := 75) X lk_X5_84 (c_X5_addAct X.hst h_a0 h) rfl rfl h_a0 (by decide) rfl rfl ⟨by decide, by decide⟩ ⟨by decide, by decide⟩ (Nat.zero_le _) d_X5_readAct_75 rfl (fun x κ1 hx => L_nox hx) (fun u14 h => ?_)
        refine L_goto (pc := 78) (tgt := 96) X d_X5_readAct_78 (by decide) ?_
        refine LW.sub [0, 1] rfl ?_
        exact T_X5_readAct_96 hl X hr hex _ h_a0 _ h
    · replace h := h.2 (fun z => c32 ((b2_0 _).mpr z))
      refine L_aload_n (pc := 35) X d_X5_readAct_35 rfl 0 rfl ?_
      refine L_getsW (pc := 36) X 8 (by decide) rfl (w := 9) (by decide) d_X5_readAct_36 tw_877 ?_
      refine L_aload_n (pc := 39) X d_X5_readAct_39 rfl 1 rfl ?_
      refine L_iconst (pc := 40) (v := 1) X d_X5_readAct_40 (by decide) ?_
      refine L_sipush (pc := 41) (v := 999) X d_X5_readAct_41 (by decide) ?_
      refine L_callVI (pc := 44) X lk_X5_64 (c_X10_takeNumber X.hst  h) rfl rfl kd_4 (by decide) rfl rfl ⟨by decide, by decide⟩ ⟨by decide, by decide⟩ (by simp [wv_cat, cat_r, cat_i, cat_l]) d_X5_readAct_44 rfl (fun x κ1 hx => L_nox hx) (fun r15 u16 h => ?_)
      refine L_callVV (pc := 47) X lk_X5_84 (c_X5_addAct X.hst h_a0 h) rfl rfl h_a0 (by decide) rfl rfl ⟨by decide, by decide⟩ ⟨by decide, by decide⟩ (Nat.zero_le _) d_X5_readAct_47 rfl (fun x κ1 hx => L_nox hx) (fun u18 h => ?_)
      refine L_goto (pc := 50) (tgt := 96) X d_X5_readAct_50 (by decide) ?_
      refine LW.sub [0, 1] rfl ?_
      exact T_X5_readAct_96 hl X hr hex _ h_a0 _ h
  · replace h := h.2 (fun z => c7 ((b2_0 _).mpr z))
    refine L_aload_n (pc := 10) X d_X5_readAct_10 rfl 0 rfl ?_
    refine L_getsW (pc := 11) X 11 (by decide) rfl (w := 12) (by decide) d_X5_readAct_11 tw_871 ?_
    refine L_aload_n (pc := 14) X d_X5_readAct_14 rfl 1 rfl ?_
    refine L_iconst (pc := 15) (v := 0) X d_X5_readAct_15 (by decide) ?_
    refine L_bipush (pc := 16) (v := 59) X d_X5_readAct_16 (by decide) ?_
    refine L_callVI (pc := 18) X lk_X5_64 (c_X10_takeNumber X.hst  h) rfl rfl kd_4 (by decide) rfl rfl ⟨by decide, by decide⟩ ⟨by decide, by decide⟩ (by simp [wv_cat, cat_r, cat_i, cat_l]) d_X5_readAct_18 rfl (fun x κ1 hx => L_nox hx) (fun r19 u20 h => ?_)
    refine L_callVV (pc := 21) X lk_X5_84 (c_X5_addAct X.hst h_a0 h) rfl rfl h_a0 (by decide) rfl rfl ⟨by decide, by decide⟩ ⟨by decide, by decide⟩ (Nat.zero_le _) d_X5_readAct_21 rfl (fun x κ1 hx => L_nox hx) (fun u22 h => ?_)
    exact L_vret (pc := 24) X hr d_X5_readAct_24 (by decide) (by decide) ⟨_, rfl, rfl, h⟩
end G_X5_readAct
theorem yk_X5_readHead : yX5_readHead.cls = RX5 ∧ yX5_readHead.cls ≠ "java/lang/invoke/MethodHandle" ∧ yX5_readHead.cls ≠ "java/lang/invoke/VarHandle" ∧ (parseMethodDescriptor yX5_readHead.desc).map (fun d => d.parameters.length) = some 1 := by decide +kernel
theorem lk_X5_37 : LinkV RX5 37 RX5 yX5_readHead (.code yX5_readHead cX5_readHead 2 none) 1 := ⟨tw_849, tw_851, tw_10, tw_76, tw_852, yk_X5_readHead⟩
theorem yk_X5_readAct : yX5_readAct.cls = RX5 ∧ yX5_readAct.cls ≠ "java/lang/invoke/MethodHandle" ∧ yX5_readAct.cls ≠ "java/lang/invoke/VarHandle" ∧ (parseMethodDescriptor yX5_readAct.desc).map (fun d => d.parameters.length) = some 1 := by decide +kernel
theorem lk_X5_51 : LinkV RX5 51 RX5 yX5_readAct (.code yX5_readAct cX5_readAct 2 none) 1 := ⟨tw_867, tw_869, tw_11, tw_76, tw_870, yk_X5_readAct⟩
theorem lk_X5_54 : LinkV RX5 54 RX10 yX10_isAtEnd (.code yX10_isAtEnd cX10_isAtEnd 1 (some .boolean)) 0 := ⟨tw_928, tw_675, tw_676, tw_74, tw_677, yk_X10_isAtEnd⟩
theorem d_X5_read_0 : decode cX5_read 0 = .ok (.aload_n 0, 1) := by decide +kernel
theorem d_X5_read_1 : decode cX5_read 1 = .ok (.iconst 0, 1) := by decide +kernel
theorem d_X5_read_2 : decode cX5_read 2 = .ok (.putfield 30, 3) := by decide +kernel
theorem d_X5_read_5 : decode cX5_read 5 = .ok (.aload_n 0, 1) := by decide +kernel
theorem d_X5_read_6 : decode cX5_read 6 = .ok (.iconst 0, 1) := by decide +kernel
theorem d_X5_read_7 : decode cX5_read 7 = .ok (.putfield 34, 3) := by decide +kernel
theorem d_X5_read_10 : decode cX5_read 10 = .ok (.aload_n 0, 1) := by decide +kernel
theorem d_X5_read_11 : decode cX5_read 11 = .ok (.aload_n 1, 1) := by decide +kernel
theorem d_X5_read_12 : decode cX5_read 12 = .ok (.invokevirtual 37, 3) := by decide +kernel
theorem d_X5_read_15 : decode cX5_read 15 = .ok (.iconst 0, 1) := by decide +kernel
theorem d_X5_read_16 : decode cX5_read 16 = .ok (.istore_n 2, 1) := by decide +kernel
theorem d_X5_read_17 : decode cX5_read 17 = .ok (.iload_n 2, 1) := by decide +kernel
theorem d_X5_read_18 : decode cX5_read 18 = .ok (.bipush 8, 2) := by decide +kernel
theorem d_X5_read_20 : decode cX5_read 20 = .ok (.if_icmp .ge 24, 3) := by decide +kernel
theorem d_X5_read_23 : decode cX5_read 23 = .ok (.aload_n 1, 1) := by decide +kernel
theorem d_X5_read_24 : decode cX5_read 24 = .ok (.getstatic 41, 3) := by decide +kernel
theorem d_X5_read_27 : decode cX5_read 27 = .ok (.invokevirtual 45, 3) := by decide +kernel
theorem d_X5_read_30 : decode cX5_read 30 = .ok (.ifCond .eq 14, 3) := by decide +kernel
theorem d_X5_read_33 : decode cX5_read 33 = .ok (.aload_n 0, 1) := by decide +kernel
theorem d_X5_read_34 : decode cX5_read 34 = .ok (.aload_n 1, 1) := by decide +kernel
theorem d_X5_read_35 : decode cX5_read 35 = .ok (.invokevirtual 51, 3) := by decide +kernel
theorem d_X5_read_38 : decode cX5_read 38 = .ok (.iinc 2 1, 3) := by decide +kernel
theorem d_X5_read_41 : decode cX5_read 41 = .ok (.goto (-24), 3) := by decide +kernel
theorem d_X5_read_44 : decode cX5_read 44 = .ok (.aload_n 1, 1) := by decide +kernel
theorem d_X5_read_45 : decode cX5_read 45 = .ok (.getstatic 41, 3) := by decide +kernel
theorem d_X5_read_48 : decode cX5_read 48 = .ok (.invokevirtual 45, 3) := by decide +kernel
theorem d_X5_read_51 : decode cX5_read 51 = .ok (.ifCond .ne 10, 3) := by decide +kernel
theorem d_X5_read_54 : decode cX5_read 54 = .ok (.aload_n 1, 1) := by decide +kernel
theorem d_X5_read_55 : decode cX5_read 55 = .ok (.invokevirtual 54, 3) := by decide +kernel
theorem d_X5_read_58 : decode cX5_read 58 = .ok (.ifCond .ne 7, 3) := by decide +kernel
theorem d_X5_read_61 : decode cX5_read 61 = .ok (.aload_n 1, 1) := by decide +kernel
theorem d_X5_read_62 : decode cX5_read 62 = .ok (.invokevirtual 58, 3) := by decide +kernel
theorem d_X5_read_65 : decode cX5_read 65 = .ok (.return_, 1) := by decide +kernel
abbrev rm_X5_read : Room := { frames := 34, cells := 0, slots := 0, locals := 809 }
def B_X5_read_65 (post : CMu → Prop) (cm : CMu) : Prop := post cm
def B_X5_read_61 (post : CMu → Prop) (cm : CMu) : Prop := w_X10_refuse (fun (u12 : CMu) => B_X5_read_65 post u12)  cm
def B_X5_read_44 (post : CMu → Prop) (cm : CMu) : Prop := w_X10_take (fun (r7 : Bool) (u8 : CMu) => (¬ (r7 = false) → (B_X5_read_61 post u8)) ∧ ((r7 = false) → (w_X10_isAtEnd (fun (r9 : Bool) (u10 : CMu) => (¬ (r9 = false) → (B_X5_read_65 post u10)) ∧ ((r9 = false) → (B_X5_read_61 post u10)))  u8))) 16 cm
def B_X5_read_17 (post : CMu → Prop) : Nat → Nat → Int32 → CMu → Prop
  | 0 => fun _ _ _ => False
  | n + 1 => fun v0 v2 cm => (8 ≤ v2 → (B_X5_read_44 post cm)) ∧ (¬ 8 ≤ v2 → (w_X10_take (fun (r3 : Bool) (u4 : CMu) => ((r3 = false) → (B_X5_read_44 post u4)) ∧ (¬ (r3 = false) → (w_X5_readAct (fun (u6 : CMu) => B_X5_read_17 post n v0 (v2 + 1) u6) v0 u4))) 16 cm))
def w_X5_read (post : CMu → Prop) (a0 : Nat) (cm : CMu) : Prop := w_X5_readHead (fun (u2 : CMu) => ∃ n17, B_X5_read_17 post n17 a0 0 u2) a0 (uI (uI cm a0 6 0) a0 7 0)
section G_X5_read
variable {p : Program} {l : Launch} {e : Env} {s : State} {m : MethodId} {args : Array Value} {below : List Frame} {meth : Method} {c : Code} {G : Gd} {ρ : Nat → Nat} {A : Nat → Prop} {mm : Nat → Nat → Int32} {oo : Nat → Int64}
set_option maxHeartbeats 4000000 in
set_option maxRecDepth 100000 in
theorem T_X5_read_65 {post : CMu → Prop} (hl : l.stackTraces = false) (X : MC p l s m args meth c cX5_read 3 RX5 G ρ A) (hr : meth.sig.returnType = none) (hex : ∀ z ∈ c.exceptionTable.toList, False) : ∀ (cm : CMu), B_X5_read_65 post cm → LW p l e rm_X5_read s m args below meth c (Qm below G ρ A (PV (fun u => (u, mm, oo)) post) noX args s 0 0) G ρ A 3 0 0 65 [] [] (cm, mm, oo) := by
  intro cm h
  unfold B_X5_read_65 at h
  exact L_vret (pc := 65) X hr d_X5_read_65 (by decide) (by decide) ⟨_, rfl, rfl, h⟩
set_option maxHeartbeats 4000000 in
set_option maxRecDepth 100000 in
theorem T_X5_read_61 {post : CMu → Prop} (hl : l.stackTraces = false) (X : MC p l s m args meth c cX5_read 3 RX5 G ρ A) (hr : meth.sig.returnType = none) (hex : ∀ z ∈ c.exceptionTable.toList, False) : ∀ (cm : CMu), B_X5_read_61 post cm → LW p l e rm_X5_read s m args below meth c (Qm below G ρ A (PV (fun u => (u, mm, oo)) post) noX args s 0 0) G ρ A 3 0 0 61 [(1, .ref 4)] [] (cm, mm, oo) := by
  intro cm h
  unfold B_X5_read_61 at h
  refine L_aload_n (pc := 61) X d_X5_read_61 rfl 0 rfl ?_
  refine L_callVV (pc := 62) X lk_X5_58 (c_X10_refuse X.hst  h) rfl rfl kd_4 (by decide) rfl rfl ⟨by decide, by decide⟩ ⟨by decide, by decide⟩ (Nat.zero_le _) d_X5_read_62 rfl (fun x κ1 hx => L_nox hx) (fun u12 h => ?_)
  refine LW.sub [] rfl ?_
  exact T_X5_read_65 hl X hr hex   _ h
set_option maxHeartbeats 4000000 in
set_option maxRecDepth 100000 in
theorem T_X5_read_44 {post : CMu → Prop} (hl : l.stackTraces = false) (X : MC p l s m args meth c cX5_read 3 RX5 G ρ A) (hr : meth.sig.returnType = none) (hex : ∀ z ∈ c.exceptionTable.toList, False) : ∀ (cm : CMu), B_X5_read_44 post cm → LW p l e rm_X5_read s m args below meth c (Qm below G ρ A (PV (fun u => (u, mm, oo)) post) noX args s 0 0) G ρ A 3 0 0 44 [(1, .ref 4)] [] (cm, mm, oo) := by
  intro cm h
  unfold B_X5_read_44 at h
  refine L_aload_n (pc := 44) X d_X5_read_44 rfl 0 rfl ?_
  refine L_getsW (pc := 45) X 15 (by decide) rfl (w := 16) (by decide) d_X5_read_45 tw_866 ?_
  refine L_callVZ (pc := 48) X lk_X5_45 (c_X10_take X.hst  h) rfl rfl kd_4 (by decide) rfl rfl ⟨by decide, by decide⟩ ⟨by decide, by decide⟩ (Nat.zero_le _) d_X5_read_48 rfl (fun x κ1 hx => L_nox hx) (fun r7 u8 h => ?_)
  refine L_if_ne (pc := 51) (tgt := 61) X d_X5_read_51 (by decide) (fun c51 => ?_) (fun c51 => ?_)
  · replace h := h.1 (fun z => c51 ((b2_0 _).mpr z))
    refine LW.sub [0] rfl ?_
    exact T_X5_read_61 hl X hr hex   _ h
  · replace h := h.2 ((b2_0 _).mp c51)
    refine L_aload_n (pc := 54) X d_X5_read_54 rfl 0 rfl ?_
    refine L_callVZ (pc := 55) X lk_X5_54 (c_X10_isAtEnd X.hst  h) rfl rfl kd_4 (by decide) rfl rfl ⟨by decide, by decide⟩ ⟨by decide, by decide⟩ (Nat.zero_le _) d_X5_read_55 rfl (fun x κ1 hx => L_nox hx) (fun r9 u10 h => ?_)
    refine L_if_ne (pc := 58) (tgt := 65) X d_X5_read_58 (by decide) (fun c58 => ?_) (fun c58 => ?_)
    · replace h := h.1 (fun z => c58 ((b2_0 _).mpr z))
      refine LW.sub [] rfl ?_
      exact T_X5_read_65 hl X hr hex   _ h
    · replace h := h.2 ((b2_0 _).mp c58)
      refine LW.sub [0] rfl ?_
      exact T_X5_read_61 hl X hr hex   _ h
set_option maxHeartbeats 4000000 in
set_option maxRecDepth 100000 in
theorem T_X5_read_17 {post : CMu → Prop} (hl : l.stackTraces = false) (X : MC p l s m args meth c cX5_read 3 RX5 G ρ A) (hr : meth.sig.returnType = none) (hex : ∀ z ∈ c.exceptionTable.toList, False) (n : Nat) : ∀ (v0 : Nat) (v2 : Int32) (h_v0 : (KD v0).1 = 4) (cm : CMu), B_X5_read_17 post n v0 v2 cm → LW p l e rm_X5_read s m args below meth c (Qm below G ρ A (PV (fun u => (u, mm, oo)) post) noX args s 0 0) G ρ A 3 0 0 17 [(0, .ref v0), (1, .ref 4), (2, .int v2)] [] (cm, mm, oo) := by
  induction n with
  | zero =>
    intro v0 v2 h_v0 cm h
    exact False.elim h
  | succ n ih =>
    intro v0 v2 h_v0 cm h
    unfold B_X5_read_17 at h
    refine L_iload_n (pc := 17) X d_X5_read_17 rfl 2 rfl ?_
    refine L_bipush (pc := 18) (v := 8) X d_X5_read_18 (by decide) ?_
    refine L_icmp_ge (pc := 20) (tgt := 44) X d_X5_read_20 (by decide) (fun c20 => ?_) (fun c20 => ?_)
    · replace h := h.1 c20
      refine LW.sub [1] rfl ?_
      exact T_X5_read_44 hl X hr hex   _ h
    · replace h := h.2 c20
      refine L_aload_n (pc := 23) X d_X5_read_23 rfl 1 rfl ?_
      refine L_getsW (pc := 24) X 15 (by decide) rfl (w := 16) (by decide) d_X5_read_24 tw_866 ?_
      refine L_callVZ (pc := 27) X lk_X5_45 (c_X10_take X.hst  h) rfl rfl kd_4 (by decide) rfl rfl ⟨by decide, by decide⟩ ⟨by decide, by decide⟩ (Nat.zero_le _) d_X5_read_27 rfl (fun x κ1 hx => L_nox hx) (fun r3 u4 h => ?_)
      refine L_if_eq (pc := 30) (tgt := 44) X d_X5_read_30 (by decide) (fun c30 => ?_) (fun c30 => ?_)
      · replace h := h.1 ((b2_0 _).mp c30)
        refine LW.sub [1] rfl ?_
        exact T_X5_read_44 hl X hr hex   _ h
      · replace h := h.2 (fun z => c30 ((b2_0 _).mpr z))
        refine L_aload_n (pc := 33) X d_X5_read_33 rfl 0 rfl ?_
        refine L_aload_n (pc := 34) X d_X5_read_34 rfl 1 rfl ?_
        refine L_callVV (pc := 35) X lk_X5_51 (c_X5_readAct X.hst h_v0 h) rfl rfl h_v0 (by decide) rfl rfl ⟨by decide, by decide⟩ ⟨by decide, by decide⟩ (Nat.zero_le _) d_X5_read_35 rfl (fun x κ1 hx => L_nox hx) (fun u6 h => ?_)
        refine L_iinc (pc := 38) (v := v2 + 1) (lv2 := [(2, .int (v2 + 1)), (0, .ref v0), (1, .ref 4)]) X d_X5_read_38 2 rfl rfl (by decide) rfl ?_
        refine L_goto (pc := 41) (tgt := 17) X d_X5_read_41 (by decide) ?_
        refine LW.sub [1, 2, 0] rfl ?_
        exact ih _ _ h_v0 _ h
set_option maxHeartbeats 4000000 in
set_option maxRecDepth 100000 in
theorem c_X5_read (hl : l.stackTraces = false) {a0 : Nat} (h_a0 : (KD a0).1 = 4) {cm : CMu} {post : CMu → Prop} (h : w_X5_read post a0 cm) : CT l yX5_read (.code yX5_read cX5_read 3 none) rm_X5_read 0 0 G ρ [.ref a0, .ref 4] (cm, mm, oo) (PV (fun u => (u, mm, oo)) post) noX := by
  refine CT_of hl (by decide +kernel) rfl (Nat.le_of_ble_eq_true rfl) (lv0 := [(0, .ref a0), (1, .ref 4)]) rfl (fun p e s m args below meth c A X hr hex hnm => ?_)
  unfold w_X5_read at h
  refine L_aload_n (pc := 0) X d_X5_read_0 rfl 0 rfl ?_
  refine L_iconst (pc := 1) (v := 0) X d_X5_read_1 (by decide) ?_
  refine pf_X5_30 (pc := 2) X d_X5_read_2 h_a0 ?_
  refine L_aload_n (pc := 5) X d_X5_read_5 rfl 0 rfl ?_
  refine L_iconst (pc := 6) (v := 0) X d_X5_read_6 (by decide) ?_
  refine pf_X5_34 (pc := 7) X d_X5_read_7 h_a0 ?_
  refine L_aload_n (pc := 10) X d_X5_read_10 rfl 0 rfl ?_
  refine L_aload_n (pc := 11) X d_X5_read_11 rfl 1 rfl ?_
  refine L_callVV (pc := 12) X lk_X5_37 (c_X5_readHead X.hst h_a0 h) rfl rfl h_a0 (by decide) rfl rfl ⟨by decide, by decide⟩ ⟨by decide, by decide⟩ (Nat.zero_le _) d_X5_read_12 rfl (fun x κ1 hx => L_nox hx) (fun u2 h => ?_)
  refine L_iconst (pc := 15) (v := 0) X d_X5_read_15 (by decide) ?_
  refine L_istore_n (pc := 16) (lv2 := [(2, .int 0), (0, .ref a0), (1, .ref 4)]) X d_X5_read_16 rfl (by decide) rfl ?_
  obtain ⟨n17, h⟩ := h
  refine LW.sub [1, 2, 0] rfl ?_
  exact T_X5_read_17 hl X hr hex n17 _ _ h_a0 _ h
end G_X5_read
