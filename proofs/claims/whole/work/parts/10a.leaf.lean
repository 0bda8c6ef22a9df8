theorem d_X1_begin_0 : decode cX1_begin 0 = .ok (.aload_n 0, 1) := by decide +kernel
theorem d_X1_begin_1 : decode cX1_begin 1 = .ok (.iload_n 1, 1) := by decide +kernel
theorem d_X1_begin_2 : decode cX1_begin 2 = .ok (.putfield 7, 3) := by decide +kernel
theorem d_X1_begin_5 : decode cX1_begin 5 = .ok (.aload_n 0, 1) := by decide +kernel
theorem d_X1_begin_6 : decode cX1_begin 6 = .ok (.iconst 0, 1) := by decide +kernel
theorem d_X1_begin_7 : decode cX1_begin 7 = .ok (.putfield 13, 3) := by decide +kernel
theorem d_X1_begin_10 : decode cX1_begin 10 = .ok (.aload_n 0, 1) := by decide +kernel
theorem d_X1_begin_11 : decode cX1_begin 11 = .ok (.iconst 0, 1) := by decide +kernel
theorem d_X1_begin_12 : decode cX1_begin 12 = .ok (.putfield 16, 3) := by decide +kernel
theorem d_X1_begin_15 : decode cX1_begin 15 = .ok (.aload_n 0, 1) := by decide +kernel
theorem d_X1_begin_16 : decode cX1_begin 16 = .ok (.iconst 0, 1) := by decide +kernel
theorem d_X1_begin_17 : decode cX1_begin 17 = .ok (.putfield 19, 3) := by decide +kernel
theorem d_X1_begin_20 : decode cX1_begin 20 = .ok (.aload_n 0, 1) := by decide +kernel
theorem d_X1_begin_21 : decode cX1_begin 21 = .ok (.lconst 0, 1) := by decide +kernel
theorem d_X1_begin_22 : decode cX1_begin 22 = .ok (.putfield 22, 3) := by decide +kernel
theorem d_X1_begin_25 : decode cX1_begin 25 = .ok (.aload_n 0, 1) := by decide +kernel
theorem d_X1_begin_26 : decode cX1_begin 26 = .ok (.lconst 0, 1) := by decide +kernel
theorem d_X1_begin_27 : decode cX1_begin 27 = .ok (.putfield 26, 3) := by decide +kernel
theorem d_X1_begin_30 : decode cX1_begin 30 = .ok (.return_, 1) := by decide +kernel
abbrev rm_X1_begin : Room := { frames := 0, cells := 0, slots := 0, locals := 0 }
def w_X1_begin (post : CMu → Prop) (a0 : Nat) (x1 : Int32) (cm : CMu) : Prop := post (uL (uL (uI (uI (uI (uI cm a0 0 x1) a0 1 0) a0 2 0) a0 3 0) a0 4 0) a0 5 0)
section G_X1_begin
variable {p : Program} {l : Launch} {e : Env} {s : State} {m : MethodId} {args : Array Value} {below : List Frame} {meth : Method} {c : Code} {G : Gd} {ρ : Nat → Nat} {A : Nat → Prop} {mm : Nat → Nat → Int32} {oo : Nat → Int64}
set_option maxHeartbeats 4000000 in
set_option maxRecDepth 100000 in
theorem c_X1_begin (hl : l.stackTraces = false) {a0 : Nat} {x1 : Int32} (h_a0 : (KD a0).1 = 0) {cm : CMu} {post : CMu → Prop} (h : w_X1_begin post a0 x1 cm) : CT l yX1_begin (.code yX1_begin cX1_begin 2 none) rm_X1_begin 0 0 G ρ [.ref a0, .int x1] (cm, mm, oo) (PV (fun u => (u, mm, oo)) post) noX := by
  refine CT_of hl (by decide +kernel) rfl (Nat.le_of_ble_eq_true rfl) (lv0 := [(0, .ref a0), (1, .int x1)]) rfl (fun p e s m args below meth c A X hr hex hnm => ?_)
  unfold w_X1_begin at h
  refine L_aload_n (pc := 0) X d_X1_begin_0 rfl 0 rfl ?_
  refine L_iload_n (pc := 1) X d_X1_begin_1 rfl 1 rfl ?_
  refine pf_X1_7 (pc := 2) X d_X1_begin_2 h_a0 ?_
  refine L_aload_n (pc := 5) X d_X1_begin_5 rfl 0 rfl ?_
  refine L_iconst (pc := 6) (v := 0) X d_X1_begin_6 (by decide) ?_
  refine pf_X1_13 (pc := 7) X d_X1_begin_7 h_a0 ?_
  refine L_aload_n (pc := 10) X d_X1_begin_10 rfl 0 rfl ?_
  refine L_iconst (pc := 11) (v := 0) X d_X1_begin_11 (by decide) ?_
  refine pf_X1_16 (pc := 12) X d_X1_begin_12 h_a0 ?_
  refine L_aload_n (pc := 15) X d_X1_begin_15 rfl 0 rfl ?_
  refine L_iconst (pc := 16) (v := 0) X d_X1_begin_16 (by decide) ?_
  refine pf_X1_19 (pc := 17) X d_X1_begin_17 h_a0 ?_
  refine L_aload_n (pc := 20) X d_X1_begin_20 rfl 0 rfl ?_
  refine L_lconst (pc := 21) (v := 0) X d_X1_begin_21 (by decide) ?_
  refine pf_X1_22 (pc := 22) X d_X1_begin_22 h_a0 ?_
  refine L_aload_n (pc := 25) X d_X1_begin_25 rfl 0 rfl ?_
  refine L_lconst (pc := 26) (v := 0) X d_X1_begin_26 (by decide) ?_
  refine pf_X1_26 (pc := 27) X d_X1_begin_27 h_a0 ?_
  exact L_vret (pc := 30) X hr d_X1_begin_30 (by decide) (by decide) ⟨_, rfl, rfl, h⟩
end G_X1_begin
theorem d_X1_cut_0 : decode cX1_cut 0 = .ok (.iload_n 1, 1) := by decide +kernel
theorem d_X1_cut_1 : decode cX1_cut 1 = .ok (.aload_n 0, 1) := by decide +kernel
theorem d_X1_cut_2 : decode cX1_cut 2 = .ok (.getfield 7, 3) := by decide +kernel
theorem d_X1_cut_5 : decode cX1_cut 5 = .ok (.invokestatic 29, 3) := by decide +kernel
theorem d_X1_cut_8 : decode cX1_cut 8 = .ok (.istore_n 2, 1) := by decide +kernel
theorem d_X1_cut_9 : decode cX1_cut 9 = .ok (.aload_n 0, 1) := by decide +kernel
theorem d_X1_cut_10 : decode cX1_cut 10 = .ok (.dup, 1) := by decide +kernel
theorem d_X1_cut_11 : decode cX1_cut 11 = .ok (.getfield 7, 3) := by decide +kernel
theorem d_X1_cut_14 : decode cX1_cut 14 = .ok (.iload_n 2, 1) := by decide +kernel
theorem d_X1_cut_15 : decode cX1_cut 15 = .ok (.isub, 1) := by decide +kernel
theorem d_X1_cut_16 : decode cX1_cut 16 = .ok (.putfield 7, 3) := by decide +kernel
theorem d_X1_cut_19 : decode cX1_cut 19 = .ok (.aload_n 0, 1) := by decide +kernel
theorem d_X1_cut_20 : decode cX1_cut 20 = .ok (.dup, 1) := by decide +kernel
theorem d_X1_cut_21 : decode cX1_cut 21 = .ok (.getfield 13, 3) := by decide +kernel
theorem d_X1_cut_24 : decode cX1_cut 24 = .ok (.iload_n 2, 1) := by decide +kernel
theorem d_X1_cut_25 : decode cX1_cut 25 = .ok (.iadd, 1) := by decide +kernel
theorem d_X1_cut_26 : decode cX1_cut 26 = .ok (.putfield 13, 3) := by decide +kernel
theorem d_X1_cut_29 : decode cX1_cut 29 = .ok (.return_, 1) := by decide +kernel
abbrev rm_X1_cut : Room := { frames := 4, cells := 0, slots := 0, locals := 60 }
def w_X1_cut (post : CMu → Prop) (a0 : Nat) (x1 : Int32) (cm : CMu) : Prop := post (uI (uI cm a0 0 ((gI cm a0 0) - (jmin x1 (gI cm a0 0)))) a0 1 ((gI (uI cm a0 0 ((gI cm a0 0) - (jmin x1 (gI cm a0 0)))) a0 1) + (jmin x1 (gI cm a0 0))))
section G_X1_cut
variable {p : Program} {l : Launch} {e : Env} {s : State} {m : MethodId} {args : Array Value} {below : List Frame} {meth : Method} {c : Code} {G : Gd} {ρ : Nat → Nat} {A : Nat → Prop} {mm : Nat → Nat → Int32} {oo : Nat → Int64}
set_option maxHeartbeats 4000000 in
set_option maxRecDepth 100000 in
theorem c_X1_cut (hl : l.stackTraces = false) {a0 : Nat} {x1 : Int32} (h_a0 : (KD a0).1 = 0) {cm : CMu} {post : CMu → Prop} (h : w_X1_cut post a0 x1 cm) : CT l yX1_cut (.code yX1_cut cX1_cut 3 none) rm_X1_cut 0 0 G ρ [.ref a0, .int x1] (cm, mm, oo) (PV (fun u => (u, mm, oo)) post) noX := by
  refine CT_of hl (by decide +kernel) rfl (Nat.le_of_ble_eq_true rfl) (lv0 := [(0, .ref a0), (1, .int x1)]) rfl (fun p e s m args below meth c A X hr hex hnm => ?_)
  unfold w_X1_cut at h
  refine L_iload_n (pc := 0) X d_X1_cut_0 rfl 1 rfl ?_
  refine L_aload_n (pc := 1) X d_X1_cut_1 rfl 0 rfl ?_
  refine gf_X1_7 (pc := 2) X d_X1_cut_2 h_a0 ?_
  refine L_min (pc := 5) X d_X1_cut_5 tw_988 tw_588 tw_84 tw_589 (by decide) (by decide) (by decide) (by decide) ?_
  refine L_istore_n (pc := 8) (lv2 := [(2, .int (jmin x1 (gI cm a0 0))), (0, .ref a0), (1, .int x1)]) X d_X1_cut_8 rfl (by decide) rfl ?_
  refine L_aload_n (pc := 9) X d_X1_cut_9 rfl 1 rfl ?_
  refine L_dup (pc := 10) X d_X1_cut_10 rfl ?_
  refine gf_X1_7 (pc := 11) X d_X1_cut_11 h_a0 ?_
  refine L_iload_n (pc := 14) X d_X1_cut_14 rfl 0 rfl ?_
  refine L_isub (pc := 15) X d_X1_cut_15 ?_
  refine pf_X1_7 (pc := 16) X d_X1_cut_16 h_a0 ?_
  refine L_aload_n (pc := 19) X d_X1_cut_19 rfl 1 rfl ?_
  refine L_dup (pc := 20) X d_X1_cut_20 rfl ?_
  refine gf_X1_13 (pc := 21) X d_X1_cut_21 h_a0 ?_
  refine L_iload_n (pc := 24) X d_X1_cut_24 rfl 0 rfl ?_
  refine L_iadd (pc := 25) X d_X1_cut_25 ?_
  refine pf_X1_13 (pc := 26) X d_X1_cut_26 h_a0 ?_
  exact L_vret (pc := 29) X hr d_X1_cut_29 (by decide) (by decide) ⟨_, rfl, rfl, h⟩
end G_X1_cut
theorem d_X1_send_0 : decode cX1_send 0 = .ok (.iload_n 1, 1) := by decide +kernel
theorem d_X1_send_1 : decode cX1_send 1 = .ok (.aload_n 0, 1) := by decide +kernel
theorem d_X1_send_2 : decode cX1_send 2 = .ok (.getfield 13, 3) := by decide +kernel
theorem d_X1_send_5 : decode cX1_send 5 = .ok (.invokestatic 29, 3) := by decide +kernel
theorem d_X1_send_8 : decode cX1_send 8 = .ok (.istore_n 2, 1) := by decide +kernel
theorem d_X1_send_9 : decode cX1_send 9 = .ok (.aload_n 0, 1) := by decide +kernel
theorem d_X1_send_10 : decode cX1_send 10 = .ok (.dup, 1) := by decide +kernel
theorem d_X1_send_11 : decode cX1_send 11 = .ok (.getfield 13, 3) := by decide +kernel
theorem d_X1_send_14 : decode cX1_send 14 = .ok (.iload_n 2, 1) := by decide +kernel
theorem d_X1_send_15 : decode cX1_send 15 = .ok (.isub, 1) := by decide +kernel
theorem d_X1_send_16 : decode cX1_send 16 = .ok (.putfield 13, 3) := by decide +kernel
theorem d_X1_send_19 : decode cX1_send 19 = .ok (.aload_n 0, 1) := by decide +kernel
theorem d_X1_send_20 : decode cX1_send 20 = .ok (.dup, 1) := by decide +kernel
theorem d_X1_send_21 : decode cX1_send 21 = .ok (.getfield 16, 3) := by decide +kernel
theorem d_X1_send_24 : decode cX1_send 24 = .ok (.iload_n 2, 1) := by decide +kernel
theorem d_X1_send_25 : decode cX1_send 25 = .ok (.iadd, 1) := by decide +kernel
theorem d_X1_send_26 : decode cX1_send 26 = .ok (.putfield 16, 3) := by decide +kernel
theorem d_X1_send_29 : decode cX1_send 29 = .ok (.return_, 1) := by decide +kernel
abbrev rm_X1_send : Room := { frames := 4, cells := 0, slots := 0, locals := 60 }
def w_X1_send (post : CMu → Prop) (a0 : Nat) (x1 : Int32) (cm : CMu) : Prop := post (uI (uI cm a0 1 ((gI cm a0 1) - (jmin x1 (gI cm a0 1)))) a0 2 ((gI (uI cm a0 1 ((gI cm a0 1) - (jmin x1 (gI cm a0 1)))) a0 2) + (jmin x1 (gI cm a0 1))))
section G_X1_send
variable {p : Program} {l : Launch} {e : Env} {s : State} {m : MethodId} {args : Array Value} {below : List Frame} {meth : Method} {c : Code} {G : Gd} {ρ : Nat → Nat} {A : Nat → Prop} {mm : Nat → Nat → Int32} {oo : Nat → Int64}
set_option maxHeartbeats 4000000 in
set_option maxRecDepth 100000 in
theorem c_X1_send (hl : l.stackTraces = false) {a0 : Nat} {x1 : Int32} (h_a0 : (KD a0).1 = 0) {cm : CMu} {post : CMu → Prop} (h : w_X1_send post a0 x1 cm) : CT l yX1_send (.code yX1_send cX1_send 3 none) rm_X1_send 0 0 G ρ [.ref a0, .int x1] (cm, mm, oo) (PV (fun u => (u, mm, oo)) post) noX := by
  refine CT_of hl (by decide +kernel) rfl (Nat.le_of_ble_eq_true rfl) (lv0 := [(0, .ref a0), (1, .int x1)]) rfl (fun p e s m args below meth c A X hr hex hnm => ?_)
  unfold w_X1_send at h
  refine L_iload_n (pc := 0) X d_X1_send_0 rfl 1 rfl ?_
  refine L_aload_n (pc := 1) X d_X1_send_1 rfl 0 rfl ?_
  refine gf_X1_13 (pc := 2) X d_X1_send_2 h_a0 ?_
  refine L_min (pc := 5) X d_X1_send_5 tw_988 tw_588 tw_84 tw_589 (by decide) (by decide) (by decide) (by decide) ?_
  refine L_istore_n (pc := 8) (lv2 := [(2, .int (jmin x1 (gI cm a0 1))), (0, .ref a0), (1, .int x1)]) X d_X1_send_8 rfl (by decide) rfl ?_
  refine L_aload_n (pc := 9) X d_X1_send_9 rfl 1 rfl ?_
  refine L_dup (pc := 10) X d_X1_send_10 rfl ?_
  refine gf_X1_13 (pc := 11) X d_X1_send_11 h_a0 ?_
  refine L_iload_n (pc := 14) X d_X1_send_14 rfl 0 rfl ?_
  refine L_isub (pc := 15) X d_X1_send_15 ?_
  refine pf_X1_13 (pc := 16) X d_X1_send_16 h_a0 ?_
  refine L_aload_n (pc := 19) X d_X1_send_19 rfl 1 rfl ?_
  refine L_dup (pc := 20) X d_X1_send_20 rfl ?_
  refine gf_X1_16 (pc := 21) X d_X1_send_21 h_a0 ?_
  refine L_iload_n (pc := 24) X d_X1_send_24 rfl 0 rfl ?_
  refine L_iadd (pc := 25) X d_X1_send_25 ?_
  refine pf_X1_16 (pc := 26) X d_X1_send_26 h_a0 ?_
  exact L_vret (pc := 29) X hr d_X1_send_29 (by decide) (by decide) ⟨_, rfl, rfl, h⟩
end G_X1_send
theorem d_X1_annul_0 : decode cX1_annul 0 = .ok (.lconst 1, 1) := by decide +kernel
theorem d_X1_annul_1 : decode cX1_annul 1 = .ok (.iload_n 1, 1) := by decide +kernel
theorem d_X1_annul_2 : decode cX1_annul 2 = .ok (.lshl, 1) := by decide +kernel
theorem d_X1_annul_3 : decode cX1_annul 3 = .ok (.lstore_n 3, 1) := by decide +kernel
theorem d_X1_annul_4 : decode cX1_annul 4 = .ok (.aload_n 0, 1) := by decide +kernel
theorem d_X1_annul_5 : decode cX1_annul 5 = .ok (.dup, 1) := by decide +kernel
theorem d_X1_annul_6 : decode cX1_annul 6 = .ok (.getfield 22, 3) := by decide +kernel
theorem d_X1_annul_9 : decode cX1_annul 9 = .ok (.lload_n 3, 1) := by decide +kernel
theorem d_X1_annul_10 : decode cX1_annul 10 = .ok (.lor, 1) := by decide +kernel
theorem d_X1_annul_11 : decode cX1_annul 11 = .ok (.putfield 22, 3) := by decide +kernel
theorem d_X1_annul_14 : decode cX1_annul 14 = .ok (.iload_n 1, 1) := by decide +kernel
theorem d_X1_annul_15 : decode cX1_annul 15 = .ok (.iload_n 2, 1) := by decide +kernel
theorem d_X1_annul_16 : decode cX1_annul 16 = .ok (.if_icmp .eq 24, 3) := by decide +kernel
theorem d_X1_annul_19 : decode cX1_annul 19 = .ok (.aload_n 0, 1) := by decide +kernel
theorem d_X1_annul_20 : decode cX1_annul 20 = .ok (.getfield 26, 3) := by decide +kernel
theorem d_X1_annul_23 : decode cX1_annul 23 = .ok (.lload_n 3, 1) := by decide +kernel
theorem d_X1_annul_24 : decode cX1_annul 24 = .ok (.land, 1) := by decide +kernel
theorem d_X1_annul_25 : decode cX1_annul 25 = .ok (.lconst 0, 1) := by decide +kernel
theorem d_X1_annul_26 : decode cX1_annul 26 = .ok (.lcmp, 1) := by decide +kernel
theorem d_X1_annul_27 : decode cX1_annul 27 = .ok (.ifCond .eq 13, 3) := by decide +kernel
theorem d_X1_annul_30 : decode cX1_annul 30 = .ok (.aload_n 0, 1) := by decide +kernel
theorem d_X1_annul_31 : decode cX1_annul 31 = .ok (.dup, 1) := by decide +kernel
theorem d_X1_annul_32 : decode cX1_annul 32 = .ok (.getfield 19, 3) := by decide +kernel
theorem d_X1_annul_35 : decode cX1_annul 35 = .ok (.iconst 1, 1) := by decide +kernel
theorem d_X1_annul_36 : decode cX1_annul 36 = .ok (.iadd, 1) := by decide +kernel
theorem d_X1_annul_37 : decode cX1_annul 37 = .ok (.putfield 19, 3) := by decide +kernel
theorem d_X1_annul_40 : decode cX1_annul 40 = .ok (.return_, 1) := by decide +kernel
abbrev rm_X1_annul : Room := { frames := 0, cells := 0, slots := 0, locals := 0 }
def B_X1_annul_40 (post : CMu → Prop) (cm : CMu) : Prop := post cm
def w_X1_annul (post : CMu → Prop) (a0 : Nat) (x1 : Int32) (x2 : Int32) (cm : CMu) : Prop := (x1 = x2 → (B_X1_annul_40 post (uL cm a0 4 ((gL cm a0 4) ||| (1 <<< (Int32.toInt64 x1 &&& 63)))))) ∧ (¬ x1 = x2 → (((lg_cmp ((gL (uL cm a0 4 ((gL cm a0 4) ||| (1 <<< (Int32.toInt64 x1 &&& 63)))) a0 5) &&& (1 <<< (Int32.toInt64 x1 &&& 63))) 0) = 0 → (B_X1_annul_40 post (uL cm a0 4 ((gL cm a0 4) ||| (1 <<< (Int32.toInt64 x1 &&& 63)))))) ∧ (¬ (lg_cmp ((gL (uL cm a0 4 ((gL cm a0 4) ||| (1 <<< (Int32.toInt64 x1 &&& 63)))) a0 5) &&& (1 <<< (Int32.toInt64 x1 &&& 63))) 0) = 0 → (B_X1_annul_40 post (uI (uL cm a0 4 ((gL cm a0 4) ||| (1 <<< (Int32.toInt64 x1 &&& 63)))) a0 3 ((gI (uL cm a0 4 ((gL cm a0 4) ||| (1 <<< (Int32.toInt64 x1 &&& 63)))) a0 3) + 1))))))
section G_X1_annul
variable {p : Program} {l : Launch} {e : Env} {s : State} {m : MethodId} {args : Array Value} {below : List Frame} {meth : Method} {c : Code} {G : Gd} {ρ : Nat → Nat} {A : Nat → Prop} {mm : Nat → Nat → Int32} {oo : Nat → Int64}
set_option maxHeartbeats 4000000 in
set_option maxRecDepth 100000 in
theorem T_X1_annul_40 {post : CMu → Prop} (hl : l.stackTraces = false) (X : MC p l s m args meth c cX1_annul 5 RX1 G ρ A) (hr : meth.sig.returnType = none) (hex : ∀ z ∈ c.exceptionTable.toList, False) : ∀ (cm : CMu), B_X1_annul_40 post cm → LW p l e rm_X1_annul s m args below meth c (Qm below G ρ A (PV (fun u => (u, mm, oo)) post) noX args s 0 0) G ρ A 5 0 0 40 [] [] (cm, mm, oo) := by
  intro cm h
  unfold B_X1_annul_40 at h
  exact L_vret (pc := 40) X hr d_X1_annul_40 (by decide) (by decide) ⟨_, rfl, rfl, h⟩
set_option maxHeartbeats 4000000 in
set_option maxRecDepth 100000 in
theorem c_X1_annul (hl : l.stackTraces = false) {a0 : Nat} {x1 : Int32} {x2 : Int32} (h_a0 : (KD a0).1 = 0) {cm : CMu} {post : CMu → Prop} (h : w_X1_annul post a0 x1 x2 cm) : CT l yX1_annul (.code yX1_annul cX1_annul 5 none) rm_X1_annul 0 0 G ρ [.ref a0, .int x1, .int x2] (cm, mm, oo) (PV (fun u => (u, mm, oo)) post) noX := by
  refine CT_of hl (by decide +kernel) rfl (Nat.le_of_ble_eq_true rfl) (lv0 := [(0, .ref a0), (1, .int x1), (2, .int x2)]) rfl (fun p e s m args below meth c A X hr hex hnm => ?_)
  unfold w_X1_annul at h
  refine L_lconst (pc := 0) (v := 1) X d_X1_annul_0 (by decide) ?_
  refine L_iload_n (pc := 1) X d_X1_annul_1 rfl 1 rfl ?_
  refine L_lshl (pc := 2) X d_X1_annul_2 ?_
  refine L_lstore_n (pc := 3) (lv2 := [(3, .long (1 <<< (Int32.toInt64 x1 &&& 63))), (0, .ref a0), (1, .int x1), (2, .int x2)]) X d_X1_annul_3 rfl (by decide) rfl ?_
  refine L_aload_n (pc := 4) X d_X1_annul_4 rfl 1 rfl ?_
  refine L_dup (pc := 5) X d_X1_annul_5 rfl ?_
  refine gf_X1_22 (pc := 6) X d_X1_annul_6 h_a0 ?_
  refine L_lload_n (pc := 9) X d_X1_annul_9 rfl 0 rfl ?_
  refine L_lor (pc := 10) X d_X1_annul_10 ?_
  refine pf_X1_22 (pc := 11) X d_X1_annul_11 h_a0 ?_
  refine L_iload_n (pc := 14) X d_X1_annul_14 rfl 2 rfl ?_
  refine L_iload_n (pc := 15) X d_X1_annul_15 rfl 3 rfl ?_
  refine L_icmp_eq (pc := 16) (tgt := 40) X d_X1_annul_16 (by decide) (fun c16 => ?_) (fun c16 => ?_)
  · replace h := h.1 c16
    refine LW.sub [] rfl ?_
    exact T_X1_annul_40 hl X hr hex   _ h
  · replace h := h.2 c16
    refine L_aload_n (pc := 19) X d_X1_annul_19 rfl 1 rfl ?_
    refine gf_X1_26 (pc := 20) X d_X1_annul_20 h_a0 ?_
    refine L_lload_n (pc := 23) X d_X1_annul_23 rfl 0 rfl ?_
    refine L_land (pc := 24) X d_X1_annul_24 ?_
    refine L_lconst (pc := 25) (v := 0) X d_X1_annul_25 (by decide) ?_
    refine L_lcmp (pc := 26) X d_X1_annul_26 ?_
    refine L_if_eq (pc := 27) (tgt := 40) X d_X1_annul_27 (by decide) (fun c27 => ?_) (fun c27 => ?_)
    · replace h := h.1 c27
      refine LW.sub [] rfl ?_
      exact T_X1_annul_40 hl X hr hex   _ h
    · replace h := h.2 c27
      refine L_aload_n (pc := 30) X d_X1_annul_30 rfl 1 rfl ?_
      refine L_dup (pc := 31) X d_X1_annul_31 rfl ?_
      refine gf_X1_19 (pc := 32) X d_X1_annul_32 h_a0 ?_
      refine L_iconst (pc := 35) (v := 1) X d_X1_annul_35 (by decide) ?_
      refine L_iadd (pc := 36) X d_X1_annul_36 ?_
      refine pf_X1_19 (pc := 37) X d_X1_annul_37 h_a0 ?_
      refine LW.sub [] rfl ?_
      exact T_X1_annul_40 hl X hr hex   _ h
end G_X1_annul
theorem d_X1_copyFrom_0 : decode cX1_copyFrom 0 = .ok (.aload_n 0, 1) := by decide +kernel
theorem d_X1_copyFrom_1 : decode cX1_copyFrom 1 = .ok (.aload_n 1, 1) := by decide +kernel
theorem d_X1_copyFrom_2 : decode cX1_copyFrom 2 = .ok (.getfield 7, 3) := by decide +kernel
theorem d_X1_copyFrom_5 : decode cX1_copyFrom 5 = .ok (.putfield 7, 3) := by decide +kernel
theorem d_X1_copyFrom_8 : decode cX1_copyFrom 8 = .ok (.aload_n 0, 1) := by decide +kernel
theorem d_X1_copyFrom_9 : decode cX1_copyFrom 9 = .ok (.aload_n 1, 1) := by decide +kernel
theorem d_X1_copyFrom_10 : decode cX1_copyFrom 10 = .ok (.getfield 13, 3) := by decide +kernel
theorem d_X1_copyFrom_13 : decode cX1_copyFrom 13 = .ok (.putfield 13, 3) := by decide +kernel
theorem d_X1_copyFrom_16 : decode cX1_copyFrom 16 = .ok (.aload_n 0, 1) := by decide +kernel
theorem d_X1_copyFrom_17 : decode cX1_copyFrom 17 = .ok (.aload_n 1, 1) := by decide +kernel
theorem d_X1_copyFrom_18 : decode cX1_copyFrom 18 = .ok (.getfield 16, 3) := by decide +kernel
theorem d_X1_copyFrom_21 : decode cX1_copyFrom 21 = .ok (.putfield 16, 3) := by decide +kernel
theorem d_X1_copyFrom_24 : decode cX1_copyFrom 24 = .ok (.aload_n 0, 1) := by decide +kernel
theorem d_X1_copyFrom_25 : decode cX1_copyFrom 25 = .ok (.aload_n 1, 1) := by decide +kernel
theorem d_X1_copyFrom_26 : decode cX1_copyFrom 26 = .ok (.getfield 19, 3) := by decide +kernel
theorem d_X1_copyFrom_29 : decode cX1_copyFrom 29 = .ok (.putfield 19, 3) := by decide +kernel
theorem d_X1_copyFrom_32 : decode cX1_copyFrom 32 = .ok (.aload_n 0, 1) := by decide +kernel
theorem d_X1_copyFrom_33 : decode cX1_copyFrom 33 = .ok (.aload_n 1, 1) := by decide +kernel
theorem d_X1_copyFrom_34 : decode cX1_copyFrom 34 = .ok (.getfield 22, 3) := by decide +kernel
theorem d_X1_copyFrom_37 : decode cX1_copyFrom 37 = .ok (.putfield 22, 3) := by decide +kernel
theorem d_X1_copyFrom_40 : decode cX1_copyFrom 40 = .ok (.aload_n 0, 1) := by decide +kernel
theorem d_X1_copyFrom_41 : decode cX1_copyFrom 41 = .ok (.aload_n 1, 1) := by decide +kernel
theorem d_X1_copyFrom_42 : decode cX1_copyFrom 42 = .ok (.getfield 26, 3) := by decide +kernel
theorem d_X1_copyFrom_45 : decode cX1_copyFrom 45 = .ok (.putfield 26, 3) := by decide +kernel
theorem d_X1_copyFrom_48 : decode cX1_copyFrom 48 = .ok (.return_, 1) := by decide +kernel
abbrev rm_X1_copyFrom : Room := { frames := 0, cells := 0, slots := 0, locals := 0 }
def w_X1_copyFrom (post : CMu → Prop) (a0 : Nat) (a1 : Nat) (cm : CMu) : Prop := post (uL (uL (uI (uI (uI (uI cm a0 0 (gI cm a1 0)) a0 1 (gI (uI cm a0 0 (gI cm a1 0)) a1 1)) a0 2 (gI (uI (uI cm a0 0 (gI cm a1 0)) a0 1 (gI (uI cm a0 0 (gI cm a1 0)) a1 1)) a1 2)) a0 3 (gI (uI (uI (uI cm a0 0 (gI cm a1 0)) a0 1 (gI (uI cm a0 0 (gI cm a1 0)) a1 1)) a0 2 (gI (uI (uI cm a0 0 (gI cm a1 0)) a0 1 (gI (uI cm a0 0 (gI cm a1 0)) a1 1)) a1 2)) a1 3)) a0 4 (gL (uI (uI (uI (uI cm a0 0 (gI cm a1 0)) a0 1 (gI (uI cm a0 0 (gI cm a1 0)) a1 1)) a0 2 (gI (uI (uI cm a0 0 (gI cm a1 0)) a0 1 (gI (uI cm a0 0 (gI cm a1 0)) a1 1)) a1 2)) a0 3 (gI (uI (uI (uI cm a0 0 (gI cm a1 0)) a0 1 (gI (uI cm a0 0 (gI cm a1 0)) a1 1)) a0 2 (gI (uI (uI cm a0 0 (gI cm a1 0)) a0 1 (gI (uI cm a0 0 (gI cm a1 0)) a1 1)) a1 2)) a1 3)) a1 4)) a0 5 (gL (uL (uI (uI (uI (uI cm a0 0 (gI cm a1 0)) a0 1 (gI (uI cm a0 0 (gI cm a1 0)) a1 1)) a0 2 (gI (uI (uI cm a0 0 (gI cm a1 0)) a0 1 (gI (uI cm a0 0 (gI cm a1 0)) a1 1)) a1 2)) a0 3 (gI (uI (uI (uI cm a0 0 (gI cm a1 0)) a0 1 (gI (uI cm a0 0 (gI cm a1 0)) a1 1)) a0 2 (gI (uI (uI cm a0 0 (gI cm a1 0)) a0 1 (gI (uI cm a0 0 (gI cm a1 0)) a1 1)) a1 2)) a1 3)) a0 4 (gL (uI (uI (uI (uI cm a0 0 (gI cm a1 0)) a0 1 (gI (uI cm a0 0 (gI cm a1 0)) a1 1)) a0 2 (gI (uI (uI cm a0 0 (gI cm a1 0)) a0 1 (gI (uI cm a0 0 (gI cm a1 0)) a1 1)) a1 2)) a0 3 (gI (uI (uI (uI cm a0 0 (gI cm a1 0)) a0 1 (gI (uI cm a0 0 (gI cm a1 0)) a1 1)) a0 2 (gI (uI (uI cm a0 0 (gI cm a1 0)) a0 1 (gI (uI cm a0 0 (gI cm a1 0)) a1 1)) a1 2)) a1 3)) a1 4)) a1 5))
section G_X1_copyFrom
variable {p : Program} {l : Launch} {e : Env} {s : State} {m : MethodId} {args : Array Value} {below : List Frame} {meth : Method} {c : Code} {G : Gd} {ρ : Nat → Nat} {A : Nat → Prop} {mm : Nat → Nat → Int32} {oo : Nat → Int64}
set_option maxHeartbeats 4000000 in
set_option maxRecDepth 100000 in
theorem c_X1_copyFrom (hl : l.stackTraces = false) {a0 : Nat} {a1 : Nat} (h_a0 : (KD a0).1 = 0) (h_a1 : (KD a1).1 = 0) {cm : CMu} {post : CMu → Prop} (h : w_X1_copyFrom post a0 a1 cm) : CT l yX1_copyFrom (.code yX1_copyFrom cX1_copyFrom 2 none) rm_X1_copyFrom 0 0 G ρ [.ref a0, .ref a1] (cm, mm, oo) (PV (fun u => (u, mm, oo)) post) noX := by
  refine CT_of hl (by decide +kernel) rfl (Nat.le_of_ble_eq_true rfl) (lv0 := [(0, .ref a0), (1, .ref a1)]) rfl (fun p e s m args below meth c A X hr hex hnm => ?_)
  unfold w_X1_copyFrom at h
  refine L_aload_n (pc := 0) X d_X1_copyFrom_0 rfl 0 rfl ?_
  refine L_aload_n (pc := 1) X d_X1_copyFrom_1 rfl 1 rfl ?_
  refine gf_X1_7 (pc := 2) X d_X1_copyFrom_2 h_a1 ?_
  refine pf_X1_7 (pc := 5) X d_X1_copyFrom_5 h_a0 ?_
  refine L_aload_n (pc := 8) X d_X1_copyFrom_8 rfl 0 rfl ?_
  refine L_aload_n (pc := 9) X d_X1_copyFrom_9 rfl 1 rfl ?_
  refine gf_X1_13 (pc := 10) X d_X1_copyFrom_10 h_a1 ?_
  refine pf_X1_13 (pc := 13) X d_X1_copyFrom_13 h_a0 ?_
  refine L_aload_n (pc := 16) X d_X1_copyFrom_16 rfl 0 rfl ?_
  refine L_aload_n (pc := 17) X d_X1_copyFrom_17 rfl 1 rfl ?_
  refine gf_X1_16 (pc := 18) X d_X1_copyFrom_18 h_a1 ?_
  refine pf_X1_16 (pc := 21) X d_X1_copyFrom_21 h_a0 ?_
  refine L_aload_n (pc := 24) X d_X1_copyFrom_24 rfl 0 rfl ?_
  refine L_aload_n (pc := 25) X d_X1_copyFrom_25 rfl 1 rfl ?_
  refine gf_X1_19 (pc := 26) X d_X1_copyFrom_26 h_a1 ?_
  refine pf_X1_19 (pc := 29) X d_X1_copyFrom_29 h_a0 ?_
  refine L_aload_n (pc := 32) X d_X1_copyFrom_32 rfl 0 rfl ?_
  refine L_aload_n (pc := 33) X d_X1_copyFrom_33 rfl 1 rfl ?_
  refine gf_X1_22 (pc := 34) X d_X1_copyFrom_34 h_a1 ?_
  refine pf_X1_22 (pc := 37) X d_X1_copyFrom_37 h_a0 ?_
  refine L_aload_n (pc := 40) X d_X1_copyFrom_40 rfl 0 rfl ?_
  refine L_aload_n (pc := 41) X d_X1_copyFrom_41 rfl 1 rfl ?_
  refine gf_X1_26 (pc := 42) X d_X1_copyFrom_42 h_a1 ?_
  refine pf_X1_26 (pc := 45) X d_X1_copyFrom_45 h_a0 ?_
  exact L_vret (pc := 48) X hr d_X1_copyFrom_48 (by decide) (by decide) ⟨_, rfl, rfl, h⟩
end G_X1_copyFrom
theorem d_X2_copyFrom_0 : decode cX2_copyFrom 0 = .ok (.aload_n 0, 1) := by decide +kernel
theorem d_X2_copyFrom_1 : decode cX2_copyFrom 1 = .ok (.aload_n 1, 1) := by decide +kernel
theorem d_X2_copyFrom_2 : decode cX2_copyFrom 2 = .ok (.getfield 7, 3) := by decide +kernel
theorem d_X2_copyFrom_5 : decode cX2_copyFrom 5 = .ok (.putfield 7, 3) := by decide +kernel
theorem d_X2_copyFrom_8 : decode cX2_copyFrom 8 = .ok (.aload_n 0, 1) := by decide +kernel
theorem d_X2_copyFrom_9 : decode cX2_copyFrom 9 = .ok (.aload_n 1, 1) := by decide +kernel
theorem d_X2_copyFrom_10 : decode cX2_copyFrom 10 = .ok (.getfield 13, 3) := by decide +kernel
theorem d_X2_copyFrom_13 : decode cX2_copyFrom 13 = .ok (.putfield 13, 3) := by decide +kernel
theorem d_X2_copyFrom_16 : decode cX2_copyFrom 16 = .ok (.aload_n 0, 1) := by decide +kernel
theorem d_X2_copyFrom_17 : decode cX2_copyFrom 17 = .ok (.aload_n 1, 1) := by decide +kernel
theorem d_X2_copyFrom_18 : decode cX2_copyFrom 18 = .ok (.getfield 16, 3) := by decide +kernel
theorem d_X2_copyFrom_21 : decode cX2_copyFrom 21 = .ok (.putfield 16, 3) := by decide +kernel
theorem d_X2_copyFrom_24 : decode cX2_copyFrom 24 = .ok (.aload_n 0, 1) := by decide +kernel
theorem d_X2_copyFrom_25 : decode cX2_copyFrom 25 = .ok (.aload_n 1, 1) := by decide +kernel
theorem d_X2_copyFrom_26 : decode cX2_copyFrom 26 = .ok (.getfield 19, 3) := by decide +kernel
theorem d_X2_copyFrom_29 : decode cX2_copyFrom 29 = .ok (.putfield 19, 3) := by decide +kernel
theorem d_X2_copyFrom_32 : decode cX2_copyFrom 32 = .ok (.aload_n 0, 1) := by decide +kernel
theorem d_X2_copyFrom_33 : decode cX2_copyFrom 33 = .ok (.aload_n 1, 1) := by decide +kernel
theorem d_X2_copyFrom_34 : decode cX2_copyFrom 34 = .ok (.getfield 22, 3) := by decide +kernel
theorem d_X2_copyFrom_37 : decode cX2_copyFrom 37 = .ok (.putfield 22, 3) := by decide +kernel
theorem d_X2_copyFrom_40 : decode cX2_copyFrom 40 = .ok (.aload_n 0, 1) := by decide +kernel
theorem d_X2_copyFrom_41 : decode cX2_copyFrom 41 = .ok (.aload_n 1, 1) := by decide +kernel
theorem d_X2_copyFrom_42 : decode cX2_copyFrom 42 = .ok (.getfield 25, 3) := by decide +kernel
theorem d_X2_copyFrom_45 : decode cX2_copyFrom 45 = .ok (.putfield 25, 3) := by decide +kernel
theorem d_X2_copyFrom_48 : decode cX2_copyFrom 48 = .ok (.aload_n 0, 1) := by decide +kernel
theorem d_X2_copyFrom_49 : decode cX2_copyFrom 49 = .ok (.aload_n 1, 1) := by decide +kernel
theorem d_X2_copyFrom_50 : decode cX2_copyFrom 50 = .ok (.getfield 28, 3) := by decide +kernel
theorem d_X2_copyFrom_53 : decode cX2_copyFrom 53 = .ok (.putfield 28, 3) := by decide +kernel
theorem d_X2_copyFrom_56 : decode cX2_copyFrom 56 = .ok (.return_, 1) := by decide +kernel
abbrev rm_X2_copyFrom : Room := { frames := 0, cells := 0, slots := 0, locals := 0 }
def w_X2_copyFrom (post : CMu → Prop) (a0 : Nat) (a1 : Nat) (cm : CMu) : Prop := post (uI (uI (uI (uI (uI (uI (uI cm a0 0 (gI cm a1 0)) a0 1 (gI (uI cm a0 0 (gI cm a1 0)) a1 1)) a0 2 (gI (uI (uI cm a0 0 (gI cm a1 0)) a0 1 (gI (uI cm a0 0 (gI cm a1 0)) a1 1)) a1 2)) a0 3 (gI (uI (uI (uI cm a0 0 (gI cm a1 0)) a0 1 (gI (uI cm a0 0 (gI cm a1 0)) a1 1)) a0 2 (gI (uI (uI cm a0 0 (gI cm a1 0)) a0 1 (gI (uI cm a0 0 (gI cm a1 0)) a1 1)) a1 2)) a1 3)) a0 4 (gI (uI (uI (uI (uI cm a0 0 (gI cm a1 0)) a0 1 (gI (uI cm a0 0 (gI cm a1 0)) a1 1)) a0 2 (gI (uI (uI cm a0 0 (gI cm a1 0)) a0 1 (gI (uI cm a0 0 (gI cm a1 0)) a1 1)) a1 2)) a0 3 (gI (uI (uI (uI cm a0 0 (gI cm a1 0)) a0 1 (gI (uI cm a0 0 (gI cm a1 0)) a1 1)) a0 2 (gI (uI (uI cm a0 0 (gI cm a1 0)) a0 1 (gI (uI cm a0 0 (gI cm a1 0)) a1 1)) a1 2)) a1 3)) a1 4)) a0 5 (gI (uI (uI (uI (uI (uI cm a0 0 (gI cm a1 0)) a0 1 (gI (uI cm a0 0 (gI cm a1 0)) a1 1)) a0 2 (gI (uI (uI cm a0 0 (gI cm a1 0)) a0 1 (gI (uI cm a0 0 (gI cm a1 0)) a1 1)) a1 2)) a0 3 (gI (uI (uI (uI cm a0 0 (gI cm a1 0)) a0 1 (gI (uI cm a0 0 (gI cm a1 0)) a1 1)) a0 2 (gI (uI (uI cm a0 0 (gI cm a1 0)) a0 1 (gI (uI cm a0 0 (gI cm a1 0)) a1 1)) a1 2)) a1 3)) a0 4 (gI (uI (uI (uI (uI cm a0 0 (gI cm a1 0)) a0 1 (gI (uI cm a0 0 (gI cm a1 0)) a1 1)) a0 2 (gI (uI (uI cm a0 0 (gI cm a1 0)) a0 1 (gI (uI cm a0 0 (gI cm a1 0)) a1 1)) a1 2)) a0 3 (gI (uI (uI (uI cm a0 0 (gI cm a1 0)) a0 1 (gI (uI cm a0 0 (gI cm a1 0)) a1 1)) a0 2 (gI (uI (uI cm a0 0 (gI cm a1 0)) a0 1 (gI (uI cm a0 0 (gI cm a1 0)) a1 1)) a1 2)) a1 3)) a1 4)) a1 5)) a0 6 (gI (uI (uI (uI (uI (uI (uI cm a0 0 (gI cm a1 0)) a0 1 (gI (uI cm a0 0 (gI cm a1 0)) a1 1)) a0 2 (gI (uI (uI cm a0 0 (gI cm a1 0)) a0 1 (gI (uI cm a0 0 (gI cm a1 0)) a1 1)) a1 2)) a0 3 (gI (uI (uI (uI cm a0 0 (gI cm a1 0)) a0 1 (gI (uI cm a0 0 (gI cm a1 0)) a1 1)) a0 2 (gI (uI (uI cm a0 0 (gI cm a1 0)) a0 1 (gI (uI cm a0 0 (gI cm a1 0)) a1 1)) a1 2)) a1 3)) a0 4 (gI (uI (uI (uI (uI cm a0 0 (gI cm a1 0)) a0 1 (gI (uI cm a0 0 (gI cm a1 0)) a1 1)) a0 2 (gI (uI (uI cm a0 0 (gI cm a1 0)) a0 1 (gI (uI cm a0 0 (gI cm a1 0)) a1 1)) a1 2)) a0 3 (gI (uI (uI (uI cm a0 0 (gI cm a1 0)) a0 1 (gI (uI cm a0 0 (gI cm a1 0)) a1 1)) a0 2 (gI (uI (uI cm a0 0 (gI cm a1 0)) a0 1 (gI (uI cm a0 0 (gI cm a1 0)) a1 1)) a1 2)) a1 3)) a1 4)) a0 5 (gI (uI (uI (uI (uI (uI cm a0 0 (gI cm a1 0)) a0 1 (gI (uI cm a0 0 (gI cm a1 0)) a1 1)) a0 2 (gI (uI (uI cm a0 0 (gI cm a1 0)) a0 1 (gI (uI cm a0 0 (gI cm a1 0)) a1 1)) a1 2)) a0 3 (gI (uI (uI (uI cm a0 0 (gI cm a1 0)) a0 1 (gI (uI cm a0 0 (gI cm a1 0)) a1 1)) a0 2 (gI (uI (uI cm a0 0 (gI cm a1 0)) a0 1 (gI (uI cm a0 0 (gI cm a1 0)) a1 1)) a1 2)) a1 3)) a0 4 (gI (uI (uI (uI (uI cm a0 0 (gI cm a1 0)) a0 1 (gI (uI cm a0 0 (gI cm a1 0)) a1 1)) a0 2 (gI (uI (uI cm a0 0 (gI cm a1 0)) a0 1 (gI (uI cm a0 0 (gI cm a1 0)) a1 1)) a1 2)) a0 3 (gI (uI (uI (uI cm a0 0 (gI cm a1 0)) a0 1 (gI (uI cm a0 0 (gI cm a1 0)) a1 1)) a0 2 (gI (uI (uI cm a0 0 (gI cm a1 0)) a0 1 (gI (uI cm a0 0 (gI cm a1 0)) a1 1)) a1 2)) a1 3)) a1 4)) a1 5)) a1 6))
section G_X2_copyFrom
variable {p : Program} {l : Launch} {e : Env} {s : State} {m : MethodId} {args : Array Value} {below : List Frame} {meth : Method} {c : Code} {G : Gd} {ρ : Nat → Nat} {A : Nat → Prop} {mm : Nat → Nat → Int32} {oo : Nat → Int64}
set_option maxHeartbeats 4000000 in
set_option maxRecDepth 100000 in
theorem c_X2_copyFrom (hl : l.stackTraces = false) {a0 : Nat} {a1 : Nat} (h_a0 : (KD a0).1 = 1) (h_a1 : (KD a1).1 = 1) {cm : CMu} {post : CMu → Prop} (h : w_X2_copyFrom post a0 a1 cm) : CT l yX2_copyFrom (.code yX2_copyFrom cX2_copyFrom 2 none) rm_X2_copyFrom 0 0 G ρ [.ref a0, .ref a1] (cm, mm, oo) (PV (fun u => (u, mm, oo)) post) noX := by
  refine CT_of hl (by decide +kernel) rfl (Nat.le_of_ble_eq_true rfl) (lv0 := [(0, .ref a0), (1, .ref a1)]) rfl (fun p e s m args below meth c A X hr hex hnm => ?_)
  unfold w_X2_copyFrom at h
  refine L_aload_n (pc := 0) X d_X2_copyFrom_0 rfl 0 rfl ?_
  refine L_aload_n (pc := 1) X d_X2_copyFrom_1 rfl 1 rfl ?_
  refine gf_X2_7 (pc := 2) X d_X2_copyFrom_2 h_a1 ?_
  refine pf_X2_7 (pc := 5) X d_X2_copyFrom_5 h_a0 ?_
  refine L_aload_n (pc := 8) X d_X2_copyFrom_8 rfl 0 rfl ?_
  refine L_aload_n (pc := 9) X d_X2_copyFrom_9 rfl 1 rfl ?_
  refine gf_X2_13 (pc := 10) X d_X2_copyFrom_10 h_a1 ?_
  refine pf_X2_13 (pc := 13) X d_X2_copyFrom_13 h_a0 ?_
  refine L_aload_n (pc := 16) X d_X2_copyFrom_16 rfl 0 rfl ?_
  refine L_aload_n (pc := 17) X d_X2_copyFrom_17 rfl 1 rfl ?_
  refine gf_X2_16 (pc := 18) X d_X2_copyFrom_18 h_a1 ?_
  refine pf_X2_16 (pc := 21) X d_X2_copyFrom_21 h_a0 ?_
  refine L_aload_n (pc := 24) X d_X2_copyFrom_24 rfl 0 rfl ?_
  refine L_aload_n (pc := 25) X d_X2_copyFrom_25 rfl 1 rfl ?_
  refine gf_X2_19 (pc := 26) X d_X2_copyFrom_26 h_a1 ?_
  refine pf_X2_19 (pc := 29) X d_X2_copyFrom_29 h_a0 ?_
  refine L_aload_n (pc := 32) X d_X2_copyFrom_32 rfl 0 rfl ?_
  refine L_aload_n (pc := 33) X d_X2_copyFrom_33 rfl 1 rfl ?_
  refine gf_X2_22 (pc := 34) X d_X2_copyFrom_34 h_a1 ?_
  refine pf_X2_22 (pc := 37) X d_X2_copyFrom_37 h_a0 ?_
  refine L_aload_n (pc := 40) X d_X2_copyFrom_40 rfl 0 rfl ?_
  refine L_aload_n (pc := 41) X d_X2_copyFrom_41 rfl 1 rfl ?_
  refine gf_X2_25 (pc := 42) X d_X2_copyFrom_42 h_a1 ?_
  refine pf_X2_25 (pc := 45) X d_X2_copyFrom_45 h_a0 ?_
  refine L_aload_n (pc := 48) X d_X2_copyFrom_48 rfl 0 rfl ?_
  refine L_aload_n (pc := 49) X d_X2_copyFrom_49 rfl 1 rfl ?_
  refine gf_X2_28 (pc := 50) X d_X2_copyFrom_50 h_a1 ?_
  refine pf_X2_28 (pc := 53) X d_X2_copyFrom_53 h_a0 ?_
  exact L_vret (pc := 56) X hr d_X2_copyFrom_56 (by decide) (by decide) ⟨_, rfl, rfl, h⟩
end G_X2_copyFrom
theorem d_X7_hasRoom_0 : decode cX7_hasRoom 0 = .ok (.aload_n 0, 1) := by decide +kernel
theorem d_X7_hasRoom_1 : decode cX7_hasRoom 1 = .ok (.getfield 13, 3) := by decide +kernel
theorem d_X7_hasRoom_4 : decode cX7_hasRoom 4 = .ok (.ifCond .eq 14, 3) := by decide +kernel
theorem d_X7_hasRoom_7 : decode cX7_hasRoom 7 = .ok (.aload_n 0, 1) := by decide +kernel
theorem d_X7_hasRoom_8 : decode cX7_hasRoom 8 = .ok (.getfield 16, 3) := by decide +kernel
theorem d_X7_hasRoom_11 : decode cX7_hasRoom 11 = .ok (.aload_n 0, 1) := by decide +kernel
theorem d_X7_hasRoom_12 : decode cX7_hasRoom 12 = .ok (.getfield 13, 3) := by decide +kernel
theorem d_X7_hasRoom_15 : decode cX7_hasRoom 15 = .ok (.if_icmp .ge 7, 3) := by decide +kernel
theorem d_X7_hasRoom_18 : decode cX7_hasRoom 18 = .ok (.iconst 1, 1) := by decide +kernel
theorem d_X7_hasRoom_19 : decode cX7_hasRoom 19 = .ok (.goto 4, 3) := by decide +kernel
theorem d_X7_hasRoom_22 : decode cX7_hasRoom 22 = .ok (.iconst 0, 1) := by decide +kernel
theorem d_X7_hasRoom_23 : decode cX7_hasRoom 23 = .ok (.ireturn, 1) := by decide +kernel
abbrev rm_X7_hasRoom : Room := { frames := 0, cells := 0, slots := 0, locals := 0 }
def w_X7_hasRoom (post : Bool → CMu → Prop) (a0 : Nat) (cm : CMu) : Prop := ((gI cm a0 2) = 0 → (post true cm)) ∧ (¬ (gI cm a0 2) = 0 → (((gI cm a0 2) ≤ (gI cm a0 3) → (post false cm)) ∧ (¬ (gI cm a0 2) ≤ (gI cm a0 3) → (post true cm))))
section G_X7_hasRoom
variable {p : Program} {l : Launch} {e : Env} {s : State} {m : MethodId} {args : Array Value} {below : List Frame} {meth : Method} {c : Code} {G : Gd} {ρ : Nat → Nat} {A : Nat → Prop} {mm : Nat → Nat → Int32} {oo : Nat → Int64}
set_option maxHeartbeats 4000000 in
set_option maxRecDepth 100000 in
theorem c_X7_hasRoom (hl : l.stackTraces = false) {a0 : Nat} (h_a0 : (KD a0).1 = 6) {cm : CMu} {post : Bool → CMu → Prop} (h : w_X7_hasRoom post a0 cm) : CT l yX7_hasRoom (.code yX7_hasRoom cX7_hasRoom 1 (some .boolean)) rm_X7_hasRoom 0 0 G ρ [.ref a0] (cm, mm, oo) (PZ (fun u => (u, mm, oo)) post) noX := by
  refine CT_of hl (by decide +kernel) rfl (Nat.le_of_ble_eq_true rfl) (lv0 := [(0, .ref a0)]) rfl (fun p e s m args below meth c A X hr hex hnm => ?_)
  unfold w_X7_hasRoom at h
  refine L_aload_n (pc := 0) X d_X7_hasRoom_0 rfl 0 rfl ?_
  refine gf_X7_13 (pc := 1) X d_X7_hasRoom_1 h_a0 ?_
  refine L_if_eq (pc := 4) (tgt := 18) X d_X7_hasRoom_4 (by decide) (fun c4 => ?_) (fun c4 => ?_)
  · replace h := h.1 c4
    refine L_iconst (pc := 18) (v := 1) X d_X7_hasRoom_18 (by decide) ?_
    refine L_goto (pc := 19) (tgt := 23) X d_X7_hasRoom_19 (by decide) ?_
    exact L_zretB (pc := 23) X hr d_X7_hasRoom_23 true rfl (by decide) (by decide) ⟨_, _, rfl, rfl, h⟩
  · replace h := h.2 c4
    refine L_aload_n (pc := 7) X d_X7_hasRoom_7 rfl 0 rfl ?_
    refine gf_X7_16 (pc := 8) X d_X7_hasRoom_8 h_a0 ?_
    refine L_aload_n (pc := 11) X d_X7_hasRoom_11 rfl 0 rfl ?_
    refine gf_X7_13 (pc := 12) X d_X7_hasRoom_12 h_a0 ?_
    refine L_icmp_ge (pc := 15) (tgt := 22) X d_X7_hasRoom_15 (by decide) (fun c15 => ?_) (fun c15 => ?_)
    · replace h := h.1 c15
      refine L_iconst (pc := 22) (v := 0) X d_X7_hasRoom_22 (by decide) ?_
      exact L_zretB (pc := 23) X hr d_X7_hasRoom_23 false rfl (by decide) (by decide) ⟨_, _, rfl, rfl, h⟩
    · replace h := h.2 c15
      refine L_iconst (pc := 18) (v := 1) X d_X7_hasRoom_18 (by decide) ?_
      refine L_goto (pc := 19) (tgt := 23) X d_X7_hasRoom_19 (by decide) ?_
      exact L_zretB (pc := 23) X hr d_X7_hasRoom_23 true rfl (by decide) (by decide) ⟨_, _, rfl, rfl, h⟩
end G_X7_hasRoom
theorem d_X7_copyFrom_0 : decode cX7_copyFrom 0 = .ok (.aload_n 0, 1) := by decide +kernel
theorem d_X7_copyFrom_1 : decode cX7_copyFrom 1 = .ok (.aload_n 1, 1) := by decide +kernel
theorem d_X7_copyFrom_2 : decode cX7_copyFrom 2 = .ok (.getfield 7, 3) := by decide +kernel
theorem d_X7_copyFrom_5 : decode cX7_copyFrom 5 = .ok (.putfield 7, 3) := by decide +kernel
theorem d_X7_copyFrom_8 : decode cX7_copyFrom 8 = .ok (.aload_n 0, 1) := by decide +kernel
theorem d_X7_copyFrom_9 : decode cX7_copyFrom 9 = .ok (.aload_n 1, 1) := by decide +kernel
theorem d_X7_copyFrom_10 : decode cX7_copyFrom 10 = .ok (.getfield 19, 3) := by decide +kernel
theorem d_X7_copyFrom_13 : decode cX7_copyFrom 13 = .ok (.putfield 19, 3) := by decide +kernel
theorem d_X7_copyFrom_16 : decode cX7_copyFrom 16 = .ok (.aload_n 0, 1) := by decide +kernel
theorem d_X7_copyFrom_17 : decode cX7_copyFrom 17 = .ok (.aload_n 1, 1) := by decide +kernel
theorem d_X7_copyFrom_18 : decode cX7_copyFrom 18 = .ok (.getfield 13, 3) := by decide +kernel
theorem d_X7_copyFrom_21 : decode cX7_copyFrom 21 = .ok (.putfield 13, 3) := by decide +kernel
theorem d_X7_copyFrom_24 : decode cX7_copyFrom 24 = .ok (.aload_n 0, 1) := by decide +kernel
theorem d_X7_copyFrom_25 : decode cX7_copyFrom 25 = .ok (.aload_n 1, 1) := by decide +kernel
theorem d_X7_copyFrom_26 : decode cX7_copyFrom 26 = .ok (.getfield 16, 3) := by decide +kernel
theorem d_X7_copyFrom_29 : decode cX7_copyFrom 29 = .ok (.putfield 16, 3) := by decide +kernel
theorem d_X7_copyFrom_32 : decode cX7_copyFrom 32 = .ok (.return_, 1) := by decide +kernel
abbrev rm_X7_copyFrom : Room := { frames := 0, cells := 0, slots := 0, locals := 0 }
def w_X7_copyFrom (post : CMu → Prop) (a0 : Nat) (a1 : Nat) (cm : CMu) : Prop := post (uI (uI (uI (uI cm a0 0 (gI cm a1 0)) a0 1 (gI (uI cm a0 0 (gI cm a1 0)) a1 1)) a0 2 (gI (uI (uI cm a0 0 (gI cm a1 0)) a0 1 (gI (uI cm a0 0 (gI cm a1 0)) a1 1)) a1 2)) a0 3 (gI (uI (uI (uI cm a0 0 (gI cm a1 0)) a0 1 (gI (uI cm a0 0 (gI cm a1 0)) a1 1)) a0 2 (gI (uI (uI cm a0 0 (gI cm a1 0)) a0 1 (gI (uI cm a0 0 (gI cm a1 0)) a1 1)) a1 2)) a1 3))
section G_X7_copyFrom
variable {p : Program} {l : Launch} {e : Env} {s : State} {m : MethodId} {args : Array Value} {below : List Frame} {meth : Method} {c : Code} {G : Gd} {ρ : Nat → Nat} {A : Nat → Prop} {mm : Nat → Nat → Int32} {oo : Nat → Int64}
set_option maxHeartbeats 4000000 in
set_option maxRecDepth 100000 in
theorem c_X7_copyFrom (hl : l.stackTraces = false) {a0 : Nat} {a1 : Nat} (h_a0 : (KD a0).1 = 6) (h_a1 : (KD a1).1 = 6) {cm : CMu} {post : CMu → Prop} (h : w_X7_copyFrom post a0 a1 cm) : CT l yX7_copyFrom (.code yX7_copyFrom cX7_copyFrom 2 none) rm_X7_copyFrom 0 0 G ρ [.ref a0, .ref a1] (cm, mm, oo) (PV (fun u => (u, mm, oo)) post) noX := by
  refine CT_of hl (by decide +kernel) rfl (Nat.le_of_ble_eq_true rfl) (lv0 := [(0, .ref a0), (1, .ref a1)]) rfl (fun p e s m args below meth c A X hr hex hnm => ?_)
  unfold w_X7_copyFrom at h
  refine L_aload_n (pc := 0) X d_X7_copyFrom_0 rfl 0 rfl ?_
  refine L_aload_n (pc := 1) X d_X7_copyFrom_1 rfl 1 rfl ?_
  refine gf_X7_7 (pc := 2) X d_X7_copyFrom_2 h_a1 ?_
  refine pf_X7_7 (pc := 5) X d_X7_copyFrom_5 h_a0 ?_
  refine L_aload_n (pc := 8) X d_X7_copyFrom_8 rfl 0 rfl ?_
  refine L_aload_n (pc := 9) X d_X7_copyFrom_9 rfl 1 rfl ?_
  refine gf_X7_19 (pc := 10) X d_X7_copyFrom_10 h_a1 ?_
  refine pf_X7_19 (pc := 13) X d_X7_copyFrom_13 h_a0 ?_
  refine L_aload_n (pc := 16) X d_X7_copyFrom_16 rfl 0 rfl ?_
  refine L_aload_n (pc := 17) X d_X7_copyFrom_17 rfl 1 rfl ?_
  refine gf_X7_13 (pc := 18) X d_X7_copyFrom_18 h_a1 ?_
  refine pf_X7_13 (pc := 21) X d_X7_copyFrom_21 h_a0 ?_
  refine L_aload_n (pc := 24) X d_X7_copyFrom_24 rfl 0 rfl ?_
  refine L_aload_n (pc := 25) X d_X7_copyFrom_25 rfl 1 rfl ?_
  refine gf_X7_16 (pc := 26) X d_X7_copyFrom_26 h_a1 ?_
  refine pf_X7_16 (pc := 29) X d_X7_copyFrom_29 h_a0 ?_
  exact L_vret (pc := 32) X hr d_X7_copyFrom_32 (by decide) (by decide) ⟨_, rfl, rfl, h⟩
end G_X7_copyFrom
theorem d_X9_add_0 : decode cX9_add 0 = .ok (.bipush 24, 2) := by decide +kernel
theorem d_X9_add_2 : decode cX9_add 2 = .ok (.istore_n 2, 1) := by decide +kernel
theorem d_X9_add_3 : decode cX9_add 3 = .ok (.iload_n 2, 1) := by decide +kernel
theorem d_X9_add_4 : decode cX9_add 4 = .ok (.ifCond .lt 47, 3) := by decide +kernel
theorem d_X9_add_7 : decode cX9_add 7 = .ok (.aload_n 0, 1) := by decide +kernel
theorem d_X9_add_8 : decode cX9_add 8 = .ok (.getfield 15, 3) := by decide +kernel
theorem d_X9_add_11 : decode cX9_add 11 = .ok (.aload_n 0, 1) := by decide +kernel
theorem d_X9_add_12 : decode cX9_add 12 = .ok (.getfield 9, 3) := by decide +kernel
theorem d_X9_add_15 : decode cX9_add 15 = .ok (.arraylength, 1) := by decide +kernel
theorem d_X9_add_16 : decode cX9_add 16 = .ok (.if_icmp .ge 35, 3) := by decide +kernel
theorem d_X9_add_19 : decode cX9_add 19 = .ok (.aload_n 0, 1) := by decide +kernel
theorem d_X9_add_20 : decode cX9_add 20 = .ok (.getfield 9, 3) := by decide +kernel
theorem d_X9_add_23 : decode cX9_add 23 = .ok (.aload_n 0, 1) := by decide +kernel
theorem d_X9_add_24 : decode cX9_add 24 = .ok (.getfield 15, 3) := by decide +kernel
theorem d_X9_add_27 : decode cX9_add 27 = .ok (.iload_n 1, 1) := by decide +kernel
theorem d_X9_add_28 : decode cX9_add 28 = .ok (.iload_n 2, 1) := by decide +kernel
theorem d_X9_add_29 : decode cX9_add 29 = .ok (.iushr, 1) := by decide +kernel
theorem d_X9_add_30 : decode cX9_add 30 = .ok (.sipush 255, 3) := by decide +kernel
theorem d_X9_add_33 : decode cX9_add 33 = .ok (.iand, 1) := by decide +kernel
theorem d_X9_add_34 : decode cX9_add 34 = .ok (.iastore, 1) := by decide +kernel
theorem d_X9_add_35 : decode cX9_add 35 = .ok (.aload_n 0, 1) := by decide +kernel
theorem d_X9_add_36 : decode cX9_add 36 = .ok (.dup, 1) := by decide +kernel
theorem d_X9_add_37 : decode cX9_add 37 = .ok (.getfield 15, 3) := by decide +kernel
theorem d_X9_add_40 : decode cX9_add 40 = .ok (.iconst 1, 1) := by decide +kernel
theorem d_X9_add_41 : decode cX9_add 41 = .ok (.iadd, 1) := by decide +kernel
theorem d_X9_add_42 : decode cX9_add 42 = .ok (.putfield 15, 3) := by decide +kernel
theorem d_X9_add_45 : decode cX9_add 45 = .ok (.iinc 2 (-8), 3) := by decide +kernel
theorem d_X9_add_48 : decode cX9_add 48 = .ok (.goto (-45), 3) := by decide +kernel
theorem d_X9_add_51 : decode cX9_add 51 = .ok (.return_, 1) := by decide +kernel
abbrev rm_X9_add : Room := { frames := 0, cells := 0, slots := 0, locals := 0 }
def B_X9_add_51 (post : CMu → Prop) (cm : CMu) : Prop := post cm
def B_X9_add_3 (post : CMu → Prop) : Nat → Int32 → Int32 → CMu → Prop
  | 0 => fun _ _ _ => False
  | n + 1 => fun v1 v2 cm => (v2 < 0 → (B_X9_add_51 post cm)) ∧ (¬ v2 < 0 → ((400 ≤ (gI cm 2 1) → (B_X9_add_51 post cm)) ∧ (¬ 400 ≤ (gI cm 2 1) → ((vp_in (gI cm 2 1) 400) ∧ B_X9_add_3 post n v1 (v2 + (-8)) (uI (uI cm 3 (Int32.toNatClampNeg (gI cm 2 1)) ((UInt32.toInt32 (Int32.toUInt32 v1 >>> (Int32.toUInt32 v2 &&& Int32.toUInt32 31))) &&& 255)) 2 1 ((gI (uI cm 3 (Int32.toNatClampNeg (gI cm 2 1)) ((UInt32.toInt32 (Int32.toUInt32 v1 >>> (Int32.toUInt32 v2 &&& Int32.toUInt32 31))) &&& 255)) 2 1) + 1))))))
def w_X9_add (post : CMu → Prop) (x1 : Int32) (cm : CMu) : Prop := ∃ n3, B_X9_add_3 post n3 x1 24 cm
section G_X9_add
variable {p : Program} {l : Launch} {e : Env} {s : State} {m : MethodId} {args : Array Value} {below : List Frame} {meth : Method} {c : Code} {G : Gd} {ρ : Nat → Nat} {A : Nat → Prop} {mm : Nat → Nat → Int32} {oo : Nat → Int64}
set_option maxHeartbeats 4000000 in
set_option maxRecDepth 100000 in
theorem T_X9_add_51 {post : CMu → Prop} (hl : l.stackTraces = false) (X : MC p l s m args meth c cX9_add 3 RX9 G ρ A) (hr : meth.sig.returnType = none) (hex : ∀ z ∈ c.exceptionTable.toList, False) : ∀ (cm : CMu), B_X9_add_51 post cm → LW p l e rm_X9_add s m args below meth c (Qm below G ρ A (PV (fun u => (u, mm, oo)) post) noX args s 0 0) G ρ A 3 0 0 51 [] [] (cm, mm, oo) := by
  intro cm h
  unfold B_X9_add_51 at h
  exact L_vret (pc := 51) X hr d_X9_add_51 (by decide) (by decide) ⟨_, rfl, rfl, h⟩
set_option maxHeartbeats 4000000 in
set_option maxRecDepth 100000 in
theorem T_X9_add_3 {post : CMu → Prop} (hl : l.stackTraces = false) (X : MC p l s m args meth c cX9_add 3 RX9 G ρ A) (hr : meth.sig.returnType = none) (hex : ∀ z ∈ c.exceptionTable.toList, False) (n : Nat) : ∀ (v1 : Int32) (v2 : Int32) (cm : CMu), B_X9_add_3 post n v1 v2 cm → LW p l e rm_X9_add s m args below meth c (Qm below G ρ A (PV (fun u => (u, mm, oo)) post) noX args s 0 0) G ρ A 3 0 0 3 [(0, .ref 2), (1, .int v1), (2, .int v2)] [] (cm, mm, oo) := by
  induction n with
  | zero =>
    intro v1 v2 cm h
    exact False.elim h
  | succ n ih =>
    intro v1 v2 cm h
    unfold B_X9_add_3 at h
    refine L_iload_n (pc := 3) X d_X9_add_3 rfl 2 rfl ?_
    refine L_if_lt (pc := 4) (tgt := 51) X d_X9_add_4 (by decide) (fun c4 => ?_) (fun c4 => ?_)
    · replace h := h.1 c4
      refine LW.sub [] rfl ?_
      exact T_X9_add_51 hl X hr hex   _ h
    · replace h := h.2 c4
      refine L_aload_n (pc := 7) X d_X9_add_7 rfl 0 rfl ?_
      refine gf_X9_15 (pc := 8) X d_X9_add_8 kd_2 ?_
      refine L_aload_n (pc := 11) X d_X9_add_11 rfl 0 rfl ?_
      refine gf_X9_9 (pc := 12) (b := 3) X d_X9_add_12 kd_2 rfl ?_
      refine L_alen (pc := 15) (v := 400) X d_X9_add_15 kd_3 rfl ?_
      refine L_icmp_ge (pc := 16) (tgt := 51) X d_X9_add_16 (by decide) (fun c16 => ?_) (fun c16 => ?_)
      · replace h := h.1 c16
        refine LW.sub [] rfl ?_
        exact T_X9_add_51 hl X hr hex   _ h
      · replace h := h.2 c16
        refine L_aload_n (pc := 19) X d_X9_add_19 rfl 0 rfl ?_
        refine gf_X9_9 (pc := 20) (b := 3) X d_X9_add_20 kd_2 rfl ?_
        refine L_aload_n (pc := 23) X d_X9_add_23 rfl 0 rfl ?_
        refine gf_X9_15 (pc := 24) X d_X9_add_24 kd_2 ?_
        refine L_iload_n (pc := 27) X d_X9_add_27 rfl 1 rfl ?_
        refine L_iload_n (pc := 28) X d_X9_add_28 rfl 2 rfl ?_
        refine L_iushr (pc := 29) X d_X9_add_29 ?_
        refine L_sipush (pc := 30) (v := 255) X d_X9_add_30 (by decide) ?_
        refine L_iand (pc := 33) X d_X9_add_33 ?_
        obtain ⟨q1, h⟩ := h
        refine L_iast (pc := 34) X d_X9_add_34 kd_3 q1 ?_
        refine L_aload_n (pc := 35) X d_X9_add_35 rfl 0 rfl ?_
        refine L_dup (pc := 36) X d_X9_add_36 rfl ?_
        refine gf_X9_15 (pc := 37) X d_X9_add_37 kd_2 ?_
        refine L_iconst (pc := 40) (v := 1) X d_X9_add_40 (by decide) ?_
        refine L_iadd (pc := 41) X d_X9_add_41 ?_
        refine pf_X9_15 (pc := 42) X d_X9_add_42 kd_2 ?_
        refine L_iinc (pc := 45) (v := v2 + (-8)) (lv2 := [(2, .int (v2 + (-8))), (0, .ref 2), (1, .int v1)]) X d_X9_add_45 2 rfl rfl (by decide) rfl ?_
        refine L_goto (pc := 48) (tgt := 3) X d_X9_add_48 (by decide) ?_
        refine LW.sub [1, 2, 0] rfl ?_
        exact ih _ _  _ h
set_option maxHeartbeats 4000000 in
set_option maxRecDepth 100000 in
theorem c_X9_add (hl : l.stackTraces = false) {x1 : Int32} {cm : CMu} {post : CMu → Prop} (h : w_X9_add post x1 cm) : CT l yX9_add (.code yX9_add cX9_add 3 none) rm_X9_add 0 0 G ρ [.ref 2, .int x1] (cm, mm, oo) (PV (fun u => (u, mm, oo)) post) noX := by
  refine CT_of hl (by decide +kernel) rfl (Nat.le_of_ble_eq_true rfl) (lv0 := [(0, .ref 2), (1, .int x1)]) rfl (fun p e s m args below meth c A X hr hex hnm => ?_)
  unfold w_X9_add at h
  refine L_bipush (pc := 0) (v := 24) X d_X9_add_0 (by decide) ?_
  refine L_istore_n (pc := 2) (lv2 := [(2, .int 24), (0, .ref 2), (1, .int x1)]) X d_X9_add_2 rfl (by decide) rfl ?_
  obtain ⟨n3, h⟩ := h
  refine LW.sub [1, 2, 0] rfl ?_
  exact T_X9_add_3 hl X hr hex n3 _ _  _ h
end G_X9_add
theorem d_X9_useUp_0 : decode cX9_useUp 0 = .ok (.aload_n 0, 1) := by decide +kernel
theorem d_X9_useUp_1 : decode cX9_useUp 1 = .ok (.getfield 15, 3) := by decide +kernel
theorem d_X9_useUp_4 : decode cX9_useUp 4 = .ok (.istore_n 1, 1) := by decide +kernel
theorem d_X9_useUp_5 : decode cX9_useUp 5 = .ok (.aload_n 0, 1) := by decide +kernel
theorem d_X9_useUp_6 : decode cX9_useUp 6 = .ok (.iconst 0, 1) := by decide +kernel
theorem d_X9_useUp_7 : decode cX9_useUp 7 = .ok (.putfield 15, 3) := by decide +kernel
theorem d_X9_useUp_10 : decode cX9_useUp 10 = .ok (.iload_n 1, 1) := by decide +kernel
theorem d_X9_useUp_11 : decode cX9_useUp 11 = .ok (.ireturn, 1) := by decide +kernel
abbrev rm_X9_useUp : Room := { frames := 0, cells := 0, slots := 0, locals := 0 }
def w_X9_useUp (post : Int32 → CMu → Prop) (cm : CMu) : Prop := post (gI cm 2 1) (uI cm 2 1 0)
section G_X9_useUp
variable {p : Program} {l : Launch} {e : Env} {s : State} {m : MethodId} {args : Array Value} {below : List Frame} {meth : Method} {c : Code} {G : Gd} {ρ : Nat → Nat} {A : Nat → Prop} {mm : Nat → Nat → Int32} {oo : Nat → Int64}
set_option maxHeartbeats 4000000 in
set_option maxRecDepth 100000 in
theorem c_X9_useUp (hl : l.stackTraces = false) {cm : CMu} {post : Int32 → CMu → Prop} (h : w_X9_useUp post cm) : CT l yX9_useUp (.code yX9_useUp cX9_useUp 2 (some .int)) rm_X9_useUp 0 0 G ρ [.ref 2] (cm, mm, oo) (PI (fun u => (u, mm, oo)) post) noX := by
  refine CT_of hl (by decide +kernel) rfl (Nat.le_of_ble_eq_true rfl) (lv0 := [(0, .ref 2)]) rfl (fun p e s m args below meth c A X hr hex hnm => ?_)
  unfold w_X9_useUp at h
  refine L_aload_n (pc := 0) X d_X9_useUp_0 rfl 0 rfl ?_
  refine gf_X9_15 (pc := 1) X d_X9_useUp_1 kd_2 ?_
  refine L_istore_n (pc := 4) (lv2 := [(1, .int (gI cm 2 1)), (0, .ref 2)]) X d_X9_useUp_4 rfl (by decide) rfl ?_
  refine L_aload_n (pc := 5) X d_X9_useUp_5 rfl 1 rfl ?_
  refine L_iconst (pc := 6) (v := 0) X d_X9_useUp_6 (by decide) ?_
  refine pf_X9_15 (pc := 7) X d_X9_useUp_7 kd_2 ?_
  refine L_iload_n (pc := 10) X d_X9_useUp_10 rfl 0 rfl ?_
  exact L_iret (pc := 11) X hr d_X9_useUp_11 (by decide) (by decide) ⟨_, _, rfl, rfl, h⟩
end G_X9_useUp
theorem d_X4_hour_0 : decode cX4_hour 0 = .ok (.aload_n 0, 1) := by decide +kernel
theorem d_X4_hour_1 : decode cX4_hour 1 = .ok (.getfield 68, 3) := by decide +kernel
theorem d_X4_hour_4 : decode cX4_hour 4 = .ok (.bipush 60, 2) := by decide +kernel
theorem d_X4_hour_6 : decode cX4_hour 6 = .ok (.idiv, 1) := by decide +kernel
theorem d_X4_hour_7 : decode cX4_hour 7 = .ok (.bipush 24, 2) := by decide +kernel
theorem d_X4_hour_9 : decode cX4_hour 9 = .ok (.irem, 1) := by decide +kernel
theorem d_X4_hour_10 : decode cX4_hour 10 = .ok (.ireturn, 1) := by decide +kernel
abbrev rm_X4_hour : Room := { frames := 0, cells := 0, slots := 0, locals := 0 }
def w_X4_hour (post : Int32 → CMu → Prop) (a0 : Nat) (cm : CMu) : Prop := post (((gI cm a0 12) / 60) - ((gI cm a0 12) / 60) / 24 * 24) cm
section G_X4_hour
variable {p : Program} {l : Launch} {e : Env} {s : State} {m : MethodId} {args : Array Value} {below : List Frame} {meth : Method} {c : Code} {G : Gd} {ρ : Nat → Nat} {A : Nat → Prop} {mm : Nat → Nat → Int32} {oo : Nat → Int64}
set_option maxHeartbeats 4000000 in
set_option maxRecDepth 100000 in
theorem c_X4_hour (hl : l.stackTraces = false) {a0 : Nat} (h_a0 : (KD a0).1 = 3) {cm : CMu} {post : Int32 → CMu → Prop} (h : w_X4_hour post a0 cm) : CT l yX4_hour (.code yX4_hour cX4_hour 1 (some .int)) rm_X4_hour 0 0 G ρ [.ref a0] (cm, mm, oo) (PI (fun u => (u, mm, oo)) post) noX := by
  refine CT_of hl (by decide +kernel) rfl (Nat.le_of_ble_eq_true rfl) (lv0 := [(0, .ref a0)]) rfl (fun p e s m args below meth c A X hr hex hnm => ?_)
  unfold w_X4_hour at h
  refine L_aload_n (pc := 0) X d_X4_hour_0 rfl 0 rfl ?_
  refine gf_X4_68 (pc := 1) X d_X4_hour_1 h_a0 ?_
  refine L_bipush (pc := 4) (v := 60) X d_X4_hour_4 (by decide) ?_
  refine L_idiv (pc := 6) X d_X4_hour_6 (by decide) ?_
  refine L_bipush (pc := 7) (v := 24) X d_X4_hour_7 (by decide) ?_
  refine L_irem (pc := 9) X d_X4_hour_9 (by decide) ?_
  exact L_iret (pc := 10) X hr d_X4_hour_10 (by decide) (by decide) ⟨_, _, rfl, rfl, h⟩
end G_X4_hour
theorem d_X4_mayGrow_0 : decode cX4_mayGrow 0 = .ok (.aload_n 0, 1) := by decide +kernel
theorem d_X4_mayGrow_1 : decode cX4_mayGrow 1 = .ok (.getfield 50, 3) := by decide +kernel
theorem d_X4_mayGrow_4 : decode cX4_mayGrow 4 = .ok (.bipush 11, 2) := by decide +kernel
theorem d_X4_mayGrow_6 : decode cX4_mayGrow 6 = .ok (.if_icmp .ge 14, 3) := by decide +kernel
theorem d_X4_mayGrow_9 : decode cX4_mayGrow 9 = .ok (.aload_n 0, 1) := by decide +kernel
theorem d_X4_mayGrow_10 : decode cX4_mayGrow 10 = .ok (.getfield 53, 3) := by decide +kernel
theorem d_X4_mayGrow_13 : decode cX4_mayGrow 13 = .ok (.ifCond .ne 7, 3) := by decide +kernel
theorem d_X4_mayGrow_16 : decode cX4_mayGrow 16 = .ok (.iconst 1, 1) := by decide +kernel
theorem d_X4_mayGrow_17 : decode cX4_mayGrow 17 = .ok (.goto 4, 3) := by decide +kernel
theorem d_X4_mayGrow_20 : decode cX4_mayGrow 20 = .ok (.iconst 0, 1) := by decide +kernel
theorem d_X4_mayGrow_21 : decode cX4_mayGrow 21 = .ok (.ireturn, 1) := by decide +kernel
abbrev rm_X4_mayGrow : Room := { frames := 0, cells := 0, slots := 0, locals := 0 }
def w_X4_mayGrow (post : Bool → CMu → Prop) (a0 : Nat) (cm : CMu) : Prop := (11 ≤ (gI cm a0 5) → (post false cm)) ∧ (¬ 11 ≤ (gI cm a0 5) → ((¬ (gI cm a0 6) = 0 → (post false cm)) ∧ ((gI cm a0 6) = 0 → (post true cm))))
section G_X4_mayGrow
variable {p : Program} {l : Launch} {e : Env} {s : State} {m : MethodId} {args : Array Value} {below : List Frame} {meth : Method} {c : Code} {G : Gd} {ρ : Nat → Nat} {A : Nat → Prop} {mm : Nat → Nat → Int32} {oo : Nat → Int64}
set_option maxHeartbeats 4000000 in
set_option maxRecDepth 100000 in
theorem c_X4_mayGrow (hl : l.stackTraces = false) {a0 : Nat} (h_a0 : (KD a0).1 = 3) {cm : CMu} {post : Bool → CMu → Prop} (h : w_X4_mayGrow post a0 cm) : CT l yX4_mayGrow (.code yX4_mayGrow cX4_mayGrow 1 (some .boolean)) rm_X4_mayGrow 0 0 G ρ [.ref a0] (cm, mm, oo) (PZ (fun u => (u, mm, oo)) post) noX := by
  refine CT_of hl (by decide +kernel) rfl (Nat.le_of_ble_eq_true rfl) (lv0 := [(0, .ref a0)]) rfl (fun p e s m args below meth c A X hr hex hnm => ?_)
  unfold w_X4_mayGrow at h
  refine L_aload_n (pc := 0) X d_X4_mayGrow_0 rfl 0 rfl ?_
  refine gf_X4_50 (pc := 1) X d_X4_mayGrow_1 h_a0 ?_
  refine L_bipush (pc := 4) (v := 11) X d_X4_mayGrow_4 (by decide) ?_
  refine L_icmp_ge (pc := 6) (tgt := 20) X d_X4_mayGrow_6 (by decide) (fun c6 => ?_) (fun c6 => ?_)
  · replace h := h.1 c6
    refine L_iconst (pc := 20) (v := 0) X d_X4_mayGrow_20 (by decide) ?_
    exact L_zretB (pc := 21) X hr d_X4_mayGrow_21 false rfl (by decide) (by decide) ⟨_, _, rfl, rfl, h⟩
  · replace h := h.2 c6
    refine L_aload_n (pc := 9) X d_X4_mayGrow_9 rfl 0 rfl ?_
    refine gf_X4_53 (pc := 10) X d_X4_mayGrow_10 h_a0 ?_
    refine L_if_ne (pc := 13) (tgt := 20) X d_X4_mayGrow_13 (by decide) (fun c13 => ?_) (fun c13 => ?_)
    · replace h := h.1 c13
      refine L_iconst (pc := 20) (v := 0) X d_X4_mayGrow_20 (by decide) ?_
      exact L_zretB (pc := 21) X hr d_X4_mayGrow_21 false rfl (by decide) (by decide) ⟨_, _, rfl, rfl, h⟩
    · replace h := h.2 c13
      refine L_iconst (pc := 16) (v := 1) X d_X4_mayGrow_16 (by decide) ?_
      refine L_goto (pc := 17) (tgt := 21) X d_X4_mayGrow_17 (by decide) ?_
      exact L_zretB (pc := 21) X hr d_X4_mayGrow_21 true rfl (by decide) (by decide) ⟨_, _, rfl, rfl, h⟩
end G_X4_mayGrow
theorem d_X4_free_0 : decode cX4_free 0 = .ok (.iconst 0, 1) := by decide +kernel
theorem d_X4_free_1 : decode cX4_free 1 = .ok (.istore_n 2, 1) := by decide +kernel
theorem d_X4_free_2 : decode cX4_free 2 = .ok (.iconst 0, 1) := by decide +kernel
theorem d_X4_free_3 : decode cX4_free 3 = .ok (.istore_n 3, 1) := by decide +kernel
theorem d_X4_free_4 : decode cX4_free 4 = .ok (.iload_n 3, 1) := by decide +kernel
theorem d_X4_free_5 : decode cX4_free 5 = .ok (.aload_n 0, 1) := by decide +kernel
theorem d_X4_free_6 : decode cX4_free 6 = .ok (.getfield 53, 3) := by decide +kernel
theorem d_X4_free_9 : decode cX4_free 9 = .ok (.if_icmp .ge 48, 3) := by decide +kernel
theorem d_X4_free_12 : decode cX4_free 12 = .ok (.aload_n 0, 1) := by decide +kernel
theorem d_X4_free_13 : decode cX4_free 13 = .ok (.getfield 25, 3) := by decide +kernel
theorem d_X4_free_16 : decode cX4_free 16 = .ok (.iload_n 3, 1) := by decide +kernel
theorem d_X4_free_17 : decode cX4_free 17 = .ok (.aaload, 1) := by decide +kernel
theorem d_X4_free_18 : decode cX4_free 18 = .ok (.getfield 168, 3) := by decide +kernel
theorem d_X4_free_21 : decode cX4_free 21 = .ok (.iconst 2, 1) := by decide +kernel
theorem d_X4_free_22 : decode cX4_free 22 = .ok (.if_icmp .ne 29, 3) := by decide +kernel
theorem d_X4_free_25 : decode cX4_free 25 = .ok (.aload_n 0, 1) := by decide +kernel
theorem d_X4_free_26 : decode cX4_free 26 = .ok (.getfield 25, 3) := by decide +kernel
theorem d_X4_free_29 : decode cX4_free 29 = .ok (.iload_n 3, 1) := by decide +kernel
theorem d_X4_free_30 : decode cX4_free 30 = .ok (.aaload, 1) := by decide +kernel
theorem d_X4_free_31 : decode cX4_free 31 = .ok (.getfield 171, 3) := by decide +kernel
theorem d_X4_free_34 : decode cX4_free 34 = .ok (.iload_n 1, 1) := by decide +kernel
theorem d_X4_free_35 : decode cX4_free 35 = .ok (.if_icmp .ne 16, 3) := by decide +kernel
theorem d_X4_free_38 : decode cX4_free 38 = .ok (.aload_n 0, 1) := by decide +kernel
theorem d_X4_free_39 : decode cX4_free 39 = .ok (.getfield 25, 3) := by decide +kernel
theorem d_X4_free_42 : decode cX4_free 42 = .ok (.iload_n 3, 1) := by decide +kernel
theorem d_X4_free_43 : decode cX4_free 43 = .ok (.aaload, 1) := by decide +kernel
theorem d_X4_free_44 : decode cX4_free 44 = .ok (.iconst 1, 1) := by decide +kernel
theorem d_X4_free_45 : decode cX4_free 45 = .ok (.putfield 168, 3) := by decide +kernel
theorem d_X4_free_48 : decode cX4_free 48 = .ok (.iinc 2 1, 3) := by decide +kernel
theorem d_X4_free_51 : decode cX4_free 51 = .ok (.iinc 3 1, 3) := by decide +kernel
theorem d_X4_free_54 : decode cX4_free 54 = .ok (.goto (-50), 3) := by decide +kernel
theorem d_X4_free_57 : decode cX4_free 57 = .ok (.iload_n 2, 1) := by decide +kernel
theorem d_X4_free_58 : decode cX4_free 58 = .ok (.ireturn, 1) := by decide +kernel
abbrev rm_X4_free : Room := { frames := 0, cells := 0, slots := 0, locals := 0 }
def B_X4_free_51 (post : Int32 → CMu → Prop) (k4 : Nat → Int32 → Int32 → Int32 → CMu → Prop) (v0 : Nat) (v1 : Int32) (v2 : Int32) (v3 : Int32) (cm : CMu) : Prop := k4 v0 v1 v2 (v3 + 1) cm
def B_X4_free_4 (post : Int32 → CMu → Prop) : Nat → Nat → Int32 → Int32 → Int32 → CMu → Prop
  | 0 => fun _ _ _ _ _ => False
  | n + 1 => fun v0 v1 v2 v3 cm => ((gI cm v0 6) ≤ v3 → (post v2 cm)) ∧ (¬ (gI cm v0 6) ≤ v3 → ((vp_in v3 60) ∧ (¬ (gI cm (v0 + 47 + Int32.toNatClampNeg v3) 0) = 2 → (B_X4_free_51 post (B_X4_free_4 post n) v0 v1 v2 v3 cm)) ∧ ((gI cm (v0 + 47 + Int32.toNatClampNeg v3) 0) = 2 → ((vp_in v3 60) ∧ (¬ (gI cm (v0 + 47 + Int32.toNatClampNeg v3) 1) = v1 → (B_X4_free_51 post (B_X4_free_4 post n) v0 v1 v2 v3 cm)) ∧ ((gI cm (v0 + 47 + Int32.toNatClampNeg v3) 1) = v1 → ((vp_in v3 60) ∧ B_X4_free_51 post (B_X4_free_4 post n) v0 v1 (v2 + 1) v3 (uI cm (v0 + 47 + Int32.toNatClampNeg v3) 0 1)))))))
def w_X4_free (post : Int32 → CMu → Prop) (a0 : Nat) (x1 : Int32) (cm : CMu) : Prop := ∃ n4, B_X4_free_4 post n4 a0 x1 0 0 cm
section G_X4_free
variable {p : Program} {l : Launch} {e : Env} {s : State} {m : MethodId} {args : Array Value} {below : List Frame} {meth : Method} {c : Code} {G : Gd} {ρ : Nat → Nat} {A : Nat → Prop} {mm : Nat → Nat → Int32} {oo : Nat → Int64}
set_option maxHeartbeats 4000000 in
set_option maxRecDepth 100000 in
theorem T_X4_free_51 {post : Int32 → CMu → Prop} {k4 : Nat → Int32 → Int32 → Int32 → CMu → Prop} (hl : l.stackTraces = false) (X : MC p l s m args meth c cX4_free 4 RX4 G ρ A) (hr : meth.sig.returnType = (some .int)) (hex : ∀ z ∈ c.exceptionTable.toList, False)
    (hk4 : ∀ (v0 : Nat) (v1 : Int32) (v2 : Int32) (v3 : Int32) (h_v0 : (KD v0).1 = 3) (cm : CMu), k4 v0 v1 v2 v3 cm → LW p l e rm_X4_free s m args below meth c (Qm below G ρ A (PI (fun u => (u, mm, oo)) post) noX args s 0 0) G ρ A 4 0 0 4 [(0, .ref v0), (1, .int v1), (2, .int v2), (3, .int v3)] [] (cm, mm, oo)) : ∀ (v0 : Nat) (v1 : Int32) (v2 : Int32) (v3 : Int32) (h_v0 : (KD v0).1 = 3) (cm : CMu), B_X4_free_51 post k4 v0 v1 v2 v3 cm → LW p l e rm_X4_free s m args below meth c (Qm below G ρ A (PI (fun u => (u, mm, oo)) post) noX args s 0 0) G ρ A 4 0 0 51 [(0, .ref v0), (1, .int v1), (2, .int v2), (3, .int v3)] [] (cm, mm, oo) := by
  intro v0 v1 v2 v3 h_v0 cm h
  unfold B_X4_free_51 at h
  refine L_iinc (pc := 51) (v := v3 + 1) (lv2 := [(3, .int (v3 + 1)), (0, .ref v0), (1, .int v1), (2, .int v2)]) X d_X4_free_51 3 rfl rfl (by decide) rfl ?_
  refine L_goto (pc := 54) (tgt := 4) X d_X4_free_54 (by decide) ?_
  refine LW.sub [1, 2, 3, 0] rfl ?_
  exact hk4 _ _ _ _ h_v0 _ h
set_option maxHeartbeats 4000000 in
set_option maxRecDepth 100000 in
theorem T_X4_free_4 {post : Int32 → CMu → Prop} (hl : l.stackTraces = false) (X : MC p l s m args meth c cX4_free 4 RX4 G ρ A) (hr : meth.sig.returnType = (some .int)) (hex : ∀ z ∈ c.exceptionTable.toList, False) (n : Nat) : ∀ (v0 : Nat) (v1 : Int32) (v2 : Int32) (v3 : Int32) (h_v0 : (KD v0).1 = 3) (cm : CMu), B_X4_free_4 post n v0 v1 v2 v3 cm → LW p l e rm_X4_free s m args below meth c (Qm below G ρ A (PI (fun u => (u, mm, oo)) post) noX args s 0 0) G ρ A 4 0 0 4 [(0, .ref v0), (1, .int v1), (2, .int v2), (3, .int v3)] [] (cm, mm, oo) := by
  induction n with
  | zero =>
    intro v0 v1 v2 v3 h_v0 cm h
    exact False.elim h
  | succ n ih =>
    intro v0 v1 v2 v3 h_v0 cm h
    unfold B_X4_free_4 at h
    refine L_iload_n (pc := 4) X d_X4_free_4 rfl 3 rfl ?_
    refine L_aload_n (pc := 5) X d_X4_free_5 rfl 0 rfl ?_
    refine gf_X4_53 (pc := 6) X d_X4_free_6 h_v0 ?_
    refine L_icmp_ge (pc := 9) (tgt := 57) X d_X4_free_9 (by decide) (fun c9 => ?_) (fun c9 => ?_)
    · replace h := h.1 c9
      refine L_iload_n (pc := 57) X d_X4_free_57 rfl 2 rfl ?_
      exact L_iret (pc := 58) X hr d_X4_free_58 (by decide) (by decide) ⟨_, _, rfl, rfl, h⟩
    · replace h := h.2 c9
      refine L_aload_n (pc := 12) X d_X4_free_12 rfl 0 rfl ?_
      refine gf_X4_25 (pc := 13) (b := v0 + 3) X d_X4_free_13 h_v0 rfl ?_
      refine L_iload_n (pc := 16) X d_X4_free_16 rfl 3 rfl ?_
      obtain ⟨q1, h⟩ := h
      refine L_aald24 (pc := 17) (b := v0 + 47 + Int32.toNatClampNeg v3) X d_X4_free_17 (kf_3_2 h_v0) q1 rfl ?_
      refine gf_X4_168 (pc := 18) X d_X4_free_18 (ka_24 (kf_3_2 h_v0) (vin_lt q1)) ?_
      refine L_iconst (pc := 21) (v := 2) X d_X4_free_21 (by decide) ?_
      refine L_icmp_ne (pc := 22) (tgt := 51) X d_X4_free_22 (by decide) (fun c22 => ?_) (fun c22 => ?_)
      · replace h := h.1 c22
        refine LW.sub [0, 1, 2, 3] rfl ?_
        exact T_X4_free_51 hl X hr hex ih _ _ _ _ h_v0 _ h
      · replace h := h.2 c22
        refine L_aload_n (pc := 25) X d_X4_free_25 rfl 0 rfl ?_
        refine gf_X4_25 (pc := 26) (b := v0 + 3) X d_X4_free_26 h_v0 rfl ?_
        refine L_iload_n (pc := 29) X d_X4_free_29 rfl 3 rfl ?_
        obtain ⟨q2, h⟩ := h
        refine L_aald24 (pc := 30) (b := v0 + 47 + Int32.toNatClampNeg v3) X d_X4_free_30 (kf_3_2 h_v0) q2 rfl ?_
        refine gf_X4_171 (pc := 31) X d_X4_free_31 (ka_24 (kf_3_2 h_v0) (vin_lt q2)) ?_
        refine L_iload_n (pc := 34) X d_X4_free_34 rfl 1 rfl ?_
        refine L_icmp_ne (pc := 35) (tgt := 51) X d_X4_free_35 (by decide) (fun c35 => ?_) (fun c35 => ?_)
        · replace h := h.1 c35
          refine LW.sub [0, 1, 2, 3] rfl ?_
          exact T_X4_free_51 hl X hr hex ih _ _ _ _ h_v0 _ h
        · replace h := h.2 c35
          refine L_aload_n (pc := 38) X d_X4_free_38 rfl 0 rfl ?_
          refine gf_X4_25 (pc := 39) (b := v0 + 3) X d_X4_free_39 h_v0 rfl ?_
          refine L_iload_n (pc := 42) X d_X4_free_42 rfl 3 rfl ?_
          obtain ⟨q3, h⟩ := h
          refine L_aald24 (pc := 43) (b := v0 + 47 + Int32.toNatClampNeg v3) X d_X4_free_43 (kf_3_2 h_v0) q3 rfl ?_
          refine L_iconst (pc := 44) (v := 1) X d_X4_free_44 (by decide) ?_
          refine pf_X4_168 (pc := 45) X d_X4_free_45 (ka_24 (kf_3_2 h_v0) (vin_lt q3)) ?_
          refine L_iinc (pc := 48) (v := v2 + 1) (lv2 := [(2, .int (v2 + 1)), (0, .ref v0), (1, .int v1), (3, .int v3)]) X d_X4_free_48 2 rfl rfl (by decide) rfl ?_
          refine LW.sub [1, 2, 0, 3] rfl ?_
          exact T_X4_free_51 hl X hr hex ih _ _ _ _ h_v0 _ h
set_option maxHeartbeats 4000000 in
set_option maxRecDepth 100000 in
theorem c_X4_free (hl : l.stackTraces = false) {a0 : Nat} {x1 : Int32} (h_a0 : (KD a0).1 = 3) {cm : CMu} {post : Int32 → CMu → Prop} (h : w_X4_free post a0 x1 cm) : CT l yX4_free (.code yX4_free cX4_free 4 (some .int)) rm_X4_free 0 0 G ρ [.ref a0, .int x1] (cm, mm, oo) (PI (fun u => (u, mm, oo)) post) noX := by
  refine CT_of hl (by decide +kernel) rfl (Nat.le_of_ble_eq_true rfl) (lv0 := [(0, .ref a0), (1, .int x1)]) rfl (fun p e s m args below meth c A X hr hex hnm => ?_)
  unfold w_X4_free at h
  refine L_iconst (pc := 0) (v := 0) X d_X4_free_0 (by decide) ?_
  refine L_istore_n (pc := 1) (lv2 := [(2, .int 0), (0, .ref a0), (1, .int x1)]) X d_X4_free_1 rfl (by decide) rfl ?_
  refine L_iconst (pc := 2) (v := 0) X d_X4_free_2 (by decide) ?_
  refine L_istore_n (pc := 3) (lv2 := [(3, .int 0), (2, .int 0), (0, .ref a0), (1, .int x1)]) X d_X4_free_3 rfl (by decide) rfl ?_
  obtain ⟨n4, h⟩ := h
  refine LW.sub [2, 3, 1, 0] rfl ?_
  exact T_X4_free_4 hl X hr hex n4 _ _ _ _ h_a0 _ h
end G_X4_free
