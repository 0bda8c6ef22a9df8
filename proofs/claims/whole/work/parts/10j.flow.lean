theorem d_X3_join_0 : decode cX3_join 0 = .ok (.getstatic 186, 3) := by decide +kernel
theorem d_X3_join_3 : decode cX3_join 3 = .ok (.aload_n 0, 1) := by decide +kernel
theorem d_X3_join_4 : decode cX3_join 4 = .ok (.invokevirtual 191, 3) := by decide +kernel
theorem d_X3_join_7 : decode cX3_join 7 = .ok (.iaload, 1) := by decide +kernel
theorem d_X3_join_8 : decode cX3_join 8 = .ok (.tableswitch 55 7 10 #[32, 36, 40, 44], 32) := by decide +kernel
theorem d_X3_join_40 : decode cX3_join 40 = .ok (.iload_n 1, 1) := by decide +kernel
theorem d_X3_join_41 : decode cX3_join 41 = .ok (.iload_n 2, 1) := by decide +kernel
theorem d_X3_join_42 : decode cX3_join 42 = .ok (.iadd, 1) := by decide +kernel
theorem d_X3_join_43 : decode cX3_join 43 = .ok (.ireturn, 1) := by decide +kernel
theorem d_X3_join_44 : decode cX3_join 44 = .ok (.iload_n 1, 1) := by decide +kernel
theorem d_X3_join_45 : decode cX3_join 45 = .ok (.iload_n 2, 1) := by decide +kernel
theorem d_X3_join_46 : decode cX3_join 46 = .ok (.iand, 1) := by decide +kernel
theorem d_X3_join_47 : decode cX3_join 47 = .ok (.ireturn, 1) := by decide +kernel
theorem d_X3_join_48 : decode cX3_join 48 = .ok (.iload_n 1, 1) := by decide +kernel
theorem d_X3_join_49 : decode cX3_join 49 = .ok (.iload_n 2, 1) := by decide +kernel
theorem d_X3_join_50 : decode cX3_join 50 = .ok (.ior, 1) := by decide +kernel
theorem d_X3_join_51 : decode cX3_join 51 = .ok (.ireturn, 1) := by decide +kernel
theorem d_X3_join_52 : decode cX3_join 52 = .ok (.iload_n 1, 1) := by decide +kernel
theorem d_X3_join_53 : decode cX3_join 53 = .ok (.iload_n 2, 1) := by decide +kernel
theorem d_X3_join_54 : decode cX3_join 54 = .ok (.if_icmp .ge 7, 3) := by decide +kernel
theorem d_X3_join_57 : decode cX3_join 57 = .ok (.iconst 1, 1) := by decide +kernel
theorem d_X3_join_58 : decode cX3_join 58 = .ok (.goto 4, 3) := by decide +kernel
theorem d_X3_join_61 : decode cX3_join 61 = .ok (.iconst 0, 1) := by decide +kernel
theorem d_X3_join_62 : decode cX3_join 62 = .ok (.ireturn, 1) := by decide +kernel
theorem d_X3_join_63 : decode cX3_join 63 = .ok (.iload_n 1, 1) := by decide +kernel
theorem d_X3_join_64 : decode cX3_join 64 = .ok (.iload_n 2, 1) := by decide +kernel
theorem d_X3_join_65 : decode cX3_join 65 = .ok (.if_icmp .le 7, 3) := by decide +kernel
theorem d_X3_join_68 : decode cX3_join 68 = .ok (.iconst 1, 1) := by decide +kernel
theorem d_X3_join_69 : decode cX3_join 69 = .ok (.goto 4, 3) := by decide +kernel
theorem d_X3_join_72 : decode cX3_join 72 = .ok (.iconst 0, 1) := by decide +kernel
theorem d_X3_join_73 : decode cX3_join 73 = .ok (.ireturn, 1) := by decide +kernel
abbrev rm_X3_join : Room := { frames := 4, cells := 0, slots := 0, locals := 60 }
def w_X3_join (post : Int32 → CMu → Prop) (a0 : Fin 32) (x1 : Int32) (x2 : Int32) (cm : CMu) : Prop := (¬ a0 = 0) ∧ (vp_in (wOrd a0) 31) ∧ ((Int32.toInt (swm.getD (Int32.toNatClampNeg (wOrd a0)) 0) < 7 ∨ 10 < Int32.toInt (swm.getD (Int32.toNatClampNeg (wOrd a0)) 0)) → ((x1 ≤ x2 → (post 0 cm)) ∧ (¬ x1 ≤ x2 → (post 1 cm)))) ∧ (Int32.toInt (swm.getD (Int32.toNatClampNeg (wOrd a0)) 0) = 7 → (post (x1 + x2) cm)) ∧ (Int32.toInt (swm.getD (Int32.toNatClampNeg (wOrd a0)) 0) = 8 → (post (x1 &&& x2) cm)) ∧ (Int32.toInt (swm.getD (Int32.toNatClampNeg (wOrd a0)) 0) = 9 → (post (x1 ||| x2) cm)) ∧ (Int32.toInt (swm.getD (Int32.toNatClampNeg (wOrd a0)) 0) = 10 → ((x2 ≤ x1 → (post 0 cm)) ∧ (¬ x2 ≤ x1 → (post 1 cm))))
section G_X3_join
variable {p : Program} {l : Launch} {e : Env} {s : State} {m : MethodId} {args : Array Value} {below : List Frame} {meth : Method} {c : Code} {G : Gd} {ρ : Nat → Nat} {A : Nat → Prop} {mm : Nat → Nat → Int32} {oo : Nat → Int64}
set_option maxHeartbeats 4000000 in
set_option maxRecDepth 100000 in
theorem c_X3_join (hl : l.stackTraces = false) {a0 : Fin 32} {x1 : Int32} {x2 : Int32} {cm : CMu} {post : Int32 → CMu → Prop} (h : w_X3_join post a0 x1 x2 cm) : CT l yX3_join (.code yX3_join cX3_join 3 (some .int)) rm_X3_join 0 0 G ρ [wv a0, .int x1, .int x2] (cm, mm, oo) (PI (fun u => (u, mm, oo)) post) noX := by
  refine CT_of hl (by decide +kernel) rfl (by simp [wv_cat, cat_r, cat_i, cat_l]) (lv0 := [(0, wv a0), (1, .int x1), (2, .int x2)]) (by simp [lv_args, wv_cat, cat_r, cat_i, cat_l]) (fun p e s m args below meth c A X hr hex hnm => ?_)
  unfold w_X3_join at h
  refine L_getsSw (pc := 0) X d_X3_join_0 tw_969 ?_
  refine L_aloadW_n (pc := 3) X d_X3_join_3 rfl 0 rfl ?_
  obtain ⟨q1, h⟩ := h
  refine L_ord (pc := 4) X q1 tw_971 ⟨by decide, by decide⟩ ⟨by decide, by decide⟩ (Nat.le_of_ble_eq_true rfl) d_X3_join_4 ?_
  obtain ⟨q2, h⟩ := h
  refine L_ialdSw (pc := 7) X q2 d_X3_join_7 ?_
  by_cases ct1 : Int32.toInt (swm.getD (Int32.toNatClampNeg (wOrd a0)) 0) < 7
  · refine L_tableOut (pc := 8) (tgt := 63) X d_X3_join_8 (Or.inl ct1) (by decide) ?_
    replace h := h.1 (Or.inl ct1)
    refine L_iload_n (pc := 63) X d_X3_join_63 rfl 1 rfl ?_
    refine L_iload_n (pc := 64) X d_X3_join_64 rfl 2 rfl ?_
    refine L_icmp_le (pc := 65) (tgt := 72) X d_X3_join_65 (by decide) (fun c65 => ?_) (fun c65 => ?_)
    · replace h := h.1 c65
      refine L_iconst (pc := 72) (v := 0) X d_X3_join_72 (by decide) ?_
      exact L_iret (pc := 73) X hr d_X3_join_73 (by decide) (by decide) ⟨_, _, rfl, rfl, h⟩
    · replace h := h.2 c65
      refine L_iconst (pc := 68) (v := 1) X d_X3_join_68 (by decide) ?_
      refine L_goto (pc := 69) (tgt := 73) X d_X3_join_69 (by decide) ?_
      exact L_iret (pc := 73) X hr d_X3_join_73 (by decide) (by decide) ⟨_, _, rfl, rfl, h⟩
  by_cases ct2 : 10 < Int32.toInt (swm.getD (Int32.toNatClampNeg (wOrd a0)) 0)
  · refine L_tableOut (pc := 8) (tgt := 63) X d_X3_join_8 (Or.inr ct2) (by decide) ?_
    replace h := h.1 (Or.inr ct2)
    refine L_iload_n (pc := 63) X d_X3_join_63 rfl 1 rfl ?_
    refine L_iload_n (pc := 64) X d_X3_join_64 rfl 2 rfl ?_
    refine L_icmp_le (pc := 65) (tgt := 72) X d_X3_join_65 (by decide) (fun c65 => ?_) (fun c65 => ?_)
    · replace h := h.1 c65
      refine L_iconst (pc := 72) (v := 0) X d_X3_join_72 (by decide) ?_
      exact L_iret (pc := 73) X hr d_X3_join_73 (by decide) (by decide) ⟨_, _, rfl, rfl, h⟩
    · replace h := h.2 c65
      refine L_iconst (pc := 68) (v := 1) X d_X3_join_68 (by decide) ?_
      refine L_goto (pc := 69) (tgt := 73) X d_X3_join_69 (by decide) ?_
      exact L_iret (pc := 73) X hr d_X3_join_73 (by decide) (by decide) ⟨_, _, rfl, rfl, h⟩
  have ct3 : Int32.toInt (swm.getD (Int32.toNatClampNeg (wOrd a0)) 0) = 7 ∨ Int32.toInt (swm.getD (Int32.toNatClampNeg (wOrd a0)) 0) = 8 ∨ Int32.toInt (swm.getD (Int32.toNatClampNeg (wOrd a0)) 0) = 9 ∨ Int32.toInt (swm.getD (Int32.toNatClampNeg (wOrd a0)) 0) = 10 := by omega
  rcases ct3 with ct3 | ct3 | ct3 | ct3
  · refine L_tableIn (pc := 8) (tgt := 40) (off := 32) X d_X3_join_8 ct1 ct2 (by rw [ct3]; rfl) (by decide) ?_
    replace h := h.2.1 ct3
    refine L_iload_n (pc := 40) X d_X3_join_40 rfl 1 rfl ?_
    refine L_iload_n (pc := 41) X d_X3_join_41 rfl 2 rfl ?_
    refine L_iadd (pc := 42) X d_X3_join_42 ?_
    exact L_iret (pc := 43) X hr d_X3_join_43 (by decide) (by decide) ⟨_, _, rfl, rfl, h⟩
  · refine L_tableIn (pc := 8) (tgt := 44) (off := 36) X d_X3_join_8 ct1 ct2 (by rw [ct3]; rfl) (by decide) ?_
    replace h := h.2.2.1 ct3
    refine L_iload_n (pc := 44) X d_X3_join_44 rfl 1 rfl ?_
    refine L_iload_n (pc := 45) X d_X3_join_45 rfl 2 rfl ?_
    refine L_iand (pc := 46) X d_X3_join_46 ?_
    exact L_iret (pc := 47) X hr d_X3_join_47 (by decide) (by decide) ⟨_, _, rfl, rfl, h⟩
  · refine L_tableIn (pc := 8) (tgt := 48) (off := 40) X d_X3_join_8 ct1 ct2 (by rw [ct3]; rfl) (by decide) ?_
    replace h := h.2.2.2.1 ct3
    refine L_iload_n (pc := 48) X d_X3_join_48 rfl 1 rfl ?_
    refine L_iload_n (pc := 49) X d_X3_join_49 rfl 2 rfl ?_
    refine L_ior (pc := 50) X d_X3_join_50 ?_
    exact L_iret (pc := 51) X hr d_X3_join_51 (by decide) (by decide) ⟨_, _, rfl, rfl, h⟩
  · refine L_tableIn (pc := 8) (tgt := 52) (off := 44) X d_X3_join_8 ct1 ct2 (by rw [ct3]; rfl) (by decide) ?_
    replace h := h.2.2.2.2 ct3
    refine L_iload_n (pc := 52) X d_X3_join_52 rfl 1 rfl ?_
    refine L_iload_n (pc := 53) X d_X3_join_53 rfl 2 rfl ?_
    refine L_icmp_ge (pc := 54) (tgt := 61) X d_X3_join_54 (by decide) (fun c54 => ?_) (fun c54 => ?_)
    · replace h := h.1 c54
      refine L_iconst (pc := 61) (v := 0) X d_X3_join_61 (by decide) ?_
      exact L_iret (pc := 62) X hr d_X3_join_62 (by decide) (by decide) ⟨_, _, rfl, rfl, h⟩
    · replace h := h.2 c54
      refine L_iconst (pc := 57) (v := 1) X d_X3_join_57 (by decide) ?_
      refine L_goto (pc := 58) (tgt := 62) X d_X3_join_58 (by decide) ?_
      exact L_iret (pc := 62) X hr d_X3_join_62 (by decide) (by decide) ⟨_, _, rfl, rfl, h⟩
end G_X3_join
theorem lk_X3_204 : LinkV RX3 204 RX4 yX4_hour (.code yX4_hour cX4_hour 1 (some .int)) 0 := ⟨tw_981, tw_563, tw_564, tw_78, tw_565, yk_X4_hour⟩
theorem lk_X3_210 : LinkV RX3 210 RX4 yX4_isFrostyAt (.code yX4_isFrostyAt cX4_isFrostyAt 2 (some .boolean)) 1 := ⟨tw_982, tw_567, tw_568, tw_78, tw_569, yk_X4_isFrostyAt⟩
theorem d_X3_valueOf_0 : decode cX3_valueOf 0 = .ok (.aload_n 1, 1) := by decide +kernel
theorem d_X3_valueOf_1 : decode cX3_valueOf 1 = .ok (.getfield 98, 3) := by decide +kernel
theorem d_X3_valueOf_4 : decode cX3_valueOf 4 = .ok (.aload_n 2, 1) := by decide +kernel
theorem d_X3_valueOf_5 : decode cX3_valueOf 5 = .ok (.getfield 71, 3) := by decide +kernel
theorem d_X3_valueOf_8 : decode cX3_valueOf 8 = .ok (.aaload, 1) := by decide +kernel
theorem d_X3_valueOf_9 : decode cX3_valueOf 9 = .ok (.astore_n 3, 1) := by decide +kernel
theorem d_X3_valueOf_10 : decode cX3_valueOf 10 = .ok (.getstatic 186, 3) := by decide +kernel
theorem d_X3_valueOf_13 : decode cX3_valueOf 13 = .ok (.aload_n 0, 1) := by decide +kernel
theorem d_X3_valueOf_14 : decode cX3_valueOf 14 = .ok (.invokevirtual 191, 3) := by decide +kernel
theorem d_X3_valueOf_17 : decode cX3_valueOf 17 = .ok (.iaload, 1) := by decide +kernel
theorem d_X3_valueOf_18 : decode cX3_valueOf 18 = .ok (.tableswitch 68 1 6 #[38, 43, 48, 53, 58, 63], 38) := by decide +kernel
theorem d_X3_valueOf_56 : decode cX3_valueOf 56 = .ok (.aload_n 3, 1) := by decide +kernel
theorem d_X3_valueOf_57 : decode cX3_valueOf 57 = .ok (.getfield 195, 3) := by decide +kernel
theorem d_X3_valueOf_60 : decode cX3_valueOf 60 = .ok (.ireturn, 1) := by decide +kernel
theorem d_X3_valueOf_61 : decode cX3_valueOf 61 = .ok (.aload_n 3, 1) := by decide +kernel
theorem d_X3_valueOf_62 : decode cX3_valueOf 62 = .ok (.getfield 141, 3) := by decide +kernel
theorem d_X3_valueOf_65 : decode cX3_valueOf 65 = .ok (.ireturn, 1) := by decide +kernel
theorem d_X3_valueOf_66 : decode cX3_valueOf 66 = .ok (.aload_n 3, 1) := by decide +kernel
theorem d_X3_valueOf_67 : decode cX3_valueOf 67 = .ok (.getfield 198, 3) := by decide +kernel
theorem d_X3_valueOf_70 : decode cX3_valueOf 70 = .ok (.ireturn, 1) := by decide +kernel
theorem d_X3_valueOf_71 : decode cX3_valueOf 71 = .ok (.aload_n 1, 1) := by decide +kernel
theorem d_X3_valueOf_72 : decode cX3_valueOf 72 = .ok (.getfield 201, 3) := by decide +kernel
theorem d_X3_valueOf_75 : decode cX3_valueOf 75 = .ok (.ireturn, 1) := by decide +kernel
theorem d_X3_valueOf_76 : decode cX3_valueOf 76 = .ok (.aload_n 1, 1) := by decide +kernel
theorem d_X3_valueOf_77 : decode cX3_valueOf 77 = .ok (.invokevirtual 204, 3) := by decide +kernel
theorem d_X3_valueOf_80 : decode cX3_valueOf 80 = .ok (.ireturn, 1) := by decide +kernel
theorem d_X3_valueOf_81 : decode cX3_valueOf 81 = .ok (.aload_n 2, 1) := by decide +kernel
theorem d_X3_valueOf_82 : decode cX3_valueOf 82 = .ok (.getfield 207, 3) := by decide +kernel
theorem d_X3_valueOf_85 : decode cX3_valueOf 85 = .ok (.ireturn, 1) := by decide +kernel
theorem d_X3_valueOf_86 : decode cX3_valueOf 86 = .ok (.aload_n 1, 1) := by decide +kernel
theorem d_X3_valueOf_87 : decode cX3_valueOf 87 = .ok (.aload_n 1, 1) := by decide +kernel
theorem d_X3_valueOf_88 : decode cX3_valueOf 88 = .ok (.invokevirtual 204, 3) := by decide +kernel
theorem d_X3_valueOf_91 : decode cX3_valueOf 91 = .ok (.invokevirtual 210, 3) := by decide +kernel
theorem d_X3_valueOf_94 : decode cX3_valueOf 94 = .ok (.ifCond .eq 7, 3) := by decide +kernel
theorem d_X3_valueOf_97 : decode cX3_valueOf 97 = .ok (.iconst 1, 1) := by decide +kernel
theorem d_X3_valueOf_98 : decode cX3_valueOf 98 = .ok (.goto 4, 3) := by decide +kernel
theorem d_X3_valueOf_101 : decode cX3_valueOf 101 = .ok (.iconst 0, 1) := by decide +kernel
theorem d_X3_valueOf_102 : decode cX3_valueOf 102 = .ok (.ireturn, 1) := by decide +kernel
abbrev rm_X3_valueOf : Room := { frames := 4, cells := 0, slots := 0, locals := 60 }
def B_X3_valueOf_102 (post : Int32 → CMu → Prop) (s0 : Bool) (cm : CMu) : Prop := post (b2 s0) cm
def w_X3_valueOf (post : Int32 → CMu → Prop) (a0 : Fin 32) (a1 : Nat) (a2 : Nat) (cm : CMu) : Prop := (vp_in (gI cm a2 1) 12) ∧ (¬ a0 = 0) ∧ (vp_in (wOrd a0) 31) ∧ ((Int32.toInt (swm.getD (Int32.toNatClampNeg (wOrd a0)) 0) < 1 ∨ 6 < Int32.toInt (swm.getD (Int32.toNatClampNeg (wOrd a0)) 0)) → (w_X4_hour (fun (r8 : Int32) (u9 : CMu) => w_X4_isFrostyAt (fun (r10 : Bool) (u11 : CMu) => ((r10 = false) → (B_X3_valueOf_102 post false u11)) ∧ (¬ (r10 = false) → (B_X3_valueOf_102 post true u11))) a1 r8 u9) a1 cm)) ∧ (Int32.toInt (swm.getD (Int32.toNatClampNeg (wOrd a0)) 0) = 1 → (post (gI cm (a1 + 23 + 2 * Int32.toNatClampNeg (gI cm a2 1)) 0) cm)) ∧ (Int32.toInt (swm.getD (Int32.toNatClampNeg (wOrd a0)) 0) = 2 → (post (gI cm (a1 + 23 + 2 * Int32.toNatClampNeg (gI cm a2 1)) 1) cm)) ∧ (Int32.toInt (swm.getD (Int32.toNatClampNeg (wOrd a0)) 0) = 3 → (post (gI cm (a1 + 23 + 2 * Int32.toNatClampNeg (gI cm a2 1)) 2) cm)) ∧ (Int32.toInt (swm.getD (Int32.toNatClampNeg (wOrd a0)) 0) = 4 → (post (gI cm a1 9) cm)) ∧ (Int32.toInt (swm.getD (Int32.toNatClampNeg (wOrd a0)) 0) = 5 → (w_X4_hour (fun (r12 : Int32) (u13 : CMu) => post r12 u13) a1 cm)) ∧ (Int32.toInt (swm.getD (Int32.toNatClampNeg (wOrd a0)) 0) = 6 → (post (gI cm a2 3) cm))
section G_X3_valueOf
variable {p : Program} {l : Launch} {e : Env} {s : State} {m : MethodId} {args : Array Value} {below : List Frame} {meth : Method} {c : Code} {G : Gd} {ρ : Nat → Nat} {A : Nat → Prop} {mm : Nat → Nat → Int32} {oo : Nat → Int64}
set_option maxHeartbeats 4000000 in
set_option maxRecDepth 100000 in
theorem T_X3_valueOf_102 {post : Int32 → CMu → Prop} (hl : l.stackTraces = false) (X : MC p l s m args meth c cX3_valueOf 4 RX3 G ρ A) (hr : meth.sig.returnType = (some .int)) (hex : ∀ z ∈ c.exceptionTable.toList, False) : ∀ (s0 : Bool) (cm : CMu), B_X3_valueOf_102 post s0 cm → LW p l e rm_X3_valueOf s m args below meth c (Qm below G ρ A (PI (fun u => (u, mm, oo)) post) noX args s 0 0) G ρ A 4 0 0 102 [] [.int (b2 s0)] (cm, mm, oo) := by
  intro s0 cm h
  unfold B_X3_valueOf_102 at h
  exact L_iret (pc := 102) X hr d_X3_valueOf_102 (by decide) (by decide) ⟨_, _, rfl, rfl, h⟩
set_option maxHeartbeats 4000000 in
set_option maxRecDepth 100000 in
theorem c_X3_valueOf (hl : l.stackTraces = false) {a0 : Fin 32} {a1 : Nat} {a2 : Nat} (h_a1 : (KD a1).1 = 3) (h_a2 : (KD a2).1 = 1) {cm : CMu} {post : Int32 → CMu → Prop} (h : w_X3_valueOf post a0 a1 a2 cm) : CT l yX3_valueOf (.code yX3_valueOf cX3_valueOf 4 (some .int)) rm_X3_valueOf 0 0 G ρ [wv a0, .ref a1, .ref a2] (cm, mm, oo) (PI (fun u => (u, mm, oo)) post) noX := by
  refine CT_of hl (by decide +kernel) rfl (by simp [wv_cat, cat_r, cat_i, cat_l]) (lv0 := [(0, wv a0), (1, .ref a1), (2, .ref a2)]) (by simp [lv_args, wv_cat, cat_r, cat_i, cat_l]) (fun p e s m args below meth c A X hr hex hnm => ?_)
  unfold w_X3_valueOf at h
  refine L_aload_n (pc := 0) X d_X3_valueOf_0 rfl 1 rfl ?_
  refine gf_X3_98 (pc := 1) (b := a1 + 1) X d_X3_valueOf_1 h_a1 rfl ?_
  refine L_aload_n (pc := 4) X d_X3_valueOf_4 rfl 2 rfl ?_
  refine gf_X3_71 (pc := 5) X d_X3_valueOf_5 h_a2 ?_
  obtain ⟨q1, h⟩ := h
  refine L_aald22 (pc := 8) (b := a1 + 23 + 2 * Int32.toNatClampNeg (gI cm a2 1)) X d_X3_valueOf_8 (kf_3_0 h_a1) q1 rfl ?_
  refine L_astore_n (pc := 9) (lv2 := [(3, .ref (a1 + 23 + 2 * Int32.toNatClampNeg (gI cm a2 1))), (0, wv a0), (1, .ref a1), (2, .ref a2)]) X d_X3_valueOf_9 rfl (by decide) rfl ?_
  refine L_getsSw (pc := 10) X d_X3_valueOf_10 tw_969 ?_
  refine L_aloadW_n (pc := 13) X d_X3_valueOf_13 rfl 1 rfl ?_
  obtain ⟨q2, h⟩ := h
  refine L_ord (pc := 14) X q2 tw_971 ⟨by decide, by decide⟩ ⟨by decide, by decide⟩ (Nat.le_of_ble_eq_true rfl) d_X3_valueOf_14 ?_
  obtain ⟨q3, h⟩ := h
  refine L_ialdSw (pc := 17) X q3 d_X3_valueOf_17 ?_
  by_cases ct1 : Int32.toInt (swm.getD (Int32.toNatClampNeg (wOrd a0)) 0) < 1
  · refine L_tableOut (pc := 18) (tgt := 86) X d_X3_valueOf_18 (Or.inl ct1) (by decide) ?_
    replace h := h.1 (Or.inl ct1)
    refine L_aload_n (pc := 86) X d_X3_valueOf_86 rfl 2 rfl ?_
    refine L_aload_n (pc := 87) X d_X3_valueOf_87 rfl 2 rfl ?_
    refine L_callVI (pc := 88) X lk_X3_204 (c_X4_hour X.hst h_a1 h) rfl rfl h_a1 (by decide) rfl rfl ⟨by decide, by decide⟩ ⟨by decide, by decide⟩ (Nat.le_of_ble_eq_true rfl) d_X3_valueOf_88 rfl (fun x κ1 hx => L_nox hx) (fun r4 u5 h => ?_)
    refine L_callVZ (pc := 91) X lk_X3_210 (c_X4_isFrostyAt X.hst h_a1 h) rfl rfl h_a1 (by decide) rfl rfl ⟨by decide, by decide⟩ ⟨by decide, by decide⟩ (Nat.zero_le _) d_X3_valueOf_91 rfl (fun x κ1 hx => L_nox hx) (fun r6 u7 h => ?_)
    refine L_if_eq (pc := 94) (tgt := 101) X d_X3_valueOf_94 (by decide) (fun c94 => ?_) (fun c94 => ?_)
    · replace h := h.1 ((b2_0 _).mp c94)
      refine L_iconst (pc := 101) (v := 0) X d_X3_valueOf_101 (by decide) ?_
      refine LW.sub [] rfl ?_
      exact T_X3_valueOf_102 hl X hr hex _  _ h
    · replace h := h.2 (fun z => c94 ((b2_0 _).mpr z))
      refine L_iconst (pc := 97) (v := 1) X d_X3_valueOf_97 (by decide) ?_
      refine L_goto (pc := 98) (tgt := 102) X d_X3_valueOf_98 (by decide) ?_
      refine LW.sub [] rfl ?_
      exact T_X3_valueOf_102 hl X hr hex _  _ h
  by_cases ct2 : 6 < Int32.toInt (swm.getD (Int32.toNatClampNeg (wOrd a0)) 0)
  · refine L_tableOut (pc := 18) (tgt := 86) X d_X3_valueOf_18 (Or.inr ct2) (by decide) ?_
    replace h := h.1 (Or.inr ct2)
    refine L_aload_n (pc := 86) X d_X3_valueOf_86 rfl 2 rfl ?_
    refine L_aload_n (pc := 87) X d_X3_valueOf_87 rfl 2 rfl ?_
    refine L_callVI (pc := 88) X lk_X3_204 (c_X4_hour X.hst h_a1 h) rfl rfl h_a1 (by decide) rfl rfl ⟨by decide, by decide⟩ ⟨by decide, by decide⟩ (Nat.le_of_ble_eq_true rfl) d_X3_valueOf_88 rfl (fun x κ1 hx => L_nox hx) (fun r8 u9 h => ?_)
    refine L_callVZ (pc := 91) X lk_X3_210 (c_X4_isFrostyAt X.hst h_a1 h) rfl rfl h_a1 (by decide) rfl rfl ⟨by decide, by decide⟩ ⟨by decide, by decide⟩ (Nat.zero_le _) d_X3_valueOf_91 rfl (fun x κ1 hx => L_nox hx) (fun r10 u11 h => ?_)
    refine L_if_eq (pc := 94) (tgt := 101) X d_X3_valueOf_94 (by decide) (fun c94 => ?_) (fun c94 => ?_)
    · replace h := h.1 ((b2_0 _).mp c94)
      refine L_iconst (pc := 101) (v := 0) X d_X3_valueOf_101 (by decide) ?_
      refine LW.sub [] rfl ?_
      exact T_X3_valueOf_102 hl X hr hex _  _ h
    · replace h := h.2 (fun z => c94 ((b2_0 _).mpr z))
      refine L_iconst (pc := 97) (v := 1) X d_X3_valueOf_97 (by decide) ?_
      refine L_goto (pc := 98) (tgt := 102) X d_X3_valueOf_98 (by decide) ?_
      refine LW.sub [] rfl ?_
      exact T_X3_valueOf_102 hl X hr hex _  _ h
  have ct3 : Int32.toInt (swm.getD (Int32.toNatClampNeg (wOrd a0)) 0) = 1 ∨ Int32.toInt (swm.getD (Int32.toNatClampNeg (wOrd a0)) 0) = 2 ∨ Int32.toInt (swm.getD (Int32.toNatClampNeg (wOrd a0)) 0) = 3 ∨ Int32.toInt (swm.getD (Int32.toNatClampNeg (wOrd a0)) 0) = 4 ∨ Int32.toInt (swm.getD (Int32.toNatClampNeg (wOrd a0)) 0) = 5 ∨ Int32.toInt (swm.getD (Int32.toNatClampNeg (wOrd a0)) 0) = 6 := by omega
  rcases ct3 with ct3 | ct3 | ct3 | ct3 | ct3 | ct3
  · refine L_tableIn (pc := 18) (tgt := 56) (off := 38) X d_X3_valueOf_18 ct1 ct2 (by rw [ct3]; rfl) (by decide) ?_
    replace h := h.2.1 ct3
    refine L_aload_n (pc := 56) X d_X3_valueOf_56 rfl 0 rfl ?_
    refine gf_X3_195 (pc := 57) X d_X3_valueOf_57 (ka_22 (kf_3_0 h_a1) (vin_lt q1)) ?_
    exact L_iret (pc := 60) X hr d_X3_valueOf_60 (by decide) (by decide) ⟨_, _, rfl, rfl, h⟩
  · refine L_tableIn (pc := 18) (tgt := 61) (off := 43) X d_X3_valueOf_18 ct1 ct2 (by rw [ct3]; rfl) (by decide) ?_
    replace h := h.2.2.1 ct3
    refine L_aload_n (pc := 61) X d_X3_valueOf_61 rfl 0 rfl ?_
    refine gf_X3_141 (pc := 62) X d_X3_valueOf_62 (ka_22 (kf_3_0 h_a1) (vin_lt q1)) ?_
    exact L_iret (pc := 65) X hr d_X3_valueOf_65 (by decide) (by decide) ⟨_, _, rfl, rfl, h⟩
  · refine L_tableIn (pc := 18) (tgt := 66) (off := 48) X d_X3_valueOf_18 ct1 ct2 (by rw [ct3]; rfl) (by decide) ?_
    replace h := h.2.2.2.1 ct3
    refine L_aload_n (pc := 66) X d_X3_valueOf_66 rfl 0 rfl ?_
    refine gf_X3_198 (pc := 67) X d_X3_valueOf_67 (ka_22 (kf_3_0 h_a1) (vin_lt q1)) ?_
    exact L_iret (pc := 70) X hr d_X3_valueOf_70 (by decide) (by decide) ⟨_, _, rfl, rfl, h⟩
  · refine L_tableIn (pc := 18) (tgt := 71) (off := 53) X d_X3_valueOf_18 ct1 ct2 (by rw [ct3]; rfl) (by decide) ?_
    replace h := h.2.2.2.2.1 ct3
    refine L_aload_n (pc := 71) X d_X3_valueOf_71 rfl 2 rfl ?_
    refine gf_X3_201 (pc := 72) X d_X3_valueOf_72 h_a1 ?_
    exact L_iret (pc := 75) X hr d_X3_valueOf_75 (by decide) (by decide) ⟨_, _, rfl, rfl, h⟩
  · refine L_tableIn (pc := 18) (tgt := 76) (off := 58) X d_X3_valueOf_18 ct1 ct2 (by rw [ct3]; rfl) (by decide) ?_
    replace h := h.2.2.2.2.2.1 ct3
    refine L_aload_n (pc := 76) X d_X3_valueOf_76 rfl 2 rfl ?_
    refine L_callVI (pc := 77) X lk_X3_204 (c_X4_hour X.hst h_a1 h) rfl rfl h_a1 (by decide) rfl rfl ⟨by decide, by decide⟩ ⟨by decide, by decide⟩ (Nat.zero_le _) d_X3_valueOf_77 rfl (fun x κ1 hx => L_nox hx) (fun r12 u13 h => ?_)
    exact L_iret (pc := 80) X hr d_X3_valueOf_80 (by decide) (by decide) ⟨_, _, rfl, rfl, h⟩
  · refine L_tableIn (pc := 18) (tgt := 81) (off := 63) X d_X3_valueOf_18 ct1 ct2 (by rw [ct3]; rfl) (by decide) ?_
    replace h := h.2.2.2.2.2.2 ct3
    refine L_aload_n (pc := 81) X d_X3_valueOf_81 rfl 3 rfl ?_
    refine gf_X3_207 (pc := 82) X d_X3_valueOf_82 h_a2 ?_
    exact L_iret (pc := 85) X hr d_X3_valueOf_85 (by decide) (by decide) ⟨_, _, rfl, rfl, h⟩
end G_X3_valueOf
theorem yk_X5_behindQuestion : yX5_behindQuestion.cls = RX5 ∧ yX5_behindQuestion.cls ≠ "java/lang/invoke/MethodHandle" ∧ yX5_behindQuestion.cls ≠ "java/lang/invoke/VarHandle" ∧ (parseMethodDescriptor yX5_behindQuestion.desc).map (fun d => d.parameters.length) = some 1 := by decide +kernel
theorem lk_X3_155 : LinkV RX3 155 RX5 yX5_behindQuestion (.code yX5_behindQuestion cX5_behindQuestion 2 (some .int)) 1 := ⟨tw_961, tw_962, tw_963, tw_76, tw_964, yk_X5_behindQuestion⟩
theorem yk_X3_join : yX3_join.cls ≠ "java/lang/invoke/MethodHandle" ∧ yX3_join.cls ≠ "java/lang/invoke/VarHandle" ∧ (parseMethodDescriptor yX3_join.desc).map (fun d => d.parameters.length) = some 3 := by decide +kernel
theorem lk_X3_172 : LinkS RX3 172 yX3_join (.code yX3_join cX3_join 3 (some .int)) 3 := ⟨tw_966, tw_967, tw_75, tw_968, yk_X3_join⟩
theorem yk_X3_valueOf : yX3_valueOf.cls ≠ "java/lang/invoke/MethodHandle" ∧ yX3_valueOf.cls ≠ "java/lang/invoke/VarHandle" ∧ (parseMethodDescriptor yX3_valueOf.desc).map (fun d => d.parameters.length) = some 3 := by decide +kernel
theorem lk_X3_182 : LinkS RX3 182 yX3_valueOf (.code yX3_valueOf cX3_valueOf 4 (some .int)) 3 := ⟨tw_978, tw_979, tw_75, tw_980, yk_X3_valueOf⟩
theorem d_X3_holds_0 : decode cX3_holds 0 = .ok (.aload_n 3, 1) := by decide +kernel
theorem d_X3_holds_1 : decode cX3_holds 1 = .ok (.iload 4, 2) := by decide +kernel
theorem d_X3_holds_3 : decode cX3_holds 3 = .ok (.invokevirtual 155, 3) := by decide +kernel
theorem d_X3_holds_6 : decode cX3_holds 6 = .ok (.istore 5, 2) := by decide +kernel
theorem d_X3_holds_8 : decode cX3_holds 8 = .ok (.iconst 0, 1) := by decide +kernel
theorem d_X3_holds_9 : decode cX3_holds 9 = .ok (.istore 6, 2) := by decide +kernel
theorem d_X3_holds_11 : decode cX3_holds 11 = .ok (.aload_n 3, 1) := by decide +kernel
theorem d_X3_holds_12 : decode cX3_holds 12 = .ok (.getfield 159, 3) := by decide +kernel
theorem d_X3_holds_15 : decode cX3_holds 15 = .ok (.iload 4, 2) := by decide +kernel
theorem d_X3_holds_17 : decode cX3_holds 17 = .ok (.iaload, 1) := by decide +kernel
theorem d_X3_holds_18 : decode cX3_holds 18 = .ok (.istore 7, 2) := by decide +kernel
theorem d_X3_holds_20 : decode cX3_holds 20 = .ok (.iload 7, 2) := by decide +kernel
theorem d_X3_holds_22 : decode cX3_holds 22 = .ok (.iload 5, 2) := by decide +kernel
theorem d_X3_holds_24 : decode cX3_holds 24 = .ok (.if_icmp .ge 150, 3) := by decide +kernel
theorem d_X3_holds_27 : decode cX3_holds 27 = .ok (.aload_n 3, 1) := by decide +kernel
theorem d_X3_holds_28 : decode cX3_holds 28 = .ok (.getfield 162, 3) := by decide +kernel
theorem d_X3_holds_31 : decode cX3_holds 31 = .ok (.iload 7, 2) := by decide +kernel
theorem d_X3_holds_33 : decode cX3_holds 33 = .ok (.aaload, 1) := by decide +kernel
theorem d_X3_holds_34 : decode cX3_holds 34 = .ok (.astore 8, 2) := by decide +kernel
theorem d_X3_holds_36 : decode cX3_holds 36 = .ok (.aload 8, 2) := by decide +kernel
theorem d_X3_holds_38 : decode cX3_holds 38 = .ok (.getstatic 165, 3) := by decide +kernel
theorem d_X3_holds_41 : decode cX3_holds 41 = .ok (.if_acmp .ne 32, 3) := by decide +kernel
theorem d_X3_holds_44 : decode cX3_holds 44 = .ok (.iload 6, 2) := by decide +kernel
theorem d_X3_holds_46 : decode cX3_holds 46 = .ok (.iconst 1, 1) := by decide +kernel
theorem d_X3_holds_47 : decode cX3_holds 47 = .ok (.if_icmp .lt 26, 3) := by decide +kernel
theorem d_X3_holds_50 : decode cX3_holds 50 = .ok (.aload_n 0, 1) := by decide +kernel
theorem d_X3_holds_51 : decode cX3_holds 51 = .ok (.getfield 17, 3) := by decide +kernel
theorem d_X3_holds_54 : decode cX3_holds 54 = .ok (.iload 6, 2) := by decide +kernel
theorem d_X3_holds_56 : decode cX3_holds 56 = .ok (.iconst 1, 1) := by decide +kernel
theorem d_X3_holds_57 : decode cX3_holds 57 = .ok (.isub, 1) := by decide +kernel
theorem d_X3_holds_58 : decode cX3_holds 58 = .ok (.iconst 1, 1) := by decide +kernel
theorem d_X3_holds_59 : decode cX3_holds 59 = .ok (.aload_n 0, 1) := by decide +kernel
theorem d_X3_holds_60 : decode cX3_holds 60 = .ok (.getfield 17, 3) := by decide +kernel
theorem d_X3_holds_63 : decode cX3_holds 63 = .ok (.iload 6, 2) := by decide +kernel
theorem d_X3_holds_65 : decode cX3_holds 65 = .ok (.iconst 1, 1) := by decide +kernel
theorem d_X3_holds_66 : decode cX3_holds 66 = .ok (.isub, 1) := by decide +kernel
theorem d_X3_holds_67 : decode cX3_holds 67 = .ok (.iaload, 1) := by decide +kernel
theorem d_X3_holds_68 : decode cX3_holds 68 = .ok (.isub, 1) := by decide +kernel
theorem d_X3_holds_69 : decode cX3_holds 69 = .ok (.iastore, 1) := by decide +kernel
theorem d_X3_holds_70 : decode cX3_holds 70 = .ok (.goto 98, 3) := by decide +kernel
theorem d_X3_holds_73 : decode cX3_holds 73 = .ok (.aload 8, 2) := by decide +kernel
theorem d_X3_holds_75 : decode cX3_holds 75 = .ok (.getfield 168, 3) := by decide +kernel
theorem d_X3_holds_78 : decode cX3_holds 78 = .ok (.ifCond .eq 45, 3) := by decide +kernel
theorem d_X3_holds_81 : decode cX3_holds 81 = .ok (.iload 6, 2) := by decide +kernel
theorem d_X3_holds_83 : decode cX3_holds 83 = .ok (.iconst 2, 1) := by decide +kernel
theorem d_X3_holds_84 : decode cX3_holds 84 = .ok (.if_icmp .lt 39, 3) := by decide +kernel
theorem d_X3_holds_87 : decode cX3_holds 87 = .ok (.iinc 6 (-1), 3) := by decide +kernel
theorem d_X3_holds_90 : decode cX3_holds 90 = .ok (.aload_n 0, 1) := by decide +kernel
theorem d_X3_holds_91 : decode cX3_holds 91 = .ok (.getfield 17, 3) := by decide +kernel
theorem d_X3_holds_94 : decode cX3_holds 94 = .ok (.iload 6, 2) := by decide +kernel
theorem d_X3_holds_96 : decode cX3_holds 96 = .ok (.iconst 1, 1) := by decide +kernel
theorem d_X3_holds_97 : decode cX3_holds 97 = .ok (.isub, 1) := by decide +kernel
theorem d_X3_holds_98 : decode cX3_holds 98 = .ok (.aload 8, 2) := by decide +kernel
theorem d_X3_holds_100 : decode cX3_holds 100 = .ok (.aload_n 0, 1) := by decide +kernel
theorem d_X3_holds_101 : decode cX3_holds 101 = .ok (.getfield 17, 3) := by decide +kernel
theorem d_X3_holds_104 : decode cX3_holds 104 = .ok (.iload 6, 2) := by decide +kernel
theorem d_X3_holds_106 : decode cX3_holds 106 = .ok (.iconst 1, 1) := by decide +kernel
theorem d_X3_holds_107 : decode cX3_holds 107 = .ok (.isub, 1) := by decide +kernel
theorem d_X3_holds_108 : decode cX3_holds 108 = .ok (.iaload, 1) := by decide +kernel
theorem d_X3_holds_109 : decode cX3_holds 109 = .ok (.aload_n 0, 1) := by decide +kernel
theorem d_X3_holds_110 : decode cX3_holds 110 = .ok (.getfield 17, 3) := by decide +kernel
theorem d_X3_holds_113 : decode cX3_holds 113 = .ok (.iload 6, 2) := by decide +kernel
theorem d_X3_holds_115 : decode cX3_holds 115 = .ok (.iaload, 1) := by decide +kernel
theorem d_X3_holds_116 : decode cX3_holds 116 = .ok (.invokestatic 172, 3) := by decide +kernel
theorem d_X3_holds_119 : decode cX3_holds 119 = .ok (.iastore, 1) := by decide +kernel
theorem d_X3_holds_120 : decode cX3_holds 120 = .ok (.goto 48, 3) := by decide +kernel
theorem d_X3_holds_123 : decode cX3_holds 123 = .ok (.iload 6, 2) := by decide +kernel
theorem d_X3_holds_125 : decode cX3_holds 125 = .ok (.aload_n 0, 1) := by decide +kernel
theorem d_X3_holds_126 : decode cX3_holds 126 = .ok (.getfield 17, 3) := by decide +kernel
theorem d_X3_holds_129 : decode cX3_holds 129 = .ok (.arraylength, 1) := by decide +kernel
theorem d_X3_holds_130 : decode cX3_holds 130 = .ok (.if_icmp .ge 38, 3) := by decide +kernel
theorem d_X3_holds_133 : decode cX3_holds 133 = .ok (.aload_n 0, 1) := by decide +kernel
theorem d_X3_holds_134 : decode cX3_holds 134 = .ok (.getfield 17, 3) := by decide +kernel
theorem d_X3_holds_137 : decode cX3_holds 137 = .ok (.iload 6, 2) := by decide +kernel
theorem d_X3_holds_139 : decode cX3_holds 139 = .ok (.aload 8, 2) := by decide +kernel
theorem d_X3_holds_141 : decode cX3_holds 141 = .ok (.getstatic 176, 3) := by decide +kernel
theorem d_X3_holds_144 : decode cX3_holds 144 = .ok (.if_acmp .ne 13, 3) := by decide +kernel
theorem d_X3_holds_147 : decode cX3_holds 147 = .ok (.aload_n 3, 1) := by decide +kernel
theorem d_X3_holds_148 : decode cX3_holds 148 = .ok (.getfield 179, 3) := by decide +kernel
theorem d_X3_holds_151 : decode cX3_holds 151 = .ok (.iload 7, 2) := by decide +kernel
theorem d_X3_holds_153 : decode cX3_holds 153 = .ok (.iaload, 1) := by decide +kernel
theorem d_X3_holds_154 : decode cX3_holds 154 = .ok (.goto 10, 3) := by decide +kernel
theorem d_X3_holds_157 : decode cX3_holds 157 = .ok (.aload 8, 2) := by decide +kernel
theorem d_X3_holds_159 : decode cX3_holds 159 = .ok (.aload_n 1, 1) := by decide +kernel
theorem d_X3_holds_160 : decode cX3_holds 160 = .ok (.aload_n 2, 1) := by decide +kernel
theorem d_X3_holds_161 : decode cX3_holds 161 = .ok (.invokestatic 182, 3) := by decide +kernel
theorem d_X3_holds_164 : decode cX3_holds 164 = .ok (.iastore, 1) := by decide +kernel
theorem d_X3_holds_165 : decode cX3_holds 165 = .ok (.iinc 6 1, 3) := by decide +kernel
theorem d_X3_holds_168 : decode cX3_holds 168 = .ok (.iinc 7 1, 3) := by decide +kernel
theorem d_X3_holds_171 : decode cX3_holds 171 = .ok (.goto (-151), 3) := by decide +kernel
theorem d_X3_holds_174 : decode cX3_holds 174 = .ok (.iload 6, 2) := by decide +kernel
theorem d_X3_holds_176 : decode cX3_holds 176 = .ok (.ifCond .eq 12, 3) := by decide +kernel
theorem d_X3_holds_179 : decode cX3_holds 179 = .ok (.aload_n 0, 1) := by decide +kernel
theorem d_X3_holds_180 : decode cX3_holds 180 = .ok (.getfield 17, 3) := by decide +kernel
theorem d_X3_holds_183 : decode cX3_holds 183 = .ok (.iconst 0, 1) := by decide +kernel
theorem d_X3_holds_184 : decode cX3_holds 184 = .ok (.iaload, 1) := by decide +kernel
theorem d_X3_holds_185 : decode cX3_holds 185 = .ok (.ifCond .eq 7, 3) := by decide +kernel
theorem d_X3_holds_188 : decode cX3_holds 188 = .ok (.iconst 1, 1) := by decide +kernel
theorem d_X3_holds_189 : decode cX3_holds 189 = .ok (.goto 4, 3) := by decide +kernel
theorem d_X3_holds_192 : decode cX3_holds 192 = .ok (.iconst 0, 1) := by decide +kernel
theorem d_X3_holds_193 : decode cX3_holds 193 = .ok (.ireturn, 1) := by decide +kernel
abbrev rm_X3_holds : Room := { frames := 5, cells := 0, slots := 0, locals := 83 }
def B_X3_holds_193 (post : Bool → CMu → Prop) (s0 : Bool) (cm : CMu) : Prop := post s0 cm
def B_X3_holds_188 (post : Bool → CMu → Prop) (cm : CMu) : Prop := B_X3_holds_193 post true cm
def B_X3_holds_168 (post : Bool → CMu → Prop) (k20 : Nat → Nat → Nat → Int32 → Int32 → Int32 → CMu → Prop) (v1 : Nat) (v2 : Nat) (v3 : Nat) (v5 : Int32) (v6 : Int32) (v7 : Int32) (cm : CMu) : Prop := k20 v1 v2 v3 v5 v6 (v7 + 1) cm
def B_X3_holds_164 (post : Bool → CMu → Prop) (k20 : Nat → Nat → Nat → Int32 → Int32 → Int32 → CMu → Prop) (v1 : Nat) (v2 : Nat) (v3 : Nat) (v5 : Int32) (v6 : Int32) (v7 : Int32) (s0 : Int32) (s1 : Int32) (cm : CMu) : Prop := (vp_in s1 32) ∧ B_X3_holds_168 post k20 v1 v2 v3 v5 (v6 + 1) v7 (uI cm 10 (Int32.toNatClampNeg s1) s0)
def B_X3_holds_123 (post : Bool → CMu → Prop) (k20 : Nat → Nat → Nat → Int32 → Int32 → Int32 → CMu → Prop) (v1 : Nat) (v2 : Nat) (v3 : Nat) (v5 : Int32) (v6 : Int32) (v7 : Int32) (v8 : Fin 32) (cm : CMu) : Prop := (32 ≤ v6 → (B_X3_holds_168 post k20 v1 v2 v3 v5 v6 v7 cm)) ∧ (¬ 32 ≤ v6 → ((¬ v8 = 30 → (w_X3_valueOf (fun (r13 : Int32) (u14 : CMu) => B_X3_holds_164 post k20 v1 v2 v3 v5 v6 v7 r13 v6 u14) v8 v1 v2 cm)) ∧ (v8 = 30 → ((vp_in v7 400) ∧ B_X3_holds_164 post k20 v1 v2 v3 v5 v6 v7 (gI cm (v3 + 5) (Int32.toNatClampNeg v7)) v6 cm))))
def B_X3_holds_73 (post : Bool → CMu → Prop) (k20 : Nat → Nat → Nat → Int32 → Int32 → Int32 → CMu → Prop) (v1 : Nat) (v2 : Nat) (v3 : Nat) (v5 : Int32) (v6 : Int32) (v7 : Int32) (v8 : Fin 32) (cm : CMu) : Prop := (¬ v8 = 0) ∧ (((wJ v8) = false) → (B_X3_holds_123 post k20 v1 v2 v3 v5 v6 v7 v8 cm)) ∧ (¬ ((wJ v8) = false) → ((v6 < 2 → (B_X3_holds_123 post k20 v1 v2 v3 v5 v6 v7 v8 cm)) ∧ (¬ v6 < 2 → ((vp_in ((v6 + (-1)) - 1) 32) ∧ (vp_in (v6 + (-1)) 32) ∧ w_X3_join (fun (r10 : Int32) (u11 : CMu) => (vp_in ((v6 + (-1)) - 1) 32) ∧ B_X3_holds_168 post k20 v1 v2 v3 v5 (v6 + (-1)) v7 (uI u11 10 (Int32.toNatClampNeg ((v6 + (-1)) - 1)) r10)) v8 (gI cm 10 (Int32.toNatClampNeg ((v6 + (-1)) - 1))) (gI cm 10 (Int32.toNatClampNeg (v6 + (-1)))) cm))))
def B_X3_holds_20 (post : Bool → CMu → Prop) : Nat → Nat → Nat → Nat → Int32 → Int32 → Int32 → CMu → Prop
  | 0 => fun _ _ _ _ _ _ _ => False
  | n + 1 => fun v1 v2 v3 v5 v6 v7 cm => (v5 ≤ v7 → ((v6 = 0 → (B_X3_holds_188 post cm)) ∧ (¬ v6 = 0 → (((gI cm 10 (Int32.toNatClampNeg (0 : Int32))) = 0 → (B_X3_holds_193 post false cm)) ∧ (¬ (gI cm 10 (Int32.toNatClampNeg (0 : Int32))) = 0 → (B_X3_holds_188 post cm)))))) ∧ (¬ v5 ≤ v7 → ((vp_in v7 400) ∧ (¬ (gW cm (v3 + 4) (Int32.toNatClampNeg v7)) = 14 → (B_X3_holds_73 post (B_X3_holds_20 post n) v1 v2 v3 v5 v6 v7 (gW cm (v3 + 4) (Int32.toNatClampNeg v7)) cm)) ∧ ((gW cm (v3 + 4) (Int32.toNatClampNeg v7)) = 14 → ((v6 < 1 → (B_X3_holds_73 post (B_X3_holds_20 post n) v1 v2 v3 v5 v6 v7 (gW cm (v3 + 4) (Int32.toNatClampNeg v7)) cm)) ∧ (¬ v6 < 1 → ((vp_in (v6 - 1) 32) ∧ (vp_in (v6 - 1) 32) ∧ B_X3_holds_168 post (B_X3_holds_20 post n) v1 v2 v3 v5 v6 v7 (uI cm 10 (Int32.toNatClampNeg (v6 - 1)) (1 - (gI cm 10 (Int32.toNatClampNeg (v6 - 1)))))))))))
def w_X3_holds (post : Bool → CMu → Prop) (a1 : Nat) (a2 : Nat) (a3 : Nat) (x4 : Int32) (cm : CMu) : Prop := w_X5_behindQuestion (fun (r1 : Int32) (u2 : CMu) => (vp_in x4 8) ∧ ∃ n20, B_X3_holds_20 post n20 a1 a2 a3 r1 0 (gI u2 (a3 + 3) (Int32.toNatClampNeg x4)) u2) a3 x4 cm
section G_X3_holds
variable {p : Program} {l : Launch} {e : Env} {s : State} {m : MethodId} {args : Array Value} {below : List Frame} {meth : Method} {c : Code} {G : Gd} {ρ : Nat → Nat} {A : Nat → Prop} {mm : Nat → Nat → Int32} {oo : Nat → Int64}
set_option maxHeartbeats 4000000 in
set_option maxRecDepth 100000 in
theorem T_X3_holds_193 {post : Bool → CMu → Prop} (hl : l.stackTraces = false) (X : MC p l s m args meth c cX3_holds 9 RX3 G ρ A) (hr : meth.sig.returnType = (some .boolean)) (hex : ∀ z ∈ c.exceptionTable.toList, False) : ∀ (s0 : Bool) (cm : CMu), B_X3_holds_193 post s0 cm → LW p l e rm_X3_holds s m args below meth c (Qm below G ρ A (PZ (fun u => (u, mm, oo)) post) noX args s 0 0) G ρ A 9 0 0 193 [] [.int (b2 s0)] (cm, mm, oo) := by
  intro s0 cm h
  unfold B_X3_holds_193 at h
  exact L_zretB (pc := 193) X hr d_X3_holds_193 s0 rfl (by decide) (by decide) ⟨_, _, rfl, rfl, h⟩
set_option maxHeartbeats 4000000 in
set_option maxRecDepth 100000 in
theorem T_X3_holds_188 {post : Bool → CMu → Prop} (hl : l.stackTraces = false) (X : MC p l s m args meth c cX3_holds 9 RX3 G ρ A) (hr : meth.sig.returnType = (some .boolean)) (hex : ∀ z ∈ c.exceptionTable.toList, False) : ∀ (cm : CMu), B_X3_holds_188 post cm → LW p l e rm_X3_holds s m args below meth c (Qm below G ρ A (PZ (fun u => (u, mm, oo)) post) noX args s 0 0) G ρ A 9 0 0 188 [] [] (cm, mm, oo) := by
  intro cm h
  unfold B_X3_holds_188 at h
  refine L_iconst (pc := 188) (v := 1) X d_X3_holds_188 (by decide) ?_
  refine L_goto (pc := 189) (tgt := 193) X d_X3_holds_189 (by decide) ?_
  refine LW.sub [] rfl ?_
  exact T_X3_holds_193 hl X hr hex _  _ h
set_option maxHeartbeats 4000000 in
set_option maxRecDepth 100000 in
theorem T_X3_holds_168 {post : Bool → CMu → Prop} {k20 : Nat → Nat → Nat → Int32 → Int32 → Int32 → CMu → Prop} (hl : l.stackTraces = false) (X : MC p l s m args meth c cX3_holds 9 RX3 G ρ A) (hr : meth.sig.returnType = (some .boolean)) (hex : ∀ z ∈ c.exceptionTable.toList, False)
    (hk20 : ∀ (v1 : Nat) (v2 : Nat) (v3 : Nat) (v5 : Int32) (v6 : Int32) (v7 : Int32) (h_v1 : (KD v1).1 = 3) (h_v2 : (KD v2).1 = 1) (h_v3 : (KD v3).1 = 4) (cm : CMu), k20 v1 v2 v3 v5 v6 v7 cm → LW p l e rm_X3_holds s m args below meth c (Qm below G ρ A (PZ (fun u => (u, mm, oo)) post) noX args s 0 0) G ρ A 9 0 0 20 [(0, .ref 8), (1, .ref v1), (2, .ref v2), (3, .ref v3), (5, .int v5), (6, .int v6), (7, .int v7)] [] (cm, mm, oo)) : ∀ (v1 : Nat) (v2 : Nat) (v3 : Nat) (v5 : Int32) (v6 : Int32) (v7 : Int32) (h_v1 : (KD v1).1 = 3) (h_v2 : (KD v2).1 = 1) (h_v3 : (KD v3).1 = 4) (cm : CMu), B_X3_holds_168 post k20 v1 v2 v3 v5 v6 v7 cm → LW p l e rm_X3_holds s m args below meth c (Qm below G ρ A (PZ (fun u => (u, mm, oo)) post) noX args s 0 0) G ρ A 9 0 0 168 [(0, .ref 8), (1, .ref v1), (2, .ref v2), (3, .ref v3), (5, .int v5), (6, .int v6), (7, .int v7)] [] (cm, mm, oo) := by
  intro v1 v2 v3 v5 v6 v7 h_v1 h_v2 h_v3 cm h
  unfold B_X3_holds_168 at h
  refine L_iinc (pc := 168) (v := v7 + 1) (lv2 := [(7, .int (v7 + 1)), (0, .ref 8), (1, .ref v1), (2, .ref v2), (3, .ref v3), (5, .int v5), (6, .int v6)]) X d_X3_holds_168 6 rfl rfl (by decide) rfl ?_
  refine L_goto (pc := 171) (tgt := 20) X d_X3_holds_171 (by decide) ?_
  refine LW.sub [1, 2, 3, 4, 5, 6, 0] rfl ?_
  exact hk20 _ _ _ _ _ _ h_v1 h_v2 h_v3 _ h
set_option maxHeartbeats 4000000 in
set_option maxRecDepth 100000 in
theorem T_X3_holds_164 {post : Bool → CMu → Prop} {k20 : Nat → Nat → Nat → Int32 → Int32 → Int32 → CMu → Prop} (hl : l.stackTraces = false) (X : MC p l s m args meth c cX3_holds 9 RX3 G ρ A) (hr : meth.sig.returnType = (some .boolean)) (hex : ∀ z ∈ c.exceptionTable.toList, False)
    (hk20 : ∀ (v1 : Nat) (v2 : Nat) (v3 : Nat) (v5 : Int32) (v6 : Int32) (v7 : Int32) (h_v1 : (KD v1).1 = 3) (h_v2 : (KD v2).1 = 1) (h_v3 : (KD v3).1 = 4) (cm : CMu), k20 v1 v2 v3 v5 v6 v7 cm → LW p l e rm_X3_holds s m args below meth c (Qm below G ρ A (PZ (fun u => (u, mm, oo)) post) noX args s 0 0) G ρ A 9 0 0 20 [(0, .ref 8), (1, .ref v1), (2, .ref v2), (3, .ref v3), (5, .int v5), (6, .int v6), (7, .int v7)] [] (cm, mm, oo)) : ∀ (v1 : Nat) (v2 : Nat) (v3 : Nat) (v5 : Int32) (v6 : Int32) (v7 : Int32) (s0 : Int32) (s1 : Int32) (h_v1 : (KD v1).1 = 3) (h_v2 : (KD v2).1 = 1) (h_v3 : (KD v3).1 = 4) (cm : CMu), B_X3_holds_164 post k20 v1 v2 v3 v5 v6 v7 s0 s1 cm → LW p l e rm_X3_holds s m args below meth c (Qm below G ρ A (PZ (fun u => (u, mm, oo)) post) noX args s 0 0) G ρ A 9 0 0 164 [(0, .ref 8), (1, .ref v1), (2, .ref v2), (3, .ref v3), (5, .int v5), (6, .int v6), (7, .int v7)] [.int s0, .int s1, .ref 10] (cm, mm, oo) := by
  intro v1 v2 v3 v5 v6 v7 s0 s1 h_v1 h_v2 h_v3 cm h
  unfold B_X3_holds_164 at h
  obtain ⟨q16, h⟩ := h
  refine L_iast (pc := 164) X d_X3_holds_164 kd_10 q16 ?_
  refine L_iinc (pc := 165) (v := v6 + 1) (lv2 := [(6, .int (v6 + 1)), (0, .ref 8), (1, .ref v1), (2, .ref v2), (3, .ref v3), (5, .int v5), (7, .int v7)]) X d_X3_holds_165 5 rfl rfl (by decide) rfl ?_
  refine LW.sub [1, 2, 3, 4, 5, 0, 6] rfl ?_
  exact T_X3_holds_168 hl X hr hex hk20 _ _ _ _ _ _ h_v1 h_v2 h_v3 _ h
set_option maxHeartbeats 4000000 in
set_option maxRecDepth 100000 in
theorem T_X3_holds_123 {post : Bool → CMu → Prop} {k20 : Nat → Nat → Nat → Int32 → Int32 → Int32 → CMu → Prop} (hl : l.stackTraces = false) (X : MC p l s m args meth c cX3_holds 9 RX3 G ρ A) (hr : meth.sig.returnType = (some .boolean)) (hex : ∀ z ∈ c.exceptionTable.toList, False)
    (hk20 : ∀ (v1 : Nat) (v2 : Nat) (v3 : Nat) (v5 : Int32) (v6 : Int32) (v7 : Int32) (h_v1 : (KD v1).1 = 3) (h_v2 : (KD v2).1 = 1) (h_v3 : (KD v3).1 = 4) (cm : CMu), k20 v1 v2 v3 v5 v6 v7 cm → LW p l e rm_X3_holds s m args below meth c (Qm below G ρ A (PZ (fun u => (u, mm, oo)) post) noX args s 0 0) G ρ A 9 0 0 20 [(0, .ref 8), (1, .ref v1), (2, .ref v2), (3, .ref v3), (5, .int v5), (6, .int v6), (7, .int v7)] [] (cm, mm, oo)) : ∀ (v1 : Nat) (v2 : Nat) (v3 : Nat) (v5 : Int32) (v6 : Int32) (v7 : Int32) (v8 : Fin 32) (h_v1 : (KD v1).1 = 3) (h_v2 : (KD v2).1 = 1) (h_v3 : (KD v3).1 = 4) (cm : CMu), B_X3_holds_123 post k20 v1 v2 v3 v5 v6 v7 v8 cm → LW p l e rm_X3_holds s m args below meth c (Qm below G ρ A (PZ (fun u => (u, mm, oo)) post) noX args s 0 0) G ρ A 9 0 0 123 [(0, .ref 8), (1, .ref v1), (2, .ref v2), (3, .ref v3), (5, .int v5), (6, .int v6), (7, .int v7), (8, wv v8)] [] (cm, mm, oo) := by
  intro v1 v2 v3 v5 v6 v7 v8 h_v1 h_v2 h_v3 cm h
  unfold B_X3_holds_123 at h
  refine L_iload (pc := 123) X d_X3_holds_123 5 rfl ?_
  refine L_aload_n (pc := 125) X d_X3_holds_125 rfl 0 rfl ?_
  refine gf_X3_17 (pc := 126) (b := 10) X d_X3_holds_126 kd_8 rfl ?_
  refine L_alen (pc := 129) (v := 32) X d_X3_holds_129 kd_10 rfl ?_
  refine L_icmp_ge (pc := 130) (tgt := 168) X d_X3_holds_130 (by decide) (fun c130 => ?_) (fun c130 => ?_)
  · replace h := h.1 c130
    refine LW.sub [0, 1, 2, 3, 4, 5, 6] rfl ?_
    exact T_X3_holds_168 hl X hr hex hk20 _ _ _ _ _ _ h_v1 h_v2 h_v3 _ h
  · replace h := h.2 c130
    refine L_aload_n (pc := 133) X d_X3_holds_133 rfl 0 rfl ?_
    refine gf_X3_17 (pc := 134) (b := 10) X d_X3_holds_134 kd_8 rfl ?_
    refine L_iload (pc := 137) X d_X3_holds_137 5 rfl ?_
    refine L_aloadW (pc := 139) X d_X3_holds_139 7 rfl ?_
    refine L_getsW (pc := 141) X 29 (by decide) rfl (w := 30) (by decide) d_X3_holds_141 tw_977 ?_
    refine L_acmp_ne (pc := 144) (tgt := 157) X d_X3_holds_144 (by decide) (fun c144 => ?_) (fun c144 => ?_)
    · replace h := h.1 c144
      refine L_aloadW (pc := 157) X d_X3_holds_157 7 rfl ?_
      refine L_aload_n (pc := 159) X d_X3_holds_159 rfl 1 rfl ?_
      refine L_aload_n (pc := 160) X d_X3_holds_160 rfl 2 rfl ?_
      refine L_callSI (pc := 161) X lk_X3_182 (c_X3_valueOf X.hst h_v1 h_v2 h) rfl rfl rfl ⟨by decide, by decide⟩ ⟨by decide, by decide⟩ (Nat.le_of_ble_eq_true rfl) d_X3_holds_161 rfl (fun x κ1 hx => L_nox hx) (fun r13 u14 h => ?_)
      refine LW.sub [0, 1, 2, 3, 4, 5, 6] rfl ?_
      exact T_X3_holds_164 hl X hr hex hk20 _ _ _ _ _ _ _ _ h_v1 h_v2 h_v3 _ h
    · replace h := h.2 c144
      refine L_aload_n (pc := 147) X d_X3_holds_147 rfl 3 rfl ?_
      refine gf_X3_179 (pc := 148) (b := v3 + 5) X d_X3_holds_148 h_v3 rfl ?_
      refine L_iload (pc := 151) X d_X3_holds_151 6 rfl ?_
      obtain ⟨q15, h⟩ := h
      refine L_iald (pc := 153) X d_X3_holds_153 (kf_4_4 h_v3) q15 ?_
      refine L_goto (pc := 154) (tgt := 164) X d_X3_holds_154 (by decide) ?_
      refine LW.sub [0, 1, 2, 3, 4, 5, 6] rfl ?_
      exact T_X3_holds_164 hl X hr hex hk20 _ _ _ _ _ _ _ _ h_v1 h_v2 h_v3 _ h
set_option maxHeartbeats 4000000 in
set_option maxRecDepth 100000 in
theorem T_X3_holds_73 {post : Bool → CMu → Prop} {k20 : Nat → Nat → Nat → Int32 → Int32 → Int32 → CMu → Prop} (hl : l.stackTraces = false) (X : MC p l s m args meth c cX3_holds 9 RX3 G ρ A) (hr : meth.sig.returnType = (some .boolean)) (hex : ∀ z ∈ c.exceptionTable.toList, False)
    (hk20 : ∀ (v1 : Nat) (v2 : Nat) (v3 : Nat) (v5 : Int32) (v6 : Int32) (v7 : Int32) (h_v1 : (KD v1).1 = 3) (h_v2 : (KD v2).1 = 1) (h_v3 : (KD v3).1 = 4) (cm : CMu), k20 v1 v2 v3 v5 v6 v7 cm → LW p l e rm_X3_holds s m args below meth c (Qm below G ρ A (PZ (fun u => (u, mm, oo)) post) noX args s 0 0) G ρ A 9 0 0 20 [(0, .ref 8), (1, .ref v1), (2, .ref v2), (3, .ref v3), (5, .int v5), (6, .int v6), (7, .int v7)] [] (cm, mm, oo)) : ∀ (v1 : Nat) (v2 : Nat) (v3 : Nat) (v5 : Int32) (v6 : Int32) (v7 : Int32) (v8 : Fin 32) (h_v1 : (KD v1).1 = 3) (h_v2 : (KD v2).1 = 1) (h_v3 : (KD v3).1 = 4) (cm : CMu), B_X3_holds_73 post k20 v1 v2 v3 v5 v6 v7 v8 cm → LW p l e rm_X3_holds s m args below meth c (Qm below G ρ A (PZ (fun u => (u, mm, oo)) post) noX args s 0 0) G ρ A 9 0 0 73 [(0, .ref 8), (1, .ref v1), (2, .ref v2), (3, .ref v3), (5, .int v5), (6, .int v6), (7, .int v7), (8, wv v8)] [] (cm, mm, oo) := by
  intro v1 v2 v3 v5 v6 v7 v8 h_v1 h_v2 h_v3 cm h
  unfold B_X3_holds_73 at h
  refine L_aloadW (pc := 73) X d_X3_holds_73 7 rfl ?_
  obtain ⟨q7, h⟩ := h
  refine L_getWi (pc := 75) X q7 (RX11, "isJoin", "Z", wjn) (by decide) (v := b2 (wJ v8)) (fun i hi => wJ_at i hi) d_X3_holds_75 tw_1629 ?_
  refine L_if_eq (pc := 78) (tgt := 123) X d_X3_holds_78 (by decide) (fun c78 => ?_) (fun c78 => ?_)
  · replace h := h.1 ((b2_0 _).mp c78)
    refine LW.sub [0, 1, 2, 3, 4, 5, 6, 7] rfl ?_
    exact T_X3_holds_123 hl X hr hex hk20 _ _ _ _ _ _ _ h_v1 h_v2 h_v3 _ h
  · replace h := h.2 (fun z => c78 ((b2_0 _).mpr z))
    refine L_iload (pc := 81) X d_X3_holds_81 5 rfl ?_
    refine L_iconst (pc := 83) (v := 2) X d_X3_holds_83 (by decide) ?_
    refine L_icmp_lt (pc := 84) (tgt := 123) X d_X3_holds_84 (by decide) (fun c84 => ?_) (fun c84 => ?_)
    · replace h := h.1 c84
      refine LW.sub [0, 1, 2, 3, 4, 5, 6, 7] rfl ?_
      exact T_X3_holds_123 hl X hr hex hk20 _ _ _ _ _ _ _ h_v1 h_v2 h_v3 _ h
    · replace h := h.2 c84
      refine L_iinc (pc := 87) (v := v6 + (-1)) (lv2 := [(6, .int (v6 + (-1))), (0, .ref 8), (1, .ref v1), (2, .ref v2), (3, .ref v3), (5, .int v5), (7, .int v7), (8, wv v8)]) X d_X3_holds_87 5 rfl rfl (by decide) rfl ?_
      refine L_aload_n (pc := 90) X d_X3_holds_90 rfl 1 rfl ?_
      refine gf_X3_17 (pc := 91) (b := 10) X d_X3_holds_91 kd_8 rfl ?_
      refine L_iload (pc := 94) X d_X3_holds_94 0 rfl ?_
      refine L_iconst (pc := 96) (v := 1) X d_X3_holds_96 (by decide) ?_
      refine L_isub (pc := 97) X d_X3_holds_97 ?_
      refine L_aloadW (pc := 98) X d_X3_holds_98 7 rfl ?_
      refine L_aload_n (pc := 100) X d_X3_holds_100 rfl 1 rfl ?_
      refine gf_X3_17 (pc := 101) (b := 10) X d_X3_holds_101 kd_8 rfl ?_
      refine L_iload (pc := 104) X d_X3_holds_104 0 rfl ?_
      refine L_iconst (pc := 106) (v := 1) X d_X3_holds_106 (by decide) ?_
      refine L_isub (pc := 107) X d_X3_holds_107 ?_
      obtain ⟨q8, h⟩ := h
      refine L_iald (pc := 108) X d_X3_holds_108 kd_10 q8 ?_
      refine L_aload_n (pc := 109) X d_X3_holds_109 rfl 1 rfl ?_
      refine gf_X3_17 (pc := 110) (b := 10) X d_X3_holds_110 kd_8 rfl ?_
      refine L_iload (pc := 113) X d_X3_holds_113 0 rfl ?_
      obtain ⟨q9, h⟩ := h
      refine L_iald (pc := 115) X d_X3_holds_115 kd_10 q9 ?_
      refine L_callSI (pc := 116) X lk_X3_172 (c_X3_join X.hst  h) rfl rfl rfl ⟨by decide, by decide⟩ ⟨by decide, by decide⟩ (Nat.le_of_ble_eq_true rfl) d_X3_holds_116 rfl (fun x κ1 hx => L_nox hx) (fun r10 u11 h => ?_)
      obtain ⟨q12, h⟩ := h
      refine L_iast (pc := 119) X d_X3_holds_119 kd_10 q12 ?_
      refine L_goto (pc := 120) (tgt := 168) X d_X3_holds_120 (by decide) ?_
      refine LW.sub [1, 2, 3, 4, 5, 0, 6] rfl ?_
      exact T_X3_holds_168 hl X hr hex hk20 _ _ _ _ _ _ h_v1 h_v2 h_v3 _ h
set_option maxHeartbeats 4000000 in
set_option maxRecDepth 100000 in
theorem T_X3_holds_20 {post : Bool → CMu → Prop} (hl : l.stackTraces = false) (X : MC p l s m args meth c cX3_holds 9 RX3 G ρ A) (hr : meth.sig.returnType = (some .boolean)) (hex : ∀ z ∈ c.exceptionTable.toList, False) (n : Nat) : ∀ (v1 : Nat) (v2 : Nat) (v3 : Nat) (v5 : Int32) (v6 : Int32) (v7 : Int32) (h_v1 : (KD v1).1 = 3) (h_v2 : (KD v2).1 = 1) (h_v3 : (KD v3).1 = 4) (cm : CMu), B_X3_holds_20 post n v1 v2 v3 v5 v6 v7 cm → LW p l e rm_X3_holds s m args below meth c (Qm below G ρ A (PZ (fun u => (u, mm, oo)) post) noX args s 0 0) G ρ A 9 0 0 20 [(0, .ref 8), (1, .ref v1), (2, .ref v2), (3, .ref v3), (5, .int v5), (6, .int v6), (7, .int v7)] [] (cm, mm, oo) := by
  induction n with
  | zero =>
    intro v1 v2 v3 v5 v6 v7 h_v1 h_v2 h_v3 cm h
    exact False.elim h
  | succ n ih =>
    intro v1 v2 v3 v5 v6 v7 h_v1 h_v2 h_v3 cm h
    unfold B_X3_holds_20 at h
    refine L_iload (pc := 20) X d_X3_holds_20 6 rfl ?_
    refine L_iload (pc := 22) X d_X3_holds_22 4 rfl ?_
    refine L_icmp_ge (pc := 24) (tgt := 174) X d_X3_holds_24 (by decide) (fun c24 => ?_) (fun c24 => ?_)
    · replace h := h.1 c24
      refine L_iload (pc := 174) X d_X3_holds_174 5 rfl ?_
      refine L_if_eq (pc := 176) (tgt := 188) X d_X3_holds_176 (by decide) (fun c176 => ?_) (fun c176 => ?_)
      · replace h := h.1 c176
        refine LW.sub [] rfl ?_
        exact T_X3_holds_188 hl X hr hex   _ h
      · replace h := h.2 c176
        refine L_aload_n (pc := 179) X d_X3_holds_179 rfl 0 rfl ?_
        refine gf_X3_17 (pc := 180) (b := 10) X d_X3_holds_180 kd_8 rfl ?_
        refine L_iconst (pc := 183) (v := 0) X d_X3_holds_183 (by decide) ?_
        refine L_iald (pc := 184) X d_X3_holds_184 kd_10 (by unfold vp_in; decide) ?_
        refine L_if_eq (pc := 185) (tgt := 192) X d_X3_holds_185 (by decide) (fun c185 => ?_) (fun c185 => ?_)
        · replace h := h.1 c185
          refine L_iconst (pc := 192) (v := 0) X d_X3_holds_192 (by decide) ?_
          refine LW.sub [] rfl ?_
          exact T_X3_holds_193 hl X hr hex _  _ h
        · replace h := h.2 c185
          refine LW.sub [] rfl ?_
          exact T_X3_holds_188 hl X hr hex   _ h
    · replace h := h.2 c24
      refine L_aload_n (pc := 27) X d_X3_holds_27 rfl 3 rfl ?_
      refine gf_X3_162 (pc := 28) (b := v3 + 4) X d_X3_holds_28 h_v3 rfl ?_
      refine L_iload (pc := 31) X d_X3_holds_31 6 rfl ?_
      obtain ⟨q4, h⟩ := h
      refine L_aaldW (pc := 33) X d_X3_holds_33 (kf_4_3 h_v3) q4 ?_
      refine L_astoreW (pc := 34) (lv2 := [(8, wv (gW cm (v3 + 4) (Int32.toNatClampNeg v7))), (0, .ref 8), (1, .ref v1), (2, .ref v2), (3, .ref v3), (5, .int v5), (6, .int v6), (7, .int v7)]) X d_X3_holds_34 (by decide) rfl ?_
      refine L_aloadW (pc := 36) X d_X3_holds_36 0 rfl ?_
      refine L_getsW (pc := 38) X 13 (by decide) rfl (w := 14) (by decide) d_X3_holds_38 tw_965 ?_
      refine L_acmp_ne (pc := 41) (tgt := 73) X d_X3_holds_41 (by decide) (fun c41 => ?_) (fun c41 => ?_)
      · replace h := h.1 c41
        refine LW.sub [1, 2, 3, 4, 5, 6, 7, 0] rfl ?_
        exact T_X3_holds_73 hl X hr hex ih _ _ _ _ _ _ _ h_v1 h_v2 h_v3 _ h
      · replace h := h.2 c41
        refine L_iload (pc := 44) X d_X3_holds_44 6 rfl ?_
        refine L_iconst (pc := 46) (v := 1) X d_X3_holds_46 (by decide) ?_
        refine L_icmp_lt (pc := 47) (tgt := 73) X d_X3_holds_47 (by decide) (fun c47 => ?_) (fun c47 => ?_)
        · replace h := h.1 c47
          refine LW.sub [1, 2, 3, 4, 5, 6, 7, 0] rfl ?_
          exact T_X3_holds_73 hl X hr hex ih _ _ _ _ _ _ _ h_v1 h_v2 h_v3 _ h
        · replace h := h.2 c47
          refine L_aload_n (pc := 50) X d_X3_holds_50 rfl 1 rfl ?_
          refine gf_X3_17 (pc := 51) (b := 10) X d_X3_holds_51 kd_8 rfl ?_
          refine L_iload (pc := 54) X d_X3_holds_54 6 rfl ?_
          refine L_iconst (pc := 56) (v := 1) X d_X3_holds_56 (by decide) ?_
          refine L_isub (pc := 57) X d_X3_holds_57 ?_
          refine L_iconst (pc := 58) (v := 1) X d_X3_holds_58 (by decide) ?_
          refine L_aload_n (pc := 59) X d_X3_holds_59 rfl 1 rfl ?_
          refine gf_X3_17 (pc := 60) (b := 10) X d_X3_holds_60 kd_8 rfl ?_
          refine L_iload (pc := 63) X d_X3_holds_63 6 rfl ?_
          refine L_iconst (pc := 65) (v := 1) X d_X3_holds_65 (by decide) ?_
          refine L_isub (pc := 66) X d_X3_holds_66 ?_
          obtain ⟨q5, h⟩ := h
          refine L_iald (pc := 67) X d_X3_holds_67 kd_10 q5 ?_
          refine L_isub (pc := 68) X d_X3_holds_68 ?_
          obtain ⟨q6, h⟩ := h
          refine L_iast (pc := 69) X d_X3_holds_69 kd_10 q6 ?_
          refine L_goto (pc := 70) (tgt := 168) X d_X3_holds_70 (by decide) ?_
          refine LW.sub [1, 2, 3, 4, 5, 6, 7] rfl ?_
          exact T_X3_holds_168 hl X hr hex ih _ _ _ _ _ _ h_v1 h_v2 h_v3 _ h
set_option maxHeartbeats 4000000 in
set_option maxRecDepth 100000 in
theorem c_X3_holds (hl : l.stackTraces = false) {a1 : Nat} {a2 : Nat} {a3 : Nat} {x4 : Int32} (h_a1 : (KD a1).1 = 3) (h_a2 : (KD a2).1 = 1) (h_a3 : (KD a3).1 = 4) {cm : CMu} {post : Bool → CMu → Prop} (h : w_X3_holds post a1 a2 a3 x4 cm) : CT l yX3_holds (.code yX3_holds cX3_holds 9 (some .boolean)) rm_X3_holds 0 0 G ρ [.ref 8, .ref a1, .ref a2, .ref a3, .int x4] (cm, mm, oo) (PZ (fun u => (u, mm, oo)) post) noX := by
  refine CT_of hl (by decide +kernel) rfl (Nat.le_of_ble_eq_true rfl) (lv0 := [(0, .ref 8), (1, .ref a1), (2, .ref a2), (3, .ref a3), (4, .int x4)]) rfl (fun p e s m args below meth c A X hr hex hnm => ?_)
  unfold w_X3_holds at h
  refine L_aload_n (pc := 0) X d_X3_holds_0 rfl 3 rfl ?_
  refine L_iload (pc := 1) X d_X3_holds_1 4 rfl ?_
  refine L_callVI (pc := 3) X lk_X3_155 (c_X5_behindQuestion X.hst h_a3 h) rfl rfl h_a3 (by decide) rfl rfl ⟨by decide, by decide⟩ ⟨by decide, by decide⟩ (Nat.zero_le _) d_X3_holds_3 rfl (fun x κ1 hx => L_nox hx) (fun r1 u2 h => ?_)
  refine L_istore (pc := 6) (lv2 := [(5, .int r1), (0, .ref 8), (1, .ref a1), (2, .ref a2), (3, .ref a3), (4, .int x4)]) X d_X3_holds_6 (by decide) rfl ?_
  refine L_iconst (pc := 8) (v := 0) X d_X3_holds_8 (by decide) ?_
  refine L_istore (pc := 9) (lv2 := [(6, .int 0), (5, .int r1), (0, .ref 8), (1, .ref a1), (2, .ref a2), (3, .ref a3), (4, .int x4)]) X d_X3_holds_9 (by decide) rfl ?_
  refine L_aload_n (pc := 11) X d_X3_holds_11 rfl 5 rfl ?_
  refine gf_X3_159 (pc := 12) (b := a3 + 3) X d_X3_holds_12 h_a3 rfl ?_
  refine L_iload (pc := 15) X d_X3_holds_15 6 rfl ?_
  obtain ⟨q3, h⟩ := h
  refine L_iald (pc := 17) X d_X3_holds_17 (kf_4_2 h_a3) q3 ?_
  refine L_istore (pc := 18) (lv2 := [(7, .int (gI u2 (a3 + 3) (Int32.toNatClampNeg x4))), (6, .int 0), (5, .int r1), (0, .ref 8), (1, .ref a1), (2, .ref a2), (3, .ref a3), (4, .int x4)]) X d_X3_holds_18 (by decide) rfl ?_
  obtain ⟨n20, h⟩ := h
  refine LW.sub [3, 4, 5, 6, 2, 1, 0] rfl ?_
  exact T_X3_holds_20 hl X hr hex n20 _ _ _ _ _ _ h_a1 h_a2 h_a3 _ h
end G_X3_holds
theorem yk_X3_holds : yX3_holds.cls = RX3 ∧ yX3_holds.cls ≠ "java/lang/invoke/MethodHandle" ∧ yX3_holds.cls ≠ "java/lang/invoke/VarHandle" ∧ (parseMethodDescriptor yX3_holds.desc).map (fun d => d.parameters.length) = some 4 := by decide +kernel
theorem lk_X3_111 : LinkV RX3 111 RX3 yX3_holds (.code yX3_holds cX3_holds 9 (some .boolean)) 4 := ⟨tw_957, tw_959, tw_21, tw_75, tw_960, yk_X3_holds⟩
theorem yk_X1_cut : yX1_cut.cls = RX1 ∧ yX1_cut.cls ≠ "java/lang/invoke/MethodHandle" ∧ yX1_cut.cls ≠ "java/lang/invoke/VarHandle" ∧ (parseMethodDescriptor yX1_cut.desc).map (fun d => d.parameters.length) = some 1 := by decide +kernel
theorem lk_X3_128 : LinkV RX3 128 RX1 yX1_cut (.code yX1_cut cX1_cut 3 none) 1 := ⟨tw_984, tw_985, tw_986, tw_80, tw_987, yk_X1_cut⟩
theorem yk_X1_send : yX1_send.cls = RX1 ∧ yX1_send.cls ≠ "java/lang/invoke/MethodHandle" ∧ yX1_send.cls ≠ "java/lang/invoke/VarHandle" ∧ (parseMethodDescriptor yX1_send.desc).map (fun d => d.parameters.length) = some 1 := by decide +kernel
theorem lk_X3_135 : LinkV RX3 135 RX1 yX1_send (.code yX1_send cX1_send 3 none) 1 := ⟨tw_990, tw_991, tw_992, tw_80, tw_993, yk_X1_send⟩
theorem yk_X4_throwChip : yX4_throwChip.cls = RX4 ∧ yX4_throwChip.cls ≠ "java/lang/invoke/MethodHandle" ∧ yX4_throwChip.cls ≠ "java/lang/invoke/VarHandle" ∧ (parseMethodDescriptor yX4_throwChip.desc).map (fun d => d.parameters.length) = some 4 := by decide +kernel
theorem lk_X3_144 : LinkV RX3 144 RX4 yX4_throwChip (.code yX4_throwChip cX4_throwChip 6 (some .int)) 4 := ⟨tw_995, tw_930, tw_931, tw_78, tw_932, yk_X4_throwChip⟩
theorem yk_X1_annul : yX1_annul.cls = RX1 ∧ yX1_annul.cls ≠ "java/lang/invoke/MethodHandle" ∧ yX1_annul.cls ≠ "java/lang/invoke/VarHandle" ∧ (parseMethodDescriptor yX1_annul.desc).map (fun d => d.parameters.length) = some 2 := by decide +kernel
theorem lk_X3_148 : LinkV RX3 148 RX1 yX1_annul (.code yX1_annul cX1_annul 5 none) 2 := ⟨tw_996, tw_997, tw_998, tw_80, tw_999, yk_X1_annul⟩
theorem d_X3_doActs_0 : decode cX3_doActs 0 = .ok (.aload_n 1, 1) := by decide +kernel
theorem d_X3_doActs_1 : decode cX3_doActs 1 = .ok (.getfield 40, 3) := by decide +kernel
theorem d_X3_doActs_4 : decode cX3_doActs 4 = .ok (.iload_n 2, 1) := by decide +kernel
theorem d_X3_doActs_5 : decode cX3_doActs 5 = .ok (.aaload, 1) := by decide +kernel
theorem d_X3_doActs_6 : decode cX3_doActs 6 = .ok (.astore_n 3, 1) := by decide +kernel
theorem d_X3_doActs_7 : decode cX3_doActs 7 = .ok (.aload_n 1, 1) := by decide +kernel
theorem d_X3_doActs_8 : decode cX3_doActs 8 = .ok (.getfield 98, 3) := by decide +kernel
theorem d_X3_doActs_11 : decode cX3_doActs 11 = .ok (.aload_n 3, 1) := by decide +kernel
theorem d_X3_doActs_12 : decode cX3_doActs 12 = .ok (.getfield 71, 3) := by decide +kernel
theorem d_X3_doActs_15 : decode cX3_doActs 15 = .ok (.aaload, 1) := by decide +kernel
theorem d_X3_doActs_16 : decode cX3_doActs 16 = .ok (.astore 4, 2) := by decide +kernel
theorem d_X3_doActs_18 : decode cX3_doActs 18 = .ok (.aload_n 0, 1) := by decide +kernel
theorem d_X3_doActs_19 : decode cX3_doActs 19 = .ok (.getfield 11, 3) := by decide +kernel
theorem d_X3_doActs_22 : decode cX3_doActs 22 = .ok (.iload_n 2, 1) := by decide +kernel
theorem d_X3_doActs_23 : decode cX3_doActs 23 = .ok (.aaload, 1) := by decide +kernel
theorem d_X3_doActs_24 : decode cX3_doActs 24 = .ok (.astore 5, 2) := by decide +kernel
theorem d_X3_doActs_26 : decode cX3_doActs 26 = .ok (.aload 4, 2) := by decide +kernel
theorem d_X3_doActs_28 : decode cX3_doActs 28 = .ok (.getfield 102, 3) := by decide +kernel
theorem d_X3_doActs_31 : decode cX3_doActs 31 = .ok (.lconst 1, 1) := by decide +kernel
theorem d_X3_doActs_32 : decode cX3_doActs 32 = .ok (.iload_n 2, 1) := by decide +kernel
theorem d_X3_doActs_33 : decode cX3_doActs 33 = .ok (.lshl, 1) := by decide +kernel
theorem d_X3_doActs_34 : decode cX3_doActs 34 = .ok (.land, 1) := by decide +kernel
theorem d_X3_doActs_35 : decode cX3_doActs 35 = .ok (.lconst 0, 1) := by decide +kernel
theorem d_X3_doActs_36 : decode cX3_doActs 36 = .ok (.lcmp, 1) := by decide +kernel
theorem d_X3_doActs_37 : decode cX3_doActs 37 = .ok (.ifCond .eq 4, 3) := by decide +kernel
theorem d_X3_doActs_40 : decode cX3_doActs 40 = .ok (.return_, 1) := by decide +kernel
theorem d_X3_doActs_41 : decode cX3_doActs 41 = .ok (.iconst 0, 1) := by decide +kernel
theorem d_X3_doActs_42 : decode cX3_doActs 42 = .ok (.istore 6, 2) := by decide +kernel
theorem d_X3_doActs_44 : decode cX3_doActs 44 = .ok (.iload 6, 2) := by decide +kernel
theorem d_X3_doActs_46 : decode cX3_doActs 46 = .ok (.aload 5, 2) := by decide +kernel
theorem d_X3_doActs_48 : decode cX3_doActs 48 = .ok (.getfield 108, 3) := by decide +kernel
theorem d_X3_doActs_51 : decode cX3_doActs 51 = .ok (.if_icmp .ge 131, 3) := by decide +kernel
theorem d_X3_doActs_54 : decode cX3_doActs 54 = .ok (.iload 6, 2) := by decide +kernel
theorem d_X3_doActs_56 : decode cX3_doActs 56 = .ok (.bipush 8, 2) := by decide +kernel
theorem d_X3_doActs_58 : decode cX3_doActs 58 = .ok (.if_icmp .ge 124, 3) := by decide +kernel
theorem d_X3_doActs_61 : decode cX3_doActs 61 = .ok (.aload_n 0, 1) := by decide +kernel
theorem d_X3_doActs_62 : decode cX3_doActs 62 = .ok (.aload_n 1, 1) := by decide +kernel
theorem d_X3_doActs_63 : decode cX3_doActs 63 = .ok (.aload_n 3, 1) := by decide +kernel
theorem d_X3_doActs_64 : decode cX3_doActs 64 = .ok (.aload 5, 2) := by decide +kernel
theorem d_X3_doActs_66 : decode cX3_doActs 66 = .ok (.iload 6, 2) := by decide +kernel
theorem d_X3_doActs_68 : decode cX3_doActs 68 = .ok (.invokevirtual 111, 3) := by decide +kernel
theorem d_X3_doActs_71 : decode cX3_doActs 71 = .ok (.ifCond .ne 6, 3) := by decide +kernel
theorem d_X3_doActs_74 : decode cX3_doActs 74 = .ok (.goto 102, 3) := by decide +kernel
theorem d_X3_doActs_77 : decode cX3_doActs 77 = .ok (.aload 5, 2) := by decide +kernel
theorem d_X3_doActs_79 : decode cX3_doActs 79 = .ok (.getfield 115, 3) := by decide +kernel
theorem d_X3_doActs_82 : decode cX3_doActs 82 = .ok (.iload 6, 2) := by decide +kernel
theorem d_X3_doActs_84 : decode cX3_doActs 84 = .ok (.aaload, 1) := by decide +kernel
theorem d_X3_doActs_85 : decode cX3_doActs 85 = .ok (.astore 7, 2) := by decide +kernel
theorem d_X3_doActs_87 : decode cX3_doActs 87 = .ok (.aload 7, 2) := by decide +kernel
theorem d_X3_doActs_89 : decode cX3_doActs 89 = .ok (.getstatic 119, 3) := by decide +kernel
theorem d_X3_doActs_92 : decode cX3_doActs 92 = .ok (.if_acmp .ne 19, 3) := by decide +kernel
theorem d_X3_doActs_95 : decode cX3_doActs 95 = .ok (.aload 4, 2) := by decide +kernel
theorem d_X3_doActs_97 : decode cX3_doActs 97 = .ok (.aload 5, 2) := by decide +kernel
theorem d_X3_doActs_99 : decode cX3_doActs 99 = .ok (.getfield 125, 3) := by decide +kernel
theorem d_X3_doActs_102 : decode cX3_doActs 102 = .ok (.iload 6, 2) := by decide +kernel
theorem d_X3_doActs_104 : decode cX3_doActs 104 = .ok (.iaload, 1) := by decide +kernel
theorem d_X3_doActs_105 : decode cX3_doActs 105 = .ok (.invokevirtual 128, 3) := by decide +kernel
theorem d_X3_doActs_108 : decode cX3_doActs 108 = .ok (.goto 68, 3) := by decide +kernel
theorem d_X3_doActs_111 : decode cX3_doActs 111 = .ok (.aload 7, 2) := by decide +kernel
theorem d_X3_doActs_113 : decode cX3_doActs 113 = .ok (.getstatic 132, 3) := by decide +kernel
theorem d_X3_doActs_116 : decode cX3_doActs 116 = .ok (.if_acmp .ne 19, 3) := by decide +kernel
theorem d_X3_doActs_119 : decode cX3_doActs 119 = .ok (.aload 4, 2) := by decide +kernel
theorem d_X3_doActs_121 : decode cX3_doActs 121 = .ok (.aload 5, 2) := by decide +kernel
theorem d_X3_doActs_123 : decode cX3_doActs 123 = .ok (.getfield 125, 3) := by decide +kernel
theorem d_X3_doActs_126 : decode cX3_doActs 126 = .ok (.iload 6, 2) := by decide +kernel
theorem d_X3_doActs_128 : decode cX3_doActs 128 = .ok (.iaload, 1) := by decide +kernel
theorem d_X3_doActs_129 : decode cX3_doActs 129 = .ok (.invokevirtual 135, 3) := by decide +kernel
theorem d_X3_doActs_132 : decode cX3_doActs 132 = .ok (.goto 44, 3) := by decide +kernel
theorem d_X3_doActs_135 : decode cX3_doActs 135 = .ok (.aload 7, 2) := by decide +kernel
theorem d_X3_doActs_137 : decode cX3_doActs 137 = .ok (.getstatic 138, 3) := by decide +kernel
theorem d_X3_doActs_140 : decode cX3_doActs 140 = .ok (.if_acmp .ne 22, 3) := by decide +kernel
theorem d_X3_doActs_143 : decode cX3_doActs 143 = .ok (.aload_n 1, 1) := by decide +kernel
theorem d_X3_doActs_144 : decode cX3_doActs 144 = .ok (.aload_n 3, 1) := by decide +kernel
theorem d_X3_doActs_145 : decode cX3_doActs 145 = .ok (.getfield 71, 3) := by decide +kernel
theorem d_X3_doActs_148 : decode cX3_doActs 148 = .ok (.iconst 1, 1) := by decide +kernel
theorem d_X3_doActs_149 : decode cX3_doActs 149 = .ok (.iconst (-1), 1) := by decide +kernel
theorem d_X3_doActs_150 : decode cX3_doActs 150 = .ok (.aload 4, 2) := by decide +kernel
theorem d_X3_doActs_152 : decode cX3_doActs 152 = .ok (.getfield 141, 3) := by decide +kernel
theorem d_X3_doActs_155 : decode cX3_doActs 155 = .ok (.invokevirtual 144, 3) := by decide +kernel
theorem d_X3_doActs_158 : decode cX3_doActs 158 = .ok (.pop, 1) := by decide +kernel
theorem d_X3_doActs_159 : decode cX3_doActs 159 = .ok (.goto 17, 3) := by decide +kernel
theorem d_X3_doActs_162 : decode cX3_doActs 162 = .ok (.aload 4, 2) := by decide +kernel
theorem d_X3_doActs_164 : decode cX3_doActs 164 = .ok (.aload 5, 2) := by decide +kernel
theorem d_X3_doActs_166 : decode cX3_doActs 166 = .ok (.getfield 125, 3) := by decide +kernel
theorem d_X3_doActs_169 : decode cX3_doActs 169 = .ok (.iload 6, 2) := by decide +kernel
theorem d_X3_doActs_171 : decode cX3_doActs 171 = .ok (.iaload, 1) := by decide +kernel
theorem d_X3_doActs_172 : decode cX3_doActs 172 = .ok (.iload_n 2, 1) := by decide +kernel
theorem d_X3_doActs_173 : decode cX3_doActs 173 = .ok (.invokevirtual 148, 3) := by decide +kernel
theorem d_X3_doActs_176 : decode cX3_doActs 176 = .ok (.iinc 6 1, 3) := by decide +kernel
theorem d_X3_doActs_179 : decode cX3_doActs 179 = .ok (.goto (-135), 3) := by decide +kernel
theorem d_X3_doActs_182 : decode cX3_doActs 182 = .ok (.aload 4, 2) := by decide +kernel
theorem d_X3_doActs_184 : decode cX3_doActs 184 = .ok (.dup, 1) := by decide +kernel
theorem d_X3_doActs_185 : decode cX3_doActs 185 = .ok (.getfield 152, 3) := by decide +kernel
theorem d_X3_doActs_188 : decode cX3_doActs 188 = .ok (.lconst 1, 1) := by decide +kernel
theorem d_X3_doActs_189 : decode cX3_doActs 189 = .ok (.iload_n 2, 1) := by decide +kernel
theorem d_X3_doActs_190 : decode cX3_doActs 190 = .ok (.lshl, 1) := by decide +kernel
theorem d_X3_doActs_191 : decode cX3_doActs 191 = .ok (.lor, 1) := by decide +kernel
theorem d_X3_doActs_192 : decode cX3_doActs 192 = .ok (.putfield 152, 3) := by decide +kernel
theorem d_X3_doActs_195 : decode cX3_doActs 195 = .ok (.return_, 1) := by decide +kernel
abbrev rm_X3_doActs : Room := { frames := 6, cells := 0, slots := 0, locals := 111 }
def B_X3_doActs_182 (post : CMu → Prop) (v2 : Int32) (v4 : Nat) (cm : CMu) : Prop := post (uL cm v4 5 ((gL cm v4 5) ||| (1 <<< (Int32.toInt64 v2 &&& 63))))
def B_X3_doActs_176 (post : CMu → Prop) (k44 : Nat → Int32 → Nat → Nat → Nat → Int32 → CMu → Prop) (v1 : Nat) (v2 : Int32) (v3 : Nat) (v4 : Nat) (v5 : Nat) (v6 : Int32) (cm : CMu) : Prop := k44 v1 v2 v3 v4 v5 (v6 + 1) cm
def B_X3_doActs_44 (post : CMu → Prop) : Nat → Nat → Int32 → Nat → Nat → Nat → Int32 → CMu → Prop
  | 0 => fun _ _ _ _ _ _ _ => False
  | n + 1 => fun v1 v2 v3 v4 v5 v6 cm => ((gI cm v5 6) ≤ v6 → (B_X3_doActs_182 post v2 v4 cm)) ∧ (¬ (gI cm v5 6) ≤ v6 → ((8 ≤ v6 → (B_X3_doActs_182 post v2 v4 cm)) ∧ (¬ 8 ≤ v6 → (w_X3_holds (fun (r4 : Bool) (u5 : CMu) => (¬ (r4 = false) → ((vp_in v6 8) ∧ (¬ (gW u5 (v5 + 1) (Int32.toNatClampNeg v6)) = 9 → ((¬ (gW u5 (v5 + 1) (Int32.toNatClampNeg v6)) = 10 → ((¬ (gW u5 (v5 + 1) (Int32.toNatClampNeg v6)) = 11 → ((vp_in v6 8) ∧ w_X1_annul (fun (u9 : CMu) => B_X3_doActs_176 post (B_X3_doActs_44 post n) v1 v2 v3 v4 v5 v6 u9) v4 (gI u5 (v5 + 2) (Int32.toNatClampNeg v6)) v2 u5)) ∧ ((gW u5 (v5 + 1) (Int32.toNatClampNeg v6)) = 11 → (w_X4_throwChip (fun (r10 : Int32) (u11 : CMu) => B_X3_doActs_176 post (B_X3_doActs_44 post n) v1 v2 v3 v4 v5 v6 u11) v1 (gI u5 v3 1) 1 (-1) (gI u5 v4 1) u5)))) ∧ ((gW u5 (v5 + 1) (Int32.toNatClampNeg v6)) = 10 → ((vp_in v6 8) ∧ w_X1_send (fun (u14 : CMu) => B_X3_doActs_176 post (B_X3_doActs_44 post n) v1 v2 v3 v4 v5 v6 u14) v4 (gI u5 (v5 + 2) (Int32.toNatClampNeg v6)) u5)))) ∧ ((gW u5 (v5 + 1) (Int32.toNatClampNeg v6)) = 9 → ((vp_in v6 8) ∧ w_X1_cut (fun (u17 : CMu) => B_X3_doActs_176 post (B_X3_doActs_44 post n) v1 v2 v3 v4 v5 v6 u17) v4 (gI u5 (v5 + 2) (Int32.toNatClampNeg v6)) u5)))) ∧ ((r4 = false) → (B_X3_doActs_176 post (B_X3_doActs_44 post n) v1 v2 v3 v4 v5 v6 u5))) v1 v3 v5 v6 cm))))
def w_X3_doActs (post : CMu → Prop) (a1 : Nat) (x2 : Int32) (cm : CMu) : Prop := (vp_in x2 60) ∧ (vp_in (gI cm (a1 + 47 + Int32.toNatClampNeg x2) 1) 12) ∧ (vp_in x2 61) ∧ ((lg_cmp ((gL cm (a1 + 23 + 2 * Int32.toNatClampNeg (gI cm (a1 + 47 + Int32.toNatClampNeg x2) 1)) 4) &&& (1 <<< (Int32.toInt64 x2 &&& 63))) 0) = 0 → (∃ n44, B_X3_doActs_44 post n44 a1 x2 (a1 + 47 + Int32.toNatClampNeg x2) (a1 + 23 + 2 * Int32.toNatClampNeg (gI cm (a1 + 47 + Int32.toNatClampNeg x2) 1)) (11 + 6 * Int32.toNatClampNeg x2) 0 cm)) ∧ (¬ (lg_cmp ((gL cm (a1 + 23 + 2 * Int32.toNatClampNeg (gI cm (a1 + 47 + Int32.toNatClampNeg x2) 1)) 4) &&& (1 <<< (Int32.toInt64 x2 &&& 63))) 0) = 0 → (post cm))
section G_X3_doActs
variable {p : Program} {l : Launch} {e : Env} {s : State} {m : MethodId} {args : Array Value} {below : List Frame} {meth : Method} {c : Code} {G : Gd} {ρ : Nat → Nat} {A : Nat → Prop} {mm : Nat → Nat → Int32} {oo : Nat → Int64}
set_option maxHeartbeats 4000000 in
set_option maxRecDepth 100000 in
theorem T_X3_doActs_182 {post : CMu → Prop} (hl : l.stackTraces = false) (X : MC p l s m args meth c cX3_doActs 8 RX3 G ρ A) (hr : meth.sig.returnType = none) (hex : ∀ z ∈ c.exceptionTable.toList, False) : ∀ (v2 : Int32) (v4 : Nat) (h_v4 : (KD v4).1 = 0) (cm : CMu), B_X3_doActs_182 post v2 v4 cm → LW p l e rm_X3_doActs s m args below meth c (Qm below G ρ A (PV (fun u => (u, mm, oo)) post) noX args s 0 0) G ρ A 8 0 0 182 [(2, .int v2), (4, .ref v4)] [] (cm, mm, oo) := by
  intro v2 v4 h_v4 cm h
  unfold B_X3_doActs_182 at h
  refine L_aload (pc := 182) X d_X3_doActs_182 1 rfl ?_
  refine L_dup (pc := 184) X d_X3_doActs_184 rfl ?_
  refine gf_X3_152 (pc := 185) X d_X3_doActs_185 h_v4 ?_
  refine L_lconst (pc := 188) (v := 1) X d_X3_doActs_188 (by decide) ?_
  refine L_iload_n (pc := 189) X d_X3_doActs_189 rfl 0 rfl ?_
  refine L_lshl (pc := 190) X d_X3_doActs_190 ?_
  refine L_lor (pc := 191) X d_X3_doActs_191 ?_
  refine pf_X3_152 (pc := 192) X d_X3_doActs_192 h_v4 ?_
  exact L_vret (pc := 195) X hr d_X3_doActs_195 (by decide) (by decide) ⟨_, rfl, rfl, h⟩
set_option maxHeartbeats 4000000 in
set_option maxRecDepth 100000 in
theorem T_X3_doActs_176 {post : CMu → Prop} {k44 : Nat → Int32 → Nat → Nat → Nat → Int32 → CMu → Prop} (hl : l.stackTraces = false) (X : MC p l s m args meth c cX3_doActs 8 RX3 G ρ A) (hr : meth.sig.returnType = none) (hex : ∀ z ∈ c.exceptionTable.toList, False)
    (hk44 : ∀ (v1 : Nat) (v2 : Int32) (v3 : Nat) (v4 : Nat) (v5 : Nat) (v6 : Int32) (h_v1 : (KD v1).1 = 3) (h_v3 : (KD v3).1 = 1) (h_v4 : (KD v4).1 = 0) (h_v5 : (KD v5).1 = 4) (cm : CMu), k44 v1 v2 v3 v4 v5 v6 cm → LW p l e rm_X3_doActs s m args below meth c (Qm below G ρ A (PV (fun u => (u, mm, oo)) post) noX args s 0 0) G ρ A 8 0 0 44 [(0, .ref 8), (1, .ref v1), (2, .int v2), (3, .ref v3), (4, .ref v4), (5, .ref v5), (6, .int v6)] [] (cm, mm, oo)) : ∀ (v1 : Nat) (v2 : Int32) (v3 : Nat) (v4 : Nat) (v5 : Nat) (v6 : Int32) (h_v1 : (KD v1).1 = 3) (h_v3 : (KD v3).1 = 1) (h_v4 : (KD v4).1 = 0) (h_v5 : (KD v5).1 = 4) (cm : CMu), B_X3_doActs_176 post k44 v1 v2 v3 v4 v5 v6 cm → LW p l e rm_X3_doActs s m args below meth c (Qm below G ρ A (PV (fun u => (u, mm, oo)) post) noX args s 0 0) G ρ A 8 0 0 176 [(0, .ref 8), (1, .ref v1), (2, .int v2), (3, .ref v3), (4, .ref v4), (5, .ref v5), (6, .int v6)] [] (cm, mm, oo) := by
  intro v1 v2 v3 v4 v5 v6 h_v1 h_v3 h_v4 h_v5 cm h
  unfold B_X3_doActs_176 at h
  refine L_iinc (pc := 176) (v := v6 + 1) (lv2 := [(6, .int (v6 + 1)), (0, .ref 8), (1, .ref v1), (2, .int v2), (3, .ref v3), (4, .ref v4), (5, .ref v5)]) X d_X3_doActs_176 6 rfl rfl (by decide) rfl ?_
  refine L_goto (pc := 179) (tgt := 44) X d_X3_doActs_179 (by decide) ?_
  refine LW.sub [1, 2, 3, 4, 5, 6, 0] rfl ?_
  exact hk44 _ _ _ _ _ _ h_v1 h_v3 h_v4 h_v5 _ h
set_option maxHeartbeats 4000000 in
set_option maxRecDepth 100000 in
theorem T_X3_doActs_44 {post : CMu → Prop} (hl : l.stackTraces = false) (X : MC p l s m args meth c cX3_doActs 8 RX3 G ρ A) (hr : meth.sig.returnType = none) (hex : ∀ z ∈ c.exceptionTable.toList, False) (n : Nat) : ∀ (v1 : Nat) (v2 : Int32) (v3 : Nat) (v4 : Nat) (v5 : Nat) (v6 : Int32) (h_v1 : (KD v1).1 = 3) (h_v3 : (KD v3).1 = 1) (h_v4 : (KD v4).1 = 0) (h_v5 : (KD v5).1 = 4) (cm : CMu), B_X3_doActs_44 post n v1 v2 v3 v4 v5 v6 cm → LW p l e rm_X3_doActs s m args below meth c (Qm below G ρ A (PV (fun u => (u, mm, oo)) post) noX args s 0 0) G ρ A 8 0 0 44 [(0, .ref 8), (1, .ref v1), (2, .int v2), (3, .ref v3), (4, .ref v4), (5, .ref v5), (6, .int v6)] [] (cm, mm, oo) := by
  induction n with
  | zero =>
    intro v1 v2 v3 v4 v5 v6 h_v1 h_v3 h_v4 h_v5 cm h
    exact False.elim h
  | succ n ih =>
    intro v1 v2 v3 v4 v5 v6 h_v1 h_v3 h_v4 h_v5 cm h
    unfold B_X3_doActs_44 at h
    refine L_iload (pc := 44) X d_X3_doActs_44 6 rfl ?_
    refine L_aload (pc := 46) X d_X3_doActs_46 5 rfl ?_
    refine gf_X3_108 (pc := 48) X d_X3_doActs_48 h_v5 ?_
    refine L_icmp_ge (pc := 51) (tgt := 182) X d_X3_doActs_51 (by decide) (fun c51 => ?_) (fun c51 => ?_)
    · replace h := h.1 c51
      refine LW.sub [2, 4] rfl ?_
      exact T_X3_doActs_182 hl X hr hex _ _ h_v4 _ h
    · replace h := h.2 c51
      refine L_iload (pc := 54) X d_X3_doActs_54 6 rfl ?_
      refine L_bipush (pc := 56) (v := 8) X d_X3_doActs_56 (by decide) ?_
      refine L_icmp_ge (pc := 58) (tgt := 182) X d_X3_doActs_58 (by decide) (fun c58 => ?_) (fun c58 => ?_)
      · replace h := h.1 c58
        refine LW.sub [2, 4] rfl ?_
        exact T_X3_doActs_182 hl X hr hex _ _ h_v4 _ h
      · replace h := h.2 c58
        refine L_aload_n (pc := 61) X d_X3_doActs_61 rfl 0 rfl ?_
        refine L_aload_n (pc := 62) X d_X3_doActs_62 rfl 1 rfl ?_
        refine L_aload_n (pc := 63) X d_X3_doActs_63 rfl 3 rfl ?_
        refine L_aload (pc := 64) X d_X3_doActs_64 5 rfl ?_
        refine L_iload (pc := 66) X d_X3_doActs_66 6 rfl ?_
        refine L_callVZ (pc := 68) X lk_X3_111 (c_X3_holds X.hst h_v1 h_v3 h_v5 h) rfl rfl kd_8 (by decide) rfl rfl ⟨by decide, by decide⟩ ⟨by decide, by decide⟩ (Nat.zero_le _) d_X3_doActs_68 rfl (fun x κ1 hx => L_nox hx) (fun r4 u5 h => ?_)
        refine L_if_ne (pc := 71) (tgt := 77) X d_X3_doActs_71 (by decide) (fun c71 => ?_) (fun c71 => ?_)
        · replace h := h.1 (fun z => c71 ((b2_0 _).mpr z))
          refine L_aload (pc := 77) X d_X3_doActs_77 5 rfl ?_
          refine gf_X3_115 (pc := 79) (b := v5 + 1) X d_X3_doActs_79 h_v5 rfl ?_
          refine L_iload (pc := 82) X d_X3_doActs_82 6 rfl ?_
          obtain ⟨q6, h⟩ := h
          refine L_aaldW (pc := 84) X d_X3_doActs_84 (kf_4_0 h_v5) q6 ?_
          refine L_astoreW (pc := 85) (lv2 := [(7, wv (gW u5 (v5 + 1) (Int32.toNatClampNeg v6))), (0, .ref 8), (1, .ref v1), (2, .int v2), (3, .ref v3), (4, .ref v4), (5, .ref v5), (6, .int v6)]) X d_X3_doActs_85 (by decide) rfl ?_
          refine L_aloadW (pc := 87) X d_X3_doActs_87 0 rfl ?_
          refine L_getsW (pc := 89) X 8 (by decide) rfl (w := 9) (by decide) d_X3_doActs_89 tw_983 ?_
          refine L_acmp_ne (pc := 92) (tgt := 111) X d_X3_doActs_92 (by decide) (fun c92 => ?_) (fun c92 => ?_)
          · replace h := h.1 c92
            refine L_aloadW (pc := 111) X d_X3_doActs_111 0 rfl ?_
            refine L_getsW (pc := 113) X 9 (by decide) rfl (w := 10) (by decide) d_X3_doActs_113 tw_989 ?_
            refine L_acmp_ne (pc := 116) (tgt := 135) X d_X3_doActs_116 (by decide) (fun c116 => ?_) (fun c116 => ?_)
            · replace h := h.1 c116
              refine L_aloadW (pc := 135) X d_X3_doActs_135 0 rfl ?_
              refine L_getsW (pc := 137) X 10 (by decide) rfl (w := 11) (by decide) d_X3_doActs_137 tw_994 ?_
              refine L_acmp_ne (pc := 140) (tgt := 162) X d_X3_doActs_140 (by decide) (fun c140 => ?_) (fun c140 => ?_)
              · replace h := h.1 c140
                refine L_aload (pc := 162) X d_X3_doActs_162 5 rfl ?_
                refine L_aload (pc := 164) X d_X3_doActs_164 6 rfl ?_
                refine gf_X3_125 (pc := 166) (b := v5 + 2) X d_X3_doActs_166 h_v5 rfl ?_
                refine L_iload (pc := 169) X d_X3_doActs_169 7 rfl ?_
                obtain ⟨q7, h⟩ := h
                refine L_iald (pc := 171) X d_X3_doActs_171 (kf_4_1 h_v5) q7 ?_
                refine L_iload_n (pc := 172) X d_X3_doActs_172 rfl 3 rfl ?_
                refine L_callVV (pc := 173) X lk_X3_148 (c_X1_annul X.hst h_v4 h) rfl rfl h_v4 (by decide) rfl rfl ⟨by decide, by decide⟩ ⟨by decide, by decide⟩ (Nat.zero_le _) d_X3_doActs_173 rfl (fun x κ1 hx => L_nox hx) (fun u9 h => ?_)
                refine LW.sub [1, 2, 3, 4, 5, 6, 7] rfl ?_
                exact T_X3_doActs_176 hl X hr hex ih _ _ _ _ _ _ h_v1 h_v3 h_v4 h_v5 _ h
              · replace h := h.2 c140
                refine L_aload_n (pc := 143) X d_X3_doActs_143 rfl 2 rfl ?_
                refine L_aload_n (pc := 144) X d_X3_doActs_144 rfl 4 rfl ?_
                refine gf_X3_71 (pc := 145) X d_X3_doActs_145 h_v3 ?_
                refine L_iconst (pc := 148) (v := 1) X d_X3_doActs_148 (by decide) ?_
                refine L_iconst (pc := 149) (v := (-1)) X d_X3_doActs_149 (by decide) ?_
                refine L_aload (pc := 150) X d_X3_doActs_150 5 rfl ?_
                refine gf_X3_141 (pc := 152) X d_X3_doActs_152 h_v4 ?_
                refine L_callVI (pc := 155) X lk_X3_144 (c_X4_throwChip X.hst h_v1 h) rfl rfl h_v1 (by decide) rfl rfl ⟨by decide, by decide⟩ ⟨by decide, by decide⟩ (Nat.zero_le _) d_X3_doActs_155 rfl (fun x κ1 hx => L_nox hx) (fun r10 u11 h => ?_)
                refine L_pop (pc := 158) X d_X3_doActs_158 rfl ?_
                refine L_goto (pc := 159) (tgt := 176) X d_X3_doActs_159 (by decide) ?_
                refine LW.sub [1, 2, 3, 4, 5, 6, 7] rfl ?_
                exact T_X3_doActs_176 hl X hr hex ih _ _ _ _ _ _ h_v1 h_v3 h_v4 h_v5 _ h
            · replace h := h.2 c116
              refine L_aload (pc := 119) X d_X3_doActs_119 5 rfl ?_
              refine L_aload (pc := 121) X d_X3_doActs_121 6 rfl ?_
              refine gf_X3_125 (pc := 123) (b := v5 + 2) X d_X3_doActs_123 h_v5 rfl ?_
              refine L_iload (pc := 126) X d_X3_doActs_126 7 rfl ?_
              obtain ⟨q12, h⟩ := h
              refine L_iald (pc := 128) X d_X3_doActs_128 (kf_4_1 h_v5) q12 ?_
              refine L_callVV (pc := 129) X lk_X3_135 (c_X1_send X.hst h_v4 h) rfl rfl h_v4 (by decide) rfl rfl ⟨by decide, by decide⟩ ⟨by decide, by decide⟩ (Nat.zero_le _) d_X3_doActs_129 rfl (fun x κ1 hx => L_nox hx) (fun u14 h => ?_)
              refine L_goto (pc := 132) (tgt := 176) X d_X3_doActs_132 (by decide) ?_
              refine LW.sub [1, 2, 3, 4, 5, 6, 7] rfl ?_
              exact T_X3_doActs_176 hl X hr hex ih _ _ _ _ _ _ h_v1 h_v3 h_v4 h_v5 _ h
          · replace h := h.2 c92
            refine L_aload (pc := 95) X d_X3_doActs_95 5 rfl ?_
            refine L_aload (pc := 97) X d_X3_doActs_97 6 rfl ?_
            refine gf_X3_125 (pc := 99) (b := v5 + 2) X d_X3_doActs_99 h_v5 rfl ?_
            refine L_iload (pc := 102) X d_X3_doActs_102 7 rfl ?_
            obtain ⟨q15, h⟩ := h
            refine L_iald (pc := 104) X d_X3_doActs_104 (kf_4_1 h_v5) q15 ?_
            refine L_callVV (pc := 105) X lk_X3_128 (c_X1_cut X.hst h_v4 h) rfl rfl h_v4 (by decide) rfl rfl ⟨by decide, by decide⟩ ⟨by decide, by decide⟩ (Nat.zero_le _) d_X3_doActs_105 rfl (fun x κ1 hx => L_nox hx) (fun u17 h => ?_)
            refine L_goto (pc := 108) (tgt := 176) X d_X3_doActs_108 (by decide) ?_
            refine LW.sub [1, 2, 3, 4, 5, 6, 7] rfl ?_
            exact T_X3_doActs_176 hl X hr hex ih _ _ _ _ _ _ h_v1 h_v3 h_v4 h_v5 _ h
        · replace h := h.2 ((b2_0 _).mp c71)
          refine L_goto (pc := 74) (tgt := 176) X d_X3_doActs_74 (by decide) ?_
          refine LW.sub [0, 1, 2, 3, 4, 5, 6] rfl ?_
          exact T_X3_doActs_176 hl X hr hex ih _ _ _ _ _ _ h_v1 h_v3 h_v4 h_v5 _ h
set_option maxHeartbeats 4000000 in
set_option maxRecDepth 100000 in
theorem c_X3_doActs (hl : l.stackTraces = false) {a1 : Nat} {x2 : Int32} (h_a1 : (KD a1).1 = 3) {cm : CMu} {post : CMu → Prop} (h : w_X3_doActs post a1 x2 cm) : CT l yX3_doActs (.code yX3_doActs cX3_doActs 8 none) rm_X3_doActs 0 0 G ρ [.ref 8, .ref a1, .int x2] (cm, mm, oo) (PV (fun u => (u, mm, oo)) post) noX := by
  refine CT_of hl (by decide +kernel) rfl (Nat.le_of_ble_eq_true rfl) (lv0 := [(0, .ref 8), (1, .ref a1), (2, .int x2)]) rfl (fun p e s m args below meth c A X hr hex hnm => ?_)
  unfold w_X3_doActs at h
  refine L_aload_n (pc := 0) X d_X3_doActs_0 rfl 1 rfl ?_
  refine gf_X3_40 (pc := 1) (b := a1 + 3) X d_X3_doActs_1 h_a1 rfl ?_
  refine L_iload_n (pc := 4) X d_X3_doActs_4 rfl 2 rfl ?_
  obtain ⟨q1, h⟩ := h
  refine L_aald24 (pc := 5) (b := a1 + 47 + Int32.toNatClampNeg x2) X d_X3_doActs_5 (kf_3_2 h_a1) q1 rfl ?_
  refine L_astore_n (pc := 6) (lv2 := [(3, .ref (a1 + 47 + Int32.toNatClampNeg x2)), (0, .ref 8), (1, .ref a1), (2, .int x2)]) X d_X3_doActs_6 rfl (by decide) rfl ?_
  refine L_aload_n (pc := 7) X d_X3_doActs_7 rfl 2 rfl ?_
  refine gf_X3_98 (pc := 8) (b := a1 + 1) X d_X3_doActs_8 h_a1 rfl ?_
  refine L_aload_n (pc := 11) X d_X3_doActs_11 rfl 0 rfl ?_
  refine gf_X3_71 (pc := 12) X d_X3_doActs_12 (ka_24 (kf_3_2 h_a1) (vin_lt q1)) ?_
  obtain ⟨q2, h⟩ := h
  refine L_aald22 (pc := 15) (b := a1 + 23 + 2 * Int32.toNatClampNeg (gI cm (a1 + 47 + Int32.toNatClampNeg x2) 1)) X d_X3_doActs_15 (kf_3_0 h_a1) q2 rfl ?_
  refine L_astore (pc := 16) (lv2 := [(4, .ref (a1 + 23 + 2 * Int32.toNatClampNeg (gI cm (a1 + 47 + Int32.toNatClampNeg x2) 1))), (3, .ref (a1 + 47 + Int32.toNatClampNeg x2)), (0, .ref 8), (1, .ref a1), (2, .int x2)]) X d_X3_doActs_16 (by decide) rfl ?_
  refine L_aload_n (pc := 18) X d_X3_doActs_18 rfl 2 rfl ?_
  refine gf_X3_11 (pc := 19) (b := 9) X d_X3_doActs_19 kd_8 rfl ?_
  refine L_iload_n (pc := 22) X d_X3_doActs_22 rfl 4 rfl ?_
  obtain ⟨q3, h⟩ := h
  refine L_aald27 (pc := 23) (b := 11 + 6 * Int32.toNatClampNeg x2) X d_X3_doActs_23 kd_9 q3 rfl ?_
  refine L_astore (pc := 24) (lv2 := [(5, .ref (11 + 6 * Int32.toNatClampNeg x2)), (4, .ref (a1 + 23 + 2 * Int32.toNatClampNeg (gI cm (a1 + 47 + Int32.toNatClampNeg x2) 1))), (3, .ref (a1 + 47 + Int32.toNatClampNeg x2)), (0, .ref 8), (1, .ref a1), (2, .int x2)]) X d_X3_doActs_24 (by decide) rfl ?_
  refine L_aload (pc := 26) X d_X3_doActs_26 1 rfl ?_
  refine gf_X3_102 (pc := 28) X d_X3_doActs_28 (ka_22 (kf_3_0 h_a1) (vin_lt q2)) ?_
  refine L_lconst (pc := 31) (v := 1) X d_X3_doActs_31 (by decide) ?_
  refine L_iload_n (pc := 32) X d_X3_doActs_32 rfl 5 rfl ?_
  refine L_lshl (pc := 33) X d_X3_doActs_33 ?_
  refine L_land (pc := 34) X d_X3_doActs_34 ?_
  refine L_lconst (pc := 35) (v := 0) X d_X3_doActs_35 (by decide) ?_
  refine L_lcmp (pc := 36) X d_X3_doActs_36 ?_
  refine L_if_eq (pc := 37) (tgt := 41) X d_X3_doActs_37 (by decide) (fun c37 => ?_) (fun c37 => ?_)
  · replace h := h.1 c37
    refine L_iconst (pc := 41) (v := 0) X d_X3_doActs_41 (by decide) ?_
    refine L_istore (pc := 42) (lv2 := [(6, .int 0), (5, .ref (11 + 6 * Int32.toNatClampNeg x2)), (4, .ref (a1 + 23 + 2 * Int32.toNatClampNeg (gI cm (a1 + 47 + Int32.toNatClampNeg x2) 1))), (3, .ref (a1 + 47 + Int32.toNatClampNeg x2)), (0, .ref 8), (1, .ref a1), (2, .int x2)]) X d_X3_doActs_42 (by decide) rfl ?_
    obtain ⟨n44, h⟩ := h
    refine LW.sub [4, 5, 6, 3, 2, 1, 0] rfl ?_
    exact T_X3_doActs_44 hl X hr hex n44 _ _ _ _ _ _ h_a1 ((ka_24 (kf_3_2 h_a1) (vin_lt q1))) ((ka_22 (kf_3_0 h_a1) (vin_lt q2))) ((ka_27 kd_9 (vin_lt q3))) _ h
  · replace h := h.2 c37
    exact L_vret (pc := 40) X hr d_X3_doActs_40 (by decide) (by decide) ⟨_, rfl, rfl, h⟩
end G_X3_doActs
theorem yk_X3_doActs : yX3_doActs.cls = RX3 ∧ yX3_doActs.cls ≠ "java/lang/invoke/MethodHandle" ∧ yX3_doActs.cls ≠ "java/lang/invoke/VarHandle" ∧ (parseMethodDescriptor yX3_doActs.desc).map (fun d => d.parameters.length) = some 2 := by decide +kernel
theorem lk_X3_95 : LinkV RX3 95 RX3 yX3_doActs (.code yX3_doActs cX3_doActs 8 none) 2 := ⟨tw_953, tw_955, tw_20, tw_75, tw_956, yk_X3_doActs⟩
theorem d_X3_come_0 : decode cX3_come 0 = .ok (.aload_n 1, 1) := by decide +kernel
theorem d_X3_come_1 : decode cX3_come 1 = .ok (.getfield 40, 3) := by decide +kernel
theorem d_X3_come_4 : decode cX3_come 4 = .ok (.iload_n 2, 1) := by decide +kernel
theorem d_X3_come_5 : decode cX3_come 5 = .ok (.aaload, 1) := by decide +kernel
theorem d_X3_come_6 : decode cX3_come 6 = .ok (.astore_n 3, 1) := by decide +kernel
theorem d_X3_come_7 : decode cX3_come 7 = .ok (.aload_n 3, 1) := by decide +kernel
theorem d_X3_come_8 : decode cX3_come 8 = .ok (.getfield 71, 3) := by decide +kernel
theorem d_X3_come_11 : decode cX3_come 11 = .ok (.ifCond .lt 14, 3) := by decide +kernel
theorem d_X3_come_14 : decode cX3_come 14 = .ok (.aload_n 3, 1) := by decide +kernel
theorem d_X3_come_15 : decode cX3_come 15 = .ok (.getfield 71, 3) := by decide +kernel
theorem d_X3_come_18 : decode cX3_come 18 = .ok (.aload_n 1, 1) := by decide +kernel
theorem d_X3_come_19 : decode cX3_come 19 = .ok (.getfield 56, 3) := by decide +kernel
theorem d_X3_come_22 : decode cX3_come 22 = .ok (.if_icmp .le 4, 3) := by decide +kernel
theorem d_X3_come_25 : decode cX3_come 25 = .ok (.return_, 1) := by decide +kernel
theorem d_X3_come_26 : decode cX3_come 26 = .ok (.aload_n 1, 1) := by decide +kernel
theorem d_X3_come_27 : decode cX3_come 27 = .ok (.getfield 74, 3) := by decide +kernel
theorem d_X3_come_30 : decode cX3_come 30 = .ok (.aload_n 3, 1) := by decide +kernel
theorem d_X3_come_31 : decode cX3_come 31 = .ok (.getfield 71, 3) := by decide +kernel
theorem d_X3_come_34 : decode cX3_come 34 = .ok (.aaload, 1) := by decide +kernel
theorem d_X3_come_35 : decode cX3_come 35 = .ok (.dup, 1) := by decide +kernel
theorem d_X3_come_36 : decode cX3_come 36 = .ok (.getfield 78, 3) := by decide +kernel
theorem d_X3_come_39 : decode cX3_come 39 = .ok (.iconst 1, 1) := by decide +kernel
theorem d_X3_come_40 : decode cX3_come 40 = .ok (.isub, 1) := by decide +kernel
theorem d_X3_come_41 : decode cX3_come 41 = .ok (.putfield 78, 3) := by decide +kernel
theorem d_X3_come_44 : decode cX3_come 44 = .ok (.aload_n 3, 1) := by decide +kernel
theorem d_X3_come_45 : decode cX3_come 45 = .ok (.dup, 1) := by decide +kernel
theorem d_X3_come_46 : decode cX3_come 46 = .ok (.getfield 71, 3) := by decide +kernel
theorem d_X3_come_49 : decode cX3_come 49 = .ok (.iconst 1, 1) := by decide +kernel
theorem d_X3_come_50 : decode cX3_come 50 = .ok (.iadd, 1) := by decide +kernel
theorem d_X3_come_51 : decode cX3_come 51 = .ok (.putfield 71, 3) := by decide +kernel
theorem d_X3_come_54 : decode cX3_come 54 = .ok (.aload_n 3, 1) := by decide +kernel
theorem d_X3_come_55 : decode cX3_come 55 = .ok (.aload_n 1, 1) := by decide +kernel
theorem d_X3_come_56 : decode cX3_come 56 = .ok (.getfield 62, 3) := by decide +kernel
theorem d_X3_come_59 : decode cX3_come 59 = .ok (.putfield 83, 3) := by decide +kernel
theorem d_X3_come_62 : decode cX3_come 62 = .ok (.aload_n 3, 1) := by decide +kernel
theorem d_X3_come_63 : decode cX3_come 63 = .ok (.iconst 0, 1) := by decide +kernel
theorem d_X3_come_64 : decode cX3_come 64 = .ok (.putfield 49, 3) := by decide +kernel
theorem d_X3_come_67 : decode cX3_come 67 = .ok (.aload_n 3, 1) := by decide +kernel
theorem d_X3_come_68 : decode cX3_come 68 = .ok (.getfield 71, 3) := by decide +kernel
theorem d_X3_come_71 : decode cX3_come 71 = .ok (.aload_n 1, 1) := by decide +kernel
theorem d_X3_come_72 : decode cX3_come 72 = .ok (.getfield 56, 3) := by decide +kernel
theorem d_X3_come_75 : decode cX3_come 75 = .ok (.if_icmp .le 38, 3) := by decide +kernel
theorem d_X3_come_78 : decode cX3_come 78 = .ok (.aload_n 3, 1) := by decide +kernel
theorem d_X3_come_79 : decode cX3_come 79 = .ok (.iconst 4, 1) := by decide +kernel
theorem d_X3_come_80 : decode cX3_come 80 = .ok (.putfield 44, 3) := by decide +kernel
theorem d_X3_come_83 : decode cX3_come 83 = .ok (.aload_n 1, 1) := by decide +kernel
theorem d_X3_come_84 : decode cX3_come 84 = .ok (.getfield 86, 3) := by decide +kernel
theorem d_X3_come_87 : decode cX3_come 87 = .ok (.bipush 60, 2) := by decide +kernel
theorem d_X3_come_89 : decode cX3_come 89 = .ok (.if_icmp .ge 23, 3) := by decide +kernel
theorem d_X3_come_92 : decode cX3_come 92 = .ok (.aload_n 1, 1) := by decide +kernel
theorem d_X3_come_93 : decode cX3_come 93 = .ok (.getfield 89, 3) := by decide +kernel
theorem d_X3_come_96 : decode cX3_come 96 = .ok (.aload_n 1, 1) := by decide +kernel
theorem d_X3_come_97 : decode cX3_come 97 = .ok (.getfield 86, 3) := by decide +kernel
theorem d_X3_come_100 : decode cX3_come 100 = .ok (.iload_n 2, 1) := by decide +kernel
theorem d_X3_come_101 : decode cX3_come 101 = .ok (.iastore, 1) := by decide +kernel
theorem d_X3_come_102 : decode cX3_come 102 = .ok (.aload_n 1, 1) := by decide +kernel
theorem d_X3_come_103 : decode cX3_come 103 = .ok (.dup, 1) := by decide +kernel
theorem d_X3_come_104 : decode cX3_come 104 = .ok (.getfield 86, 3) := by decide +kernel
theorem d_X3_come_107 : decode cX3_come 107 = .ok (.iconst 1, 1) := by decide +kernel
theorem d_X3_come_108 : decode cX3_come 108 = .ok (.iadd, 1) := by decide +kernel
theorem d_X3_come_109 : decode cX3_come 109 = .ok (.putfield 86, 3) := by decide +kernel
theorem d_X3_come_112 : decode cX3_come 112 = .ok (.return_, 1) := by decide +kernel
theorem d_X3_come_113 : decode cX3_come 113 = .ok (.aload_n 3, 1) := by decide +kernel
theorem d_X3_come_114 : decode cX3_come 114 = .ok (.aload_n 3, 1) := by decide +kernel
theorem d_X3_come_115 : decode cX3_come 115 = .ok (.getfield 92, 3) := by decide +kernel
theorem d_X3_come_118 : decode cX3_come 118 = .ok (.aload_n 3, 1) := by decide +kernel
theorem d_X3_come_119 : decode cX3_come 119 = .ok (.getfield 71, 3) := by decide +kernel
theorem d_X3_come_122 : decode cX3_come 122 = .ok (.if_icmp .ne 7, 3) := by decide +kernel
theorem d_X3_come_125 : decode cX3_come 125 = .ok (.iconst 3, 1) := by decide +kernel
theorem d_X3_come_126 : decode cX3_come 126 = .ok (.goto 4, 3) := by decide +kernel
theorem d_X3_come_129 : decode cX3_come 129 = .ok (.iconst 0, 1) := by decide +kernel
theorem d_X3_come_130 : decode cX3_come 130 = .ok (.putfield 44, 3) := by decide +kernel
theorem d_X3_come_133 : decode cX3_come 133 = .ok (.aload_n 3, 1) := by decide +kernel
theorem d_X3_come_134 : decode cX3_come 134 = .ok (.getfield 92, 3) := by decide +kernel
theorem d_X3_come_137 : decode cX3_come 137 = .ok (.aload_n 3, 1) := by decide +kernel
theorem d_X3_come_138 : decode cX3_come 138 = .ok (.getfield 71, 3) := by decide +kernel
theorem d_X3_come_141 : decode cX3_come 141 = .ok (.if_icmp .eq 10, 3) := by decide +kernel
theorem d_X3_come_144 : decode cX3_come 144 = .ok (.aload_n 3, 1) := by decide +kernel
theorem d_X3_come_145 : decode cX3_come 145 = .ok (.getfield 92, 3) := by decide +kernel
theorem d_X3_come_148 : decode cX3_come 148 = .ok (.ifCond .ne 9, 3) := by decide +kernel
theorem d_X3_come_151 : decode cX3_come 151 = .ok (.aload_n 0, 1) := by decide +kernel
theorem d_X3_come_152 : decode cX3_come 152 = .ok (.aload_n 1, 1) := by decide +kernel
theorem d_X3_come_153 : decode cX3_come 153 = .ok (.iload_n 2, 1) := by decide +kernel
theorem d_X3_come_154 : decode cX3_come 154 = .ok (.invokevirtual 95, 3) := by decide +kernel
theorem d_X3_come_157 : decode cX3_come 157 = .ok (.return_, 1) := by decide +kernel
abbrev rm_X3_come : Room := { frames := 7, cells := 0, slots := 0, locals := 138 }
def B_X3_come_157 (post : CMu → Prop) (cm : CMu) : Prop := post cm
def B_X3_come_151 (post : CMu → Prop) (v1 : Nat) (v2 : Int32) (cm : CMu) : Prop := w_X3_doActs (fun (u5 : CMu) => B_X3_come_157 post u5) v1 v2 cm
def B_X3_come_130 (post : CMu → Prop) (v1 : Nat) (v2 : Int32) (v3 : Nat) (s0 : Int32) (s1 : Nat) (cm : CMu) : Prop := ((gI (uI cm s1 0 s0) v3 6) = (gI (uI cm s1 0 s0) v3 1) → (B_X3_come_151 post v1 v2 (uI cm s1 0 s0))) ∧ (¬ (gI (uI cm s1 0 s0) v3 6) = (gI (uI cm s1 0 s0) v3 1) → ((¬ (gI (uI cm s1 0 s0) v3 6) = 0 → (B_X3_come_157 post (uI cm s1 0 s0))) ∧ ((gI (uI cm s1 0 s0) v3 6) = 0 → (B_X3_come_151 post v1 v2 (uI cm s1 0 s0)))))
def B_X3_come_112 (post : CMu → Prop) (cm : CMu) : Prop := post cm
def B_X3_come_25 (post : CMu → Prop) (cm : CMu) : Prop := post cm
def w_X3_come (post : CMu → Prop) (a1 : Nat) (x2 : Int32) (cm : CMu) : Prop := (vp_in x2 60) ∧ ((gI cm (a1 + 47 + Int32.toNatClampNeg x2) 1) < 0 → (B_X3_come_25 post cm)) ∧ (¬ (gI cm (a1 + 47 + Int32.toNatClampNeg x2) 1) < 0 → (((gI cm (a1 + 47 + Int32.toNatClampNeg x2) 1) ≤ (gI cm a1 5) → ((vp_in (gI cm (a1 + 47 + Int32.toNatClampNeg x2) 1) 12) ∧ ((gI (uI (uI (uI (uI cm (a1 + 24 + 2 * Int32.toNatClampNeg (gI cm (a1 + 47 + Int32.toNatClampNeg x2) 1)) 3 ((gI cm (a1 + 24 + 2 * Int32.toNatClampNeg (gI cm (a1 + 47 + Int32.toNatClampNeg x2) 1)) 3) - 1)) (a1 + 47 + Int32.toNatClampNeg x2) 1 ((gI (uI cm (a1 + 24 + 2 * Int32.toNatClampNeg (gI cm (a1 + 47 + Int32.toNatClampNeg x2) 1)) 3 ((gI cm (a1 + 24 + 2 * Int32.toNatClampNeg (gI cm (a1 + 47 + Int32.toNatClampNeg x2) 1)) 3) - 1)) (a1 + 47 + Int32.toNatClampNeg x2) 1) + 1)) (a1 + 47 + Int32.toNatClampNeg x2) 4 (gI (uI (uI cm (a1 + 24 + 2 * Int32.toNatClampNeg (gI cm (a1 + 47 + Int32.toNatClampNeg x2) 1)) 3 ((gI cm (a1 + 24 + 2 * Int32.toNatClampNeg (gI cm (a1 + 47 + Int32.toNatClampNeg x2) 1)) 3) - 1)) (a1 + 47 + Int32.toNatClampNeg x2) 1 ((gI (uI cm (a1 + 24 + 2 * Int32.toNatClampNeg (gI cm (a1 + 47 + Int32.toNatClampNeg x2) 1)) 3 ((gI cm (a1 + 24 + 2 * Int32.toNatClampNeg (gI cm (a1 + 47 + Int32.toNatClampNeg x2) 1)) 3) - 1)) (a1 + 47 + Int32.toNatClampNeg x2) 1) + 1)) a1 12)) (a1 + 47 + Int32.toNatClampNeg x2) 2 0) (a1 + 47 + Int32.toNatClampNeg x2) 1) ≤ (gI (uI (uI (uI (uI cm (a1 + 24 + 2 * Int32.toNatClampNeg (gI cm (a1 + 47 + Int32.toNatClampNeg x2) 1)) 3 ((gI cm (a1 + 24 + 2 * Int32.toNatClampNeg (gI cm (a1 + 47 + Int32.toNatClampNeg x2) 1)) 3) - 1)) (a1 + 47 + Int32.toNatClampNeg x2) 1 ((gI (uI cm (a1 + 24 + 2 * Int32.toNatClampNeg (gI cm (a1 + 47 + Int32.toNatClampNeg x2) 1)) 3 ((gI cm (a1 + 24 + 2 * Int32.toNatClampNeg (gI cm (a1 + 47 + Int32.toNatClampNeg x2) 1)) 3) - 1)) (a1 + 47 + Int32.toNatClampNeg x2) 1) + 1)) (a1 + 47 + Int32.toNatClampNeg x2) 4 (gI (uI (uI cm (a1 + 24 + 2 * Int32.toNatClampNeg (gI cm (a1 + 47 + Int32.toNatClampNeg x2) 1)) 3 ((gI cm (a1 + 24 + 2 * Int32.toNatClampNeg (gI cm (a1 + 47 + Int32.toNatClampNeg x2) 1)) 3) - 1)) (a1 + 47 + Int32.toNatClampNeg x2) 1 ((gI (uI cm (a1 + 24 + 2 * Int32.toNatClampNeg (gI cm (a1 + 47 + Int32.toNatClampNeg x2) 1)) 3 ((gI cm (a1 + 24 + 2 * Int32.toNatClampNeg (gI cm (a1 + 47 + Int32.toNatClampNeg x2) 1)) 3) - 1)) (a1 + 47 + Int32.toNatClampNeg x2) 1) + 1)) a1 12)) (a1 + 47 + Int32.toNatClampNeg x2) 2 0) a1 5) → ((¬ (gI (uI (uI (uI (uI cm (a1 + 24 + 2 * Int32.toNatClampNeg (gI cm (a1 + 47 + Int32.toNatClampNeg x2) 1)) 3 ((gI cm (a1 + 24 + 2 * Int32.toNatClampNeg (gI cm (a1 + 47 + Int32.toNatClampNeg x2) 1)) 3) - 1)) (a1 + 47 + Int32.toNatClampNeg x2) 1 ((gI (uI cm (a1 + 24 + 2 * Int32.toNatClampNeg (gI cm (a1 + 47 + Int32.toNatClampNeg x2) 1)) 3 ((gI cm (a1 + 24 + 2 * Int32.toNatClampNeg (gI cm (a1 + 47 + Int32.toNatClampNeg x2) 1)) 3) - 1)) (a1 + 47 + Int32.toNatClampNeg x2) 1) + 1)) (a1 + 47 + Int32.toNatClampNeg x2) 4 (gI (uI (uI cm (a1 + 24 + 2 * Int32.toNatClampNeg (gI cm (a1 + 47 + Int32.toNatClampNeg x2) 1)) 3 ((gI cm (a1 + 24 + 2 * Int32.toNatClampNeg (gI cm (a1 + 47 + Int32.toNatClampNeg x2) 1)) 3) - 1)) (a1 + 47 + Int32.toNatClampNeg x2) 1 ((gI (uI cm (a1 + 24 + 2 * Int32.toNatClampNeg (gI cm (a1 + 47 + Int32.toNatClampNeg x2) 1)) 3 ((gI cm (a1 + 24 + 2 * Int32.toNatClampNeg (gI cm (a1 + 47 + Int32.toNatClampNeg x2) 1)) 3) - 1)) (a1 + 47 + Int32.toNatClampNeg x2) 1) + 1)) a1 12)) (a1 + 47 + Int32.toNatClampNeg x2) 2 0) (a1 + 47 + Int32.toNatClampNeg x2) 6) = (gI (uI (uI (uI (uI cm (a1 + 24 + 2 * Int32.toNatClampNeg (gI cm (a1 + 47 + Int32.toNatClampNeg x2) 1)) 3 ((gI cm (a1 + 24 + 2 * Int32.toNatClampNeg (gI cm (a1 + 47 + Int32.toNatClampNeg x2) 1)) 3) - 1)) (a1 + 47 + Int32.toNatClampNeg x2) 1 ((gI (uI cm (a1 + 24 + 2 * Int32.toNatClampNeg (gI cm (a1 + 47 + Int32.toNatClampNeg x2) 1)) 3 ((gI cm (a1 + 24 + 2 * Int32.toNatClampNeg (gI cm (a1 + 47 + Int32.toNatClampNeg x2) 1)) 3) - 1)) (a1 + 47 + Int32.toNatClampNeg x2) 1) + 1)) (a1 + 47 + Int32.toNatClampNeg x2) 4 (gI (uI (uI cm (a1 + 24 + 2 * Int32.toNatClampNeg (gI cm (a1 + 47 + Int32.toNatClampNeg x2) 1)) 3 ((gI cm (a1 + 24 + 2 * Int32.toNatClampNeg (gI cm (a1 + 47 + Int32.toNatClampNeg x2) 1)) 3) - 1)) (a1 + 47 + Int32.toNatClampNeg x2) 1 ((gI (uI cm (a1 + 24 + 2 * Int32.toNatClampNeg (gI cm (a1 + 47 + Int32.toNatClampNeg x2) 1)) 3 ((gI cm (a1 + 24 + 2 * Int32.toNatClampNeg (gI cm (a1 + 47 + Int32.toNatClampNeg x2) 1)) 3) - 1)) (a1 + 47 + Int32.toNatClampNeg x2) 1) + 1)) a1 12)) (a1 + 47 + Int32.toNatClampNeg x2) 2 0) (a1 + 47 + Int32.toNatClampNeg x2) 1) → (B_X3_come_130 post a1 x2 (a1 + 47 + Int32.toNatClampNeg x2) 0 (a1 + 47 + Int32.toNatClampNeg x2) (uI (uI (uI (uI cm (a1 + 24 + 2 * Int32.toNatClampNeg (gI cm (a1 + 47 + Int32.toNatClampNeg x2) 1)) 3 ((gI cm (a1 + 24 + 2 * Int32.toNatClampNeg (gI cm (a1 + 47 + Int32.toNatClampNeg x2) 1)) 3) - 1)) (a1 + 47 + Int32.toNatClampNeg x2) 1 ((gI (uI cm (a1 + 24 + 2 * Int32.toNatClampNeg (gI cm (a1 + 47 + Int32.toNatClampNeg x2) 1)) 3 ((gI cm (a1 + 24 + 2 * Int32.toNatClampNeg (gI cm (a1 + 47 + Int32.toNatClampNeg x2) 1)) 3) - 1)) (a1 + 47 + Int32.toNatClampNeg x2) 1) + 1)) (a1 + 47 + Int32.toNatClampNeg x2) 4 (gI (uI (uI cm (a1 + 24 + 2 * Int32.toNatClampNeg (gI cm (a1 + 47 + Int32.toNatClampNeg x2) 1)) 3 ((gI cm (a1 + 24 + 2 * Int32.toNatClampNeg (gI cm (a1 + 47 + Int32.toNatClampNeg x2) 1)) 3) - 1)) (a1 + 47 + Int32.toNatClampNeg x2) 1 ((gI (uI cm (a1 + 24 + 2 * Int32.toNatClampNeg (gI cm (a1 + 47 + Int32.toNatClampNeg x2) 1)) 3 ((gI cm (a1 + 24 + 2 * Int32.toNatClampNeg (gI cm (a1 + 47 + Int32.toNatClampNeg x2) 1)) 3) - 1)) (a1 + 47 + Int32.toNatClampNeg x2) 1) + 1)) a1 12)) (a1 + 47 + Int32.toNatClampNeg x2) 2 0))) ∧ ((gI (uI (uI (uI (uI cm (a1 + 24 + 2 * Int32.toNatClampNeg (gI cm (a1 + 47 + Int32.toNatClampNeg x2) 1)) 3 ((gI cm (a1 + 24 + 2 * Int32.toNatClampNeg (gI cm (a1 + 47 + Int32.toNatClampNeg x2) 1)) 3) - 1)) (a1 + 47 + Int32.toNatClampNeg x2) 1 ((gI (uI cm (a1 + 24 + 2 * Int32.toNatClampNeg (gI cm (a1 + 47 + Int32.toNatClampNeg x2) 1)) 3 ((gI cm (a1 + 24 + 2 * Int32.toNatClampNeg (gI cm (a1 + 47 + Int32.toNatClampNeg x2) 1)) 3) - 1)) (a1 + 47 + Int32.toNatClampNeg x2) 1) + 1)) (a1 + 47 + Int32.toNatClampNeg x2) 4 (gI (uI (uI cm (a1 + 24 + 2 * Int32.toNatClampNeg (gI cm (a1 + 47 + Int32.toNatClampNeg x2) 1)) 3 ((gI cm (a1 + 24 + 2 * Int32.toNatClampNeg (gI cm (a1 + 47 + Int32.toNatClampNeg x2) 1)) 3) - 1)) (a1 + 47 + Int32.toNatClampNeg x2) 1 ((gI (uI cm (a1 + 24 + 2 * Int32.toNatClampNeg (gI cm (a1 + 47 + Int32.toNatClampNeg x2) 1)) 3 ((gI cm (a1 + 24 + 2 * Int32.toNatClampNeg (gI cm (a1 + 47 + Int32.toNatClampNeg x2) 1)) 3) - 1)) (a1 + 47 + Int32.toNatClampNeg x2) 1) + 1)) a1 12)) (a1 + 47 + Int32.toNatClampNeg x2) 2 0) (a1 + 47 + Int32.toNatClampNeg x2) 6) = (gI (uI (uI (uI (uI cm (a1 + 24 + 2 * Int32.toNatClampNeg (gI cm (a1 + 47 + Int32.toNatClampNeg x2) 1)) 3 ((gI cm (a1 + 24 + 2 * Int32.toNatClampNeg (gI cm (a1 + 47 + Int32.toNatClampNeg x2) 1)) 3) - 1)) (a1 + 47 + Int32.toNatClampNeg x2) 1 ((gI (uI cm (a1 + 24 + 2 * Int32.toNatClampNeg (gI cm (a1 + 47 + Int32.toNatClampNeg x2) 1)) 3 ((gI cm (a1 + 24 + 2 * Int32.toNatClampNeg (gI cm (a1 + 47 + Int32.toNatClampNeg x2) 1)) 3) - 1)) (a1 + 47 + Int32.toNatClampNeg x2) 1) + 1)) (a1 + 47 + Int32.toNatClampNeg x2) 4 (gI (uI (uI cm (a1 + 24 + 2 * Int32.toNatClampNeg (gI cm (a1 + 47 + Int32.toNatClampNeg x2) 1)) 3 ((gI cm (a1 + 24 + 2 * Int32.toNatClampNeg (gI cm (a1 + 47 + Int32.toNatClampNeg x2) 1)) 3) - 1)) (a1 + 47 + Int32.toNatClampNeg x2) 1 ((gI (uI cm (a1 + 24 + 2 * Int32.toNatClampNeg (gI cm (a1 + 47 + Int32.toNatClampNeg x2) 1)) 3 ((gI cm (a1 + 24 + 2 * Int32.toNatClampNeg (gI cm (a1 + 47 + Int32.toNatClampNeg x2) 1)) 3) - 1)) (a1 + 47 + Int32.toNatClampNeg x2) 1) + 1)) a1 12)) (a1 + 47 + Int32.toNatClampNeg x2) 2 0) (a1 + 47 + Int32.toNatClampNeg x2) 1) → (B_X3_come_130 post a1 x2 (a1 + 47 + Int32.toNatClampNeg x2) 3 (a1 + 47 + Int32.toNatClampNeg x2) (uI (uI (uI (uI cm (a1 + 24 + 2 * Int32.toNatClampNeg (gI cm (a1 + 47 + Int32.toNatClampNeg x2) 1)) 3 ((gI cm (a1 + 24 + 2 * Int32.toNatClampNeg (gI cm (a1 + 47 + Int32.toNatClampNeg x2) 1)) 3) - 1)) (a1 + 47 + Int32.toNatClampNeg x2) 1 ((gI (uI cm (a1 + 24 + 2 * Int32.toNatClampNeg (gI cm (a1 + 47 + Int32.toNatClampNeg x2) 1)) 3 ((gI cm (a1 + 24 + 2 * Int32.toNatClampNeg (gI cm (a1 + 47 + Int32.toNatClampNeg x2) 1)) 3) - 1)) (a1 + 47 + Int32.toNatClampNeg x2) 1) + 1)) (a1 + 47 + Int32.toNatClampNeg x2) 4 (gI (uI (uI cm (a1 + 24 + 2 * Int32.toNatClampNeg (gI cm (a1 + 47 + Int32.toNatClampNeg x2) 1)) 3 ((gI cm (a1 + 24 + 2 * Int32.toNatClampNeg (gI cm (a1 + 47 + Int32.toNatClampNeg x2) 1)) 3) - 1)) (a1 + 47 + Int32.toNatClampNeg x2) 1 ((gI (uI cm (a1 + 24 + 2 * Int32.toNatClampNeg (gI cm (a1 + 47 + Int32.toNatClampNeg x2) 1)) 3 ((gI cm (a1 + 24 + 2 * Int32.toNatClampNeg (gI cm (a1 + 47 + Int32.toNatClampNeg x2) 1)) 3) - 1)) (a1 + 47 + Int32.toNatClampNeg x2) 1) + 1)) a1 12)) (a1 + 47 + Int32.toNatClampNeg x2) 2 0))))) ∧ (¬ (gI (uI (uI (uI (uI cm (a1 + 24 + 2 * Int32.toNatClampNeg (gI cm (a1 + 47 + Int32.toNatClampNeg x2) 1)) 3 ((gI cm (a1 + 24 + 2 * Int32.toNatClampNeg (gI cm (a1 + 47 + Int32.toNatClampNeg x2) 1)) 3) - 1)) (a1 + 47 + Int32.toNatClampNeg x2) 1 ((gI (uI cm (a1 + 24 + 2 * Int32.toNatClampNeg (gI cm (a1 + 47 + Int32.toNatClampNeg x2) 1)) 3 ((gI cm (a1 + 24 + 2 * Int32.toNatClampNeg (gI cm (a1 + 47 + Int32.toNatClampNeg x2) 1)) 3) - 1)) (a1 + 47 + Int32.toNatClampNeg x2) 1) + 1)) (a1 + 47 + Int32.toNatClampNeg x2) 4 (gI (uI (uI cm (a1 + 24 + 2 * Int32.toNatClampNeg (gI cm (a1 + 47 + Int32.toNatClampNeg x2) 1)) 3 ((gI cm (a1 + 24 + 2 * Int32.toNatClampNeg (gI cm (a1 + 47 + Int32.toNatClampNeg x2) 1)) 3) - 1)) (a1 + 47 + Int32.toNatClampNeg x2) 1 ((gI (uI cm (a1 + 24 + 2 * Int32.toNatClampNeg (gI cm (a1 + 47 + Int32.toNatClampNeg x2) 1)) 3 ((gI cm (a1 + 24 + 2 * Int32.toNatClampNeg (gI cm (a1 + 47 + Int32.toNatClampNeg x2) 1)) 3) - 1)) (a1 + 47 + Int32.toNatClampNeg x2) 1) + 1)) a1 12)) (a1 + 47 + Int32.toNatClampNeg x2) 2 0) (a1 + 47 + Int32.toNatClampNeg x2) 1) ≤ (gI (uI (uI (uI (uI cm (a1 + 24 + 2 * Int32.toNatClampNeg (gI cm (a1 + 47 + Int32.toNatClampNeg x2) 1)) 3 ((gI cm (a1 + 24 + 2 * Int32.toNatClampNeg (gI cm (a1 + 47 + Int32.toNatClampNeg x2) 1)) 3) - 1)) (a1 + 47 + Int32.toNatClampNeg x2) 1 ((gI (uI cm (a1 + 24 + 2 * Int32.toNatClampNeg (gI cm (a1 + 47 + Int32.toNatClampNeg x2) 1)) 3 ((gI cm (a1 + 24 + 2 * Int32.toNatClampNeg (gI cm (a1 + 47 + Int32.toNatClampNeg x2) 1)) 3) - 1)) (a1 + 47 + Int32.toNatClampNeg x2) 1) + 1)) (a1 + 47 + Int32.toNatClampNeg x2) 4 (gI (uI (uI cm (a1 + 24 + 2 * Int32.toNatClampNeg (gI cm (a1 + 47 + Int32.toNatClampNeg x2) 1)) 3 ((gI cm (a1 + 24 + 2 * Int32.toNatClampNeg (gI cm (a1 + 47 + Int32.toNatClampNeg x2) 1)) 3) - 1)) (a1 + 47 + Int32.toNatClampNeg x2) 1 ((gI (uI cm (a1 + 24 + 2 * Int32.toNatClampNeg (gI cm (a1 + 47 + Int32.toNatClampNeg x2) 1)) 3 ((gI cm (a1 + 24 + 2 * Int32.toNatClampNeg (gI cm (a1 + 47 + Int32.toNatClampNeg x2) 1)) 3) - 1)) (a1 + 47 + Int32.toNatClampNeg x2) 1) + 1)) a1 12)) (a1 + 47 + Int32.toNatClampNeg x2) 2 0) a1 5) → ((60 ≤ (gI (uI (uI (uI (uI (uI cm (a1 + 24 + 2 * Int32.toNatClampNeg (gI cm (a1 + 47 + Int32.toNatClampNeg x2) 1)) 3 ((gI cm (a1 + 24 + 2 * Int32.toNatClampNeg (gI cm (a1 + 47 + Int32.toNatClampNeg x2) 1)) 3) - 1)) (a1 + 47 + Int32.toNatClampNeg x2) 1 ((gI (uI cm (a1 + 24 + 2 * Int32.toNatClampNeg (gI cm (a1 + 47 + Int32.toNatClampNeg x2) 1)) 3 ((gI cm (a1 + 24 + 2 * Int32.toNatClampNeg (gI cm (a1 + 47 + Int32.toNatClampNeg x2) 1)) 3) - 1)) (a1 + 47 + Int32.toNatClampNeg x2) 1) + 1)) (a1 + 47 + Int32.toNatClampNeg x2) 4 (gI (uI (uI cm (a1 + 24 + 2 * Int32.toNatClampNeg (gI cm (a1 + 47 + Int32.toNatClampNeg x2) 1)) 3 ((gI cm (a1 + 24 + 2 * Int32.toNatClampNeg (gI cm (a1 + 47 + Int32.toNatClampNeg x2) 1)) 3) - 1)) (a1 + 47 + Int32.toNatClampNeg x2) 1 ((gI (uI cm (a1 + 24 + 2 * Int32.toNatClampNeg (gI cm (a1 + 47 + Int32.toNatClampNeg x2) 1)) 3 ((gI cm (a1 + 24 + 2 * Int32.toNatClampNeg (gI cm (a1 + 47 + Int32.toNatClampNeg x2) 1)) 3) - 1)) (a1 + 47 + Int32.toNatClampNeg x2) 1) + 1)) a1 12)) (a1 + 47 + Int32.toNatClampNeg x2) 2 0) (a1 + 47 + Int32.toNatClampNeg x2) 0 4) a1 7) → (B_X3_come_112 post (uI (uI (uI (uI (uI cm (a1 + 24 + 2 * Int32.toNatClampNeg (gI cm (a1 + 47 + Int32.toNatClampNeg x2) 1)) 3 ((gI cm (a1 + 24 + 2 * Int32.toNatClampNeg (gI cm (a1 + 47 + Int32.toNatClampNeg x2) 1)) 3) - 1)) (a1 + 47 + Int32.toNatClampNeg x2) 1 ((gI (uI cm (a1 + 24 + 2 * Int32.toNatClampNeg (gI cm (a1 + 47 + Int32.toNatClampNeg x2) 1)) 3 ((gI cm (a1 + 24 + 2 * Int32.toNatClampNeg (gI cm (a1 + 47 + Int32.toNatClampNeg x2) 1)) 3) - 1)) (a1 + 47 + Int32.toNatClampNeg x2) 1) + 1)) (a1 + 47 + Int32.toNatClampNeg x2) 4 (gI (uI (uI cm (a1 + 24 + 2 * Int32.toNatClampNeg (gI cm (a1 + 47 + Int32.toNatClampNeg x2) 1)) 3 ((gI cm (a1 + 24 + 2 * Int32.toNatClampNeg (gI cm (a1 + 47 + Int32.toNatClampNeg x2) 1)) 3) - 1)) (a1 + 47 + Int32.toNatClampNeg x2) 1 ((gI (uI cm (a1 + 24 + 2 * Int32.toNatClampNeg (gI cm (a1 + 47 + Int32.toNatClampNeg x2) 1)) 3 ((gI cm (a1 + 24 + 2 * Int32.toNatClampNeg (gI cm (a1 + 47 + Int32.toNatClampNeg x2) 1)) 3) - 1)) (a1 + 47 + Int32.toNatClampNeg x2) 1) + 1)) a1 12)) (a1 + 47 + Int32.toNatClampNeg x2) 2 0) (a1 + 47 + Int32.toNatClampNeg x2) 0 4))) ∧ (¬ 60 ≤ (gI (uI (uI (uI (uI (uI cm (a1 + 24 + 2 * Int32.toNatClampNeg (gI cm (a1 + 47 + Int32.toNatClampNeg x2) 1)) 3 ((gI cm (a1 + 24 + 2 * Int32.toNatClampNeg (gI cm (a1 + 47 + Int32.toNatClampNeg x2) 1)) 3) - 1)) (a1 + 47 + Int32.toNatClampNeg x2) 1 ((gI (uI cm (a1 + 24 + 2 * Int32.toNatClampNeg (gI cm (a1 + 47 + Int32.toNatClampNeg x2) 1)) 3 ((gI cm (a1 + 24 + 2 * Int32.toNatClampNeg (gI cm (a1 + 47 + Int32.toNatClampNeg x2) 1)) 3) - 1)) (a1 + 47 + Int32.toNatClampNeg x2) 1) + 1)) (a1 + 47 + Int32.toNatClampNeg x2) 4 (gI (uI (uI cm (a1 + 24 + 2 * Int32.toNatClampNeg (gI cm (a1 + 47 + Int32.toNatClampNeg x2) 1)) 3 ((gI cm (a1 + 24 + 2 * Int32.toNatClampNeg (gI cm (a1 + 47 + Int32.toNatClampNeg x2) 1)) 3) - 1)) (a1 + 47 + Int32.toNatClampNeg x2) 1 ((gI (uI cm (a1 + 24 + 2 * Int32.toNatClampNeg (gI cm (a1 + 47 + Int32.toNatClampNeg x2) 1)) 3 ((gI cm (a1 + 24 + 2 * Int32.toNatClampNeg (gI cm (a1 + 47 + Int32.toNatClampNeg x2) 1)) 3) - 1)) (a1 + 47 + Int32.toNatClampNeg x2) 1) + 1)) a1 12)) (a1 + 47 + Int32.toNatClampNeg x2) 2 0) (a1 + 47 + Int32.toNatClampNeg x2) 0 4) a1 7) → ((vp_in (gI (uI (uI (uI (uI (uI cm (a1 + 24 + 2 * Int32.toNatClampNeg (gI cm (a1 + 47 + Int32.toNatClampNeg x2) 1)) 3 ((gI cm (a1 + 24 + 2 * Int32.toNatClampNeg (gI cm (a1 + 47 + Int32.toNatClampNeg x2) 1)) 3) - 1)) (a1 + 47 + Int32.toNatClampNeg x2) 1 ((gI (uI cm (a1 + 24 + 2 * Int32.toNatClampNeg (gI cm (a1 + 47 + Int32.toNatClampNeg x2) 1)) 3 ((gI cm (a1 + 24 + 2 * Int32.toNatClampNeg (gI cm (a1 + 47 + Int32.toNatClampNeg x2) 1)) 3) - 1)) (a1 + 47 + Int32.toNatClampNeg x2) 1) + 1)) (a1 + 47 + Int32.toNatClampNeg x2) 4 (gI (uI (uI cm (a1 + 24 + 2 * Int32.toNatClampNeg (gI cm (a1 + 47 + Int32.toNatClampNeg x2) 1)) 3 ((gI cm (a1 + 24 + 2 * Int32.toNatClampNeg (gI cm (a1 + 47 + Int32.toNatClampNeg x2) 1)) 3) - 1)) (a1 + 47 + Int32.toNatClampNeg x2) 1 ((gI (uI cm (a1 + 24 + 2 * Int32.toNatClampNeg (gI cm (a1 + 47 + Int32.toNatClampNeg x2) 1)) 3 ((gI cm (a1 + 24 + 2 * Int32.toNatClampNeg (gI cm (a1 + 47 + Int32.toNatClampNeg x2) 1)) 3) - 1)) (a1 + 47 + Int32.toNatClampNeg x2) 1) + 1)) a1 12)) (a1 + 47 + Int32.toNatClampNeg x2) 2 0) (a1 + 47 + Int32.toNatClampNeg x2) 0 4) a1 7) 60) ∧ B_X3_come_112 post (uI (uI (uI (uI (uI (uI (uI cm (a1 + 24 + 2 * Int32.toNatClampNeg (gI cm (a1 + 47 + Int32.toNatClampNeg x2) 1)) 3 ((gI cm (a1 + 24 + 2 * Int32.toNatClampNeg (gI cm (a1 + 47 + Int32.toNatClampNeg x2) 1)) 3) - 1)) (a1 + 47 + Int32.toNatClampNeg x2) 1 ((gI (uI cm (a1 + 24 + 2 * Int32.toNatClampNeg (gI cm (a1 + 47 + Int32.toNatClampNeg x2) 1)) 3 ((gI cm (a1 + 24 + 2 * Int32.toNatClampNeg (gI cm (a1 + 47 + Int32.toNatClampNeg x2) 1)) 3) - 1)) (a1 + 47 + Int32.toNatClampNeg x2) 1) + 1)) (a1 + 47 + Int32.toNatClampNeg x2) 4 (gI (uI (uI cm (a1 + 24 + 2 * Int32.toNatClampNeg (gI cm (a1 + 47 + Int32.toNatClampNeg x2) 1)) 3 ((gI cm (a1 + 24 + 2 * Int32.toNatClampNeg (gI cm (a1 + 47 + Int32.toNatClampNeg x2) 1)) 3) - 1)) (a1 + 47 + Int32.toNatClampNeg x2) 1 ((gI (uI cm (a1 + 24 + 2 * Int32.toNatClampNeg (gI cm (a1 + 47 + Int32.toNatClampNeg x2) 1)) 3 ((gI cm (a1 + 24 + 2 * Int32.toNatClampNeg (gI cm (a1 + 47 + Int32.toNatClampNeg x2) 1)) 3) - 1)) (a1 + 47 + Int32.toNatClampNeg x2) 1) + 1)) a1 12)) (a1 + 47 + Int32.toNatClampNeg x2) 2 0) (a1 + 47 + Int32.toNatClampNeg x2) 0 4) (a1 + 4) (Int32.toNatClampNeg (gI (uI (uI (uI (uI (uI cm (a1 + 24 + 2 * Int32.toNatClampNeg (gI cm (a1 + 47 + Int32.toNatClampNeg x2) 1)) 3 ((gI cm (a1 + 24 + 2 * Int32.toNatClampNeg (gI cm (a1 + 47 + Int32.toNatClampNeg x2) 1)) 3) - 1)) (a1 + 47 + Int32.toNatClampNeg x2) 1 ((gI (uI cm (a1 + 24 + 2 * Int32.toNatClampNeg (gI cm (a1 + 47 + Int32.toNatClampNeg x2) 1)) 3 ((gI cm (a1 + 24 + 2 * Int32.toNatClampNeg (gI cm (a1 + 47 + Int32.toNatClampNeg x2) 1)) 3) - 1)) (a1 + 47 + Int32.toNatClampNeg x2) 1) + 1)) (a1 + 47 + Int32.toNatClampNeg x2) 4 (gI (uI (uI cm (a1 + 24 + 2 * Int32.toNatClampNeg (gI cm (a1 + 47 + Int32.toNatClampNeg x2) 1)) 3 ((gI cm (a1 + 24 + 2 * Int32.toNatClampNeg (gI cm (a1 + 47 + Int32.toNatClampNeg x2) 1)) 3) - 1)) (a1 + 47 + Int32.toNatClampNeg x2) 1 ((gI (uI cm (a1 + 24 + 2 * Int32.toNatClampNeg (gI cm (a1 + 47 + Int32.toNatClampNeg x2) 1)) 3 ((gI cm (a1 + 24 + 2 * Int32.toNatClampNeg (gI cm (a1 + 47 + Int32.toNatClampNeg x2) 1)) 3) - 1)) (a1 + 47 + Int32.toNatClampNeg x2) 1) + 1)) a1 12)) (a1 + 47 + Int32.toNatClampNeg x2) 2 0) (a1 + 47 + Int32.toNatClampNeg x2) 0 4) a1 7)) x2) a1 7 ((gI (uI (uI (uI (uI (uI (uI cm (a1 + 24 + 2 * Int32.toNatClampNeg (gI cm (a1 + 47 + Int32.toNatClampNeg x2) 1)) 3 ((gI cm (a1 + 24 + 2 * Int32.toNatClampNeg (gI cm (a1 + 47 + Int32.toNatClampNeg x2) 1)) 3) - 1)) (a1 + 47 + Int32.toNatClampNeg x2) 1 ((gI (uI cm (a1 + 24 + 2 * Int32.toNatClampNeg (gI cm (a1 + 47 + Int32.toNatClampNeg x2) 1)) 3 ((gI cm (a1 + 24 + 2 * Int32.toNatClampNeg (gI cm (a1 + 47 + Int32.toNatClampNeg x2) 1)) 3) - 1)) (a1 + 47 + Int32.toNatClampNeg x2) 1) + 1)) (a1 + 47 + Int32.toNatClampNeg x2) 4 (gI (uI (uI cm (a1 + 24 + 2 * Int32.toNatClampNeg (gI cm (a1 + 47 + Int32.toNatClampNeg x2) 1)) 3 ((gI cm (a1 + 24 + 2 * Int32.toNatClampNeg (gI cm (a1 + 47 + Int32.toNatClampNeg x2) 1)) 3) - 1)) (a1 + 47 + Int32.toNatClampNeg x2) 1 ((gI (uI cm (a1 + 24 + 2 * Int32.toNatClampNeg (gI cm (a1 + 47 + Int32.toNatClampNeg x2) 1)) 3 ((gI cm (a1 + 24 + 2 * Int32.toNatClampNeg (gI cm (a1 + 47 + Int32.toNatClampNeg x2) 1)) 3) - 1)) (a1 + 47 + Int32.toNatClampNeg x2) 1) + 1)) a1 12)) (a1 + 47 + Int32.toNatClampNeg x2) 2 0) (a1 + 47 + Int32.toNatClampNeg x2) 0 4) (a1 + 4) (Int32.toNatClampNeg (gI (uI (uI (uI (uI (uI cm (a1 + 24 + 2 * Int32.toNatClampNeg (gI cm (a1 + 47 + Int32.toNatClampNeg x2) 1)) 3 ((gI cm (a1 + 24 + 2 * Int32.toNatClampNeg (gI cm (a1 + 47 + Int32.toNatClampNeg x2) 1)) 3) - 1)) (a1 + 47 + Int32.toNatClampNeg x2) 1 ((gI (uI cm (a1 + 24 + 2 * Int32.toNatClampNeg (gI cm (a1 + 47 + Int32.toNatClampNeg x2) 1)) 3 ((gI cm (a1 + 24 + 2 * Int32.toNatClampNeg (gI cm (a1 + 47 + Int32.toNatClampNeg x2) 1)) 3) - 1)) (a1 + 47 + Int32.toNatClampNeg x2) 1) + 1)) (a1 + 47 + Int32.toNatClampNeg x2) 4 (gI (uI (uI cm (a1 + 24 + 2 * Int32.toNatClampNeg (gI cm (a1 + 47 + Int32.toNatClampNeg x2) 1)) 3 ((gI cm (a1 + 24 + 2 * Int32.toNatClampNeg (gI cm (a1 + 47 + Int32.toNatClampNeg x2) 1)) 3) - 1)) (a1 + 47 + Int32.toNatClampNeg x2) 1 ((gI (uI cm (a1 + 24 + 2 * Int32.toNatClampNeg (gI cm (a1 + 47 + Int32.toNatClampNeg x2) 1)) 3 ((gI cm (a1 + 24 + 2 * Int32.toNatClampNeg (gI cm (a1 + 47 + Int32.toNatClampNeg x2) 1)) 3) - 1)) (a1 + 47 + Int32.toNatClampNeg x2) 1) + 1)) a1 12)) (a1 + 47 + Int32.toNatClampNeg x2) 2 0) (a1 + 47 + Int32.toNatClampNeg x2) 0 4) a1 7)) x2) a1 7) + 1)))))))) ∧ (¬ (gI cm (a1 + 47 + Int32.toNatClampNeg x2) 1) ≤ (gI cm a1 5) → (B_X3_come_25 post cm))))
section G_X3_come
variable {p : Program} {l : Launch} {e : Env} {s : State} {m : MethodId} {args : Array Value} {below : List Frame} {meth : Method} {c : Code} {G : Gd} {ρ : Nat → Nat} {A : Nat → Prop} {mm : Nat → Nat → Int32} {oo : Nat → Int64}
set_option maxHeartbeats 4000000 in
set_option maxRecDepth 100000 in
theorem T_X3_come_157 {post : CMu → Prop} (hl : l.stackTraces = false) (X : MC p l s m args meth c cX3_come 4 RX3 G ρ A) (hr : meth.sig.returnType = none) (hex : ∀ z ∈ c.exceptionTable.toList, False) : ∀ (cm : CMu), B_X3_come_157 post cm → LW p l e rm_X3_come s m args below meth c (Qm below G ρ A (PV (fun u => (u, mm, oo)) post) noX args s 0 0) G ρ A 4 0 0 157 [] [] (cm, mm, oo) := by
  intro cm h
  unfold B_X3_come_157 at h
  exact L_vret (pc := 157) X hr d_X3_come_157 (by decide) (by decide) ⟨_, rfl, rfl, h⟩
set_option maxHeartbeats 4000000 in
set_option maxRecDepth 100000 in
theorem T_X3_come_151 {post : CMu → Prop} (hl : l.stackTraces = false) (X : MC p l s m args meth c cX3_come 4 RX3 G ρ A) (hr : meth.sig.returnType = none) (hex : ∀ z ∈ c.exceptionTable.toList, False) : ∀ (v1 : Nat) (v2 : Int32) (h_v1 : (KD v1).1 = 3) (cm : CMu), B_X3_come_151 post v1 v2 cm → LW p l e rm_X3_come s m args below meth c (Qm below G ρ A (PV (fun u => (u, mm, oo)) post) noX args s 0 0) G ρ A 4 0 0 151 [(0, .ref 8), (1, .ref v1), (2, .int v2)] [] (cm, mm, oo) := by
  intro v1 v2 h_v1 cm h
  unfold B_X3_come_151 at h
  refine L_aload_n (pc := 151) X d_X3_come_151 rfl 0 rfl ?_
  refine L_aload_n (pc := 152) X d_X3_come_152 rfl 1 rfl ?_
  refine L_iload_n (pc := 153) X d_X3_come_153 rfl 2 rfl ?_
  refine L_callVV (pc := 154) X lk_X3_95 (c_X3_doActs X.hst h_v1 h) rfl rfl kd_8 (by decide) rfl rfl ⟨by decide, by decide⟩ ⟨by decide, by decide⟩ (Nat.zero_le _) d_X3_come_154 rfl (fun x κ1 hx => L_nox hx) (fun u5 h => ?_)
  refine LW.sub [] rfl ?_
  exact T_X3_come_157 hl X hr hex   _ h
set_option maxHeartbeats 4000000 in
set_option maxRecDepth 100000 in
theorem T_X3_come_130 {post : CMu → Prop} (hl : l.stackTraces = false) (X : MC p l s m args meth c cX3_come 4 RX3 G ρ A) (hr : meth.sig.returnType = none) (hex : ∀ z ∈ c.exceptionTable.toList, False) : ∀ (v1 : Nat) (v2 : Int32) (v3 : Nat) (s0 : Int32) (s1 : Nat) (h_v1 : (KD v1).1 = 3) (h_v3 : (KD v3).1 = 1) (h_s1 : (KD s1).1 = 1) (cm : CMu), B_X3_come_130 post v1 v2 v3 s0 s1 cm → LW p l e rm_X3_come s m args below meth c (Qm below G ρ A (PV (fun u => (u, mm, oo)) post) noX args s 0 0) G ρ A 4 0 0 130 [(0, .ref 8), (1, .ref v1), (2, .int v2), (3, .ref v3)] [.int s0, .ref s1] (cm, mm, oo) := by
  intro v1 v2 v3 s0 s1 h_v1 h_v3 h_s1 cm h
  unfold B_X3_come_130 at h
  refine pf_X3_44 (pc := 130) X d_X3_come_130 h_s1 ?_
  refine L_aload_n (pc := 133) X d_X3_come_133 rfl 3 rfl ?_
  refine gf_X3_92 (pc := 134) X d_X3_come_134 h_v3 ?_
  refine L_aload_n (pc := 137) X d_X3_come_137 rfl 3 rfl ?_
  refine gf_X3_71 (pc := 138) X d_X3_come_138 h_v3 ?_
  refine L_icmp_eq (pc := 141) (tgt := 151) X d_X3_come_141 (by decide) (fun c141 => ?_) (fun c141 => ?_)
  · replace h := h.1 c141
    refine LW.sub [0, 1, 2] rfl ?_
    exact T_X3_come_151 hl X hr hex _ _ h_v1 _ h
  · replace h := h.2 c141
    refine L_aload_n (pc := 144) X d_X3_come_144 rfl 3 rfl ?_
    refine gf_X3_92 (pc := 145) X d_X3_come_145 h_v3 ?_
    refine L_if_ne (pc := 148) (tgt := 157) X d_X3_come_148 (by decide) (fun c148 => ?_) (fun c148 => ?_)
    · replace h := h.1 c148
      refine LW.sub [] rfl ?_
      exact T_X3_come_157 hl X hr hex   _ h
    · replace h := h.2 c148
      refine LW.sub [0, 1, 2] rfl ?_
      exact T_X3_come_151 hl X hr hex _ _ h_v1 _ h
set_option maxHeartbeats 4000000 in
set_option maxRecDepth 100000 in
theorem T_X3_come_112 {post : CMu → Prop} (hl : l.stackTraces = false) (X : MC p l s m args meth c cX3_come 4 RX3 G ρ A) (hr : meth.sig.returnType = none) (hex : ∀ z ∈ c.exceptionTable.toList, False) : ∀ (cm : CMu), B_X3_come_112 post cm → LW p l e rm_X3_come s m args below meth c (Qm below G ρ A (PV (fun u => (u, mm, oo)) post) noX args s 0 0) G ρ A 4 0 0 112 [] [] (cm, mm, oo) := by
  intro cm h
  unfold B_X3_come_112 at h
  exact L_vret (pc := 112) X hr d_X3_come_112 (by decide) (by decide) ⟨_, rfl, rfl, h⟩
set_option maxHeartbeats 4000000 in
set_option maxRecDepth 100000 in
theorem T_X3_come_25 {post : CMu → Prop} (hl : l.stackTraces = false) (X : MC p l s m args meth c cX3_come 4 RX3 G ρ A) (hr : meth.sig.returnType = none) (hex : ∀ z ∈ c.exceptionTable.toList, False) : ∀ (cm : CMu), B_X3_come_25 post cm → LW p l e rm_X3_come s m args below meth c (Qm below G ρ A (PV (fun u => (u, mm, oo)) post) noX args s 0 0) G ρ A 4 0 0 25 [] [] (cm, mm, oo) := by
  intro cm h
  unfold B_X3_come_25 at h
  exact L_vret (pc := 25) X hr d_X3_come_25 (by decide) (by decide) ⟨_, rfl, rfl, h⟩
set_option maxHeartbeats 4000000 in
set_option maxRecDepth 100000 in
theorem c_X3_come (hl : l.stackTraces = false) {a1 : Nat} {x2 : Int32} (h_a1 : (KD a1).1 = 3) {cm : CMu} {post : CMu → Prop} (h : w_X3_come post a1 x2 cm) : CT l yX3_come (.code yX3_come cX3_come 4 none) rm_X3_come 0 0 G ρ [.ref 8, .ref a1, .int x2] (cm, mm, oo) (PV (fun u => (u, mm, oo)) post) noX := by
  refine CT_of hl (by decide +kernel) rfl (Nat.le_of_ble_eq_true rfl) (lv0 := [(0, .ref 8), (1, .ref a1), (2, .int x2)]) rfl (fun p e s m args below meth c A X hr hex hnm => ?_)
  unfold w_X3_come at h
  refine L_aload_n (pc := 0) X d_X3_come_0 rfl 1 rfl ?_
  refine gf_X3_40 (pc := 1) (b := a1 + 3) X d_X3_come_1 h_a1 rfl ?_
  refine L_iload_n (pc := 4) X d_X3_come_4 rfl 2 rfl ?_
  obtain ⟨q1, h⟩ := h
  refine L_aald24 (pc := 5) (b := a1 + 47 + Int32.toNatClampNeg x2) X d_X3_come_5 (kf_3_2 h_a1) q1 rfl ?_
  refine L_astore_n (pc := 6) (lv2 := [(3, .ref (a1 + 47 + Int32.toNatClampNeg x2)), (0, .ref 8), (1, .ref a1), (2, .int x2)]) X d_X3_come_6 rfl (by decide) rfl ?_
  refine L_aload_n (pc := 7) X d_X3_come_7 rfl 0 rfl ?_
  refine gf_X3_71 (pc := 8) X d_X3_come_8 (ka_24 (kf_3_2 h_a1) (vin_lt q1)) ?_
  refine L_if_lt (pc := 11) (tgt := 25) X d_X3_come_11 (by decide) (fun c11 => ?_) (fun c11 => ?_)
  · replace h := h.1 c11
    refine LW.sub [] rfl ?_
    exact T_X3_come_25 hl X hr hex   _ h
  · replace h := h.2 c11
    refine L_aload_n (pc := 14) X d_X3_come_14 rfl 0 rfl ?_
    refine gf_X3_71 (pc := 15) X d_X3_come_15 (ka_24 (kf_3_2 h_a1) (vin_lt q1)) ?_
    refine L_aload_n (pc := 18) X d_X3_come_18 rfl 2 rfl ?_
    refine gf_X3_56 (pc := 19) X d_X3_come_19 h_a1 ?_
    refine L_icmp_le (pc := 22) (tgt := 26) X d_X3_come_22 (by decide) (fun c22 => ?_) (fun c22 => ?_)
    · replace h := h.1 c22
      refine L_aload_n (pc := 26) X d_X3_come_26 rfl 2 rfl ?_
      refine gf_X3_74 (pc := 27) (b := a1 + 2) X d_X3_come_27 h_a1 rfl ?_
      refine L_aload_n (pc := 30) X d_X3_come_30 rfl 0 rfl ?_
      refine gf_X3_71 (pc := 31) X d_X3_come_31 (ka_24 (kf_3_2 h_a1) (vin_lt q1)) ?_
      obtain ⟨q2, h⟩ := h
      refine L_aald23 (pc := 34) (b := a1 + 24 + 2 * Int32.toNatClampNeg (gI cm (a1 + 47 + Int32.toNatClampNeg x2) 1)) X d_X3_come_34 (kf_3_1 h_a1) q2 rfl ?_
      refine L_dup (pc := 35) X d_X3_come_35 rfl ?_
      refine gf_X3_78 (pc := 36) X d_X3_come_36 (ka_23 (kf_3_1 h_a1) (vin_lt q2)) ?_
      refine L_iconst (pc := 39) (v := 1) X d_X3_come_39 (by decide) ?_
      refine L_isub (pc := 40) X d_X3_come_40 ?_
      refine pf_X3_78 (pc := 41) X d_X3_come_41 (ka_23 (kf_3_1 h_a1) (vin_lt q2)) ?_
      refine L_aload_n (pc := 44) X d_X3_come_44 rfl 0 rfl ?_
      refine L_dup (pc := 45) X d_X3_come_45 rfl ?_
      refine gf_X3_71 (pc := 46) X d_X3_come_46 (ka_24 (kf_3_2 h_a1) (vin_lt q1)) ?_
      refine L_iconst (pc := 49) (v := 1) X d_X3_come_49 (by decide) ?_
      refine L_iadd (pc := 50) X d_X3_come_50 ?_
      refine pf_X3_71 (pc := 51) X d_X3_come_51 (ka_24 (kf_3_2 h_a1) (vin_lt q1)) ?_
      refine L_aload_n (pc := 54) X d_X3_come_54 rfl 0 rfl ?_
      refine L_aload_n (pc := 55) X d_X3_come_55 rfl 2 rfl ?_
      refine gf_X3_62 (pc := 56) X d_X3_come_56 h_a1 ?_
      refine pf_X3_83 (pc := 59) X d_X3_come_59 (ka_24 (kf_3_2 h_a1) (vin_lt q1)) ?_
      refine L_aload_n (pc := 62) X d_X3_come_62 rfl 0 rfl ?_
      refine L_iconst (pc := 63) (v := 0) X d_X3_come_63 (by decide) ?_
      refine pf_X3_49 (pc := 64) X d_X3_come_64 (ka_24 (kf_3_2 h_a1) (vin_lt q1)) ?_
      refine L_aload_n (pc := 67) X d_X3_come_67 rfl 0 rfl ?_
      refine gf_X3_71 (pc := 68) X d_X3_come_68 (ka_24 (kf_3_2 h_a1) (vin_lt q1)) ?_
      refine L_aload_n (pc := 71) X d_X3_come_71 rfl 2 rfl ?_
      refine gf_X3_56 (pc := 72) X d_X3_come_72 h_a1 ?_
      refine L_icmp_le (pc := 75) (tgt := 113) X d_X3_come_75 (by decide) (fun c75 => ?_) (fun c75 => ?_)
      · replace h := h.1 c75
        refine L_aload_n (pc := 113) X d_X3_come_113 rfl 0 rfl ?_
        refine L_aload_n (pc := 114) X d_X3_come_114 rfl 0 rfl ?_
        refine gf_X3_92 (pc := 115) X d_X3_come_115 (ka_24 (kf_3_2 h_a1) (vin_lt q1)) ?_
        refine L_aload_n (pc := 118) X d_X3_come_118 rfl 0 rfl ?_
        refine gf_X3_71 (pc := 119) X d_X3_come_119 (ka_24 (kf_3_2 h_a1) (vin_lt q1)) ?_
        refine L_icmp_ne (pc := 122) (tgt := 129) X d_X3_come_122 (by decide) (fun c122 => ?_) (fun c122 => ?_)
        · replace h := h.1 c122
          refine L_iconst (pc := 129) (v := 0) X d_X3_come_129 (by decide) ?_
          refine LW.sub [1, 2, 3, 0] rfl ?_
          exact T_X3_come_130 hl X hr hex _ _ _ _ _ h_a1 ((ka_24 (kf_3_2 h_a1) (vin_lt q1))) ((ka_24 (kf_3_2 h_a1) (vin_lt q1))) _ h
        · replace h := h.2 c122
          refine L_iconst (pc := 125) (v := 3) X d_X3_come_125 (by decide) ?_
          refine L_goto (pc := 126) (tgt := 130) X d_X3_come_126 (by decide) ?_
          refine LW.sub [1, 2, 3, 0] rfl ?_
          exact T_X3_come_130 hl X hr hex _ _ _ _ _ h_a1 ((ka_24 (kf_3_2 h_a1) (vin_lt q1))) ((ka_24 (kf_3_2 h_a1) (vin_lt q1))) _ h
      · replace h := h.2 c75
        refine L_aload_n (pc := 78) X d_X3_come_78 rfl 0 rfl ?_
        refine L_iconst (pc := 79) (v := 4) X d_X3_come_79 (by decide) ?_
        refine pf_X3_44 (pc := 80) X d_X3_come_80 (ka_24 (kf_3_2 h_a1) (vin_lt q1)) ?_
        refine L_aload_n (pc := 83) X d_X3_come_83 rfl 2 rfl ?_
        refine gf_X3_86 (pc := 84) X d_X3_come_84 h_a1 ?_
        refine L_bipush (pc := 87) (v := 60) X d_X3_come_87 (by decide) ?_
        refine L_icmp_ge (pc := 89) (tgt := 112) X d_X3_come_89 (by decide) (fun c89 => ?_) (fun c89 => ?_)
        · replace h := h.1 c89
          refine LW.sub [] rfl ?_
          exact T_X3_come_112 hl X hr hex   _ h
        · replace h := h.2 c89
          refine L_aload_n (pc := 92) X d_X3_come_92 rfl 2 rfl ?_
          refine gf_X3_89 (pc := 93) (b := a1 + 4) X d_X3_come_93 h_a1 rfl ?_
          refine L_aload_n (pc := 96) X d_X3_come_96 rfl 2 rfl ?_
          refine gf_X3_86 (pc := 97) X d_X3_come_97 h_a1 ?_
          refine L_iload_n (pc := 100) X d_X3_come_100 rfl 3 rfl ?_
          obtain ⟨q3, h⟩ := h
          refine L_iast (pc := 101) X d_X3_come_101 (kf_3_3 h_a1) q3 ?_
          refine L_aload_n (pc := 102) X d_X3_come_102 rfl 2 rfl ?_
          refine L_dup (pc := 103) X d_X3_come_103 rfl ?_
          refine gf_X3_86 (pc := 104) X d_X3_come_104 h_a1 ?_
          refine L_iconst (pc := 107) (v := 1) X d_X3_come_107 (by decide) ?_
          refine L_iadd (pc := 108) X d_X3_come_108 ?_
          refine pf_X3_86 (pc := 109) X d_X3_come_109 h_a1 ?_
          refine LW.sub [] rfl ?_
          exact T_X3_come_112 hl X hr hex   _ h
    · replace h := h.2 c22
      refine LW.sub [] rfl ?_
      exact T_X3_come_25 hl X hr hex   _ h
end G_X3_come
theorem yk_X3_firstWaiting : yX3_firstWaiting.cls ≠ "java/lang/invoke/MethodHandle" ∧ yX3_firstWaiting.cls ≠ "java/lang/invoke/VarHandle" ∧ (parseMethodDescriptor yX3_firstWaiting.desc).map (fun d => d.parameters.length) = some 2 := by decide +kernel
theorem lk_X3_214 : LinkS RX3 214 yX3_firstWaiting (.code yX3_firstWaiting cX3_firstWaiting 5 (some .int)) 2 := ⟨tw_1004, tw_1005, tw_75, tw_1006, yk_X3_firstWaiting⟩
theorem yk_X7_hasRoom : yX7_hasRoom.cls = RX7 ∧ yX7_hasRoom.cls ≠ "java/lang/invoke/MethodHandle" ∧ yX7_hasRoom.cls ≠ "java/lang/invoke/VarHandle" ∧ (parseMethodDescriptor yX7_hasRoom.desc).map (fun d => d.parameters.length) = some 0 := by decide +kernel
theorem lk_X3_217 : LinkV RX3 217 RX7 yX7_hasRoom (.code yX7_hasRoom cX7_hasRoom 1 (some .boolean)) 0 := ⟨tw_1007, tw_1008, tw_1009, tw_81, tw_1010, yk_X7_hasRoom⟩
theorem yk_X3_drawBelow : yX3_drawBelow.cls ≠ "java/lang/invoke/MethodHandle" ∧ yX3_drawBelow.cls ≠ "java/lang/invoke/VarHandle" ∧ (parseMethodDescriptor yX3_drawBelow.desc).map (fun d => d.parameters.length) = some 2 := by decide +kernel
theorem lk_X3_223 : LinkS RX3 223 yX3_drawBelow (.code yX3_drawBelow cX3_drawBelow 2 (some .boolean)) 2 := ⟨tw_1011, tw_1012, tw_75, tw_1013, yk_X3_drawBelow⟩
theorem d_X3_enter_0 : decode cX3_enter 0 = .ok (.aload_n 1, 1) := by decide +kernel
theorem d_X3_enter_1 : decode cX3_enter 1 = .ok (.getfield 74, 3) := by decide +kernel
theorem d_X3_enter_4 : decode cX3_enter 4 = .ok (.iload_n 2, 1) := by decide +kernel
theorem d_X3_enter_5 : decode cX3_enter 5 = .ok (.aaload, 1) := by decide +kernel
theorem d_X3_enter_6 : decode cX3_enter 6 = .ok (.astore_n 3, 1) := by decide +kernel
theorem d_X3_enter_7 : decode cX3_enter 7 = .ok (.aload_n 1, 1) := by decide +kernel
theorem d_X3_enter_8 : decode cX3_enter 8 = .ok (.iload_n 2, 1) := by decide +kernel
theorem d_X3_enter_9 : decode cX3_enter 9 = .ok (.invokestatic 214, 3) := by decide +kernel
theorem d_X3_enter_12 : decode cX3_enter 12 = .ok (.istore 4, 2) := by decide +kernel
theorem d_X3_enter_14 : decode cX3_enter 14 = .ok (.iconst 0, 1) := by decide +kernel
theorem d_X3_enter_15 : decode cX3_enter 15 = .ok (.istore 5, 2) := by decide +kernel
theorem d_X3_enter_17 : decode cX3_enter 17 = .ok (.iload 5, 2) := by decide +kernel
theorem d_X3_enter_19 : decode cX3_enter 19 = .ok (.bipush 60, 2) := by decide +kernel
theorem d_X3_enter_21 : decode cX3_enter 21 = .ok (.if_icmp .ge 106, 3) := by decide +kernel
theorem d_X3_enter_24 : decode cX3_enter 24 = .ok (.iload 4, 2) := by decide +kernel
theorem d_X3_enter_26 : decode cX3_enter 26 = .ok (.iconst (-1), 1) := by decide +kernel
theorem d_X3_enter_27 : decode cX3_enter 27 = .ok (.if_icmp .eq 100, 3) := by decide +kernel
theorem d_X3_enter_30 : decode cX3_enter 30 = .ok (.aload_n 3, 1) := by decide +kernel
theorem d_X3_enter_31 : decode cX3_enter 31 = .ok (.invokevirtual 217, 3) := by decide +kernel
theorem d_X3_enter_34 : decode cX3_enter 34 = .ok (.ifCond .eq 93, 3) := by decide +kernel
theorem d_X3_enter_37 : decode cX3_enter 37 = .ok (.aload_n 1, 1) := by decide +kernel
theorem d_X3_enter_38 : decode cX3_enter 38 = .ok (.getfield 40, 3) := by decide +kernel
theorem d_X3_enter_41 : decode cX3_enter 41 = .ok (.iload 4, 2) := by decide +kernel
theorem d_X3_enter_43 : decode cX3_enter 43 = .ok (.aaload, 1) := by decide +kernel
theorem d_X3_enter_44 : decode cX3_enter 44 = .ok (.astore 6, 2) := by decide +kernel
theorem d_X3_enter_46 : decode cX3_enter 46 = .ok (.aload 6, 2) := by decide +kernel
theorem d_X3_enter_48 : decode cX3_enter 48 = .ok (.aload_n 3, 1) := by decide +kernel
theorem d_X3_enter_49 : decode cX3_enter 49 = .ok (.getfield 220, 3) := by decide +kernel
theorem d_X3_enter_52 : decode cX3_enter 52 = .ok (.ifCond .le 18, 3) := by decide +kernel
theorem d_X3_enter_55 : decode cX3_enter 55 = .ok (.aload_n 1, 1) := by decide +kernel
theorem d_X3_enter_56 : decode cX3_enter 56 = .ok (.aload_n 3, 1) := by decide +kernel
theorem d_X3_enter_57 : decode cX3_enter 57 = .ok (.getfield 220, 3) := by decide +kernel
theorem d_X3_enter_60 : decode cX3_enter 60 = .ok (.invokestatic 223, 3) := by decide +kernel
theorem d_X3_enter_63 : decode cX3_enter 63 = .ok (.ifCond .eq 7, 3) := by decide +kernel
theorem d_X3_enter_66 : decode cX3_enter 66 = .ok (.iconst 2, 1) := by decide +kernel
theorem d_X3_enter_67 : decode cX3_enter 67 = .ok (.goto 4, 3) := by decide +kernel
theorem d_X3_enter_70 : decode cX3_enter 70 = .ok (.iconst 1, 1) := by decide +kernel
theorem d_X3_enter_71 : decode cX3_enter 71 = .ok (.putfield 44, 3) := by decide +kernel
theorem d_X3_enter_74 : decode cX3_enter 74 = .ok (.aload 6, 2) := by decide +kernel
theorem d_X3_enter_76 : decode cX3_enter 76 = .ok (.aload_n 3, 1) := by decide +kernel
theorem d_X3_enter_77 : decode cX3_enter 77 = .ok (.getfield 227, 3) := by decide +kernel
theorem d_X3_enter_80 : decode cX3_enter 80 = .ok (.aload 6, 2) := by decide +kernel
theorem d_X3_enter_82 : decode cX3_enter 82 = .ok (.getfield 207, 3) := by decide +kernel
theorem d_X3_enter_85 : decode cX3_enter 85 = .ok (.aload_n 1, 1) := by decide +kernel
theorem d_X3_enter_86 : decode cX3_enter 86 = .ok (.getfield 201, 3) := by decide +kernel
theorem d_X3_enter_89 : decode cX3_enter 89 = .ok (.invokestatic 230, 3) := by decide +kernel
theorem d_X3_enter_92 : decode cX3_enter 92 = .ok (.putfield 49, 3) := by decide +kernel
theorem d_X3_enter_95 : decode cX3_enter 95 = .ok (.aload 6, 2) := by decide +kernel
theorem d_X3_enter_97 : decode cX3_enter 97 = .ok (.aload_n 1, 1) := by decide +kernel
theorem d_X3_enter_98 : decode cX3_enter 98 = .ok (.getfield 62, 3) := by decide +kernel
theorem d_X3_enter_101 : decode cX3_enter 101 = .ok (.putfield 83, 3) := by decide +kernel
theorem d_X3_enter_104 : decode cX3_enter 104 = .ok (.aload_n 3, 1) := by decide +kernel
theorem d_X3_enter_105 : decode cX3_enter 105 = .ok (.dup, 1) := by decide +kernel
theorem d_X3_enter_106 : decode cX3_enter 106 = .ok (.getfield 78, 3) := by decide +kernel
theorem d_X3_enter_109 : decode cX3_enter 109 = .ok (.iconst 1, 1) := by decide +kernel
theorem d_X3_enter_110 : decode cX3_enter 110 = .ok (.iadd, 1) := by decide +kernel
theorem d_X3_enter_111 : decode cX3_enter 111 = .ok (.putfield 78, 3) := by decide +kernel
theorem d_X3_enter_114 : decode cX3_enter 114 = .ok (.aload_n 1, 1) := by decide +kernel
theorem d_X3_enter_115 : decode cX3_enter 115 = .ok (.iload_n 2, 1) := by decide +kernel
theorem d_X3_enter_116 : decode cX3_enter 116 = .ok (.invokestatic 214, 3) := by decide +kernel
theorem d_X3_enter_119 : decode cX3_enter 119 = .ok (.istore 4, 2) := by decide +kernel
theorem d_X3_enter_121 : decode cX3_enter 121 = .ok (.iinc 5 1, 3) := by decide +kernel
theorem d_X3_enter_124 : decode cX3_enter 124 = .ok (.goto (-107), 3) := by decide +kernel
theorem d_X3_enter_127 : decode cX3_enter 127 = .ok (.return_, 1) := by decide +kernel
abbrev rm_X3_enter : Room := { frames := 1, cells := 0, slots := 0, locals := 24 }
def B_X3_enter_127 (post : CMu → Prop) (cm : CMu) : Prop := post cm
def B_X3_enter_71 (post : CMu → Prop) (k17 : Nat → Int32 → Nat → Int32 → Int32 → CMu → Prop) (v1 : Nat) (v2 : Int32) (v3 : Nat) (v5 : Int32) (v6 : Nat) (s0 : Int32) (s1 : Nat) (cm : CMu) : Prop := w_X12_minutesFor (fun (r9 : Int32) (u10 : CMu) => w_X3_firstWaiting (fun (r11 : Int32) (u12 : CMu) => k17 v1 v2 v3 r11 (v5 + 1) u12) v1 v2 (uI (uI (uI u10 v6 2 r9) v6 4 (gI (uI u10 v6 2 r9) v1 12)) v3 3 ((gI (uI (uI u10 v6 2 r9) v6 4 (gI (uI u10 v6 2 r9) v1 12)) v3 3) + 1))) (gI (uI cm s1 0 s0) v3 0) (gI (uI cm s1 0 s0) v6 3) (gI (uI cm s1 0 s0) v1 9) (uI cm s1 0 s0)
def B_X3_enter_70 (post : CMu → Prop) (k17 : Nat → Int32 → Nat → Int32 → Int32 → CMu → Prop) (v1 : Nat) (v2 : Int32) (v3 : Nat) (v5 : Int32) (v6 : Nat) (s0 : Nat) (cm : CMu) : Prop := B_X3_enter_71 post k17 v1 v2 v3 v5 v6 1 s0 cm
def B_X3_enter_17 (post : CMu → Prop) : Nat → Nat → Int32 → Nat → Int32 → Int32 → CMu → Prop
  | 0 => fun _ _ _ _ _ _ => False
  | n + 1 => fun v1 v2 v3 v4 v5 cm => (60 ≤ v5 → (B_X3_enter_127 post cm)) ∧ (¬ 60 ≤ v5 → ((v4 = (-1) → (B_X3_enter_127 post cm)) ∧ (¬ v4 = (-1) → (w_X7_hasRoom (fun (r4 : Bool) (u5 : CMu) => ((r4 = false) → (B_X3_enter_127 post u5)) ∧ (¬ (r4 = false) → ((vp_in v4 60) ∧ ((gI u5 v3 1) ≤ 0 → (B_X3_enter_70 post (B_X3_enter_17 post n) v1 v2 v3 v5 (v1 + 47 + Int32.toNatClampNeg v4) (v1 + 47 + Int32.toNatClampNeg v4) u5)) ∧ (¬ (gI u5 v3 1) ≤ 0 → (w_X3_drawBelow (fun (r7 : Bool) (u8 : CMu) => ((r7 = false) → (B_X3_enter_70 post (B_X3_enter_17 post n) v1 v2 v3 v5 (v1 + 47 + Int32.toNatClampNeg v4) (v1 + 47 + Int32.toNatClampNeg v4) u8)) ∧ (¬ (r7 = false) → (B_X3_enter_71 post (B_X3_enter_17 post n) v1 v2 v3 v5 (v1 + 47 + Int32.toNatClampNeg v4) 2 (v1 + 47 + Int32.toNatClampNeg v4) u8))) v1 (gI u5 v3 1) u5))))) v3 cm))))
def w_X3_enter (post : CMu → Prop) (a1 : Nat) (x2 : Int32) (cm : CMu) : Prop := (vp_in x2 12) ∧ w_X3_firstWaiting (fun (r2 : Int32) (u3 : CMu) => ∃ n17, B_X3_enter_17 post n17 a1 x2 (a1 + 24 + 2 * Int32.toNatClampNeg x2) r2 0 u3) a1 x2 cm
section G_X3_enter
variable {p : Program} {l : Launch} {e : Env} {s : State} {m : MethodId} {args : Array Value} {below : List Frame} {meth : Method} {c : Code} {G : Gd} {ρ : Nat → Nat} {A : Nat → Prop} {mm : Nat → Nat → Int32} {oo : Nat → Int64}
set_option maxHeartbeats 4000000 in
set_option maxRecDepth 100000 in
theorem T_X3_enter_127 {post : CMu → Prop} (hl : l.stackTraces = false) (X : MC p l s m args meth c cX3_enter 7 RX3 G ρ A) (hr : meth.sig.returnType = none) (hex : ∀ z ∈ c.exceptionTable.toList, False) : ∀ (cm : CMu), B_X3_enter_127 post cm → LW p l e rm_X3_enter s m args below meth c (Qm below G ρ A (PV (fun u => (u, mm, oo)) post) noX args s 0 0) G ρ A 7 0 0 127 [] [] (cm, mm, oo) := by
  intro cm h
  unfold B_X3_enter_127 at h
  exact L_vret (pc := 127) X hr d_X3_enter_127 (by decide) (by decide) ⟨_, rfl, rfl, h⟩
set_option maxHeartbeats 4000000 in
set_option maxRecDepth 100000 in
theorem T_X3_enter_71 {post : CMu → Prop} {k17 : Nat → Int32 → Nat → Int32 → Int32 → CMu → Prop} (hl : l.stackTraces = false) (X : MC p l s m args meth c cX3_enter 7 RX3 G ρ A) (hr : meth.sig.returnType = none) (hex : ∀ z ∈ c.exceptionTable.toList, False)
    (hk17 : ∀ (v1 : Nat) (v2 : Int32) (v3 : Nat) (v4 : Int32) (v5 : Int32) (h_v1 : (KD v1).1 = 3) (h_v3 : (KD v3).1 = 6) (cm : CMu), k17 v1 v2 v3 v4 v5 cm → LW p l e rm_X3_enter s m args below meth c (Qm below G ρ A (PV (fun u => (u, mm, oo)) post) noX args s 0 0) G ρ A 7 0 0 17 [(1, .ref v1), (2, .int v2), (3, .ref v3), (4, .int v4), (5, .int v5)] [] (cm, mm, oo)) : ∀ (v1 : Nat) (v2 : Int32) (v3 : Nat) (v5 : Int32) (v6 : Nat) (s0 : Int32) (s1 : Nat) (h_v1 : (KD v1).1 = 3) (h_v3 : (KD v3).1 = 6) (h_v6 : (KD v6).1 = 1) (h_s1 : (KD s1).1 = 1) (cm : CMu), B_X3_enter_71 post k17 v1 v2 v3 v5 v6 s0 s1 cm → LW p l e rm_X3_enter s m args below meth c (Qm below G ρ A (PV (fun u => (u, mm, oo)) post) noX args s 0 0) G ρ A 7 0 0 71 [(1, .ref v1), (2, .int v2), (3, .ref v3), (5, .int v5), (6, .ref v6)] [.int s0, .ref s1] (cm, mm, oo) := by
  intro v1 v2 v3 v5 v6 s0 s1 h_v1 h_v3 h_v6 h_s1 cm h
  unfold B_X3_enter_71 at h
  refine pf_X3_44 (pc := 71) X d_X3_enter_71 h_s1 ?_
  refine L_aload (pc := 74) X d_X3_enter_74 4 rfl ?_
  refine L_aload_n (pc := 76) X d_X3_enter_76 rfl 2 rfl ?_
  refine gf_X3_227 (pc := 77) X d_X3_enter_77 h_v3 ?_
  refine L_aload (pc := 80) X d_X3_enter_80 4 rfl ?_
  refine gf_X3_207 (pc := 82) X d_X3_enter_82 h_v6 ?_
  refine L_aload_n (pc := 85) X d_X3_enter_85 rfl 0 rfl ?_
  refine gf_X3_201 (pc := 86) X d_X3_enter_86 h_v1 ?_
  refine L_callSNI (pc := 89) X (host := RX12) (by decide) tw_1016 tw_72 tw_1017 yk_X12_minutesFor (c_X12_minutesFor X.hst  h) rfl rfl rfl ⟨by decide, by decide⟩ ⟨by decide, by decide⟩ (Nat.le_of_ble_eq_true rfl) d_X3_enter_89 rfl (fun r9 u10 h => ?_)
  refine pf_X3_49 (pc := 92) X d_X3_enter_92 h_v6 ?_
  refine L_aload (pc := 95) X d_X3_enter_95 4 rfl ?_
  refine L_aload_n (pc := 97) X d_X3_enter_97 rfl 0 rfl ?_
  refine gf_X3_62 (pc := 98) X d_X3_enter_98 h_v1 ?_
  refine pf_X3_83 (pc := 101) X d_X3_enter_101 h_v6 ?_
  refine L_aload_n (pc := 104) X d_X3_enter_104 rfl 2 rfl ?_
  refine L_dup (pc := 105) X d_X3_enter_105 rfl ?_
  refine gf_X3_78 (pc := 106) X d_X3_enter_106 h_v3 ?_
  refine L_iconst (pc := 109) (v := 1) X d_X3_enter_109 (by decide) ?_
  refine L_iadd (pc := 110) X d_X3_enter_110 ?_
  refine pf_X3_78 (pc := 111) X d_X3_enter_111 h_v3 ?_
  refine L_aload_n (pc := 114) X d_X3_enter_114 rfl 0 rfl ?_
  refine L_iload_n (pc := 115) X d_X3_enter_115 rfl 1 rfl ?_
  refine L_callSI (pc := 116) X lk_X3_214 (c_X3_firstWaiting X.hst h_v1 h) rfl rfl rfl ⟨by decide, by decide⟩ ⟨by decide, by decide⟩ (Nat.zero_le _) d_X3_enter_116 rfl (fun x κ1 hx => L_nox hx) (fun r11 u12 h => ?_)
  refine L_istore (pc := 119) (lv2 := [(4, .int r11), (1, .ref v1), (2, .int v2), (3, .ref v3), (5, .int v5), (6, .ref v6)]) X d_X3_enter_119 (by decide) rfl ?_
  refine L_iinc (pc := 121) (v := v5 + 1) (lv2 := [(5, .int (v5 + 1)), (4, .int r11), (1, .ref v1), (2, .int v2), (3, .ref v3), (6, .ref v6)]) X d_X3_enter_121 4 rfl rfl (by decide) rfl ?_
  refine L_goto (pc := 124) (tgt := 17) X d_X3_enter_124 (by decide) ?_
  refine LW.sub [2, 3, 4, 1, 0] rfl ?_
  exact hk17 _ _ _ _ _ h_v1 h_v3 _ h
set_option maxHeartbeats 4000000 in
set_option maxRecDepth 100000 in
theorem T_X3_enter_70 {post : CMu → Prop} {k17 : Nat → Int32 → Nat → Int32 → Int32 → CMu → Prop} (hl : l.stackTraces = false) (X : MC p l s m args meth c cX3_enter 7 RX3 G ρ A) (hr : meth.sig.returnType = none) (hex : ∀ z ∈ c.exceptionTable.toList, False)
    (hk17 : ∀ (v1 : Nat) (v2 : Int32) (v3 : Nat) (v4 : Int32) (v5 : Int32) (h_v1 : (KD v1).1 = 3) (h_v3 : (KD v3).1 = 6) (cm : CMu), k17 v1 v2 v3 v4 v5 cm → LW p l e rm_X3_enter s m args below meth c (Qm below G ρ A (PV (fun u => (u, mm, oo)) post) noX args s 0 0) G ρ A 7 0 0 17 [(1, .ref v1), (2, .int v2), (3, .ref v3), (4, .int v4), (5, .int v5)] [] (cm, mm, oo)) : ∀ (v1 : Nat) (v2 : Int32) (v3 : Nat) (v5 : Int32) (v6 : Nat) (s0 : Nat) (h_v1 : (KD v1).1 = 3) (h_v3 : (KD v3).1 = 6) (h_v6 : (KD v6).1 = 1) (h_s0 : (KD s0).1 = 1) (cm : CMu), B_X3_enter_70 post k17 v1 v2 v3 v5 v6 s0 cm → LW p l e rm_X3_enter s m args below meth c (Qm below G ρ A (PV (fun u => (u, mm, oo)) post) noX args s 0 0) G ρ A 7 0 0 70 [(1, .ref v1), (2, .int v2), (3, .ref v3), (5, .int v5), (6, .ref v6)] [.ref s0] (cm, mm, oo) := by
  intro v1 v2 v3 v5 v6 s0 h_v1 h_v3 h_v6 h_s0 cm h
  unfold B_X3_enter_70 at h
  refine L_iconst (pc := 70) (v := 1) X d_X3_enter_70 (by decide) ?_
  refine LW.sub [0, 1, 2, 3, 4] rfl ?_
  exact T_X3_enter_71 hl X hr hex hk17 _ _ _ _ _ _ _ h_v1 h_v3 h_v6 h_s0 _ h
set_option maxHeartbeats 4000000 in
set_option maxRecDepth 100000 in
theorem T_X3_enter_17 {post : CMu → Prop} (hl : l.stackTraces = false) (X : MC p l s m args meth c cX3_enter 7 RX3 G ρ A) (hr : meth.sig.returnType = none) (hex : ∀ z ∈ c.exceptionTable.toList, False) (n : Nat) : ∀ (v1 : Nat) (v2 : Int32) (v3 : Nat) (v4 : Int32) (v5 : Int32) (h_v1 : (KD v1).1 = 3) (h_v3 : (KD v3).1 = 6) (cm : CMu), B_X3_enter_17 post n v1 v2 v3 v4 v5 cm → LW p l e rm_X3_enter s m args below meth c (Qm below G ρ A (PV (fun u => (u, mm, oo)) post) noX args s 0 0) G ρ A 7 0 0 17 [(1, .ref v1), (2, .int v2), (3, .ref v3), (4, .int v4), (5, .int v5)] [] (cm, mm, oo) := by
  induction n with
  | zero =>
    intro v1 v2 v3 v4 v5 h_v1 h_v3 cm h
    exact False.elim h
  | succ n ih =>
    intro v1 v2 v3 v4 v5 h_v1 h_v3 cm h
    unfold B_X3_enter_17 at h
    refine L_iload (pc := 17) X d_X3_enter_17 4 rfl ?_
    refine L_bipush (pc := 19) (v := 60) X d_X3_enter_19 (by decide) ?_
    refine L_icmp_ge (pc := 21) (tgt := 127) X d_X3_enter_21 (by decide) (fun c21 => ?_) (fun c21 => ?_)
    · replace h := h.1 c21
      refine LW.sub [] rfl ?_
      exact T_X3_enter_127 hl X hr hex   _ h
    · replace h := h.2 c21
      refine L_iload (pc := 24) X d_X3_enter_24 3 rfl ?_
      refine L_iconst (pc := 26) (v := (-1)) X d_X3_enter_26 (by decide) ?_
      refine L_icmp_eq (pc := 27) (tgt := 127) X d_X3_enter_27 (by decide) (fun c27 => ?_) (fun c27 => ?_)
      · replace h := h.1 c27
        refine LW.sub [] rfl ?_
        exact T_X3_enter_127 hl X hr hex   _ h
      · replace h := h.2 c27
        refine L_aload_n (pc := 30) X d_X3_enter_30 rfl 2 rfl ?_
        refine L_callVZ (pc := 31) X lk_X3_217 (c_X7_hasRoom X.hst h_v3 h) rfl rfl h_v3 (by decide) rfl rfl ⟨by decide, by decide⟩ ⟨by decide, by decide⟩ (Nat.zero_le _) d_X3_enter_31 rfl (fun x κ1 hx => L_nox hx) (fun r4 u5 h => ?_)
        refine L_if_eq (pc := 34) (tgt := 127) X d_X3_enter_34 (by decide) (fun c34 => ?_) (fun c34 => ?_)
        · replace h := h.1 ((b2_0 _).mp c34)
          refine LW.sub [] rfl ?_
          exact T_X3_enter_127 hl X hr hex   _ h
        · replace h := h.2 (fun z => c34 ((b2_0 _).mpr z))
          refine L_aload_n (pc := 37) X d_X3_enter_37 rfl 0 rfl ?_
          refine gf_X3_40 (pc := 38) (b := v1 + 3) X d_X3_enter_38 h_v1 rfl ?_
          refine L_iload (pc := 41) X d_X3_enter_41 3 rfl ?_
          obtain ⟨q6, h⟩ := h
          refine L_aald24 (pc := 43) (b := v1 + 47 + Int32.toNatClampNeg v4) X d_X3_enter_43 (kf_3_2 h_v1) q6 rfl ?_
          refine L_astore (pc := 44) (lv2 := [(6, .ref (v1 + 47 + Int32.toNatClampNeg v4)), (1, .ref v1), (2, .int v2), (3, .ref v3), (4, .int v4), (5, .int v5)]) X d_X3_enter_44 (by decide) rfl ?_
          refine L_aload (pc := 46) X d_X3_enter_46 0 rfl ?_
          refine L_aload_n (pc := 48) X d_X3_enter_48 rfl 3 rfl ?_
          refine gf_X3_220 (pc := 49) X d_X3_enter_49 h_v3 ?_
          refine L_if_le (pc := 52) (tgt := 70) X d_X3_enter_52 (by decide) (fun c52 => ?_) (fun c52 => ?_)
          · replace h := h.1 c52
            refine LW.sub [1, 2, 3, 5, 0] rfl ?_
            exact T_X3_enter_70 hl X hr hex ih _ _ _ _ _ _ h_v1 h_v3 ((ka_24 (kf_3_2 h_v1) (vin_lt q6))) ((ka_24 (kf_3_2 h_v1) (vin_lt q6))) _ h
          · replace h := h.2 c52
            refine L_aload_n (pc := 55) X d_X3_enter_55 rfl 1 rfl ?_
            refine L_aload_n (pc := 56) X d_X3_enter_56 rfl 3 rfl ?_
            refine gf_X3_220 (pc := 57) X d_X3_enter_57 h_v3 ?_
            refine L_callSZ (pc := 60) X lk_X3_223 (c_X3_drawBelow X.hst h_v1 h) rfl rfl rfl ⟨by decide, by decide⟩ ⟨by decide, by decide⟩ (Nat.le_of_ble_eq_true rfl) d_X3_enter_60 rfl (fun x κ1 hx => L_nox hx) (fun r7 u8 h => ?_)
            refine L_if_eq (pc := 63) (tgt := 70) X d_X3_enter_63 (by decide) (fun c63 => ?_) (fun c63 => ?_)
            · replace h := h.1 ((b2_0 _).mp c63)
              refine LW.sub [1, 2, 3, 5, 0] rfl ?_
              exact T_X3_enter_70 hl X hr hex ih _ _ _ _ _ _ h_v1 h_v3 ((ka_24 (kf_3_2 h_v1) (vin_lt q6))) ((ka_24 (kf_3_2 h_v1) (vin_lt q6))) _ h
            · replace h := h.2 (fun z => c63 ((b2_0 _).mpr z))
              refine L_iconst (pc := 66) (v := 2) X d_X3_enter_66 (by decide) ?_
              refine L_goto (pc := 67) (tgt := 71) X d_X3_enter_67 (by decide) ?_
              refine LW.sub [1, 2, 3, 5, 0] rfl ?_
              exact T_X3_enter_71 hl X hr hex ih _ _ _ _ _ _ _ h_v1 h_v3 ((ka_24 (kf_3_2 h_v1) (vin_lt q6))) ((ka_24 (kf_3_2 h_v1) (vin_lt q6))) _ h
set_option maxHeartbeats 4000000 in
set_option maxRecDepth 100000 in
theorem c_X3_enter (hl : l.stackTraces = false) {a1 : Nat} {x2 : Int32} (h_a1 : (KD a1).1 = 3) {cm : CMu} {post : CMu → Prop} (h : w_X3_enter post a1 x2 cm) : CT l yX3_enter (.code yX3_enter cX3_enter 7 none) rm_X3_enter 0 0 G ρ [.ref 8, .ref a1, .int x2] (cm, mm, oo) (PV (fun u => (u, mm, oo)) post) noX := by
  refine CT_of hl (by decide +kernel) rfl (Nat.le_of_ble_eq_true rfl) (lv0 := [(0, .ref 8), (1, .ref a1), (2, .int x2)]) rfl (fun p e s m args below meth c A X hr hex hnm => ?_)
  unfold w_X3_enter at h
  refine L_aload_n (pc := 0) X d_X3_enter_0 rfl 1 rfl ?_
  refine gf_X3_74 (pc := 1) (b := a1 + 2) X d_X3_enter_1 h_a1 rfl ?_
  refine L_iload_n (pc := 4) X d_X3_enter_4 rfl 2 rfl ?_
  obtain ⟨q1, h⟩ := h
  refine L_aald23 (pc := 5) (b := a1 + 24 + 2 * Int32.toNatClampNeg x2) X d_X3_enter_5 (kf_3_1 h_a1) q1 rfl ?_
  refine L_astore_n (pc := 6) (lv2 := [(3, .ref (a1 + 24 + 2 * Int32.toNatClampNeg x2)), (0, .ref 8), (1, .ref a1), (2, .int x2)]) X d_X3_enter_6 rfl (by decide) rfl ?_
  refine L_aload_n (pc := 7) X d_X3_enter_7 rfl 2 rfl ?_
  refine L_iload_n (pc := 8) X d_X3_enter_8 rfl 3 rfl ?_
  refine L_callSI (pc := 9) X lk_X3_214 (c_X3_firstWaiting X.hst h_a1 h) rfl rfl rfl ⟨by decide, by decide⟩ ⟨by decide, by decide⟩ (Nat.zero_le _) d_X3_enter_9 rfl (fun x κ1 hx => L_nox hx) (fun r2 u3 h => ?_)
  refine L_istore (pc := 12) (lv2 := [(4, .int r2), (3, .ref (a1 + 24 + 2 * Int32.toNatClampNeg x2)), (0, .ref 8), (1, .ref a1), (2, .int x2)]) X d_X3_enter_12 (by decide) rfl ?_
  refine L_iconst (pc := 14) (v := 0) X d_X3_enter_14 (by decide) ?_
  refine L_istore (pc := 15) (lv2 := [(5, .int 0), (4, .int r2), (3, .ref (a1 + 24 + 2 * Int32.toNatClampNeg x2)), (0, .ref 8), (1, .ref a1), (2, .int x2)]) X d_X3_enter_15 (by decide) rfl ?_
  obtain ⟨n17, h⟩ := h
  refine LW.sub [4, 5, 2, 1, 0] rfl ?_
  exact T_X3_enter_17 hl X hr hex n17 _ _ _ _ _ h_a1 ((ka_23 (kf_3_1 h_a1) (vin_lt q1))) _ h
end G_X3_enter
theorem yk_X3_come : yX3_come.cls = RX3 ∧ yX3_come.cls ≠ "java/lang/invoke/MethodHandle" ∧ yX3_come.cls ≠ "java/lang/invoke/VarHandle" ∧ (parseMethodDescriptor yX3_come.desc).map (fun d => d.parameters.length) = some 2 := by decide +kernel
theorem lk_X3_52 : LinkV RX3 52 RX3 yX3_come (.code yX3_come cX3_come 4 none) 2 := ⟨tw_949, tw_951, tw_19, tw_75, tw_952, yk_X3_come⟩
theorem yk_X3_enter : yX3_enter.cls = RX3 ∧ yX3_enter.cls ≠ "java/lang/invoke/MethodHandle" ∧ yX3_enter.cls ≠ "java/lang/invoke/VarHandle" ∧ (parseMethodDescriptor yX3_enter.desc).map (fun d => d.parameters.length) = some 2 := by decide +kernel
theorem lk_X3_59 : LinkV RX3 59 RX3 yX3_enter (.code yX3_enter cX3_enter 7 none) 2 := ⟨tw_1000, tw_1002, tw_22, tw_75, tw_1003, yk_X3_enter⟩
theorem d_X3_minute_0 : decode cX3_minute 0 = .ok (.aload_n 1, 1) := by decide +kernel
theorem d_X3_minute_1 : decode cX3_minute 1 = .ok (.getfield 36, 3) := by decide +kernel
theorem d_X3_minute_4 : decode cX3_minute 4 = .ok (.istore_n 2, 1) := by decide +kernel
theorem d_X3_minute_5 : decode cX3_minute 5 = .ok (.iconst 0, 1) := by decide +kernel
theorem d_X3_minute_6 : decode cX3_minute 6 = .ok (.istore_n 3, 1) := by decide +kernel
theorem d_X3_minute_7 : decode cX3_minute 7 = .ok (.iload_n 3, 1) := by decide +kernel
theorem d_X3_minute_8 : decode cX3_minute 8 = .ok (.iload_n 2, 1) := by decide +kernel
theorem d_X3_minute_9 : decode cX3_minute 9 = .ok (.if_icmp .ge 37, 3) := by decide +kernel
theorem d_X3_minute_12 : decode cX3_minute 12 = .ok (.aload_n 1, 1) := by decide +kernel
theorem d_X3_minute_13 : decode cX3_minute 13 = .ok (.getfield 40, 3) := by decide +kernel
theorem d_X3_minute_16 : decode cX3_minute 16 = .ok (.iload_n 3, 1) := by decide +kernel
theorem d_X3_minute_17 : decode cX3_minute 17 = .ok (.aaload, 1) := by decide +kernel
theorem d_X3_minute_18 : decode cX3_minute 18 = .ok (.getfield 44, 3) := by decide +kernel
theorem d_X3_minute_21 : decode cX3_minute 21 = .ok (.iconst 1, 1) := by decide +kernel
theorem d_X3_minute_22 : decode cX3_minute 22 = .ok (.if_icmp .ne 18, 3) := by decide +kernel
theorem d_X3_minute_25 : decode cX3_minute 25 = .ok (.aload_n 1, 1) := by decide +kernel
theorem d_X3_minute_26 : decode cX3_minute 26 = .ok (.getfield 40, 3) := by decide +kernel
theorem d_X3_minute_29 : decode cX3_minute 29 = .ok (.iload_n 3, 1) := by decide +kernel
theorem d_X3_minute_30 : decode cX3_minute 30 = .ok (.aaload, 1) := by decide +kernel
theorem d_X3_minute_31 : decode cX3_minute 31 = .ok (.dup, 1) := by decide +kernel
theorem d_X3_minute_32 : decode cX3_minute 32 = .ok (.getfield 49, 3) := by decide +kernel
theorem d_X3_minute_35 : decode cX3_minute 35 = .ok (.iconst 1, 1) := by decide +kernel
theorem d_X3_minute_36 : decode cX3_minute 36 = .ok (.isub, 1) := by decide +kernel
theorem d_X3_minute_37 : decode cX3_minute 37 = .ok (.putfield 49, 3) := by decide +kernel
theorem d_X3_minute_40 : decode cX3_minute 40 = .ok (.iinc 3 1, 3) := by decide +kernel
theorem d_X3_minute_43 : decode cX3_minute 43 = .ok (.goto (-36), 3) := by decide +kernel
theorem d_X3_minute_46 : decode cX3_minute 46 = .ok (.iconst 0, 1) := by decide +kernel
theorem d_X3_minute_47 : decode cX3_minute 47 = .ok (.istore_n 3, 1) := by decide +kernel
theorem d_X3_minute_48 : decode cX3_minute 48 = .ok (.iload_n 3, 1) := by decide +kernel
theorem d_X3_minute_49 : decode cX3_minute 49 = .ok (.iload_n 2, 1) := by decide +kernel
theorem d_X3_minute_50 : decode cX3_minute 50 = .ok (.if_icmp .ge 40, 3) := by decide +kernel
theorem d_X3_minute_53 : decode cX3_minute 53 = .ok (.aload_n 1, 1) := by decide +kernel
theorem d_X3_minute_54 : decode cX3_minute 54 = .ok (.getfield 40, 3) := by decide +kernel
theorem d_X3_minute_57 : decode cX3_minute 57 = .ok (.iload_n 3, 1) := by decide +kernel
theorem d_X3_minute_58 : decode cX3_minute 58 = .ok (.aaload, 1) := by decide +kernel
theorem d_X3_minute_59 : decode cX3_minute 59 = .ok (.getfield 44, 3) := by decide +kernel
theorem d_X3_minute_62 : decode cX3_minute 62 = .ok (.iconst 1, 1) := by decide +kernel
theorem d_X3_minute_63 : decode cX3_minute 63 = .ok (.if_icmp .ne 21, 3) := by decide +kernel
theorem d_X3_minute_66 : decode cX3_minute 66 = .ok (.aload_n 1, 1) := by decide +kernel
theorem d_X3_minute_67 : decode cX3_minute 67 = .ok (.getfield 40, 3) := by decide +kernel
theorem d_X3_minute_70 : decode cX3_minute 70 = .ok (.iload_n 3, 1) := by decide +kernel
theorem d_X3_minute_71 : decode cX3_minute 71 = .ok (.aaload, 1) := by decide +kernel
theorem d_X3_minute_72 : decode cX3_minute 72 = .ok (.getfield 49, 3) := by decide +kernel
theorem d_X3_minute_75 : decode cX3_minute 75 = .ok (.ifCond .gt 9, 3) := by decide +kernel
theorem d_X3_minute_78 : decode cX3_minute 78 = .ok (.aload_n 0, 1) := by decide +kernel
theorem d_X3_minute_79 : decode cX3_minute 79 = .ok (.aload_n 1, 1) := by decide +kernel
theorem d_X3_minute_80 : decode cX3_minute 80 = .ok (.iload_n 3, 1) := by decide +kernel
theorem d_X3_minute_81 : decode cX3_minute 81 = .ok (.invokevirtual 52, 3) := by decide +kernel
theorem d_X3_minute_84 : decode cX3_minute 84 = .ok (.iinc 3 1, 3) := by decide +kernel
theorem d_X3_minute_87 : decode cX3_minute 87 = .ok (.goto (-39), 3) := by decide +kernel
theorem d_X3_minute_90 : decode cX3_minute 90 = .ok (.aload_n 1, 1) := by decide +kernel
theorem d_X3_minute_91 : decode cX3_minute 91 = .ok (.getfield 56, 3) := by decide +kernel
theorem d_X3_minute_94 : decode cX3_minute 94 = .ok (.istore_n 3, 1) := by decide +kernel
theorem d_X3_minute_95 : decode cX3_minute 95 = .ok (.iload_n 3, 1) := by decide +kernel
theorem d_X3_minute_96 : decode cX3_minute 96 = .ok (.ifCond .lt 15, 3) := by decide +kernel
theorem d_X3_minute_99 : decode cX3_minute 99 = .ok (.aload_n 0, 1) := by decide +kernel
theorem d_X3_minute_100 : decode cX3_minute 100 = .ok (.aload_n 1, 1) := by decide +kernel
theorem d_X3_minute_101 : decode cX3_minute 101 = .ok (.iload_n 3, 1) := by decide +kernel
theorem d_X3_minute_102 : decode cX3_minute 102 = .ok (.invokevirtual 59, 3) := by decide +kernel
theorem d_X3_minute_105 : decode cX3_minute 105 = .ok (.iinc 3 (-1), 3) := by decide +kernel
theorem d_X3_minute_108 : decode cX3_minute 108 = .ok (.goto (-13), 3) := by decide +kernel
theorem d_X3_minute_111 : decode cX3_minute 111 = .ok (.aload_n 1, 1) := by decide +kernel
theorem d_X3_minute_112 : decode cX3_minute 112 = .ok (.dup, 1) := by decide +kernel
theorem d_X3_minute_113 : decode cX3_minute 113 = .ok (.getfield 62, 3) := by decide +kernel
theorem d_X3_minute_116 : decode cX3_minute 116 = .ok (.iconst 1, 1) := by decide +kernel
theorem d_X3_minute_117 : decode cX3_minute 117 = .ok (.iadd, 1) := by decide +kernel
theorem d_X3_minute_118 : decode cX3_minute 118 = .ok (.putfield 62, 3) := by decide +kernel
theorem d_X3_minute_121 : decode cX3_minute 121 = .ok (.return_, 1) := by decide +kernel
abbrev rm_X3_minute : Room := { frames := 8, cells := 0, slots := 0, locals := 161 }
def B_X3_minute_95 (post : CMu → Prop) : Nat → Nat → Int32 → CMu → Prop
  | 0 => fun _ _ _ => False
  | n + 1 => fun v1 v3 cm => (v3 < 0 → (post (uI cm v1 12 ((gI cm v1 12) + 1)))) ∧ (¬ v3 < 0 → (w_X3_enter (fun (u8 : CMu) => B_X3_minute_95 post n v1 (v3 + (-1)) u8) v1 v3 cm))
def B_X3_minute_84 (post : CMu → Prop) (k48 : Nat → Int32 → Int32 → CMu → Prop) (v1 : Nat) (v2 : Int32) (v3 : Int32) (cm : CMu) : Prop := k48 v1 v2 (v3 + 1) cm
def B_X3_minute_48 (post : CMu → Prop) : Nat → Nat → Int32 → Int32 → CMu → Prop
  | 0 => fun _ _ _ _ => False
  | n + 1 => fun v1 v2 v3 cm => (v2 ≤ v3 → (∃ n95, B_X3_minute_95 post n95 v1 (gI cm v1 5) cm)) ∧ (¬ v2 ≤ v3 → ((vp_in v3 60) ∧ (¬ (gI cm (v1 + 47 + Int32.toNatClampNeg v3) 0) = 1 → (B_X3_minute_84 post (B_X3_minute_48 post n) v1 v2 v3 cm)) ∧ ((gI cm (v1 + 47 + Int32.toNatClampNeg v3) 0) = 1 → ((vp_in v3 60) ∧ (0 < (gI cm (v1 + 47 + Int32.toNatClampNeg v3) 2) → (B_X3_minute_84 post (B_X3_minute_48 post n) v1 v2 v3 cm)) ∧ (¬ 0 < (gI cm (v1 + 47 + Int32.toNatClampNeg v3) 2) → (w_X3_come (fun (u6 : CMu) => B_X3_minute_84 post (B_X3_minute_48 post n) v1 v2 v3 u6) v1 v3 cm))))))
def B_X3_minute_40 (post : CMu → Prop) (k7 : Nat → Int32 → Int32 → CMu → Prop) (v1 : Nat) (v2 : Int32) (v3 : Int32) (cm : CMu) : Prop := k7 v1 v2 (v3 + 1) cm
def B_X3_minute_7 (post : CMu → Prop) : Nat → Nat → Int32 → Int32 → CMu → Prop
  | 0 => fun _ _ _ _ => False
  | n + 1 => fun v1 v2 v3 cm => (v2 ≤ v3 → (∃ n48, B_X3_minute_48 post n48 v1 v2 0 cm)) ∧ (¬ v2 ≤ v3 → ((vp_in v3 60) ∧ (¬ (gI cm (v1 + 47 + Int32.toNatClampNeg v3) 0) = 1 → (B_X3_minute_40 post (B_X3_minute_7 post n) v1 v2 v3 cm)) ∧ ((gI cm (v1 + 47 + Int32.toNatClampNeg v3) 0) = 1 → ((vp_in v3 60) ∧ B_X3_minute_40 post (B_X3_minute_7 post n) v1 v2 v3 (uI cm (v1 + 47 + Int32.toNatClampNeg v3) 2 ((gI cm (v1 + 47 + Int32.toNatClampNeg v3) 2) - 1))))))
def w_X3_minute (post : CMu → Prop) (a1 : Nat) (cm : CMu) : Prop := ∃ n7, B_X3_minute_7 post n7 a1 (gI cm a1 6) 0 cm
section G_X3_minute
variable {p : Program} {l : Launch} {e : Env} {s : State} {m : MethodId} {args : Array Value} {below : List Frame} {meth : Method} {c : Code} {G : Gd} {ρ : Nat → Nat} {A : Nat → Prop} {mm : Nat → Nat → Int32} {oo : Nat → Int64}
set_option maxHeartbeats 4000000 in
set_option maxRecDepth 100000 in
theorem T_X3_minute_95 {post : CMu → Prop} (hl : l.stackTraces = false) (X : MC p l s m args meth c cX3_minute 4 RX3 G ρ A) (hr : meth.sig.returnType = none) (hex : ∀ z ∈ c.exceptionTable.toList, False) (n : Nat) : ∀ (v1 : Nat) (v3 : Int32) (h_v1 : (KD v1).1 = 3) (cm : CMu), B_X3_minute_95 post n v1 v3 cm → LW p l e rm_X3_minute s m args below meth c (Qm below G ρ A (PV (fun u => (u, mm, oo)) post) noX args s 0 0) G ρ A 4 0 0 95 [(0, .ref 8), (1, .ref v1), (3, .int v3)] [] (cm, mm, oo) := by
  induction n with
  | zero =>
    intro v1 v3 h_v1 cm h
    exact False.elim h
  | succ n ih =>
    intro v1 v3 h_v1 cm h
    unfold B_X3_minute_95 at h
    refine L_iload_n (pc := 95) X d_X3_minute_95 rfl 2 rfl ?_
    refine L_if_lt (pc := 96) (tgt := 111) X d_X3_minute_96 (by decide) (fun c96 => ?_) (fun c96 => ?_)
    · replace h := h.1 c96
      refine L_aload_n (pc := 111) X d_X3_minute_111 rfl 1 rfl ?_
      refine L_dup (pc := 112) X d_X3_minute_112 rfl ?_
      refine gf_X3_62 (pc := 113) X d_X3_minute_113 h_v1 ?_
      refine L_iconst (pc := 116) (v := 1) X d_X3_minute_116 (by decide) ?_
      refine L_iadd (pc := 117) X d_X3_minute_117 ?_
      refine pf_X3_62 (pc := 118) X d_X3_minute_118 h_v1 ?_
      exact L_vret (pc := 121) X hr d_X3_minute_121 (by decide) (by decide) ⟨_, rfl, rfl, h⟩
    · replace h := h.2 c96
      refine L_aload_n (pc := 99) X d_X3_minute_99 rfl 0 rfl ?_
      refine L_aload_n (pc := 100) X d_X3_minute_100 rfl 1 rfl ?_
      refine L_iload_n (pc := 101) X d_X3_minute_101 rfl 2 rfl ?_
      refine L_callVV (pc := 102) X lk_X3_59 (c_X3_enter X.hst h_v1 h) rfl rfl kd_8 (by decide) rfl rfl ⟨by decide, by decide⟩ ⟨by decide, by decide⟩ (Nat.zero_le _) d_X3_minute_102 rfl (fun x κ1 hx => L_nox hx) (fun u8 h => ?_)
      refine L_iinc (pc := 105) (v := v3 + (-1)) (lv2 := [(3, .int (v3 + (-1))), (0, .ref 8), (1, .ref v1)]) X d_X3_minute_105 2 rfl rfl (by decide) rfl ?_
      refine L_goto (pc := 108) (tgt := 95) X d_X3_minute_108 (by decide) ?_
      refine LW.sub [1, 2, 0] rfl ?_
      exact ih _ _ h_v1 _ h
set_option maxHeartbeats 4000000 in
set_option maxRecDepth 100000 in
theorem T_X3_minute_84 {post : CMu → Prop} {k48 : Nat → Int32 → Int32 → CMu → Prop} (hl : l.stackTraces = false) (X : MC p l s m args meth c cX3_minute 4 RX3 G ρ A) (hr : meth.sig.returnType = none) (hex : ∀ z ∈ c.exceptionTable.toList, False)
    (hk48 : ∀ (v1 : Nat) (v2 : Int32) (v3 : Int32) (h_v1 : (KD v1).1 = 3) (cm : CMu), k48 v1 v2 v3 cm → LW p l e rm_X3_minute s m args below meth c (Qm below G ρ A (PV (fun u => (u, mm, oo)) post) noX args s 0 0) G ρ A 4 0 0 48 [(0, .ref 8), (1, .ref v1), (2, .int v2), (3, .int v3)] [] (cm, mm, oo)) : ∀ (v1 : Nat) (v2 : Int32) (v3 : Int32) (h_v1 : (KD v1).1 = 3) (cm : CMu), B_X3_minute_84 post k48 v1 v2 v3 cm → LW p l e rm_X3_minute s m args below meth c (Qm below G ρ A (PV (fun u => (u, mm, oo)) post) noX args s 0 0) G ρ A 4 0 0 84 [(0, .ref 8), (1, .ref v1), (2, .int v2), (3, .int v3)] [] (cm, mm, oo) := by
  intro v1 v2 v3 h_v1 cm h
  unfold B_X3_minute_84 at h
  refine L_iinc (pc := 84) (v := v3 + 1) (lv2 := [(3, .int (v3 + 1)), (0, .ref 8), (1, .ref v1), (2, .int v2)]) X d_X3_minute_84 3 rfl rfl (by decide) rfl ?_
  refine L_goto (pc := 87) (tgt := 48) X d_X3_minute_87 (by decide) ?_
  refine LW.sub [1, 2, 3, 0] rfl ?_
  exact hk48 _ _ _ h_v1 _ h
set_option maxHeartbeats 4000000 in
set_option maxRecDepth 100000 in
theorem T_X3_minute_48 {post : CMu → Prop} (hl : l.stackTraces = false) (X : MC p l s m args meth c cX3_minute 4 RX3 G ρ A) (hr : meth.sig.returnType = none) (hex : ∀ z ∈ c.exceptionTable.toList, False) (n : Nat) : ∀ (v1 : Nat) (v2 : Int32) (v3 : Int32) (h_v1 : (KD v1).1 = 3) (cm : CMu), B_X3_minute_48 post n v1 v2 v3 cm → LW p l e rm_X3_minute s m args below meth c (Qm below G ρ A (PV (fun u => (u, mm, oo)) post) noX args s 0 0) G ρ A 4 0 0 48 [(0, .ref 8), (1, .ref v1), (2, .int v2), (3, .int v3)] [] (cm, mm, oo) := by
  induction n with
  | zero =>
    intro v1 v2 v3 h_v1 cm h
    exact False.elim h
  | succ n ih =>
    intro v1 v2 v3 h_v1 cm h
    unfold B_X3_minute_48 at h
    refine L_iload_n (pc := 48) X d_X3_minute_48 rfl 3 rfl ?_
    refine L_iload_n (pc := 49) X d_X3_minute_49 rfl 2 rfl ?_
    refine L_icmp_ge (pc := 50) (tgt := 90) X d_X3_minute_50 (by decide) (fun c50 => ?_) (fun c50 => ?_)
    · replace h := h.1 c50
      refine L_aload_n (pc := 90) X d_X3_minute_90 rfl 1 rfl ?_
      refine gf_X3_56 (pc := 91) X d_X3_minute_91 h_v1 ?_
      refine L_istore_n (pc := 94) (lv2 := [(3, .int (gI cm v1 5)), (0, .ref 8), (1, .ref v1), (2, .int v2)]) X d_X3_minute_94 rfl (by decide) rfl ?_
      obtain ⟨n95, h⟩ := h
      refine LW.sub [1, 2, 0] rfl ?_
      exact T_X3_minute_95 hl X hr hex n95 _ _ h_v1 _ h
    · replace h := h.2 c50
      refine L_aload_n (pc := 53) X d_X3_minute_53 rfl 1 rfl ?_
      refine gf_X3_40 (pc := 54) (b := v1 + 3) X d_X3_minute_54 h_v1 rfl ?_
      refine L_iload_n (pc := 57) X d_X3_minute_57 rfl 3 rfl ?_
      obtain ⟨q3, h⟩ := h
      refine L_aald24 (pc := 58) (b := v1 + 47 + Int32.toNatClampNeg v3) X d_X3_minute_58 (kf_3_2 h_v1) q3 rfl ?_
      refine gf_X3_44 (pc := 59) X d_X3_minute_59 (ka_24 (kf_3_2 h_v1) (vin_lt q3)) ?_
      refine L_iconst (pc := 62) (v := 1) X d_X3_minute_62 (by decide) ?_
      refine L_icmp_ne (pc := 63) (tgt := 84) X d_X3_minute_63 (by decide) (fun c63 => ?_) (fun c63 => ?_)
      · replace h := h.1 c63
        refine LW.sub [0, 1, 2, 3] rfl ?_
        exact T_X3_minute_84 hl X hr hex ih _ _ _ h_v1 _ h
      · replace h := h.2 c63
        refine L_aload_n (pc := 66) X d_X3_minute_66 rfl 1 rfl ?_
        refine gf_X3_40 (pc := 67) (b := v1 + 3) X d_X3_minute_67 h_v1 rfl ?_
        refine L_iload_n (pc := 70) X d_X3_minute_70 rfl 3 rfl ?_
        obtain ⟨q4, h⟩ := h
        refine L_aald24 (pc := 71) (b := v1 + 47 + Int32.toNatClampNeg v3) X d_X3_minute_71 (kf_3_2 h_v1) q4 rfl ?_
        refine gf_X3_49 (pc := 72) X d_X3_minute_72 (ka_24 (kf_3_2 h_v1) (vin_lt q4)) ?_
        refine L_if_gt (pc := 75) (tgt := 84) X d_X3_minute_75 (by decide) (fun c75 => ?_) (fun c75 => ?_)
        · replace h := h.1 c75
          refine LW.sub [0, 1, 2, 3] rfl ?_
          exact T_X3_minute_84 hl X hr hex ih _ _ _ h_v1 _ h
        · replace h := h.2 c75
          refine L_aload_n (pc := 78) X d_X3_minute_78 rfl 0 rfl ?_
          refine L_aload_n (pc := 79) X d_X3_minute_79 rfl 1 rfl ?_
          refine L_iload_n (pc := 80) X d_X3_minute_80 rfl 3 rfl ?_
          refine L_callVV (pc := 81) X lk_X3_52 (c_X3_come X.hst h_v1 h) rfl rfl kd_8 (by decide) rfl rfl ⟨by decide, by decide⟩ ⟨by decide, by decide⟩ (Nat.zero_le _) d_X3_minute_81 rfl (fun x κ1 hx => L_nox hx) (fun u6 h => ?_)
          refine LW.sub [0, 1, 2, 3] rfl ?_
          exact T_X3_minute_84 hl X hr hex ih _ _ _ h_v1 _ h
set_option maxHeartbeats 4000000 in
set_option maxRecDepth 100000 in
theorem T_X3_minute_40 {post : CMu → Prop} {k7 : Nat → Int32 → Int32 → CMu → Prop} (hl : l.stackTraces = false) (X : MC p l s m args meth c cX3_minute 4 RX3 G ρ A) (hr : meth.sig.returnType = none) (hex : ∀ z ∈ c.exceptionTable.toList, False)
    (hk7 : ∀ (v1 : Nat) (v2 : Int32) (v3 : Int32) (h_v1 : (KD v1).1 = 3) (cm : CMu), k7 v1 v2 v3 cm → LW p l e rm_X3_minute s m args below meth c (Qm below G ρ A (PV (fun u => (u, mm, oo)) post) noX args s 0 0) G ρ A 4 0 0 7 [(0, .ref 8), (1, .ref v1), (2, .int v2), (3, .int v3)] [] (cm, mm, oo)) : ∀ (v1 : Nat) (v2 : Int32) (v3 : Int32) (h_v1 : (KD v1).1 = 3) (cm : CMu), B_X3_minute_40 post k7 v1 v2 v3 cm → LW p l e rm_X3_minute s m args below meth c (Qm below G ρ A (PV (fun u => (u, mm, oo)) post) noX args s 0 0) G ρ A 4 0 0 40 [(0, .ref 8), (1, .ref v1), (2, .int v2), (3, .int v3)] [] (cm, mm, oo) := by
  intro v1 v2 v3 h_v1 cm h
  unfold B_X3_minute_40 at h
  refine L_iinc (pc := 40) (v := v3 + 1) (lv2 := [(3, .int (v3 + 1)), (0, .ref 8), (1, .ref v1), (2, .int v2)]) X d_X3_minute_40 3 rfl rfl (by decide) rfl ?_
  refine L_goto (pc := 43) (tgt := 7) X d_X3_minute_43 (by decide) ?_
  refine LW.sub [1, 2, 3, 0] rfl ?_
  exact hk7 _ _ _ h_v1 _ h
set_option maxHeartbeats 4000000 in
set_option maxRecDepth 100000 in
theorem T_X3_minute_7 {post : CMu → Prop} (hl : l.stackTraces = false) (X : MC p l s m args meth c cX3_minute 4 RX3 G ρ A) (hr : meth.sig.returnType = none) (hex : ∀ z ∈ c.exceptionTable.toList, False) (n : Nat) : ∀ (v1 : Nat) (v2 : Int32) (v3 : Int32) (h_v1 : (KD v1).1 = 3) (cm : CMu), B_X3_minute_7 post n v1 v2 v3 cm → LW p l e rm_X3_minute s m args below meth c (Qm below G ρ A (PV (fun u => (u, mm, oo)) post) noX args s 0 0) G ρ A 4 0 0 7 [(0, .ref 8), (1, .ref v1), (2, .int v2), (3, .int v3)] [] (cm, mm, oo) := by
  induction n with
  | zero =>
    intro v1 v2 v3 h_v1 cm h
    exact False.elim h
  | succ n ih =>
    intro v1 v2 v3 h_v1 cm h
    unfold B_X3_minute_7 at h
    refine L_iload_n (pc := 7) X d_X3_minute_7 rfl 3 rfl ?_
    refine L_iload_n (pc := 8) X d_X3_minute_8 rfl 2 rfl ?_
    refine L_icmp_ge (pc := 9) (tgt := 46) X d_X3_minute_9 (by decide) (fun c9 => ?_) (fun c9 => ?_)
    · replace h := h.1 c9
      refine L_iconst (pc := 46) (v := 0) X d_X3_minute_46 (by decide) ?_
      refine L_istore_n (pc := 47) (lv2 := [(3, .int 0), (0, .ref 8), (1, .ref v1), (2, .int v2)]) X d_X3_minute_47 rfl (by decide) rfl ?_
      obtain ⟨n48, h⟩ := h
      refine LW.sub [1, 2, 3, 0] rfl ?_
      exact T_X3_minute_48 hl X hr hex n48 _ _ _ h_v1 _ h
    · replace h := h.2 c9
      refine L_aload_n (pc := 12) X d_X3_minute_12 rfl 1 rfl ?_
      refine gf_X3_40 (pc := 13) (b := v1 + 3) X d_X3_minute_13 h_v1 rfl ?_
      refine L_iload_n (pc := 16) X d_X3_minute_16 rfl 3 rfl ?_
      obtain ⟨q1, h⟩ := h
      refine L_aald24 (pc := 17) (b := v1 + 47 + Int32.toNatClampNeg v3) X d_X3_minute_17 (kf_3_2 h_v1) q1 rfl ?_
      refine gf_X3_44 (pc := 18) X d_X3_minute_18 (ka_24 (kf_3_2 h_v1) (vin_lt q1)) ?_
      refine L_iconst (pc := 21) (v := 1) X d_X3_minute_21 (by decide) ?_
      refine L_icmp_ne (pc := 22) (tgt := 40) X d_X3_minute_22 (by decide) (fun c22 => ?_) (fun c22 => ?_)
      · replace h := h.1 c22
        refine LW.sub [0, 1, 2, 3] rfl ?_
        exact T_X3_minute_40 hl X hr hex ih _ _ _ h_v1 _ h
      · replace h := h.2 c22
        refine L_aload_n (pc := 25) X d_X3_minute_25 rfl 1 rfl ?_
        refine gf_X3_40 (pc := 26) (b := v1 + 3) X d_X3_minute_26 h_v1 rfl ?_
        refine L_iload_n (pc := 29) X d_X3_minute_29 rfl 3 rfl ?_
        obtain ⟨q2, h⟩ := h
        refine L_aald24 (pc := 30) (b := v1 + 47 + Int32.toNatClampNeg v3) X d_X3_minute_30 (kf_3_2 h_v1) q2 rfl ?_
        refine L_dup (pc := 31) X d_X3_minute_31 rfl ?_
        refine gf_X3_49 (pc := 32) X d_X3_minute_32 (ka_24 (kf_3_2 h_v1) (vin_lt q2)) ?_
        refine L_iconst (pc := 35) (v := 1) X d_X3_minute_35 (by decide) ?_
        refine L_isub (pc := 36) X d_X3_minute_36 ?_
        refine pf_X3_49 (pc := 37) X d_X3_minute_37 (ka_24 (kf_3_2 h_v1) (vin_lt q2)) ?_
        refine LW.sub [0, 1, 2, 3] rfl ?_
        exact T_X3_minute_40 hl X hr hex ih _ _ _ h_v1 _ h
set_option maxHeartbeats 4000000 in
set_option maxRecDepth 100000 in
theorem c_X3_minute (hl : l.stackTraces = false) {a1 : Nat} (h_a1 : (KD a1).1 = 3) {cm : CMu} {post : CMu → Prop} (h : w_X3_minute post a1 cm) : CT l yX3_minute (.code yX3_minute cX3_minute 4 none) rm_X3_minute 0 0 G ρ [.ref 8, .ref a1] (cm, mm, oo) (PV (fun u => (u, mm, oo)) post) noX := by
  refine CT_of hl (by decide +kernel) rfl (Nat.le_of_ble_eq_true rfl) (lv0 := [(0, .ref 8), (1, .ref a1)]) rfl (fun p e s m args below meth c A X hr hex hnm => ?_)
  unfold w_X3_minute at h
  refine L_aload_n (pc := 0) X d_X3_minute_0 rfl 1 rfl ?_
  refine gf_X3_36 (pc := 1) X d_X3_minute_1 h_a1 ?_
  refine L_istore_n (pc := 4) (lv2 := [(2, .int (gI cm a1 6)), (0, .ref 8), (1, .ref a1)]) X d_X3_minute_4 rfl (by decide) rfl ?_
  refine L_iconst (pc := 5) (v := 0) X d_X3_minute_5 (by decide) ?_
  refine L_istore_n (pc := 6) (lv2 := [(3, .int 0), (2, .int (gI cm a1 6)), (0, .ref 8), (1, .ref a1)]) X d_X3_minute_6 rfl (by decide) rfl ?_
  obtain ⟨n7, h⟩ := h
  refine LW.sub [2, 3, 1, 0] rfl ?_
  exact T_X3_minute_7 hl X hr hex n7 _ _ _ h_a1 _ h
end G_X3_minute
theorem yk_X3_minute : yX3_minute.cls = RX3 ∧ yX3_minute.cls ≠ "java/lang/invoke/MethodHandle" ∧ yX3_minute.cls ≠ "java/lang/invoke/VarHandle" ∧ (parseMethodDescriptor yX3_minute.desc).map (fun d => d.parameters.length) = some 1 := by decide +kernel
theorem lk_X3_28 : LinkV RX3 28 RX3 yX3_minute (.code yX3_minute cX3_minute 4 none) 1 := ⟨tw_945, tw_947, tw_18, tw_75, tw_948, yk_X3_minute⟩
theorem yk_X3_passStill : yX3_passStill.cls = RX3 ∧ yX3_passStill.cls ≠ "java/lang/invoke/MethodHandle" ∧ yX3_passStill.cls ≠ "java/lang/invoke/VarHandle" ∧ (parseMethodDescriptor yX3_passStill.desc).map (fun d => d.parameters.length) = some 2 := by decide +kernel
theorem lk_X3_32 : LinkV RX3 32 RX3 yX3_passStill (.code yX3_passStill cX3_passStill 5 (some .int)) 2 := ⟨tw_1018, tw_1020, tw_23, tw_75, tw_1021, yk_X3_passStill⟩
theorem d_X3_pass_0 : decode cX3_pass 0 = .ok (.iload_n 2, 1) := by decide +kernel
theorem d_X3_pass_1 : decode cX3_pass 1 = .ok (.istore_n 3, 1) := by decide +kernel
theorem d_X3_pass_2 : decode cX3_pass 2 = .ok (.iconst 0, 1) := by decide +kernel
theorem d_X3_pass_3 : decode cX3_pass 3 = .ok (.istore 4, 2) := by decide +kernel
theorem d_X3_pass_5 : decode cX3_pass 5 = .ok (.iload 4, 2) := by decide +kernel
theorem d_X3_pass_7 : decode cX3_pass 7 = .ok (.iload_n 2, 1) := by decide +kernel
theorem d_X3_pass_8 : decode cX3_pass 8 = .ok (.if_icmp .ge 37, 3) := by decide +kernel
theorem d_X3_pass_11 : decode cX3_pass 11 = .ok (.iload_n 3, 1) := by decide +kernel
theorem d_X3_pass_12 : decode cX3_pass 12 = .ok (.ifCond .le 33, 3) := by decide +kernel
theorem d_X3_pass_15 : decode cX3_pass 15 = .ok (.aload_n 1, 1) := by decide +kernel
theorem d_X3_pass_16 : decode cX3_pass 16 = .ok (.invokevirtual 22, 3) := by decide +kernel
theorem d_X3_pass_19 : decode cX3_pass 19 = .ok (.ifCond .ne 11, 3) := by decide +kernel
theorem d_X3_pass_22 : decode cX3_pass 22 = .ok (.aload_n 0, 1) := by decide +kernel
theorem d_X3_pass_23 : decode cX3_pass 23 = .ok (.aload_n 1, 1) := by decide +kernel
theorem d_X3_pass_24 : decode cX3_pass 24 = .ok (.invokevirtual 28, 3) := by decide +kernel
theorem d_X3_pass_27 : decode cX3_pass 27 = .ok (.iinc 3 (-1), 3) := by decide +kernel
theorem d_X3_pass_30 : decode cX3_pass 30 = .ok (.iload_n 3, 1) := by decide +kernel
theorem d_X3_pass_31 : decode cX3_pass 31 = .ok (.aload_n 0, 1) := by decide +kernel
theorem d_X3_pass_32 : decode cX3_pass 32 = .ok (.aload_n 1, 1) := by decide +kernel
theorem d_X3_pass_33 : decode cX3_pass 33 = .ok (.iload_n 3, 1) := by decide +kernel
theorem d_X3_pass_34 : decode cX3_pass 34 = .ok (.invokevirtual 32, 3) := by decide +kernel
theorem d_X3_pass_37 : decode cX3_pass 37 = .ok (.isub, 1) := by decide +kernel
theorem d_X3_pass_38 : decode cX3_pass 38 = .ok (.istore_n 3, 1) := by decide +kernel
theorem d_X3_pass_39 : decode cX3_pass 39 = .ok (.iinc 4 1, 3) := by decide +kernel
theorem d_X3_pass_42 : decode cX3_pass 42 = .ok (.goto (-37), 3) := by decide +kernel
theorem d_X3_pass_45 : decode cX3_pass 45 = .ok (.return_, 1) := by decide +kernel
abbrev rm_X3_pass : Room := { frames := 9, cells := 0, slots := 0, locals := 184 }
def B_X3_pass_45 (post : CMu → Prop) (cm : CMu) : Prop := post cm
def B_X3_pass_30 (post : CMu → Prop) (k5 : Nat → Int32 → Int32 → Int32 → CMu → Prop) (v1 : Nat) (v2 : Int32) (v3 : Int32) (v4 : Int32) (cm : CMu) : Prop := w_X3_passStill (fun (r5 : Int32) (u6 : CMu) => k5 v1 v2 (v3 - r5) (v4 + 1) u6) v1 v3 cm
def B_X3_pass_5 (post : CMu → Prop) : Nat → Nat → Int32 → Int32 → Int32 → CMu → Prop
  | 0 => fun _ _ _ _ _ => False
  | n + 1 => fun v1 v2 v3 v4 cm => (v2 ≤ v4 → (B_X3_pass_45 post cm)) ∧ (¬ v2 ≤ v4 → ((v3 ≤ 0 → (B_X3_pass_45 post cm)) ∧ (¬ v3 ≤ 0 → (w_X4_hasFrost (fun (r1 : Bool) (u2 : CMu) => (¬ (r1 = false) → (B_X3_pass_30 post (B_X3_pass_5 post n) v1 v2 v3 v4 u2)) ∧ ((r1 = false) → (w_X3_minute (fun (u4 : CMu) => B_X3_pass_30 post (B_X3_pass_5 post n) v1 v2 (v3 + (-1)) v4 u4) v1 u2))) v1 cm))))
def w_X3_pass (post : CMu → Prop) (a1 : Nat) (x2 : Int32) (cm : CMu) : Prop := ∃ n5, B_X3_pass_5 post n5 a1 x2 x2 0 cm
section G_X3_pass
variable {p : Program} {l : Launch} {e : Env} {s : State} {m : MethodId} {args : Array Value} {below : List Frame} {meth : Method} {c : Code} {G : Gd} {ρ : Nat → Nat} {A : Nat → Prop} {mm : Nat → Nat → Int32} {oo : Nat → Int64}
set_option maxHeartbeats 4000000 in
set_option maxRecDepth 100000 in
theorem T_X3_pass_45 {post : CMu → Prop} (hl : l.stackTraces = false) (X : MC p l s m args meth c cX3_pass 5 RX3 G ρ A) (hr : meth.sig.returnType = none) (hex : ∀ z ∈ c.exceptionTable.toList, False) : ∀ (cm : CMu), B_X3_pass_45 post cm → LW p l e rm_X3_pass s m args below meth c (Qm below G ρ A (PV (fun u => (u, mm, oo)) post) noX args s 0 0) G ρ A 5 0 0 45 [] [] (cm, mm, oo) := by
  intro cm h
  unfold B_X3_pass_45 at h
  exact L_vret (pc := 45) X hr d_X3_pass_45 (by decide) (by decide) ⟨_, rfl, rfl, h⟩
set_option maxHeartbeats 4000000 in
set_option maxRecDepth 100000 in
theorem T_X3_pass_30 {post : CMu → Prop} {k5 : Nat → Int32 → Int32 → Int32 → CMu → Prop} (hl : l.stackTraces = false) (X : MC p l s m args meth c cX3_pass 5 RX3 G ρ A) (hr : meth.sig.returnType = none) (hex : ∀ z ∈ c.exceptionTable.toList, False)
    (hk5 : ∀ (v1 : Nat) (v2 : Int32) (v3 : Int32) (v4 : Int32) (h_v1 : (KD v1).1 = 3) (cm : CMu), k5 v1 v2 v3 v4 cm → LW p l e rm_X3_pass s m args below meth c (Qm below G ρ A (PV (fun u => (u, mm, oo)) post) noX args s 0 0) G ρ A 5 0 0 5 [(0, .ref 8), (1, .ref v1), (2, .int v2), (3, .int v3), (4, .int v4)] [] (cm, mm, oo)) : ∀ (v1 : Nat) (v2 : Int32) (v3 : Int32) (v4 : Int32) (h_v1 : (KD v1).1 = 3) (cm : CMu), B_X3_pass_30 post k5 v1 v2 v3 v4 cm → LW p l e rm_X3_pass s m args below meth c (Qm below G ρ A (PV (fun u => (u, mm, oo)) post) noX args s 0 0) G ρ A 5 0 0 30 [(0, .ref 8), (1, .ref v1), (2, .int v2), (3, .int v3), (4, .int v4)] [] (cm, mm, oo) := by
  intro v1 v2 v3 v4 h_v1 cm h
  unfold B_X3_pass_30 at h
  refine L_iload_n (pc := 30) X d_X3_pass_30 rfl 3 rfl ?_
  refine L_aload_n (pc := 31) X d_X3_pass_31 rfl 0 rfl ?_
  refine L_aload_n (pc := 32) X d_X3_pass_32 rfl 1 rfl ?_
  refine L_iload_n (pc := 33) X d_X3_pass_33 rfl 3 rfl ?_
  refine L_callVI (pc := 34) X lk_X3_32 (c_X3_passStill X.hst h_v1 h) rfl rfl kd_8 (by decide) rfl rfl ⟨by decide, by decide⟩ ⟨by decide, by decide⟩ (Nat.le_of_ble_eq_true rfl) d_X3_pass_34 rfl (fun x κ1 hx => L_nox hx) (fun r5 u6 h => ?_)
  refine L_isub (pc := 37) X d_X3_pass_37 ?_
  refine L_istore_n (pc := 38) (lv2 := [(3, .int (v3 - r5)), (0, .ref 8), (1, .ref v1), (2, .int v2), (4, .int v4)]) X d_X3_pass_38 rfl (by decide) rfl ?_
  refine L_iinc (pc := 39) (v := v4 + 1) (lv2 := [(4, .int (v4 + 1)), (3, .int (v3 - r5)), (0, .ref 8), (1, .ref v1), (2, .int v2)]) X d_X3_pass_39 4 rfl rfl (by decide) rfl ?_
  refine L_goto (pc := 42) (tgt := 5) X d_X3_pass_42 (by decide) ?_
  refine LW.sub [2, 3, 4, 1, 0] rfl ?_
  exact hk5 _ _ _ _ h_v1 _ h
set_option maxHeartbeats 4000000 in
set_option maxRecDepth 100000 in
theorem T_X3_pass_5 {post : CMu → Prop} (hl : l.stackTraces = false) (X : MC p l s m args meth c cX3_pass 5 RX3 G ρ A) (hr : meth.sig.returnType = none) (hex : ∀ z ∈ c.exceptionTable.toList, False) (n : Nat) : ∀ (v1 : Nat) (v2 : Int32) (v3 : Int32) (v4 : Int32) (h_v1 : (KD v1).1 = 3) (cm : CMu), B_X3_pass_5 post n v1 v2 v3 v4 cm → LW p l e rm_X3_pass s m args below meth c (Qm below G ρ A (PV (fun u => (u, mm, oo)) post) noX args s 0 0) G ρ A 5 0 0 5 [(0, .ref 8), (1, .ref v1), (2, .int v2), (3, .int v3), (4, .int v4)] [] (cm, mm, oo) := by
  induction n with
  | zero =>
    intro v1 v2 v3 v4 h_v1 cm h
    exact False.elim h
  | succ n ih =>
    intro v1 v2 v3 v4 h_v1 cm h
    unfold B_X3_pass_5 at h
    refine L_iload (pc := 5) X d_X3_pass_5 4 rfl ?_
    refine L_iload_n (pc := 7) X d_X3_pass_7 rfl 2 rfl ?_
    refine L_icmp_ge (pc := 8) (tgt := 45) X d_X3_pass_8 (by decide) (fun c8 => ?_) (fun c8 => ?_)
    · replace h := h.1 c8
      refine LW.sub [] rfl ?_
      exact T_X3_pass_45 hl X hr hex   _ h
    · replace h := h.2 c8
      refine L_iload_n (pc := 11) X d_X3_pass_11 rfl 3 rfl ?_
      refine L_if_le (pc := 12) (tgt := 45) X d_X3_pass_12 (by decide) (fun c12 => ?_) (fun c12 => ?_)
      · replace h := h.1 c12
        refine LW.sub [] rfl ?_
        exact T_X3_pass_45 hl X hr hex   _ h
      · replace h := h.2 c12
        refine L_aload_n (pc := 15) X d_X3_pass_15 rfl 1 rfl ?_
        refine L_callVZ (pc := 16) X lk_X3_22 (c_X4_hasFrost X.hst h_v1 h) rfl rfl h_v1 (by decide) rfl rfl ⟨by decide, by decide⟩ ⟨by decide, by decide⟩ (Nat.zero_le _) d_X3_pass_16 rfl (fun x κ1 hx => L_nox hx) (fun r1 u2 h => ?_)
        refine L_if_ne (pc := 19) (tgt := 30) X d_X3_pass_19 (by decide) (fun c19 => ?_) (fun c19 => ?_)
        · replace h := h.1 (fun z => c19 ((b2_0 _).mpr z))
          refine LW.sub [0, 1, 2, 3, 4] rfl ?_
          exact T_X3_pass_30 hl X hr hex ih _ _ _ _ h_v1 _ h
        · replace h := h.2 ((b2_0 _).mp c19)
          refine L_aload_n (pc := 22) X d_X3_pass_22 rfl 0 rfl ?_
          refine L_aload_n (pc := 23) X d_X3_pass_23 rfl 1 rfl ?_
          refine L_callVV (pc := 24) X lk_X3_28 (c_X3_minute X.hst h_v1 h) rfl rfl kd_8 (by decide) rfl rfl ⟨by decide, by decide⟩ ⟨by decide, by decide⟩ (Nat.zero_le _) d_X3_pass_24 rfl (fun x κ1 hx => L_nox hx) (fun u4 h => ?_)
          refine L_iinc (pc := 27) (v := v3 + (-1)) (lv2 := [(3, .int (v3 + (-1))), (0, .ref 8), (1, .ref v1), (2, .int v2), (4, .int v4)]) X d_X3_pass_27 3 rfl rfl (by decide) rfl ?_
          refine LW.sub [1, 2, 3, 0, 4] rfl ?_
          exact T_X3_pass_30 hl X hr hex ih _ _ _ _ h_v1 _ h
set_option maxHeartbeats 4000000 in
set_option maxRecDepth 100000 in
theorem c_X3_pass (hl : l.stackTraces = false) {a1 : Nat} {x2 : Int32} (h_a1 : (KD a1).1 = 3) {cm : CMu} {post : CMu → Prop} (h : w_X3_pass post a1 x2 cm) : CT l yX3_pass (.code yX3_pass cX3_pass 5 none) rm_X3_pass 0 0 G ρ [.ref 8, .ref a1, .int x2] (cm, mm, oo) (PV (fun u => (u, mm, oo)) post) noX := by
  refine CT_of hl (by decide +kernel) rfl (Nat.le_of_ble_eq_true rfl) (lv0 := [(0, .ref 8), (1, .ref a1), (2, .int x2)]) rfl (fun p e s m args below meth c A X hr hex hnm => ?_)
  unfold w_X3_pass at h
  refine L_iload_n (pc := 0) X d_X3_pass_0 rfl 2 rfl ?_
  refine L_istore_n (pc := 1) (lv2 := [(3, .int x2), (0, .ref 8), (1, .ref a1), (2, .int x2)]) X d_X3_pass_1 rfl (by decide) rfl ?_
  refine L_iconst (pc := 2) (v := 0) X d_X3_pass_2 (by decide) ?_
  refine L_istore (pc := 3) (lv2 := [(4, .int 0), (3, .int x2), (0, .ref 8), (1, .ref a1), (2, .int x2)]) X d_X3_pass_3 (by decide) rfl ?_
  obtain ⟨n5, h⟩ := h
  refine LW.sub [2, 3, 4, 1, 0] rfl ?_
  exact T_X3_pass_5 hl X hr hex n5 _ _ _ _ h_a1 _ h
end G_X3_pass
