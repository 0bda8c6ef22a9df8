/-! ===== a new camp ===== -/
theorem uL_putT {cm : CMu} {s : PT} {a j : Nat} {v : Int64} : uL (putT cm s) a j v = putT (uL cm a j v) s := rfl
theorem gI_putT {cm : CMu} {s : PT} {a j : Nat} (h : a ≠ 4) : gI (putT cm s) a j = gI cm a j := putT_o (by omega)
theorem bit64_0 (p : Nat) : bit64 0 p = false := by
  show (BitVec.ofNat 64 0).getLsbD p = false
  simp
theorem RX_k {cm : CMu} {f : Nat} {M : Nat → Int32} {D : Nat → Prop} (h : RFI cm f M D) (hD : ∀ x, D x → im x = true) {i w : Nat} (hi : i < 12) (hw : w < 4) (v : Int32) : RFI (uI cm (f + 23 + 2 * i) w v) f (upd M (46 + 4 * i + w) v) (fun y => D y ∨ y = 46 + 4 * i + w) := by
  have := RFI_ext h hD (x := 46 + 4 * i + w) (decide_eq_true (by omega)) v
  rw [ad_k hi hw] at this
  rw [Nat.add_assoc]
  exact this
theorem RX_r {cm : CMu} {f : Nat} {M : Nat → Int32} {D : Nat → Prop} (h : RFI cm f M D) (hD : ∀ x, D x → im x = true) {i w : Nat} (hi : i < 12) (hw : w < 3) (v : Int32) : RFI (uI cm (f + 24 + 2 * i) w v) f (upd M (10 + 3 * i + w) v) (fun y => D y ∨ y = 10 + 3 * i + w) := by
  have := RFI_ext h hD (x := 10 + 3 * i + w) (decide_eq_true (by omega)) v
  rw [ad_r hi hw] at this
  rw [Nat.add_assoc]
  exact this
theorem RFI_uL {cm : CMu} {f : Nat} {M : Nat → Int32} {D : Nat → Prop} {a j : Nat} {v : Int64} (h : RFI cm f M D) : RFI (uL cm a j v) f M D := h
section CC
variable {cm0 cm : CMu} {M : Nat → Int32} {T : Nat → Pg} {n K : Nat} {k : TK} {post : CMu → Prop}
theorem Dom_camp {o : Nat} (h : Dom M n 0 o K) (hn : n < 11) {len trees : Int32} (hl : 1 ≤ len.toInt ∧ len.toInt ≤ 20) : Dom (addM len trees M) (n + 1) 0 o K := by
  obtain ⟨⟨h1, h2, h3, h4, h5, h6, h7, h8, h9, h10⟩, hr, hc, ho, hd⟩ := h
  have e : (M 1).toNatClampNeg + 1 = n + 1 := by rw [h1, nI_clamp (by omega)]
  have far : ∀ y, y ≠ 1 → ¬ (13 + 3 * n ≤ y ∧ y < 16 + 3 * n) → ¬ (50 + 4 * n ≤ y ∧ y < 54 + 4 * n) → addM len trees M y = M y := by
    intro y y1 y2 y3
    unfold addM
    rw [e]
    rw [pk_un (by omega), pk_un (by omega), pk_un (by omega), pk_un (by omega), pk_un (by omega), pk_un (by omega), pk_un (by omega), pk_un (by omega)]
  have e1 : addM len trees M 1 = nI (n + 1) := by
    unfold addM
    rw [e]
    rw [pk_un (by omega), pk_un (by omega), pk_un (by omega), pk_un (by omega), pk_un (by omega), pk_un (by omega), pk_un (by omega), pk_us]
  have r0 : addM len trees M (10 + 3 * (n + 1)) = len := by
    unfold addM
    rw [e]
    rw [pk_un (by omega), pk_un (by omega)]
    exact pk_us
  have r1 : addM len trees M (11 + 3 * (n + 1)) = 0 := by
    unfold addM
    rw [e]
    rw [pk_un (by omega), show 11 + 3 * (n + 1) = 10 + 3 * (n + 1) + 1 by omega]
    exact pk_us
  have r2 : addM len trees M (12 + 3 * (n + 1)) = 0 := by
    unfold addM
    rw [e]
    rw [show 12 + 3 * (n + 1) = 10 + 3 * (n + 1) + 2 by omega]
    exact pk_us
  refine ⟨⟨e1, by omega, ?_, h4, ?_, ?_, ?_, ?_, ?_, ?_⟩, ?_, fun i hi => by omega, ?_, ?_⟩
  · rw [far _ (by omega) (by omega) (by omega)]; exact h3
  · rw [far _ (by omega) (by omega) (by omega)]; exact h5
  · exact h6
  · rw [far _ (by omega) (by omega) (by omega)]; exact h7
  · rw [far _ (by omega) (by omega) (by omega)]; exact h8
  · rw [far _ (by omega) (by omega) (by omega)]; exact h9
  · rw [far _ (by omega) (by omega) (by omega)]; exact h10
  · intro r hr2
    unfold RcO
    by_cases q : r = n + 1
    · subst q
      rw [r0, r1, r2]
      exact ⟨hl.1, hl.2, by decide, by decide, by decide, by decide⟩
    · rw [far _ (by omega) (by omega) (by omega), far _ (by omega) (by omega) (by omega), far _ (by omega) (by omega) (by omega)]
      exact hr r (by omega)
  · exact DO_mono (DO_cong ho (far _ (by omega) (by omega) (by omega)) (fun y _ _ => far _ (by omega) (by omega) (by omega))) (by omega)
  · intro i p q1 q2 q3
    rw [far _ (by omega) (by omega) (by omega)]
    exact hd i p (by omega) q2 q3
set_option maxHeartbeats 4000000 in
theorem RT_camp (hR : RT cm0 cm M T n 0 0 K) (hn : n < 11) {len trees : Int32} (hl : 1 ≤ len.toInt ∧ len.toInt ≤ 20) {C R : Nat} (hC : C = 596 + 23 + 2 * (n + 1)) (hR2 : R = 596 + 24 + 2 * (n + 1)) : RT cm0 (uI (uI (uI (uI (uL (uL (uI (uI (uI (uI (uI cm 596 5 (nI (n + 1))) C 0 trees) C 1 0) C 2 0) C 3 0) C 4 0) C 5 0) R 3 0) R 0 len) R 1 0) R 2 0) (addM len trees M) T (n + 1) 0 0 K := by
  obtain ⟨g5, g6, m1, m2, _, _⟩ := RT_head hR
  have e : (M 1).toNatClampNeg + 1 = n + 1 := by rw [m1, nI_clamp (by omega)]
  obtain ⟨h1, h2, h3, ⟨h4, h5, h6, h7⟩, h8, h9⟩ := hR
  have hD := DD_im (n := n) (c := 0) (o := 0) (by omega) (by omega) (by omega)
  refine ⟨fun b i hb => ?_, fun b i hb => ?_, h3, ⟨?_, fun r hr => ?_, fun i hi => by omega, ?_⟩, Dom_camp h8 hn hl, by omega⟩
  · rw [gI_c (by omega), gI_c (by omega), gI_c (by omega), gI_c (by omega), gI_uL, gI_uL, gI_c (by omega), gI_c (by omega), gI_c (by omega), gI_c (by omega), gI_c (by omega)]
    exact h1 b i hb
  · simp only [gL_uI]
    rw [gL_c (by omega), gL_c (by omega)]
    exact h2 b i hb
  · have t0 := RFI_set (x := 1) h4 hD (by decide) (nI (n + 1))
    have i0 : im (46 + 4 * (n + 1) + 0) = true := decide_eq_true (by omega)
    have i1 : im (46 + 4 * (n + 1) + 1) = true := decide_eq_true (by omega)
    have i2 : im (46 + 4 * (n + 1) + 2) = true := decide_eq_true (by omega)
    have i3 : im (46 + 4 * (n + 1) + 3) = true := decide_eq_true (by omega)
    have i4 : im (10 + 3 * (n + 1) + 0) = true := decide_eq_true (by omega)
    have i5 : im (10 + 3 * (n + 1) + 1) = true := decide_eq_true (by omega)
    have i6 : im (10 + 3 * (n + 1) + 2) = true := decide_eq_true (by omega)
    have hD1 : ∀ x, (DD n 0 0 x ∨ x = 46 + 4 * (n + 1) + 0) → im x = true := fun x hx => hx.elim (hD x) (fun z => by rw [z]; exact i0)
    have hD2 : ∀ x, ((DD n 0 0 x ∨ x = 46 + 4 * (n + 1) + 0) ∨ x = 46 + 4 * (n + 1) + 1) → im x = true := fun x hx => hx.elim (hD1 x) (fun z => by rw [z]; exact i1)
    have hD3 : ∀ x, (((DD n 0 0 x ∨ x = 46 + 4 * (n + 1) + 0) ∨ x = 46 + 4 * (n + 1) + 1) ∨ x = 46 + 4 * (n + 1) + 2) → im x = true := fun x hx => hx.elim (hD2 x) (fun z => by rw [z]; exact i2)
    have hD4 : ∀ x, ((((DD n 0 0 x ∨ x = 46 + 4 * (n + 1) + 0) ∨ x = 46 + 4 * (n + 1) + 1) ∨ x = 46 + 4 * (n + 1) + 2) ∨ x = 46 + 4 * (n + 1) + 3) → im x = true := fun x hx => hx.elim (hD3 x) (fun z => by rw [z]; exact i3)
    have hD5 : ∀ x, (((((DD n 0 0 x ∨ x = 46 + 4 * (n + 1) + 0) ∨ x = 46 + 4 * (n + 1) + 1) ∨ x = 46 + 4 * (n + 1) + 2) ∨ x = 46 + 4 * (n + 1) + 3) ∨ x = 10 + 3 * (n + 1) + 0) → im x = true := fun x hx => hx.elim (hD4 x) (fun z => by rw [z]; exact i4)
    have hD6 : ∀ x, ((((((DD n 0 0 x ∨ x = 46 + 4 * (n + 1) + 0) ∨ x = 46 + 4 * (n + 1) + 1) ∨ x = 46 + 4 * (n + 1) + 2) ∨ x = 46 + 4 * (n + 1) + 3) ∨ x = 10 + 3 * (n + 1) + 0) ∨ x = 10 + 3 * (n + 1) + 1) → im x = true := fun x hx => hx.elim (hD5 x) (fun z => by rw [z]; exact i5)
    have t1 := RX_k t0 hD (i := n + 1) (w := 0) (by omega) (by omega) trees
    rw [← hC] at t1
    have t2 := RX_k t1 hD1 (i := n + 1) (w := 1) (by omega) (by omega) 0
    rw [← hC] at t2
    have t3 := RX_k t2 hD2 (i := n + 1) (w := 2) (by omega) (by omega) 0
    rw [← hC] at t3
    have t4 := RX_k t3 hD3 (i := n + 1) (w := 3) (by omega) (by omega) 0
    rw [← hC] at t4
    have t4b := RFI_uL (a := C) (j := 5) (v := 0) (RFI_uL (a := C) (j := 4) (v := 0) t4)
    have hiv : iv (R - 596) 3 = 9999 := by
      rw [show R - 596 = 24 + 2 * (n + 1) by omega]
      unfold iv
      rw [if_neg (by omega), if_neg (by omega), if_neg (by omega), if_neg (by omega), if_neg (by omega), if_neg (by omega), if_neg (by omega), if_neg (by omega), if_pos (by omega), if_neg (by omega), if_neg (by omega)]
    have t5 := RFI_un t4b hD4 (a := R) (j := 3) (v := 0) (Or.inr hiv)
    have t6 := RX_r t5 hD4 (i := n + 1) (w := 0) (by omega) (by omega) len
    rw [← hR2] at t6
    have t7 := RX_r t6 hD5 (i := n + 1) (w := 1) (by omega) (by omega) 0
    rw [← hR2] at t7
    have t8 := RX_r t7 hD6 (i := n + 1) (w := 2) (by omega) (by omega) 0
    rw [← hR2] at t8
    unfold addM
    rw [e]
    refine RFI_mono t8 (fun x hx => ?_)
    unfold DD at hx ⊢
    omega
  · by_cases q : r = n + 1
    · subst q
      rw [← hR2]
      rw [gI_f (by omega), gI_f (by omega), gI_f (by omega), gI_hit]
      rfl
    · rw [gI_f (by omega), gI_f (by omega), gI_f (by omega), gI_c (by omega), gI_uL, gI_uL, gI_c (by omega), gI_c (by omega), gI_c (by omega), gI_c (by omega), gI_f (by omega)]
      exact h5 r (by omega)
  · intro i p p1 p2 p3
    have hm : addM len trees M (810 + 60 * i + p) = M (810 + 60 * i + p) := by
      unfold addM
      rw [e]
      rw [pk_un (by omega), pk_un (by omega), pk_un (by omega), pk_un (by omega), pk_un (by omega), pk_un (by omega), pk_un (by omega), pk_un (by omega)]
    rw [hm]
    simp only [gL_uI]
    by_cases q : i = n + 1
    · subst q
      rw [← hC]
      rw [gL_hit, gL_f (by omega), gL_hit, bit64_0, h8.2.2.2.2 _ p (by omega) (by omega) p3]
      exact ⟨by simp, fun _ => rfl⟩
    · rw [gL_c (by omega), gL_c (by omega), gL_c (by omega), gL_c (by omega)]
      simp only [gL_uI]
      have := h7 i p p1 (by omega) p3
      refine ⟨?_, this.2⟩
      rw [this.1]
      simp
theorem k_addCamp (hR : RT cm0 cm M T n 0 0 K) (hn : n < 11) {s : PT} {len trees : Int32} (hl : 1 ≤ len.toInt ∧ len.toInt ≤ 20)
    (hp : ∀ cm', RT cm0 cm' (addM len trees M) T (n + 1) 0 0 K → post (putT cm' s)) : w_X4_addCamp post 596 len trees (putT cm s) := by
  obtain ⟨g5, g6, m1, m2, _, _⟩ := RT_head hR
  have e : (M 1).toNatClampNeg + 1 = n + 1 := by rw [m1, nI_clamp (by omega)]
  unfold w_X4_addCamp w_X1_begin w_X4_setReach B_X4_addCamp_56 B_X4_setReach_40
  rw [gI_putT (by omega), g5, nI_1, fa_lit 11]
  refine ⟨fun q => absurd q (nI_ge (by omega) (by omega)), fun _ => ?_⟩
  have a5 : ∀ c2 : CMu, gI (uI c2 596 5 (nI (n + 1))) 596 5 = nI (n + 1) := fun c2 => gI_hit
  rw [a5, nI_clamp (by omega)]
  have b5 : gI (uL (uL (uI (uI (uI (uI (uI (putT cm s) 596 5 (nI (n + 1))) (596 + 23 + 2 * (n + 1)) 0 trees) (596 + 23 + 2 * (n + 1)) 1 0) (596 + 23 + 2 * (n + 1)) 2 0) (596 + 23 + 2 * (n + 1)) 3 0) (596 + 23 + 2 * (n + 1)) 4 0) (596 + 23 + 2 * (n + 1)) 5 0) 596 5 = nI (n + 1) := by
    rw [gI_uL, gI_uL, gI_f (by omega), gI_f (by omega), gI_f (by omega), gI_f (by omega), gI_hit]
  have c5 : gI (uI (uL (uL (uI (uI (uI (uI (uI (putT cm s) 596 5 (nI (n + 1))) (596 + 23 + 2 * (n + 1)) 0 trees) (596 + 23 + 2 * (n + 1)) 1 0) (596 + 23 + 2 * (n + 1)) 2 0) (596 + 23 + 2 * (n + 1)) 3 0) (596 + 23 + 2 * (n + 1)) 4 0) (596 + 23 + 2 * (n + 1)) 5 0) (596 + 24 + 2 * (n + 1)) 3 0) 596 5 = nI (n + 1) := by
    rw [gI_f (by omega), b5]
  refine ⟨vp_in_nI (by omega) (by omega), ?_⟩
  have hcl : Int32.toNatClampNeg (nI (n + 1)) = n + 1 := nI_clamp (by omega)
  simp only [b5, hcl, c5]
  have h596 : (596 : Nat) ≠ 4 := by omega
  have hCn : 596 + 23 + 2 * (n + 1) ≠ 4 := by omega
  have hRn : 596 + 24 + 2 * (n + 1) ≠ 4 := by omega
  have fin := hp _ (RT_camp hR hn hl rfl rfl)
  refine ⟨vp_in_nI (by omega) (by omega), ?_⟩
  refine ⟨fun q => ?_, fun _ => ?_⟩
  · exact absurd q (nI_pos (by omega))
  refine ⟨fun q => absurd q ?_, fun _ => ?_⟩
  · rw [fa_lit 12]
    exact nI_ge (by omega) (by omega)
  refine ⟨vp_in_nI (by omega) (by omega), ?_⟩
  rw [uI_putT h596, uI_putT hCn, uI_putT hCn, uI_putT hCn, uI_putT hCn, uL_putT, uL_putT, uI_putT hRn, uI_putT hRn, uI_putT hRn, uI_putT hRn]
  exact fin
end CC
