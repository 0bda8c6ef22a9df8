/-! ===== forest ===== -/
theorem Fo_putT {cm : CMu} {s : PT} {f : Nat} {M : MR} {T : Nat → Pg} {n c o : Nat} (hF : Fo cm f M T n c o) (hf : 5 ≤ f) (hn : n ≤ 11) (hc : c ≤ 60) (ho : o ≤ 60) : Fo (putT cm s) f M T n c o :=
  Fo_fr hF hn hc ho (fun b j h1 _ => putT_o (by omega)) (fun b j h1 _ => rfl)
theorem Fo_x0 {cm : CMu} {f : Nat} {M : MR} {T : Nat → Pg} {n c o : Nat} (hF : Fo cm f M T n c o) (hn : n ≤ 11) (hc : c ≤ 60) (ho : o ≤ 60) (v : Int32) : Fo (uI cm f 8 v) f (upd M 0 v) T n c o := by
  obtain ⟨g1, g2, g3, g4⟩ := hF
  refine ⟨RS_h g1 (DD_im hn hc ho) 0 (by omega) (a := 0) (j := 8) rfl v, fun r hr => ?_, fun i hi => ?_, ?_⟩
  · rw [gI_c (by omega), g2 r hr]
    congr 1
    exact (inR_cong (fun i hi => ⟨pk_un (by omega), pk_un (by omega)⟩)).symm
  · rw [gI_c (by omega)]
    exact g3 i hi
  · exact Bts_cong (cm := cm) (f := f) g4 (fun p hp => pk_un (by omega)) (fun x _ _ => pk_un (by omega)) hn
theorem mid_Dom {M : MR} {T : Nat → Pg} {n c o K : Nat} (h : Mid M T n c o K (fun _ => True)) : Dom M n c o K :=
  ⟨h.1, h.2.1, fun i hi => (h.2.2.1 i hi).2 trivial, h.2.2.2.1, h.2.2.2.2.1⟩
theorem Dom_mid {M M' : MR} {T : Nat → Pg} {n n' c o K : Nat} (h : Mid M T n c o K (fun _ => True)) (hD : Dom M' n' c o K) (e : ∀ x, 94 ≤ x → M' x = M x) : Mid M' T n' c o K (fun _ => True) :=
  ⟨hD.1, hD.2.1, fun i hi => ⟨ChO_G (hD.2.2.1 i hi), fun _ => hD.2.2.1 i hi⟩, hD.2.2.2.1, hD.2.2.2.2, fun j hj => ⟨TxO_cong (h.2.2.2.2.2.1 j hj).1 (e _ (by omega)) (fun x hx => e x (by omega)), (h.2.2.2.2.2.1 j hj).2⟩, h.2.2.2.2.2.2⟩
theorem mid_x0 {M : MR} {T : Nat → Pg} {n c o K t : Nat} (h : Mid M T n c o K (fun _ => True)) (ht : t ≤ 10) : Mid (upd M 0 (nI t)) T n c o K (fun _ => True) := by
  have hn : n ≤ 11 := h.1.2.1
  have hc : c ≤ 60 := h.1.2.2.2.1
  refine Mid_of h ?_ (fun y _ _ => pk_un (by omega)) (fun j hj => ?_) (pk_un (by omega)) (fun y _ _ => pk_un (by omega)) (DV_cong h.2.2.2.2.1 (fun y _ _ => pk_un (by omega))) (fun j hj => Or.inl ⟨hj, pk_un (by omega)⟩) (fun y _ => pk_un (by omega)) (Nat.le_refl _)
  · obtain ⟨y1, y2, y3, y4, y5, y6, y7, y8, y9, y10⟩ := h.1
    refine ⟨by rw [pk_un (by omega)]; exact y1, y2, by rw [pk_un (by omega)]; exact y3, y4, by rw [pk_un (by omega)]; exact y5, ?_, ⟨t, if_pos rfl, ht⟩, by rw [pk_un (by omega)]; exact y8, by rw [pk_un (by omega)]; exact y9, by rw [pk_un (by omega)]; exact y10⟩
    rw [y6]
    refine cntP_cong (fun j _ => ?_)
    unfold isOut
    rw [pk_un (by omega)]
  · have ej : ∀ w, w < 8 → upd M 0 (nI t) (330 + 8 * j + w) = M (330 + 8 * j + w) := fun w _ => pk_un (by omega)
    exact ⟨ChG_cong (h.2.2.1 j hj).1 ej, fun z => ChO_cong ((h.2.2.1 j hj).2 z) ej⟩
section SFO
variable {q : Nat} {cm : CMu} {mm : MM} {oo : Nat → Int64} {kk : KKt} {v : Int32}
theorem s_forest (h : SI q cm mm) (hk : ∀ cm' mm' oo', SI (q + 1) cm' mm' → kk v cm' mm' oo') {post : Int32 → CMu × (Nat → Int64) → Prop} (hpost : ∀ r u, w_X13_forest (EX kk v r u) mm → post r u) : w_L_forest post cm oo := by
  obtain ⟨n, c, o, T, g1, g2, g3, ⟨len, t1, t2, t3, t4⟩, g5, b, k1, k2, k3⟩ := id h
  obtain ⟨o1, o2, o3⟩ := mid_o g2
  have hH := Fo_h g1
  have hd : HdM (mm 1) := ⟨n, c, g2.1.1, o1, g2.1.2.2.1, o2⟩
  have hTr : TKL (opK cm len) (tks (mm 4) len 0) len := by
    rw [← tks_cong (b := mm 4) (b' := gI cm 3) (fun j hj => t4 j hj)]
    exact op_TKL
  unfold w_L_forest w_X12_forest w_X9_useUp
  rw [t1]
  refine c_op t3 ?_
  have e5 : gI (opC cm len) 382 5 = nI n := by rw [op_o (by omega) (by omega) (by omega) (by omega), hH.2.1, g2.1.1]
  have e6 : gI (opC cm len) 382 6 = nI c := by rw [op_o (by omega) (by omega) (by omega) (by omega), hH.2.2.1, g2.1.2.2.1]
  refine c_copy (d := 596) (s := 382) (Or.inl (by omega)) o1 o2 e5 e6 (fun u6 hC => ?_)
  have F0 : Fo (opC cm len) 382 (mm 1) T n c o := Fo_fr g1 o1 o2 o3 (fun b j h1 h2 => op_o (by omega) (by omega) (by omega) (by omega)) (fun b j h1 h2 => rfl)
  have F6 : Fo u6 596 (mm 1) T n c o := Fo_copy F0 o1 o2 (mid_oc g2) hC
  have T6 : TOK u6 (opK cm len) := TOK_o (N := 0) (op_TOK t3) (fun a j ha => hC.1 a j (Or.inl (by omega))) (fun a j ha => by
    have := gW_eq hC.2.2.1 a j
    exact this)
  have hR : RT u6 u6 (mm 1) T n c o (2000 * q) := ⟨fun _ _ _ => rfl, fun _ _ _ => rfl, rfl, F6, mid_Dom g2, o3⟩
  have hid : putT u6 (0, -1, gI u6 4 6) = u6 := putT_id (by rw [hC.1 4 4 (Or.inl (by omega)), op_44]; rfl) (by rw [hC.1 4 7 (Or.inl (by omega)), op_47]) rfl
  rw [← hid]
  refine k_forest T6 hR (Nat.zero_le _) ?_
  intro cm' n' hR' hs'
  have h94 := pForest_94 (k := opK cm len) (s := ((0, -1, gI u6 4 6), mm 1)) hd
  generalize hE : pForest (opK cm len) ((0, -1, gI u6 4 6), mm 1) = E at hR' hs' h94
  have hB : ∀ b j, b < 596 → ¬ (b = 2 ∧ j = 1) → b ≠ 4 → b ≠ 6 → b ≠ 7 → gI (putT cm' E.1) b j = gI cm b j := by
    intro b j h1 h2 h4 h6 h7
    rw [putT_o (by omega), hR'.1 b j h1, hC.1 b j (Or.inl h1), op_o h2 h4 h6 h7]
  have hBL : ∀ b j, b < 596 → gL (putT cm' E.1) b j = gL cm b j := by
    intro b j h1
    show gL cm' b j = _
    rw [hR'.2.1 b j h1, hC.2.1 b j (Or.inl h1)]
    rfl
  have hBW : ∀ b j, b ≠ 5 → gW (putT cm' E.1) b j = gW cm b j := by
    intro b j h5
    show gW cm' b j = _
    rw [gW_eq hR'.2.2.1, gW_eq hC.2.2.1, op_W h5]
  have h21 : gI (putT cm' E.1) 2 1 = 0 := by
    rw [putT_o (by omega), hR'.1 2 1 (by omega), hC.1 2 1 (Or.inl (by omega)), op_21]
  have stay : ∀ mm' : MM, mm' 2 = mm 2 → mm' 0 3 = mm 0 3 → mm' 0 6 = 0 → mm' 0 10 = E.1.2.1 → mm' 1 = mm 1 → SI (q + 1) (putT cm' E.1) mm' := by
    intro mm' a2 a3 a6 a10 a1
    exact SI_pre h (fun b j h1 h2 => hB b j h2 (by omega) (by omega) (by omega) (by omega)) (hB 1 7 (by omega) (by omega) (by omega) (by omega) (by omega)) (fun b j h1 h2 => hBL b j h2) (fun b j h1 h2 => hBW b j (by omega)) a1 a2 a3 (TP_0 h21 a6) (by rw [a10]; rfl)
  obtain ⟨t, ht, ht10⟩ := g2.1.2.2.2.2.2.2.1
  refine k_wrong (fun hf => ⟨fun _ => ?_, fun z => absurd rfl z⟩) (fun hf => ⟨fun z => absurd z (by decide), fun _ => Or.inl ⟨rfl, hpost _ _ ?_⟩⟩)
  · have e8 : gI (putT cm' E.1) 382 8 = nI t := by
      rw [hB 382 8 (by omega) (by omega) (by omega) (by omega) (by omega), hH.1, ht]
    rw [e8, fa_lit 10, nI_ltI (by omega) (by omega)]
    refine ⟨fun z => ?_, fun z => Or.inr ⟨rfl, hpost _ _ ?_⟩⟩
    · have hM' : Mid E.2 T n' c o (2000 * q) (fun _ => True) := Dom_mid g2 hR'.2.2.2.2.1 (fun x hx => h94 x (Or.inr hx))
      obtain ⟨p1, p2, p3⟩ := mid_o hM'
      have FP : Fo (putT cm' E.1) 596 E.2 T n' c o := Fo_putT hR'.2.2.2.1 (by omega) p1 p2 p3
      have e0 : gI (putT cm' E.1) 596 8 + 1 = nI (t + 1) := by
        rw [(Fo_h FP).1, h94 0 (Or.inl rfl)]
        show mm 1 0 + 1 = _
        rw [ht, nI_1]
      rw [e0]
      have FX : Fo (uI (putT cm' E.1) 596 8 (nI (t + 1))) 596 (upd E.2 0 (nI (t + 1))) T n' c o := Fo_x0 FP p1 p2 p3 _
      have MX : Mid (upd E.2 0 (nI (t + 1))) T n' c o (2000 * q) (fun _ => True) := mid_x0 hM' (by omega)
      have x5 : gI (uI (putT cm' E.1) 596 8 (nI (t + 1))) 596 5 = nI n' := by rw [(Fo_h FX).2.1, MX.1.1]
      have x6 : gI (uI (putT cm' E.1) 596 8 (nI (t + 1))) 596 6 = nI c := by rw [(Fo_h FX).2.2.1, MX.1.2.2.1]
      refine c_copy (d := 382) (s := 596) (Or.inr (by omega)) p1 p2 x5 x6 (fun u12 hC2 => ?_)
      have r8 : gI u12 382 8 = nI (t + 1) := by
        have := hC2.2.2.2.1 0 8 (Or.inl (Or.inl (Or.inl ⟨rfl, by omega, by omega⟩)))
        exact this.trans gI_hit
      rw [r8]
      refine hpost _ _ ?_
      refine r_forest t2 t3 hTr hd hE.symm (fun _ _ mm' a2 a4 a3 a6 a10 a0 a1 => ?_) (fun _ a => absurd (show t = 10 from ?_) (by omega)) (fun a => absurd hf a)
      · rw [ht, nI_1] at a1 ⊢
        refine EX_ok a0 (hk _ _ _ ?_)
        have hU : ∀ b j, (b < 382 ∨ 489 ≤ b) → b < 596 → ¬ (b = 2 ∧ j = 1) → b ≠ 4 → b ≠ 6 → b ≠ 7 → gI u12 b j = gI cm b j := by
          intro b j h0 h1 h2 h4 h6 h7
          rw [hC2.1 b j (by omega), gI_c (by omega), hB b j h1 h2 h4 h6 h7]
        refine ⟨n', c, o, T, ?_, ?_, fun i hi hti => WRo_fr2 (g3 i hi hti) (fun b j h1 h2 => hU b j (by omega) (by omega) (by omega) (by omega) (by omega) (by omega)) (fun b j h1 h2 => ?_), TP_0 ?_ a6, ?_, b, ?_, by rw [a3]; exact k2, fun z => ?_⟩
        · rw [a1]
          exact Fo_copy FX p1 p2 (mid_oc MX) hC2
        · rw [a1]
          exact Mid_K MX (by omega)
        · rw [gW_eq hC2.2.2.1]
          exact hBW b j (by omega)
        · rw [hC2.1 2 1 (Or.inl (by omega)), gI_c (by omega)]
          exact h21
        · rw [hC2.1 4 7 (Or.inl (by omega)), gI_c (by omega), a10]
          exact hf
        · rw [hU 1 7 (by omega) (by omega) (by omega) (by omega) (by omega) (by omega)]
          exact k1
        · obtain ⟨nk, ck, ok, Tk, b1, b2, b3, b4⟩ := k3 z
          obtain ⟨r1, r2, r3⟩ := mid_o b2
          refine ⟨nk, ck, ok, Tk, ?_, ?_, b3, b4⟩
          · rw [a2]
            exact Fo_fr b1 r1 r2 r3 (fun b j h1 h2 => hU b j (by omega) (by omega) (by omega) (by omega) (by omega) (by omega)) (fun b j h1 h2 => by rw [hC2.2.1 b j (by omega)]; exact hBL b j (by omega))
          · rw [a2]
            exact Mid_K b2 (by omega)
      · rw [ht, fa_lit 10, nI_eq (by omega) (by omega)] at a
        exact a
    · refine r_forest t2 t3 hTr hd hE.symm (fun _ a => absurd (show mm 1 0 = 10 from ?_) a) (fun _ _ mm' a2 a4 a3 a6 a10 a0 a1 => ?_) (fun a => absurd hf a)
      · rw [ht, fa_lit 10, nI_eq (by omega) (by omega)]
        omega
      · exact EX_th a0 (by decide) (hk _ _ _ (stay mm' a2 a3 a6 (by rw [a10, hf]) a1))
  · refine r_forest t2 t3 hTr hd hE.symm (fun a => absurd a hf) (fun a => absurd a hf) (fun _ mm' a2 a4 a3 a6 a10 a0 a1 => ?_)
    exact EX_th a0 (by decide) (hk _ _ _ (stay mm' a2 a3 a6 a10 a1))
end SFO
