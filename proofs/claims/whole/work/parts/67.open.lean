/-! ===== a text opened ===== -/
theorem pLine_94 {k : TK} {s : PM} (h : HdM s.2) : HdM (pLine k s).2 ∧ ∀ x, (x = 0 ∨ 94 ≤ x) → (pLine k s).2 x = s.2 x := by
  obtain ⟨n, c, h1, h2, h3, h4⟩ := h
  unfold pLine
  have keep : ∀ {x : Nat} {v : Int32} {M : MR}, HdM M → 3 ≤ x → HdM (upd M x v) := by
    intro x v M ⟨n, c, a1, a2, a3, a4⟩ hx
    exact ⟨n, c, by rw [pk_un (by omega), a1], a2, by rw [pk_un (by omega), a3], a4⟩
  by_cases q : (¬ 11 ≤ s.2 1 ∧ s.2 2 = 0) ∧ pIs k 1 s.1 = true
  · rw [if_pos q]
    have hn : n < 11 := by
      have := q.1.1
      rw [h1, fa_lit 11, nI_leI (by omega) (by omega)] at this
      omega
    unfold lnCamp
    simp only []
    split
    · show HdM (addM _ _ s.2) ∧ _
      unfold addM
      simp only []
      rw [h1, nI_clamp (by omega)]
      refine ⟨⟨n + 1, c, ?_, by omega, ?_, h4⟩, fun x hx => ?_⟩
      · rw [pk_un (by omega), pk_un (by omega), pk_un (by omega), pk_un (by omega), pk_un (by omega), pk_un (by omega), pk_un (by omega)]
        exact if_pos rfl
      · rw [pk_un (by omega), pk_un (by omega), pk_un (by omega), pk_un (by omega), pk_un (by omega), pk_un (by omega), pk_un (by omega), pk_un (by omega)]
        exact h3
      · have hc1 : ((pmNx s).2 1).toNatClampNeg = n := by rw [show (pmNx s).2 1 = nI n from h1]; exact nI_clamp (by omega)
        rw [pk_un (by omega), pk_un (by omega), pk_un (by omega), pk_un (by omega), pk_un (by omega), pk_un (by omega), pk_un (by omega), pk_un (by omega)]
        rfl
    · exact ⟨⟨n, c, h1, h2, h3, h4⟩, fun _ _ => rfl⟩
  rw [if_neg q]
  have hd : HdM s.2 := ⟨n, c, h1, h2, h3, h4⟩
  by_cases q2 : pIs k 2 s.1 = true
  · rw [if_pos q2]
    unfold lnReach
    simp only []
    have hr := pNum_in (k := k) (lo := 0) (hi := s.2 1) (s := pNx s.1) (by rw [h1]; exact nI_pos' (by omega))
    have hr2 : (pNum k 0 (s.2 1) (pNx s.1)).1.toNatClampNeg ≤ 11 := by
      rw [h1] at hr ⊢
      obtain ⟨j, hj, ej⟩ := nI_of2 (x := (pNum k 0 (nI n) (pNx s.1)).1) (M := nI n) (nI_toInt (by omega)) (by
        have := hr.1
        rw [fa_le] at this
        rw [fa_lt]
        omega) hr.2
      rw [ej, nI_clamp (by omega)]
      omega
    show HdM (if _ then _ else s.2) ∧ _
    split
    · refine ⟨keep (keep (keep hd (by omega)) (by omega)) (by omega), fun x hx => ?_⟩
      show upd (upd (upd s.2 (10 + 3 * (pNum k 0 (s.2 1) (pNx s.1)).1.toNatClampNeg + 0) _) (10 + 3 * (pNum k 0 (s.2 1) (pNx s.1)).1.toNatClampNeg + 1) _) (10 + 3 * (pNum k 0 (s.2 1) (pNx s.1)).1.toNatClampNeg + 2) _ x = _
      rw [pk_un (by omega), pk_un (by omega), pk_un (by omega)]
    · exact ⟨hd, fun _ _ => rfl⟩
  rw [if_neg q2]
  by_cases q3 : pIs k 22 s.1 = true
  · rw [if_pos q3]
    exact ⟨keep hd (by omega), fun x hx => pk_un (by omega)⟩
  rw [if_neg q3]
  by_cases q4 : pIs k 15 s.1 = true
  · rw [if_pos q4]
    exact ⟨keep (keep hd (by omega)) (by omega), fun x hx => (pk_un (by omega)).trans (pk_un (by omega))⟩
  rw [if_neg q4]
  by_cases q5 : pIs k 5 s.1 = true
  · rw [if_pos q5]
    exact ⟨keep hd (by omega), fun x hx => pk_un (by omega)⟩
  rw [if_neg q5]
  exact ⟨hd, fun _ _ => rfl⟩
theorem pLines_94 {k : TK} : ∀ (f : Nat) (s : PM), HdM s.2 → HdM (pLines k f s).2 ∧ ∀ x, (x = 0 ∨ 94 ≤ x) → (pLines k f s).2 x = s.2 x := by
  intro f
  induction f with
  | zero => intro s h; exact ⟨h, fun _ _ => rfl⟩
  | succ f ih =>
    intro s h
    unfold pLines
    split
    · have a := pLine_94 (k := k) (s := pmNx s) h
      have b := ih _ a.1
      exact ⟨b.1, fun x hx => (b.2 x hx).trans (a.2 x hx)⟩
    · exact ⟨h, fun _ _ => rfl⟩
theorem pForest_94 {k : TK} {s : PM} (h : HdM s.2) : ∀ x, (x = 0 ∨ 94 ≤ x) → (pForest k s).2 x = s.2 x := by
  intro x hx
  unfold pForest
  split
  · have a := pLine_94 (k := k) (s := s) h
    have b := pLines_94 (k := k) 13 _ a.1
    exact (b.2 x hx).trans (a.2 x hx)
  · rfl
theorem tkF_ne {b : Nat → Int32} {len : Nat} : ∀ f p, ∀ x ∈ tkF b len f p, x.2.1 ≠ 0 := by
  intro f
  induction f with
  | zero => intro p x hx; unfold tkF at hx; exact absurd hx (by simp)
  | succ f ih =>
    intro p x hx
    unfold tkF at hx
    by_cases c : p < len
    · rw [if_pos c] at hx
      have e1 : (tok1 b p (bhd b len p)).2.1 ≠ 0 := by
        unfold tok1
        split
        · split
          · show (30 : Fin 32) ≠ 0
            decide
          · show (31 : Fin 32) ≠ 0
            decide
        · exact wOf_ne 31 0 rfl
      by_cases c2 : b p = 32
      · rw [if_pos c2] at hx
        exact ih _ x hx
      · rw [if_neg c2] at hx
        rcases List.mem_cons.mp hx with h | h
        · rw [h]; exact e1
        · exact ih _ x h
    · rw [if_neg c] at hx
      exact absurd hx (by simp)
def opC (cm : CMu) (len : Nat) : CMu := putK (uI (uI (uI (uI cm 2 1 0) 4 5 (nI len)) 4 4 0) 4 7 (-1)) (tks (gI cm 3) len 0)
def opK (cm : CMu) (len : Nat) : TK := ((opC cm len).2.2 5, (opC cm len).1 6, (opC cm len).1 7, (tks (gI cm 3) len 0).length, nI len)
section OP
variable {cm : CMu} {len : Nat}
theorem op_len (hl : len ≤ 400) : (tks (gI cm 3) len 0).length ≤ 400 := by
  have := tkF_len (b := gI cm 3) (len := len) (len - 0) 0
  unfold tks
  omega
theorem op_at {t : Nat} {x : Nat × Fin 32 × Int32} (h : (tks (gI cm 3) len 0)[t]? = some x) : tW (opK cm len) t = x.2.1 ∧ tB (opK cm len) t = nI x.1 ∧ tV (opK cm len) t = x.2.2 := by
  refine ⟨?_, ?_, ?_⟩
  · have e : tW (opK cm len) t = (((tks (gI cm 3) len 0)[t]?).map (fun z => z.2.1)).getD (cm.2.2 5 t) := rfl
    rw [e, h]
    rfl
  · have e : tB (opK cm len) t = (((tks (gI cm 3) len 0)[t]?).map (fun z => nI z.1)).getD ((uI (uI (uI (uI cm 2 1 0) 4 5 (nI len)) 4 4 0) 4 7 (-1)).1 6 t) := by
      show (if 6 = 4 ∧ t = 3 then nI (tks (gI cm 3) len 0).length else _) = _
      rw [if_neg (by omega)]
      rfl
    rw [e, h]
    rfl
  · have e : tV (opK cm len) t = (((tks (gI cm 3) len 0)[t]?).map (fun z => z.2.2)).getD ((uI (uI (uI (uI cm 2 1 0) 4 5 (nI len)) 4 4 0) 4 7 (-1)).1 7 t) := by
      show (if 7 = 4 ∧ t = 3 then nI (tks (gI cm 3) len 0).length else _) = _
      rw [if_neg (by omega)]
      rfl
    rw [e, h]
    rfl
theorem op_TKL : TKL (opK cm len) (tks (gI cm 3) len 0) len := ⟨rfl, rfl, fun _ _ h => op_at h⟩
theorem op_o {b j : Nat} (h2 : ¬ (b = 2 ∧ j = 1)) (h4 : b ≠ 4) (h6 : b ≠ 6) (h7 : b ≠ 7) : gI (opC cm len) b j = gI cm b j := by
  show (if b = 4 ∧ j = 3 then _ else if b = 6 then _ else if b = 7 then _ else (uI (uI (uI (uI cm 2 1 0) 4 5 (nI len)) 4 4 0) 4 7 (-1)).1 b j) = _
  rw [if_neg (by omega), if_neg h6, if_neg h7]
  show gI (uI (uI (uI (uI cm 2 1 0) 4 5 (nI len)) 4 4 0) 4 7 (-1)) b j = _
  rw [gI_c h4, gI_c h4, gI_c h4]
  exact up2_miss h2
theorem op_4 {j : Nat} (h3 : j ≠ 3) : gI (opC cm len) 4 j = gI (uI (uI (uI (uI cm 2 1 0) 4 5 (nI len)) 4 4 0) 4 7 (-1)) 4 j := by
  show (if 4 = 4 ∧ j = 3 then _ else if 4 = 6 then _ else if 4 = 7 then _ else (uI (uI (uI (uI cm 2 1 0) 4 5 (nI len)) 4 4 0) 4 7 (-1)).1 4 j) = _
  rw [if_neg (by omega), if_neg (by omega), if_neg (by omega)]
  rfl
theorem op_21 : gI (opC cm len) 2 1 = 0 := rfl
theorem op_44 : gI (opC cm len) 4 4 = 0 := by
  rw [op_4 (by omega), gI_f (by omega), gI_hit]
theorem op_47 : gI (opC cm len) 4 7 = -1 := by
  rw [op_4 (by omega), gI_hit]
theorem op_L {b j : Nat} : gL (opC cm len) b j = gL cm b j := rfl
theorem op_W {b j : Nat} (h : b ≠ 5) : gW (opC cm len) b j = gW cm b j := if_neg h
theorem op_TOK (hl : len ≤ 400) : TOK (opC cm len) (opK cm len) := by
  refine ⟨rfl, rfl, rfl, rfl, ?_, op_len hl, fun t ht => ?_⟩
  · show gI (opC cm len) 4 5 = nI len
    rw [op_4 (by omega), gI_f (by omega), gI_f (by omega), gI_hit]
  · have h0 : (tks (gI cm 3) len 0)[t]? = some (tks (gI cm 3) len 0)[t] := List.getElem?_eq_getElem ht
    rw [(op_at h0).1]
    exact tkF_ne (len - 0) 0 _ (List.getElem_mem ht)
theorem c_op (hl : len ≤ 400) {post : CMu → Prop} (h : post (opC cm len)) : w_X10_open post (nI len) (uI cm 2 1 0) := by
  refine c_open hl ?_
  have e3 : gI (uI cm 2 1 0) 3 = gI cm 3 := by
    funext t
    exact gI_c (by omega)
  have et : tkF (gI cm 3) len 400 0 = tks (gI cm 3) len 0 := tkF_fuel 400 0 400 (by omega) (by omega)
  rw [e3, et]
  exact h
end OP
theorem putT_id {cm : CMu} {s : PT} (h4 : gI cm 4 4 = nI s.1) (h7 : gI cm 4 7 = s.2.1) (h6 : gI cm 4 6 = s.2.2) : putT cm s = cm := by
  refine Prod.ext ?_ rfl
  funext b j
  show (if b = 4 ∧ j = 4 then nI s.1 else if b = 4 ∧ j = 7 then s.2.1 else if b = 4 ∧ j = 6 then s.2.2 else cm.1 b j) = _
  split
  · rename_i h
    rw [h.1, h.2]
    exact h4.symm
  · split
    · rename_i h
      rw [h.1, h.2]
      exact h7.symm
    · split
      · rename_i h
        rw [h.1, h.2]
        exact h6.symm
      · rfl
theorem SI_pre {q : Nat} {cm cm' : CMu} {mm mm' : MM} (h : SI q cm mm) (hI : ∀ b j, 11 ≤ b → b < 596 → gI cm' b j = gI cm b j) (h17 : gI cm' 1 7 = gI cm 1 7) (hL : ∀ b j, 11 ≤ b → b < 596 → gL cm' b j = gL cm b j) (hW : ∀ b j, 11 ≤ b → b < 596 → gW cm' b j = gW cm b j) (e1 : mm' 1 = mm 1) (e2 : mm' 2 = mm 2) (e3 : mm' 0 3 = mm 0 3) (tp : TP cm' mm') (ft : gI cm' 4 7 = mm' 0 10) : SI (q + 1) cm' mm' := by
  obtain ⟨n, c, o, T, g1, g2, g3, _, _, b, k1, k2, k3⟩ := h
  obtain ⟨o1, o2, o3⟩ := mid_o g2
  refine ⟨n, c, o, T, ?_, ?_, fun i hi ht => WRo_fr2 (g3 i hi ht) (fun b j h1 _ => hI b j (by omega) (by omega)) (fun b j h1 _ => hW b j (by omega) (by omega)), tp, ft, b, by rw [h17]; exact k1, by rw [e3]; exact k2, fun z => ?_⟩
  · rw [e1]
    exact Fo_fr g1 o1 o2 o3 (fun b j h1 _ => hI b j (by omega) (by omega)) (fun b j h1 _ => hL b j (by omega) (by omega))
  · rw [e1]
    exact Mid_K g2 (by omega)
  · obtain ⟨nk, ck, ok, Tk, a1, a2, a3, a4⟩ := k3 z
    obtain ⟨p1, p2, p3⟩ := mid_o a2
    refine ⟨nk, ck, ok, Tk, ?_, ?_, a3, a4⟩
    · rw [e2]
      exact Fo_fr a1 p1 p2 p3 (fun b j h1 _ => hI b j (by omega) (by omega)) (fun b j h1 _ => hL b j (by omega) (by omega))
    · rw [e2]
      exact Mid_K a2 (by omega)
theorem TP_0 {cm : CMu} {mm : MM} (h1 : gI cm 2 1 = 0) (h2 : mm 0 6 = 0) : TP cm mm := ⟨0, h1, h2, by omega, fun i hi => absurd hi (by omega)⟩
