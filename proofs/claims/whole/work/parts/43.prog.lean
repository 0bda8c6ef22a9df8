/-! ===== what a chip's text is, without the reference ===== -/
def Qok (l : SL) : Prop := l = [] ∨ ∀ ev, isBv (ev 15) → ∃ v : Bool, Good ev l (b2 v) 17
def PgO (T : Pg) : Prop := (T.1 = -1 ∨ ∃ j, T.1 = nI j ∧ j ≤ 11) ∧ T.2.length ≤ 8 ∧ (pxS T.2).length ≤ 400 ∧ ∀ x ∈ T.2, AcO x.1 x.2.1 ∧ Qok x.2.2
section GP
variable {k : TK}
theorem g_if (h400 : tN k ≤ 400) (hF : ∀ t, ¬ fV k t = -1) {t : Nat} {nu : Int32} {st : SL} {al : AL} (hst : st.length ≤ t) (ht : t ≤ tN k) {S : PA} (hS : S = pIf k (((t, -1, nu), st), al)) (hf : S.1.1.2.1 = -1) :
    S.1.1.1 ≤ tN k ∧ S.1.2.length ≤ S.1.1.1 ∧ S.2 = al ∧ ∃ l, Qok l ∧ S.1.2 = st ++ l := by
  unfold pIf at hS
  by_cases q : pIs k 13 (t, -1, nu) = true
  · simp only [q, if_true] at hS
    have hlt : t < tN k := (of_decide_eq_true q).2.1
    have en : (pNx (t, -1, nu), st) = (((t + 1, -1, nu), st) : PS) := rfl
    rw [en] at hS
    have h1 := g_que h400 hF (t + 1) nu st (by omega) (by omega)
    generalize hY : pQue k (pEx k 6) ((t + 1, -1, nu), st) = Y at hS h1
    subst hS
    obtain ⟨h2, l, hP, hg⟩ := h1 hf
    refine ⟨h2, ?_, rfl, l, Or.inr (fun ev h15 => ?_), hP.1⟩
    · have := hP.2
      simp only [] at this ⊢
      omega
    · obtain ⟨v, ⟨x, rfl⟩, g⟩ := hg ev h15
      exact ⟨x, g⟩
  · rw [if_neg q] at hS
    subst hS
    exact ⟨ht, hst, rfl, [], Or.inl rfl, by simp⟩
theorem g_act (h400 : tN k ≤ 400) (hF : ∀ t, ¬ fV k t = -1) {t : Nat} {nu : Int32} {st : SL} {al : AL} (hst : st.length ≤ t) (ht : t ≤ tN k) (hal : al.length < 8) {S : PA} (hS : S = pAct k (((t, -1, nu), st), al)) (hf : S.1.1.2.1 = -1) :
    S.1.1.1 ≤ tN k ∧ S.1.2.length ≤ S.1.1.1 ∧ ∃ x : PX1, AcO x.1 x.2.1 ∧ Qok x.2.2 ∧ S.1.2 = st ++ x.2.2 ∧ S.2 = al ++ [(x.1, x.2.1, st.length)] := by
  have fig : ∀ (w : Fin 32) (lo hi : Int32) (S2 : PA), S2 = pActN k w lo hi (pAdv (((t, -1, nu), st), al)) → pIs k w (t, -1, nu) = true → S2.1.1.2.1 = -1 → ∃ v nu2, S2 = (((t + 2, -1, nu2), st), al ++ [(w, v, st.length)]) ∧ lo.toInt ≤ v.toInt ∧ v.toInt ≤ hi.toInt ∧ t + 2 ≤ tN k := by
    intro w lo hi S2 h1 hw h2
    have eN : pActN k w lo hi (pAdv (((t, -1, nu), st), al)) = (((pNum k lo hi (t + 1, -1, nu)).2, st), al ++ [(w, (pNum k lo hi (t + 1, -1, nu)).1, st.length)]) := by
      show pAct0 w (pNum k lo hi (t + 1, -1, nu)).1 (((pNum k lo hi (t + 1, -1, nu)).2, st), al) = _
      rw [pAct0_ap hal]
    rw [eN] at h1
    by_cases q : pIsN k lo hi (t + 1, -1, nu) = true
    · have z := of_decide_eq_true q
      have en : pNum k lo hi (t + 1, -1, nu) = (tV k (t + 1), (t + 1 + 1, -1, nu)) := by
        unfold pNum
        rw [if_pos q]
        rfl
      rw [en] at h1
      have z1 : ¬ tV k (t + 1) < lo := z.2.2.2.1
      have z2 : ¬ hi < tV k (t + 1) := z.2.2.2.2
      have z3 : t + 1 < tN k := z.2.1
      rw [fa_lt] at z1 z2
      exact ⟨tV k (t + 1), nu, h1, by omega, by omega, by omega⟩
    · have en : pNum k lo hi (t + 1, -1, nu) = (lo, (t + 1, fV k (t + 1), nu)) := by
        unfold pNum
        rw [if_neg q, pRef_f]
      rw [en] at h1
      rw [h1] at h2
      exact absurd h2 (hF _)
  have e1 : (1 : Int32).toInt = 1 := rfl
  have e999 : (999 : Int32).toInt = 999 := rfl
  have e0 : (0 : Int32).toInt = 0 := rfl
  have e59 : (59 : Int32).toInt = 59 := rfl
  have keep : ∀ S2 : PA, (pIf k S2).1.1.2.1 = -1 → S2.1.1.2.1 = -1 := by
    intro S2 h
    by_cases c : S2.1.1.2.1 = -1
    · exact c
    · rw [pIf_bad c] at h
      exact h
  unfold pAct at hS
  by_cases q : pIs k 12 (t, -1, nu) = true
  · rw [if_pos q] at hS
    obtain ⟨v, nu2, h1, h2, h3, h4⟩ := fig 12 0 59 S hS q hf
    rw [h1]
    refine ⟨h4, by show st.length ≤ t + 2; omega, (12, v, []), ?_, Or.inl rfl, by simp, rfl⟩
    obtain ⟨j, hj, rfl⟩ := nI_of (x := v) (by rw [fa_lt]; omega)
    rw [nI_toInt hj] at h3
    exact Or.inr (Or.inr ⟨rfl, j, rfl, by omega⟩)
  rw [if_neg q] at hS
  by_cases q9 : pIs k 9 (t, -1, nu) = true
  · rw [if_pos q9] at hS
    generalize hS2 : pActN k 9 1 999 (pAdv (((t, -1, nu), st), al)) = S2 at hS
    obtain ⟨v, nu2, h1, h2, h3, h4⟩ := fig 9 1 999 S2 hS2.symm q9 (keep S2 (by rw [← hS]; exact hf))
    rw [h1] at hS
    obtain ⟨a1, a2, a3, l, a4, a5⟩ := g_if h400 hF (by omega) h4 hS hf
    have h5 : 1 ≤ v.toInt ∧ v.toInt ≤ 999 := ⟨by omega, by omega⟩
    exact ⟨a1, a2, (9, v, l), Or.inl ⟨Or.inl rfl, h5.1, h5.2⟩, a4, a5, a3⟩
  rw [if_neg q9] at hS
  by_cases q10 : pIs k 10 (t, -1, nu) = true
  · rw [if_pos q10] at hS
    generalize hS2 : pActN k 10 1 999 (pAdv (((t, -1, nu), st), al)) = S2 at hS
    obtain ⟨v, nu2, h1, h2, h3, h4⟩ := fig 10 1 999 S2 hS2.symm q10 (keep S2 (by rw [← hS]; exact hf))
    rw [h1] at hS
    obtain ⟨a1, a2, a3, l, a4, a5⟩ := g_if h400 hF (by omega) h4 hS hf
    have h5 : 1 ≤ v.toInt ∧ v.toInt ≤ 999 := ⟨by omega, by omega⟩
    exact ⟨a1, a2, (10, v, l), Or.inl ⟨Or.inr rfl, h5.1, h5.2⟩, a4, a5, a3⟩
  rw [if_neg q10] at hS
  unfold pDem at hS
  by_cases q11 : pIs k 11 (t, -1, nu) = true
  · simp only [q11, if_true] at hS
    have hlt : t < tN k := (of_decide_eq_true q11).2.1
    rw [pAct0_ap hal] at hS
    have hS2 : S = pIf k (((t + 1, -1, nu), st), al ++ [(11, 0, st.length)]) := hS
    obtain ⟨a1, a2, a3, l, a4, a5⟩ := g_if h400 hF (by omega) (by omega) hS2 hf
    exact ⟨a1, a2, (11, 0, l), Or.inr (Or.inl rfl), a4, a5, a3⟩
  · simp only [q11, if_false, pRef_f, Bool.false_eq_true] at hS
    rw [pAct0_ap hal, pIf_bad (hF _)] at hS
    rw [hS] at hf
    exact absurd hf (hF _)
theorem g_acts (h400 : tN k ≤ 400) (hF : ∀ t, ¬ fV k t = -1) : ∀ (f : Nat) (t : Nat) (nu : Int32) (px : List PX1), px.length + f = 8 → t ≤ tN k → (pxS px).length ≤ t → (∀ x ∈ px, AcO x.1 x.2.1 ∧ Qok x.2.2) →
    ∀ Z : PA, Z = pActs k f (((t, -1, nu), pxS px), pxA 0 px) → Z.1.1.2.1 = -1 → Z.1.1.1 ≤ tN k ∧ ∃ py : List PX1, Z.1.2 = pxS py ∧ Z.2 = pxA 0 py ∧ py.length ≤ 8 ∧ (pxS py).length ≤ 400 ∧ ∀ x ∈ py, AcO x.1 x.2.1 ∧ Qok x.2.2 := by
  intro f
  induction f with
  | zero =>
    intro t nu px hl ht hst hx Z hZ _
    have eZ : Z = (((t, -1, nu), pxS px), pxA 0 px) := hZ
    subst eZ
    exact ⟨ht, px, rfl, rfl, by omega, by omega, hx⟩
  | succ f ih =>
    intro t nu px hl ht hst hx Z hZ hf
    unfold pActs at hZ
    by_cases q : pIs k 16 (t, -1, nu) = true
    · rw [if_pos q] at hZ
      have hlt : t < tN k := (of_decide_eq_true q).2.1
      have en : pAdv ((((t, -1, nu), pxS px), pxA 0 px) : PA) = (((t + 1, -1, nu), pxS px), pxA 0 px) := rfl
      rw [en] at hZ
      have hal : (pxA 0 px).length < 8 := by rw [pxA_len]; omega
      by_cases e1 : (pAct k (((t + 1, -1, nu), pxS px), pxA 0 px)).1.1.2.1 = -1
      · obtain ⟨a1, a2, x, a3, a4, a5, a6⟩ := g_act h400 hF (by omega) (by omega) hal (S := pAct k (((t + 1, -1, nu), pxS px), pxA 0 px)) rfl e1
        have hS : pAct k (((t + 1, -1, nu), pxS px), pxA 0 px) = ((((pAct k (((t + 1, -1, nu), pxS px), pxA 0 px)).1.1.1, -1, (pAct k (((t + 1, -1, nu), pxS px), pxA 0 px)).1.1.2.2), pxS (px ++ [x])), pxA 0 (px ++ [x])) := by
          rw [pxS_snoc, pxA_snoc, Nat.zero_add]
          refine Prod.ext (Prod.ext (Prod.ext rfl (Prod.ext ?_ rfl)) ?_) ?_
          · exact e1
          · exact a5
          · exact a6
        rw [hS] at hZ
        refine ih _ _ (px ++ [x]) (by rw [List.length_append, List.length_cons, List.length_nil]; omega) a1 ?_ ?_ Z hZ hf
        · rw [pxS_snoc, ← a5]
          exact a2
        · intro y hy
          rcases List.mem_append.mp hy with hy | hy
          · exact hx y hy
          · rw [List.mem_singleton.mp hy]
            exact ⟨a3, a4⟩
      · rw [fs_acts e1] at hZ
        rw [hZ] at hf
        exact absurd hf e1
    · rw [if_neg q] at hZ
      subst hZ
      exact ⟨ht, px, rfl, rfl, by omega, by omega, hx⟩
theorem g_not (h400 : tN k ≤ 400) (hF : ∀ t, ¬ fV k t = -1) {nu : Int32} (hf : (pNot k nu).2.1.1.2.1 = -1) : ∃ px : List PX1, (pNot k nu).2.1.2 = pxS px ∧ (pNot k nu).2.2 = pxA 0 px ∧ PgO ((pNot k nu).1, px) := by
  generalize hR : pNot k nu = R at hf ⊢
  have hR1 : R.1 = (pHead k (0, -1, nu)).1 := by rw [← hR]; rfl
  have hR2 : R.2 = ((pEnd k (pActs k 8 (((pHead k (0, -1, nu)).2, []), [])).1.1, (pActs k 8 (((pHead k (0, -1, nu)).2, []), [])).1.2), (pActs k 8 (((pHead k (0, -1, nu)).2, []), [])).2) := by rw [← hR]; rfl
  clear hR
  have hE : (pEnd k (pActs k 8 (((pHead k (0, -1, nu)).2, []), [])).1.1).2.1 = -1 := by rw [hR2] at hf; exact hf
  have hZ : (pActs k 8 (((pHead k (0, -1, nu)).2, []), [])).1.1.2.1 = -1 := by
    by_cases c : (pActs k 8 (((pHead k (0, -1, nu)).2, []), [])).1.1.2.1 = -1
    · exact c
    · rw [fs_end c] at hE
      exact hE
  have hH : (pHead k (0, -1, nu)).2.2.1 = -1 := by
    by_cases c : (pHead k (0, -1, nu)).2.2.1 = -1
    · exact c
    · have : pActs k 8 ((((pHead k (0, -1, nu)).2, []), []) : PA) = (((pHead k (0, -1, nu)).2, []), []) := fs_acts c
      rw [this] at hZ
      exact hZ
  have hd : ((pHead k (0, -1, nu)).1 = -1 ∨ ∃ j, (pHead k (0, -1, nu)).1 = nI j ∧ j ≤ 11) ∧ (pHead k (0, -1, nu)).2.1 ≤ tN k := by
    unfold pHead at hH ⊢
    by_cases q : pIs k 6 (0, -1, nu) = true
    · rw [if_pos q] at hH ⊢
      have h1 := pNum_in (k := k) (lo := 1) (hi := 11) (s := pNx (0, -1, nu)) (by decide)
      have e1 : (1 : Int32).toInt = 1 := rfl
      have e11 : (11 : Int32).toInt = 11 := rfl
      rw [fa_le, fa_le] at h1
      refine ⟨Or.inr ?_, ?_⟩
      · obtain ⟨j, hj, ej⟩ := nI_of (x := (pNum k 1 11 (pNx (0, -1, nu))).1) (by rw [fa_lt]; have e0 : (0 : Int32).toInt = 0 := rfl; omega)
        rw [ej, nI_toInt hj] at h1
        exact ⟨j, ej, by omega⟩
      · have hlt : 0 < tN k := (of_decide_eq_true q).2.1
        unfold pNum at hH ⊢
        by_cases q2 : pIsN k 1 11 (pNx (0, -1, nu)) = true
        · rw [if_pos q2]
          have : 1 < tN k := (of_decide_eq_true q2).2.1
          show 2 ≤ tN k
          omega
        · rw [if_neg q2]
          show (pRef k (1, -1, nu)).1 ≤ tN k
          rw [pRef_1]
          show 1 ≤ tN k
          omega
    · rw [if_neg q] at hH ⊢
      by_cases q7 : pIs k 7 (0, -1, nu) = true
      · rw [if_pos q7]
        have hlt : 0 < tN k := (of_decide_eq_true q7).2.1
        exact ⟨Or.inr ⟨0, rfl, by omega⟩, hlt⟩
      · rw [if_neg q7]
        refine ⟨Or.inl rfl, ?_⟩
        unfold pDem
        by_cases q8 : pIs k 8 (0, -1, nu) = true
        · rw [if_pos q8]
          exact (of_decide_eq_true q8).2.1
        · rw [if_neg q8, pRef_f]
          exact Nat.zero_le _
  generalize hHd : pHead k (0, -1, nu) = H at *
  obtain ⟨hv, t, e, nu1⟩ := H
  simp only [] at hR1 hR2 hH hd hZ
  subst hH
  generalize hZZ : pActs k 8 (((t, -1, nu1), []), []) = Z at hR2 hZ
  obtain ⟨g1, py, g2, g3, g4, g5, g6⟩ := g_acts h400 hF 8 t nu1 [] rfl hd.2 (Nat.zero_le _) (fun x hx => absurd hx (by simp)) Z hZZ.symm hZ
  refine ⟨py, ?_, ?_, ?_, g4, g5, g6⟩
  · rw [hR2]
    exact g2
  · rw [hR2]
    exact g3
  · show R.1 = -1 ∨ _
    rw [hR1]
    exact hd.1
end GP
