/-! ===== the class's acts and heads ===== -/
def putA (N : Nat) (cm : CMu) (l : AL) : CMu :=
  (fun b j => if b = N ∧ j = 6 then nI l.length else if b = N + 2 then ((l[j]?).map (fun z => z.2.1)).getD (cm.1 b j) else if b = N + 3 then ((l[j]?).map (fun z => nI z.2.2)).getD (cm.1 b j) else cm.1 b j, cm.2.1,
   fun b j => if b = N + 1 then ((l[j]?).map (fun z => z.1)).getD (cm.2.2 b j) else cm.2.2 b j)
theorem uI_putS {N : Nat} {cm : CMu} {l : SL} {a j : Nat} {v : Int32} (h : ¬ (a = N ∧ j = 7) ∧ a ≠ N + 5) : uI (putS N cm l) a j v = putS N (uI cm a j v) l := by
  refine Prod.ext ?_ rfl
  funext b i
  show up2 _ a j v b i = _
  unfold up2 putS
  by_cases q : b = a ∧ i = j
  · obtain ⟨rfl, rfl⟩ := q
    simp [h.1, h.2, uI, up2]
  · simp only [if_neg q, uI, up2]
theorem uW_putS {N : Nat} {cm : CMu} {l : SL} {a j : Nat} {v : Fin 32} (h : a ≠ N + 4) : uW (putS N cm l) a j v = putS N (uW cm a j v) l := by
  refine Prod.ext rfl (Prod.ext rfl ?_)
  funext b i
  show up2 _ a j v b i = _
  unfold up2 putS
  by_cases q : b = a ∧ i = j
  · obtain ⟨rfl, rfl⟩ := q
    simp [h, uW, up2]
  · simp only [if_neg q, uW, up2]
theorem uI_putA {N : Nat} {cm : CMu} {l : AL} {a j : Nat} {v : Int32} (h : ¬ (a = N ∧ j = 6) ∧ a ≠ N + 2 ∧ a ≠ N + 3) : uI (putA N cm l) a j v = putA N (uI cm a j v) l := by
  refine Prod.ext ?_ rfl
  funext b i
  show up2 _ a j v b i = _
  unfold up2 putA
  by_cases q : b = a ∧ i = j
  · obtain ⟨rfl, rfl⟩ := q
    simp [h.1, h.2.1, h.2.2, uI, up2]
  · simp only [if_neg q, uI, up2]
theorem row_add {α β : Type} (l : List α) (x : α) (f : α → β) (g : Nat → β) (j : Nat) : (if j = l.length then f x else ((l[j]?).map f).getD (g j)) = (((l ++ [x])[j]?).map f).getD (g j) := by
  by_cases h : j = l.length
  · subst h
    simp
  · rw [if_neg h, List.getElem?_append]
    by_cases h4 : j < l.length
    · rw [if_pos h4]
    · rw [if_neg h4, List.getElem?_eq_none (by omega), List.getElem?_eq_none (by simp; omega)]
theorem putA_add {N : Nat} {cm : CMu} {l : AL} {w : Fin 32} {n : Int32} {q : Nat} : uI (uI (uI (uW (putA N cm l) (N + 1) l.length w) (N + 2) l.length n) (N + 3) l.length (nI q)) N 6 (nI (l.length + 1)) = putA N cm (l ++ [(w, n, q)]) := by
  refine Prod.ext ?_ (Prod.ext rfl ?_)
  · funext b j
    show up2 (up2 (up2 _ (N + 2) l.length n) (N + 3) l.length (nI q)) N 6 (nI (l.length + 1)) b j = _
    unfold up2 putA
    by_cases h1 : b = N ∧ j = 6
    · obtain ⟨rfl, rfl⟩ := h1
      simp
    · simp only [if_neg h1, List.length_append, List.length_cons, List.length_nil]
      by_cases h2 : b = N + 3
      · subst h2
        have e : (N + 3 = N + 2) = False := by simp
        have e2 : (N + 3 = N) = False := by simp
        simp only [true_and, e, e2, false_and, if_false, if_true, uW]
        rw [← row_add l (w, n, q) (fun z => nI z.2.2)]
      · by_cases h3 : b = N + 2
        · subst h3
          have e2 : (N + 2 = N) = False := by simp
          simp only [h2, true_and, e2, false_and, if_false, if_true, uW]
          rw [← row_add l (w, n, q) (fun z => z.2.1)]
        · simp only [h2, h3, false_and, if_false, uW, h1]
  · funext b j
    show up2 _ (N + 1) l.length w b j = _
    unfold up2 putA
    by_cases h2 : b = N + 1
    · subst h2
      simp only [true_and, if_true]
      rw [← row_add l (w, n, q) (fun z => z.1)]
    · simp only [h2, false_and, if_false]
theorem TOK_o {N : Nat} {cm cm' : CMu} {k : TK} (h : TOK cm k) (hI : ∀ a j, a < 11 → cm'.1 a j = cm.1 a j) (hW : ∀ a j, a < 11 → cm'.2.2 a j = cm.2.2 a j) : TOK cm' k := by
  obtain ⟨h1, h2, h3, h4, h5, h6, h7⟩ := h
  refine ⟨?_, ?_, ?_, ?_, ?_, h6, h7⟩
  · rw [← h1]; funext j; exact hW 5 j (by omega)
  · rw [← h2]; funext j; exact hI 6 j (by omega)
  · rw [← h3]; funext j; exact hI 7 j (by omega)
  · rw [← h4]; exact hI 4 3 (by omega)
  · rw [← h5]; exact hI 4 5 (by omega)
theorem TOK_A {N : Nat} {cm : CMu} {k : TK} (h : TOK cm k) (hN : 11 ≤ N) (l : AL) : TOK (putA N cm l) k := by
  refine TOK_o (N := N) h (fun a j q => ?_) (fun a j q => ?_)
  · show (if a = N ∧ j = 6 then _ else if a = N + 2 then _ else if a = N + 3 then _ else _) = _
    rw [if_neg (by omega), if_neg (by omega), if_neg (by omega)]
  · exact if_neg (by omega)
theorem TOK_u {N : Nat} {cm : CMu} {k : TK} (h : TOK cm k) (hN : 11 ≤ N) {j : Nat} {v : Int32} : TOK (uI cm N j v) k := by
  refine TOK_o (N := N) h (fun a i q => ?_) (fun a j q => rfl)
  exact up2_miss (by omega)
def PAt (N : Nat) (cm : CMu) (s : PA) : CMu := PSt N (putA N cm s.2) s.1
def BdA (k : TK) (s : PA) : Prop := Bd k s.1 ∧ s.2.length ≤ 8
section CA
variable {N : Nat} {cm : CMu} {k : TK} {post : CMu → Prop}
theorem PAt_6 (hN : 11 ≤ N) {s : PA} : gI (PAt N cm s) N 6 = nI s.2.length := by
  unfold PAt PSt
  rw [putT_o (by omega)]
  show (if N = N ∧ 6 = 7 then _ else if N = N + 5 then _ else if N = N ∧ 6 = 6 then _ else _) = _
  rw [if_neg (by omega), if_neg (by omega), if_pos ⟨rfl, rfl⟩]
theorem PAt_7 (hN : 11 ≤ N) {s : PA} : gI (PAt N cm s) N 7 = nI s.1.2.length := by
  unfold PAt PSt
  rw [putT_o (by omega), putS_7]
theorem k_addAct (hN : 11 ≤ N) {s : PA} (hs : BdA k s) {w : Fin 32} {n : Int32} (hw : w ≠ 0) (hp : BdA k (pAct0 w n s) → post (PAt N cm (pAct0 w n s))) : w_X5_addAct post N w n (PAt N cm s) := by
  obtain ⟨hs1, hs2⟩ := hs
  unfold w_X5_addAct
  rw [PAt_6 hN]
  unfold pAct0 at hp
  refine ⟨fun q => ?_, fun q => ?_⟩
  · rw [fa_lit 8, nI_leI (by omega) (by omega)] at q
    rw [if_neg (by omega)] at hp
    exact hp ⟨hs1, hs2⟩
  · rw [fa_lit 8, nI_leI (by omega) (by omega)] at q
    rw [if_pos (by omega)] at hp
    have e2 : ∀ (j : Nat) (v : Fin 32), gI (uW (PAt N cm s) (N + 1) j v) N 6 = nI s.2.length := fun _ _ => PAt_6 hN
    have e3 : ∀ (j : Nat) (v : Fin 32) (i : Nat) (x : Int32), gI (uI (uW (PAt N cm s) (N + 1) j v) (N + 2) i x) N 6 = nI s.2.length := by
      intro j v i x
      show up2 _ (N + 2) i x N 6 = _
      rw [up2_miss (by omega)]
      exact PAt_6 hN
    have e4 : ∀ (j : Nat) (v : Fin 32) (i : Nat) (x : Int32), gI (uI (uW (PAt N cm s) (N + 1) j v) (N + 2) i x) N 7 = nI s.1.2.length := by
      intro j v i x
      show up2 _ (N + 2) i x N 7 = _
      rw [up2_miss (by omega)]
      exact PAt_7 hN
    have e5 : ∀ (j : Nat) (v : Fin 32) (i : Nat) (x : Int32) (i2 : Nat) (x2 : Int32), gI (uI (uI (uW (PAt N cm s) (N + 1) j v) (N + 2) i x) (N + 3) i2 x2) N 6 = nI s.2.length := by
      intro j v i x i2 x2
      show up2 _ (N + 3) i2 x2 N 6 = _
      rw [up2_miss (by omega)]
      exact e3 _ _ _ _
    rw [e2, e3, e4, e5, nI_clamp (by omega)]
    have hv : vp_in (nI s.2.length) 8 := vp_in_nI (by omega) (by omega)
    refine ⟨hv, hw, hv, hv, ?_⟩
    unfold B_X5_addAct_52
    rw [nI_1]
    have e : uI (uI (uI (uW (PAt N cm s) (N + 1) s.2.length w) (N + 2) s.2.length n) (N + 3) s.2.length (nI s.1.2.length)) N 6 (nI (s.2.length + 1)) = PAt N cm (s.1, s.2 ++ [(w, n, s.1.2.length)]) := by
      unfold PAt PSt
      rw [uW_putT, uI_putT (by omega), uI_putT (by omega), uI_putT (by omega), uW_putS (by omega), uI_putS (by omega), uI_putS (by omega), uI_putS (by omega), putA_add]
    rw [e]
    exact hp ⟨hs1, by simp; omega⟩
theorem kA_take (h : TOK cm k) (hN : 11 ≤ N) {s : PA} (hs : BdA k s) {w : Fin 32} {post : Bool → CMu → Prop} (h1 : pIs k w s.1.1 = true → BdA k (pAdv s) → post true (PAt N cm (pAdv s))) (h0 : pIs k w s.1.1 = false → post false (PAt N cm s)) : w_X10_take post w (PAt N cm s) :=
  kP_take (TOK_A h hN s.2) hN hs.1 (fun q1 q2 => h1 q1 ⟨q2, hs.2⟩) h0
theorem k_pIf (h : TOK cm k) (hN : 11 ≤ N) {s : PA} (hs : BdA k s) (hp : BdA k (pIf k s) → post (PAt N cm (pIf k s))) : B_X5_readAct_96 post N (PAt N cm s) := by
  unfold B_X5_readAct_96
  unfold pIf at hp
  refine kA_take h hN hs (fun q q2 => ⟨fun z => absurd z (by decide), fun _ => ?_⟩) (fun q => ⟨fun _ => ?_, fun z => absurd rfl z⟩)
  · rw [if_pos q] at hp
    exact k_que (TOK_A h hN s.2) hN _ _ q2.1 (fun q3 => hp ⟨q3, hs.2⟩)
  · rw [if_neg (by rw [q]; decide)] at hp
    exact hp hs
theorem k_actN (h : TOK cm k) (hN : 11 ≤ N) {s : PA} (hs : BdA k s) {w : Fin 32} (hw : w ≠ 0) {lo hi : Int32} (hp : BdA k (pActN k w lo hi s) → post (PAt N cm (pActN k w lo hi s))) : w_X10_takeNumber (fun r u => w_X5_addAct post N w r u) lo hi (PAt N cm s) := by
  refine k_number (TOK_S (TOK_A h hN s.2) hN s.1.2) hs.1.1 (fun q => ?_)
  exact k_addAct (s := (((pNum k lo hi s.1.1).2, s.1.2), s.2)) hN ⟨⟨q, hs.1.2⟩, hs.2⟩ hw hp
theorem k_readAct (h : TOK cm k) (hN : 11 ≤ N) {s : PA} (hs : BdA k s) (hp : BdA k (pAct k s) → post (PAt N cm (pAct k s))) : w_X5_readAct post N (PAt N cm s) := by
  unfold w_X5_readAct
  unfold pAct at hp
  refine kA_take h hN hs (fun q q2 => ⟨fun z => absurd z (by decide), fun _ => ?_⟩) (fun q => ⟨fun _ => ?_, fun z => absurd rfl z⟩)
  · rw [if_pos q] at hp
    exact k_actN h hN q2 (by decide) hp
  rw [if_neg (by rw [q]; decide)] at hp
  refine kA_take h hN hs (fun q q2 => ⟨fun z => absurd z (by decide), fun _ => ?_⟩) (fun q => ⟨fun _ => ?_, fun z => absurd rfl z⟩)
  · rw [if_pos q] at hp
    exact k_actN h hN q2 (by decide) (fun q3 => k_pIf h hN q3 hp)
  rw [if_neg (by rw [q]; decide)] at hp
  refine kA_take h hN hs (fun q q2 => ⟨fun z => absurd z (by decide), fun _ => ?_⟩) (fun q => ⟨fun _ => ?_, fun z => absurd rfl z⟩)
  · rw [if_pos q] at hp
    exact k_actN h hN q2 (by decide) (fun q3 => k_pIf h hN q3 hp)
  rw [if_neg (by rw [q]; decide)] at hp
  refine kP_demand (TOK_A h hN s.2) hN hs.1 (fun q3 => ?_)
  exact k_addAct (s := ((pDem k 11 s.1.1, s.1.2), s.2)) hN ⟨q3, hs.2⟩ (by decide) (fun q4 => k_pIf h hN q4 hp)
theorem k_end16 (h : TOK cm k) (hN : 11 ≤ N) {s : PA} (hs : BdA k s) (hp : BdA k ((pEnd k s.1.1, s.1.2), s.2) → post (PAt N cm ((pEnd k s.1.1, s.1.2), s.2))) : B_X5_read_44 post (PAt N cm s) := by
  unfold B_X5_read_44
  unfold pEnd at hp
  refine kA_take h hN hs (fun q q2 => ⟨fun _ => ?_, fun z => absurd z (by decide)⟩) (fun q => ⟨fun z => absurd rfl z, fun _ => ?_⟩)
  · rw [if_pos q] at hp
    exact kP_refuse (TOK_A h hN s.2) hN q2.1 (fun q3 => hp ⟨q3, hs.2⟩)
  · rw [if_neg (by rw [q]; decide)] at hp
    unfold w_X10_isAtEnd
    have e3 : gI (PAt N cm s) 4 3 = nI (tN k) := TOK_3 (TOK_S (TOK_A h hN s.2) hN s.1.2) s.1.1
    have e4 : gI (PAt N cm s) 4 4 = nI s.1.1.1 := rfl
    have hb := h.2.2.2.2.2.1
    have hb1 := hs.1.1
    rw [e3, e4]
    refine ⟨fun q2 => ?_, fun q2 => ?_⟩
    · rw [nI_ltI (by omega) (by omega)] at q2
      rw [if_pos q2] at hp
      exact ⟨fun z => absurd rfl z, fun _ => kP_refuse (TOK_A h hN s.2) hN hs.1 (fun q3 => hp ⟨q3, hs.2⟩)⟩
    · rw [nI_ltI (by omega) (by omega)] at q2
      rw [if_neg q2] at hp
      exact ⟨fun _ => hp hs, fun z => absurd z (by decide)⟩
end CA
