/-! ===== the class's parser writes the steps ===== -/
def putS (N : Nat) (cm : CMu) (l : SL) : CMu :=
  (fun b j => if b = N ∧ j = 7 then nI l.length else if b = N + 5 then ((l[j]?).map (fun z => z.2)).getD (cm.1 b j) else cm.1 b j, cm.2.1,
   fun b j => if b = N + 4 then ((l[j]?).map (fun z => z.1)).getD (cm.2.2 b j) else cm.2.2 b j)
theorem uW_putT {cm : CMu} {s : PT} {a j : Nat} {v : Fin 32} : uW (putT cm s) a j v = putT (uW cm a j v) s := rfl
theorem uI_putT {cm : CMu} {s : PT} {a j : Nat} {v : Int32} (h : a ≠ 4) : uI (putT cm s) a j v = putT (uI cm a j v) s := by
  refine Prod.ext ?_ rfl
  funext b i
  show up2 _ a j v b i = _
  unfold up2 putT
  by_cases q : b = a ∧ i = j
  · obtain ⟨rfl, rfl⟩ := q
    simp [h, uI, up2]
  · simp only [if_neg q, uI, up2]
theorem putS_7 {N : Nat} {cm : CMu} {l : SL} : gI (putS N cm l) N 7 = nI l.length := by
  show (if N = N ∧ 7 = 7 then _ else _) = _
  rw [if_pos ⟨rfl, rfl⟩]
theorem putS_add {N : Nat} {cm : CMu} {l : SL} {w : Fin 32} {n : Int32} : uI (uI (uW (putS N cm l) (N + 4) l.length w) (N + 5) l.length n) N 7 (nI (l.length + 1)) = putS N cm (l ++ [(w, n)]) := by
  refine Prod.ext ?_ (Prod.ext rfl ?_)
  · funext b j
    show up2 (up2 _ (N + 5) l.length n) N 7 (nI (l.length + 1)) b j = _
    unfold up2 putS
    by_cases h1 : b = N ∧ j = 7
    · obtain ⟨rfl, rfl⟩ := h1
      simp
    · simp only [if_neg h1, List.length_append, List.length_cons, List.length_nil]
      by_cases h2 : b = N + 5
      · subst h2
        by_cases h3 : j = l.length
        · subst h3
          simp
        · simp only [h3, and_false, if_false, if_true, uW]
          rw [if_neg (by omega), List.getElem?_append]
          by_cases h4 : j < l.length
          · rw [if_pos h4]
          · rw [if_neg h4, List.getElem?_eq_none (by omega), List.getElem?_eq_none (by simp; omega)]
      · simp only [h2, false_and, if_false, uW, h1]
  · funext b j
    show up2 _ (N + 4) l.length w b j = _
    unfold up2 putS
    by_cases h2 : b = N + 4
    · subst h2
      by_cases h3 : j = l.length
      · subst h3
        simp
      · simp only [h3, and_false, if_false, if_true]
        rw [List.getElem?_append]
        by_cases h4 : j < l.length
        · rw [if_pos h4]
        · rw [if_neg h4, List.getElem?_eq_none (by omega), List.getElem?_eq_none (by simp; omega)]
    · simp only [h2, false_and, if_false]
theorem TOK_S {N : Nat} {cm : CMu} {k : TK} (h : TOK cm k) (hN : 11 ≤ N) (l : SL) : TOK (putS N cm l) k := by
  obtain ⟨h1, h2, h3, h4, h5, h6, h7⟩ := h
  refine ⟨?_, ?_, ?_, ?_, ?_, h6, h7⟩
  · rw [← h1]
    funext j
    exact if_neg (by omega)
  · rw [← h2]
    funext j
    show (if 6 = N ∧ j = 7 then _ else if 6 = N + 5 then _ else _) = _
    rw [if_neg (by omega), if_neg (by omega)]
  · rw [← h3]
    funext j
    show (if 7 = N ∧ j = 7 then _ else if 7 = N + 5 then _ else _) = _
    rw [if_neg (by omega), if_neg (by omega)]
  · rw [← h4]
    show (if 4 = N ∧ 3 = 7 then _ else if 4 = N + 5 then _ else _) = _
    rw [if_neg (by omega), if_neg (by omega)]
  · rw [← h5]
    show (if 4 = N ∧ 5 = 7 then _ else if 4 = N + 5 then _ else _) = _
    rw [if_neg (by omega), if_neg (by omega)]
def PSt (N : Nat) (cm : CMu) (s : PS) : CMu := putT (putS N cm s.2) s.1
def Bd (k : TK) (s : PS) : Prop := s.1.1 ≤ tN k ∧ s.2.length ≤ 400
section CP
variable {N : Nat} {cm : CMu} {k : TK} {post : CMu → Prop}
theorem k_addStep (hN : 11 ≤ N) {s : PS} (hs : Bd k s) {w : Fin 32} {n : Int32} (hw : w ≠ 0) (hp : Bd k (pAdd w n s) → post (PSt N cm (pAdd w n s))) : w_X5_addStep post N w n (PSt N cm s) := by
  obtain ⟨hs1, hs2⟩ := hs
  have e7 : gI (PSt N cm s) N 7 = nI s.2.length := by
    unfold PSt
    rw [putT_o (by omega), putS_7]
  unfold w_X5_addStep
  rw [e7]
  unfold pAdd at hp
  refine ⟨fun q => ?_, fun q => ?_⟩
  · rw [fa_lit 400, nI_leI (by omega) (by omega)] at q
    rw [if_neg (by omega)] at hp
    exact hp ⟨hs1, hs2⟩
  · rw [fa_lit 400, nI_leI (by omega) (by omega)] at q
    rw [if_pos (by omega)] at hp
    have e2 : ∀ (j : Nat) (v : Fin 32), gI (uW (PSt N cm s) (N + 4) j v) N 7 = nI s.2.length := fun _ _ => e7
    have e3 : ∀ (j : Nat) (v : Fin 32) (i : Nat) (x : Int32), gI (uI (uW (PSt N cm s) (N + 4) j v) (N + 5) i x) N 7 = nI s.2.length := by
      intro j v i x
      show up2 _ (N + 5) i x N 7 = _
      rw [up2_miss (by omega)]
      exact e7
    rw [e2, e3, nI_clamp (by omega)]
    have hv : vp_in (nI s.2.length) 400 := vp_in_nI (by omega) (by omega)
    refine ⟨hv, hw, hv, ?_⟩
    unfold B_X5_addStep_40
    rw [nI_1]
    unfold PSt
    rw [uW_putT, uI_putT (by omega), uI_putT (by omega), putS_add]
    exact hp ⟨hs1, by simp; omega⟩
theorem kP_take (h : TOK cm k) (hN : 11 ≤ N) {s : PS} (hs : Bd k s) {w : Fin 32} {post : Bool → CMu → Prop} (h1 : pIs k w s.1 = true → Bd k (pNx s.1, s.2) → post true (PSt N cm (pNx s.1, s.2))) (h0 : pIs k w s.1 = false → post false (PSt N cm s)) : w_X10_take post w (PSt N cm s) :=
  k_take (TOK_S h hN s.2) hs.1 (fun q1 q2 => h1 q1 ⟨q2, hs.2⟩) h0
theorem kP_demand (h : TOK cm k) (hN : 11 ≤ N) {s : PS} (hs : Bd k s) {w : Fin 32} (hp : Bd k (pDem k w s.1, s.2) → post (PSt N cm (pDem k w s.1, s.2))) : w_X10_demand post w (PSt N cm s) :=
  k_demand (TOK_S h hN s.2) hs.1 (fun q => hp ⟨q, hs.2⟩)
theorem kP_refuse (h : TOK cm k) (hN : 11 ≤ N) {s : PS} (hs : Bd k s) (hp : Bd k (pRef k s.1, s.2) → post (PSt N cm (pRef k s.1, s.2))) : w_X10_refuse post (PSt N cm s) :=
  k_refuse (TOK_S h hN s.2) hs.1 (hp ⟨by rw [pRef_1]; exact hs.1, hs.2⟩)
theorem k_sum (h : TOK cm k) (hN : 11 ≤ N) {s : PS} (hs : Bd k s) (hp : Bd k (pSum k 400 true s) → post (PSt N cm (pSum k 400 true s))) : w_X5_sum post N (PSt N cm s) := by
  have key : ∀ (f v : Nat) (s : PS), v + f = 400 → 0 < f → Bd k s → (Bd k (pSum k f (decide (v = 0)) s) → post (PSt N cm (pSum k f (decide (v = 0)) s))) → B_X5_sum_2 post f N (nI v) (PSt N cm s) := by
    intro f
    induction f with
    | zero =>
      intro v s _ h0
      omega
    | succ f ih =>
      intro v s hv _ hs hp
      unfold B_X5_sum_2
      unfold pSum at hp
      refine k_part (TOK_S h hN s.2) hs.1 (fun q q2 => ?_) (fun q => ?_)
      · rw [if_pos q] at hp
        have hpp := of_decide_eq_true q
        refine ⟨fun _ => ?_, fun z => ?_⟩
        · rw [putT_6]
          refine k_addStep (s := ((s.1.1 + 1, s.1.2.1, tV k s.1.1), s.2)) hN ⟨q2, hs.2⟩ (h.2.2.2.2.2.2 _ q2) (fun hb => ?_)
          have tail : ∀ s2 : PS, Bd k s2 → (Bd k (if f ≠ 0 ∧ pIs k 27 s2.1 then pSum k f false (pNx s2.1, s2.2) else s2) → post (PSt N cm (if f ≠ 0 ∧ pIs k 27 s2.1 then pSum k f false (pNx s2.1, s2.2) else s2))) → B_X5_sum_40 post (B_X5_sum_2 post f) N (nI v) (PSt N cm s2) := by
            intro s2 hb2 hp2
            unfold B_X5_sum_40
            rw [nI_1, fa_lit 400]
            refine ⟨fun q3 => ?_, fun q3 => ?_⟩
            · rw [nI_leI (by omega) (by omega)] at q3
              rw [if_neg (fun z => z.1 (by omega))] at hp2
              exact hp2 hb2
            · rw [nI_leI (by omega) (by omega)] at q3
              refine kP_take h hN hb2 (fun q4 q5 => ⟨fun _ => ?_, fun z => absurd z (by decide)⟩) (fun q4 => ⟨fun z => absurd rfl z, fun _ => ?_⟩)
              · rw [if_pos ⟨by omega, q4⟩] at hp2
                have := ih (v + 1) _ (by omega) (by omega) q5
                rw [decide_eq_false (by omega)] at this
                exact this hp2
              · rw [if_neg (fun z => by rw [q4] at z; exact absurd z.2 (by decide))] at hp2
                exact hp2 hb2
          refine ⟨fun q3 => ?_, fun q3 => ?_⟩
          · rw [fa_lit 0, nI_leI (by omega) (by omega)] at q3
            rw [decide_eq_true (by omega)] at hp
            exact tail _ hb hp
          · rw [fa_lit 0, nI_leI (by omega) (by omega)] at q3
            rw [decide_eq_false (by omega)] at hp
            exact k_addStep hN hb (by decide) (fun hb2 => tail _ hb2 hp)
        · rw [z] at hpp
          exact absurd (show wP 31 = false by decide) hpp.2.2
      · rw [if_neg (by rw [q]; decide)] at hp
        exact ⟨fun z => absurd rfl z, fun _ => kP_refuse h hN hs hp⟩
  exact ⟨400, key 400 0 s rfl (by omega) hs hp⟩
end CP
