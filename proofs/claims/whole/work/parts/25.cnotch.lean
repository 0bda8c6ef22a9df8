/-! ===== the class reads a chip's text ===== -/
section CN
variable {N : Nat} {cm : CMu} {k : TK} {post : CMu → Prop}
theorem PAt_start (hN : 11 ≤ N) {nu : Int32} (h4 : gI cm 4 4 = 0) (h7 : gI cm 4 7 = -1) (h6 : gI cm 4 6 = nu) : uI (uI cm N 6 0) N 7 0 = PAt N cm (((0, -1, nu), []), []) := by
  refine Prod.ext ?_ (Prod.ext rfl ?_)
  · funext b j
    have e : (PAt N cm (((0, -1, nu), []), [])).1 b j = (if b = 4 ∧ j = 4 then nI 0 else if b = 4 ∧ j = 7 then (-1 : Int32) else if b = 4 ∧ j = 6 then nu else if b = N ∧ j = 7 then nI 0 else if b = N ∧ j = 6 then nI 0 else cm.1 b j) := by
      unfold PAt PSt putT putS putA
      simp only [List.getElem?_nil, Option.map_none, Option.getD_none, List.length_nil, ite_self]
    rw [e]
    show up2 (up2 cm.1 N 6 0) N 7 0 b j = _
    unfold up2
    by_cases q1 : b = 4 ∧ j = 4
    · obtain ⟨rfl, rfl⟩ := q1
      rw [if_neg (by omega), if_neg (by omega), if_pos ⟨rfl, rfl⟩]
      exact h4
    rw [if_neg q1]
    by_cases q2 : b = 4 ∧ j = 7
    · obtain ⟨rfl, rfl⟩ := q2
      rw [if_neg (by omega), if_neg (by omega), if_pos ⟨rfl, rfl⟩]
      exact h7
    rw [if_neg q2]
    by_cases q3 : b = 4 ∧ j = 6
    · obtain ⟨rfl, rfl⟩ := q3
      rw [if_neg (by omega), if_neg (by omega), if_pos ⟨rfl, rfl⟩]
      exact h6
    rw [if_neg q3]
    by_cases q4 : b = N ∧ j = 7
    · rw [if_pos q4, if_pos q4]
      rfl
    rw [if_neg q4, if_neg q4]
    by_cases q6 : b = N ∧ j = 6
    · rw [if_pos q6, if_pos q6]
      rfl
    rw [if_neg q6, if_neg q6]
  · funext b j
    have e : (PAt N cm (((0, -1, nu), []), [])).2.2 b j = cm.2.2 b j := by
      unfold PAt PSt putT putS putA
      simp only [List.getElem?_nil, Option.map_none, Option.getD_none, ite_self]
    rw [e]
    rfl
theorem PAt_head (hN : 11 ≤ N) {s : PA} {v : Int32} : uI (PAt N cm s) N 5 v = PAt N (uI cm N 5 v) s := by
  unfold PAt PSt
  rw [uI_putT (by omega), uI_putS (by omega), uI_putA (by omega)]
theorem k_acts (h : TOK cm k) (hN : 11 ≤ N) : ∀ (f v : Nat) (s : PA), v + f = 8 → BdA k s → (BdA k ((pEnd k (pActs k f s).1.1, (pActs k f s).1.2), (pActs k f s).2) → post (PAt N cm ((pEnd k (pActs k f s).1.1, (pActs k f s).1.2), (pActs k f s).2))) → B_X5_read_17 post (f + 1) N (nI v) (PAt N cm s) := by
  intro f
  induction f with
  | zero =>
    intro v s hv hs hp
    unfold B_X5_read_17
    refine ⟨fun _ => k_end16 h hN hs hp, fun q => absurd ?_ q⟩
    rw [fa_lit 8, nI_leI (by omega) (by omega)]
    omega
  | succ f ih =>
    intro v s hv hs hp
    unfold B_X5_read_17
    unfold pActs at hp
    refine ⟨fun q => absurd q ?_, fun _ => ?_⟩
    · rw [fa_lit 8, nI_leI (by omega) (by omega)]
      omega
    refine kA_take h hN hs (fun q q2 => ⟨fun z => absurd z (by decide), fun _ => ?_⟩) (fun q => ⟨fun _ => ?_, fun z => absurd rfl z⟩)
    · rw [if_pos q] at hp
      refine k_readAct h hN q2 (fun q3 => ?_)
      rw [nI_1]
      exact ih (v + 1) _ (by omega) q3 hp
    · rw [if_neg (by rw [q]; decide)] at hp
      exact k_end16 h hN hs hp
theorem k_readHead (h : TOK cm k) (hN : 11 ≤ N) {s : PA} (hs : BdA k s) (hp : BdA k (((pHead k s.1.1).2, s.1.2), s.2) → post (PAt N (uI cm N 5 (pHead k s.1.1).1) (((pHead k s.1.1).2, s.1.2), s.2))) : w_X5_readHead post N (PAt N cm s) := by
  unfold w_X5_readHead
  unfold pHead at hp
  refine kA_take h hN hs (fun q q2 => ⟨fun z => absurd z (by decide), fun _ => ?_⟩) (fun q => ⟨fun _ => ?_, fun z => absurd rfl z⟩)
  · rw [if_pos q] at hp
    refine k_number (TOK_S (TOK_A h hN s.2) hN s.1.2) q2.1.1 (fun q3 => ?_)
    have := hp ⟨⟨q3, hs.1.2⟩, hs.2⟩
    rw [← PAt_head hN] at this
    exact this
  rw [if_neg (by rw [q]; decide)] at hp
  refine kA_take h hN hs (fun q q2 => ⟨fun z => absurd z (by decide), fun _ => ?_⟩) (fun q => ⟨fun _ => ?_, fun z => absurd rfl z⟩)
  · rw [if_pos q] at hp
    have := hp q2
    rw [← PAt_head hN] at this
    exact this
  rw [if_neg (by rw [q]; decide)] at hp
  refine kP_demand (TOK_A h hN s.2) hN hs.1 (fun q3 => ?_)
  have := hp ⟨q3, hs.2⟩
  rw [← PAt_head hN] at this
  exact this
theorem k_read (h : TOK cm k) (hN : 11 ≤ N) {nu : Int32} (h4 : gI cm 4 4 = 0) (h7 : gI cm 4 7 = -1) (h6 : gI cm 4 6 = nu) (hp : BdA k (pNot k nu).2 → post (PAt N (uI cm N 5 (pNot k nu).1) (pNot k nu).2)) : w_X5_read post N cm := by
  unfold w_X5_read
  rw [PAt_start hN h4 h7 h6]
  refine k_readHead h hN ⟨⟨Nat.zero_le _, Nat.zero_le _⟩, Nat.zero_le _⟩ (fun q => ⟨9, ?_⟩)
  exact k_acts (TOK_u h hN) hN 8 0 _ rfl q hp
end CN
