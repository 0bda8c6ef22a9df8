/-! ===== the class's questions ===== -/
section CQ
variable {N : Nat} {cm : CMu} {k : TK}
def kCt (N : Nat) (cm : CMu) (k : TK) (r : (CMu → Prop) → Nat → Int32 → CMu → Prop) (d : Int32) (A : PS → PS) : Prop :=
  ∀ (s : PS) (post : CMu → Prop), Bd k s → (Bd k (A s) → post (PSt N cm (A s))) → r post N d (PSt N cm s)
theorem k_allOf (h : TOK cm k) (hN : 11 ≤ N) {rq ra rt : (CMu → Prop) → Nat → Int32 → CMu → Prop} {d : Int32} {A : PS → PS} (hA : kCt N cm k rt d A) : kCt N cm k (wb_X5_allOf rq ra rt) d (pAll k A) := by
  intro s post hs hp
  have key : ∀ (f v : Nat) (s : PS), v + f = 400 → Bd k s → (Bd k (pLoop k 26 A f s) → post (PSt N cm (pLoop k 26 A f s))) → B_X5_allOf_8 rq ra rt post (f + 1) N d (nI v) (PSt N cm s) := by
    intro f
    induction f with
    | zero =>
      intro v s hv hs hp
      unfold B_X5_allOf_8
      refine ⟨fun _ => hp hs, fun q => absurd ?_ q⟩
      rw [fa_lit 400, nI_leI (by omega) (by omega)]
      omega
    | succ f ih =>
      intro v s hv hs hp
      unfold B_X5_allOf_8
      unfold pLoop at hp
      refine ⟨fun q => absurd q ?_, fun _ => ?_⟩
      · rw [fa_lit 400, nI_leI (by omega) (by omega)]
        omega
      refine kP_take h hN hs (fun q q2 => ⟨fun z => absurd z (by decide), fun _ => ?_⟩) (fun q => ⟨fun _ => ?_, fun z => absurd rfl z⟩)
      · rw [if_pos q] at hp
        refine hA _ _ q2 (fun q3 => k_addStep hN q3 (by decide) (fun q4 => ?_))
        rw [nI_1]
        exact ih (v + 1) _ (by omega) q4 hp
      · rw [if_neg (by rw [q]; decide)] at hp
        exact hp hs
  exact hA s _ hs (fun q => ⟨401, key 400 0 _ rfl q hp⟩)
theorem k_question (h : TOK cm k) (hN : 11 ≤ N) {rq ra rt : (CMu → Prop) → Nat → Int32 → CMu → Prop} {d : Int32} {A : PS → PS} (hA : kCt N cm k ra d (pAll k A)) : kCt N cm k (wb_X5_question rq ra rt) d (pQue k A) := by
  intro s post hs hp
  have key : ∀ (f v : Nat) (s : PS), v + f = 400 → Bd k s → (Bd k (pLoop k 25 (pAll k A) f s) → post (PSt N cm (pLoop k 25 (pAll k A) f s))) → B_X5_question_8 rq ra rt post (f + 1) N d (nI v) (PSt N cm s) := by
    intro f
    induction f with
    | zero =>
      intro v s hv hs hp
      unfold B_X5_question_8
      refine ⟨fun _ => hp hs, fun q => absurd ?_ q⟩
      rw [fa_lit 400, nI_leI (by omega) (by omega)]
      omega
    | succ f ih =>
      intro v s hv hs hp
      unfold B_X5_question_8
      unfold pLoop at hp
      refine ⟨fun q => absurd q ?_, fun _ => ?_⟩
      · rw [fa_lit 400, nI_leI (by omega) (by omega)]
        omega
      refine kP_take h hN hs (fun q q2 => ⟨fun z => absurd z (by decide), fun _ => ?_⟩) (fun q => ⟨fun _ => ?_, fun z => absurd rfl z⟩)
      · rw [if_pos q] at hp
        refine hA _ _ q2 (fun q3 => k_addStep hN q3 (by decide) (fun q4 => ?_))
        rw [nI_1]
        exact ih (v + 1) _ (by omega) q4 hp
      · rw [if_neg (by rw [q]; decide)] at hp
        exact hp hs
  exact hA s _ hs (fun q => ⟨401, key 400 0 _ rfl q hp⟩)
theorem k_cmp (h : TOK cm k) (hN : 11 ≤ N) {rq ra rt : (CMu → Prop) → Nat → Int32 → CMu → Prop} {s : PS} {post : CMu → Prop} (hs : Bd k s) (hp : Bd k (if pIs k 15 s.1 then pAdd 15 0 (pNx s.1, s.2) else pCmp k s) → post (PSt N cm (if pIs k 15 s.1 then pAdd 15 0 (pNx s.1, s.2) else pCmp k s))) : B_X5_atom_77 rq ra rt post N (PSt N cm s) := by
  unfold B_X5_atom_77
  refine kP_take h hN hs (fun q q2 => ⟨fun z => absurd z (by decide), fun _ => ?_⟩) (fun q => ⟨fun _ => ?_, fun z => absurd rfl z⟩)
  · rw [if_pos q] at hp
    exact k_addStep hN q2 (by decide) hp
  · rw [if_neg (by rw [q]; decide)] at hp
    unfold pCmp at hp
    have tail : ∀ (b : Bool) (s2 : PS), Bd k s2 → (Bd k (pAdd (if b then 28 else 29) 0 (pSum k 400 true s2)) → post (PSt N cm (pAdd (if b then 28 else 29) 0 (pSum k 400 true s2)))) → B_X5_atom_124 rq ra rt post N b (PSt N cm s2) := by
      intro b s2 hb hp2
      unfold B_X5_atom_124
      refine k_sum h hN hb (fun q3 => ?_)
      cases b
      · exact ⟨fun _ => k_addStep hN q3 (by decide) hp2, fun z => absurd rfl z⟩
      · exact ⟨fun z => absurd z (by decide), fun _ => k_addStep hN q3 (by decide) hp2⟩
    refine k_sum h hN hs (fun q1 => kP_take h hN q1 (fun q2 q3 => ⟨fun _ => ?_, fun z => absurd z (by decide)⟩) (fun q2 => ⟨fun z => absurd rfl z, fun _ => ?_⟩))
    · simp only [q2, if_true] at hp
      exact tail true _ q3 hp
    · simp only [q2, Bool.false_eq_true, if_false] at hp
      exact kP_demand h hN q1 (fun q3 => tail false _ q3 hp)
theorem k_atom (h : TOK cm k) (hN : 11 ≤ N) {rq ra rt : (CMu → Prop) → Nat → Int32 → CMu → Prop} {d : Nat} {may : Bool} {Q A : PS → PS} (hd : d ≤ 6) (hm : may = decide (d < 6)) (hQ : may = true → kCt N cm k rq (nI (d + 1)) Q) (hA : may = true → kCt N cm k rt (nI (d + 1)) A) : kCt N cm k (wb_X5_atom rq ra rt) (nI d) (pAtom k Q A may) := by
  intro s post hs hp
  unfold wb_X5_atom
  have goal : B_X5_atom_11 rq ra rt post N (nI d) may (PSt N cm s) := by
    unfold B_X5_atom_11
    unfold pAtom at hp
    cases may with
    | false =>
      refine ⟨fun _ => ?_, fun z => absurd rfl z⟩
      simp only [Bool.false_eq_true, false_and, if_false] at hp
      unfold B_X5_atom_45
      exact ⟨fun _ => k_cmp h hN hs hp, fun z => absurd rfl z⟩
    | true =>
      refine ⟨fun z => absurd z (by decide), fun _ => ?_⟩
      simp only [true_and] at hp
      refine kP_take h hN hs (fun q q2 => ⟨fun z => absurd z (by decide), fun _ => ?_⟩) (fun q => ⟨fun _ => ?_, fun z => absurd rfl z⟩)
      · rw [if_pos q] at hp
        rw [nI_1]
        exact hA rfl _ _ q2 (fun q3 => k_addStep hN q3 (by decide) hp)
      · rw [if_neg (by rw [q]; decide)] at hp
        unfold B_X5_atom_45
        refine ⟨fun z => absurd z (by decide), fun _ => ?_⟩
        refine kP_take h hN hs (fun q q2 => ⟨fun z => absurd z (by decide), fun _ => ?_⟩) (fun q => ⟨fun _ => ?_, fun z => absurd rfl z⟩)
        · rw [if_pos q] at hp
          rw [nI_1]
          exact hQ rfl _ _ q2 (fun q3 => kP_demand h hN q3 hp)
        · rw [if_neg (by rw [q]; decide)] at hp
          exact k_cmp h hN hs hp
  refine ⟨fun q => ?_, fun q => ?_⟩
  · rw [fa_lit 6, nI_leI (by omega) (by omega)] at q
    rw [hm, decide_eq_false (by omega)] at goal
    exact goal
  · rw [fa_lit 6, nI_leI (by omega) (by omega)] at q
    rw [hm, decide_eq_true (by omega)] at goal
    exact goal
theorem k_ex (h : TOK cm k) (hN : 11 ≤ N) : ∀ (r d D : Nat), d + r = 6 → 3 * r + 1 ≤ D → kCt N cm k (WG_quest D).2.2 (nI d) (pEx k r) := by
  intro r
  induction r with
  | zero =>
    intro d D hd hD
    obtain ⟨D, rfl⟩ : ∃ D', D = D' + 1 := ⟨D - 1, by omega⟩
    exact k_atom h hN (by omega) (by rw [decide_eq_false (by omega)]) (fun z => absurd z (by decide)) (fun z => absurd z (by decide))
  | succ r ih =>
    intro d D hd hD
    obtain ⟨D, rfl⟩ : ∃ D', D = D' + 3 := ⟨D - 3, by omega⟩
    refine k_atom h hN (by omega) (by rw [decide_eq_true (by omega)]) (fun _ => ?_) (fun _ => ?_)
    · exact k_question h hN (k_allOf h hN (ih (d + 1) D (by omega) (by omega)))
    · exact ih (d + 1) (D + 2) (by omega) (by omega)
theorem k_que (h : TOK cm k) (hN : 11 ≤ N) : kCt N cm k w_X5_question 0 (pQue k (pEx k 6)) := by
  intro s post hs hp
  unfold w_X5_question
  exact k_question h hN (k_allOf h hN (k_ex h hN 6 0 28 rfl (by omega))) s post hs hp
end CQ
