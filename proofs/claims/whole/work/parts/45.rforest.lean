/-! ===== the reference reads a forest's text ===== -/
def zL (k : TK) : Nat → PM → PM
  | 0, s => (pRef k s.1, s.2)
  | f + 1, s => if pIs k 16 (pLine k s).1 then zL k f (pmNx (pLine k s)) else if (pLine k s).1.1 < tN k then (pRef k (pLine k s).1, (pLine k s).2) else pLine k s
theorem zL_eq (k : TK) : ∀ (f : Nat) (s : PM), zL k (f + 1) s = (pEnd k (pLines k f (pLine k s)).1, (pLines k f (pLine k s)).2) := by
  intro f
  induction f with
  | zero =>
    intro s
    show (if pIs k 16 (pLine k s).1 then (pRef k (pmNx (pLine k s)).1, (pmNx (pLine k s)).2) else _) = (pEnd k (pLine k s).1, (pLine k s).2)
    unfold pEnd
    by_cases q : pIs k 16 (pLine k s).1 = true
    · rw [if_pos q, if_pos q]
      rfl
    · rw [if_neg q, if_neg q]
      by_cases q2 : (pLine k s).1.1 < tN k
      · rw [if_pos q2, if_pos q2]
      · rw [if_neg q2, if_neg q2]
  | succ f ih =>
    intro s
    have e : zL k (f + 1 + 1) s = if pIs k 16 (pLine k s).1 then zL k (f + 1) (pmNx (pLine k s)) else if (pLine k s).1.1 < tN k then (pRef k (pLine k s).1, (pLine k s).2) else pLine k s := rfl
    have e2 : pLines k (f + 1) (pLine k s) = if pIs k 16 (pLine k s).1 then pLines k f (pLine k (pmNx (pLine k s))) else pLine k s := rfl
    rw [e, e2]
    by_cases q : pIs k 16 (pLine k s).1 = true
    · rw [if_pos q, if_pos q, ih]
    · rw [if_neg q, if_neg q]
      unfold pEnd
      rw [if_neg q]
      by_cases q2 : (pLine k s).1.1 < tN k
      · rw [if_pos q2, if_pos q2]
      · rw [if_neg q2, if_neg q2]
/-- the row's head: how many camps, how many chips -/
def HdM (M : MR) : Prop := ∃ n c, M 1 = nI n ∧ n ≤ 11 ∧ M 2 = nI c ∧ c ≤ 60
theorem pLine_hd {k : TK} {s : PM} (h : HdM s.2) : HdM (pLine k s).2 ∧ ∀ x, (x = 0 ∨ 1530 ≤ x) → (pLine k s).2 x = s.2 x := by
  obtain ⟨n, c, h1, h2, h3, h4⟩ := h
  unfold pLine
  have keep : ∀ {x : Nat} {v : Int32} {M : MR}, HdM M → 3 ≤ x → HdM (upd M x v) := by
    intro x v M ⟨n, c, a1, a2, a3, a4⟩ hx
    exact ⟨n, c, by rw [pk_un (by omega), a1], a2, by rw [pk_un (by omega), a3], a4⟩
  by_cases q : (¬ 11 ≤ s.2 1 ∧ s.2 2 = 0) ∧ pIs k 1 s.1 = true
  · rw [if_pos q]
    have hn : n < 11 := by
      have := q.1.1
      rw [h1, fa_lit 11, nI_leI (by omega) (by omega)] at this
      omega
    unfold lnCamp
    simp only []
    split
    · show HdM (addM _ _ s.2) ∧ _
      unfold addM
      simp only []
      rw [h1, nI_clamp (by omega)]
      refine ⟨⟨n + 1, c, ?_, by omega, ?_, h4⟩, fun x hx => ?_⟩
      · rw [pk_un (by omega), pk_un (by omega), pk_un (by omega), pk_un (by omega), pk_un (by omega), pk_un (by omega), pk_un (by omega)]
        exact if_pos rfl
      · rw [pk_un (by omega), pk_un (by omega), pk_un (by omega), pk_un (by omega), pk_un (by omega), pk_un (by omega), pk_un (by omega), pk_un (by omega)]
        exact h3
      · have hc1 : ((pmNx s).2 1).toNatClampNeg = n := by rw [show (pmNx s).2 1 = nI n from h1]; exact nI_clamp (by omega)
        rw [pk_un (by omega), pk_un (by omega), pk_un (by omega), pk_un (by omega), pk_un (by omega), pk_un (by omega), pk_un (by omega), pk_un (by omega)]
        rfl
    · exact ⟨⟨n, c, h1, h2, h3, h4⟩, fun _ _ => rfl⟩
  rw [if_neg q]
  have hd : HdM s.2 := ⟨n, c, h1, h2, h3, h4⟩
  by_cases q2 : pIs k 2 s.1 = true
  · rw [if_pos q2]
    unfold lnReach
    simp only []
    have hr := pNum_in (k := k) (lo := 0) (hi := s.2 1) (s := pNx s.1) (by rw [h1]; exact nI_pos' (by omega))
    have hr2 : (pNum k 0 (s.2 1) (pNx s.1)).1.toNatClampNeg ≤ 11 := by
      rw [h1] at hr ⊢
      obtain ⟨j, hj, ej⟩ := nI_of2 (x := (pNum k 0 (nI n) (pNx s.1)).1) (M := nI n) (nI_toInt (by omega)) (by
        have := hr.1
        rw [fa_le] at this
        rw [fa_lt]
        omega) hr.2
      rw [ej, nI_clamp (by omega)]
      omega
    show HdM (if _ then _ else s.2) ∧ _
    split
    · refine ⟨keep (keep (keep hd (by omega)) (by omega)) (by omega), fun x hx => ?_⟩
      show upd (upd (upd s.2 (10 + 3 * (pNum k 0 (s.2 1) (pNx s.1)).1.toNatClampNeg + 0) _) (10 + 3 * (pNum k 0 (s.2 1) (pNx s.1)).1.toNatClampNeg + 1) _) (10 + 3 * (pNum k 0 (s.2 1) (pNx s.1)).1.toNatClampNeg + 2) _ x = _
      rw [pk_un (by omega), pk_un (by omega), pk_un (by omega)]
    · exact ⟨hd, fun _ _ => rfl⟩
  rw [if_neg q2]
  by_cases q3 : pIs k 22 s.1 = true
  · rw [if_pos q3]
    exact ⟨keep hd (by omega), fun x hx => pk_un (by omega)⟩
  rw [if_neg q3]
  by_cases q4 : pIs k 15 s.1 = true
  · rw [if_pos q4]
    exact ⟨keep (keep hd (by omega)) (by omega), fun x hx => (pk_un (by omega)).trans (pk_un (by omega))⟩
  rw [if_neg q4]
  by_cases q5 : pIs k 5 s.1 = true
  · rw [if_pos q5]
    exact ⟨keep hd (by omega), fun x hx => pk_un (by omega)⟩
  rw [if_neg q5]
  exact ⟨hd, fun _ _ => rfl⟩
def HiE (M M' : MR) : Prop := ∀ x, (x = 0 ∨ 1530 ≤ x) → M' x = M x
section RFO
variable {mm : MM} {b : Nat → Int32} {len : Nat} {k : TK}
theorem up2_s1st {M : MR} {a e d : Int32} {j : Nat} {v : Int32} : up2 (stR (s1 mm M) a e d) 1 j v = stR (s1 mm (upd M j v)) a e d := by
  rw [up2_1, stR_1, s1_1, s1_st, s1_s1]
theorem up2_st1 {a e d : Int32} {j : Nat} {v : Int32} : up2 (stR mm a e d) 1 j v = stR (s1 mm (upd (mm 1) j v)) a e d := by
  rw [up2_1, stR_1, s1_st]
theorem r_line (hB : BYt mm b len) (hT : TKL k (tks b len 0) len) {p t : Nat} {nu : Int32} (hs : Sx k b len p t) (hd : HdM (mm 1)) {S : PM} (hS : S = pLine k ((t, -1, nu), mm 1)) {post : MM → Prop}
    (hok : S.1.2.1 = -1 → ∀ p', Sx k b len p' S.1.1 → post (stR (s1 mm S.2) (nI p') (-1) 0))
    (hbad : ¬ S.1.2.1 = -1 → ∀ p' M' dd, p' ≤ len → HiE (mm 1) M' → post (stR (s1 mm M') (nI p') S.1.2.1 dd)) : w_X13_forestLine post (stR mm (nI p) (-1) 0) := by
  have hBB := BYt_BY hB
  have hl2 := hBB.2.1
  obtain ⟨n, c, h1, h2, h3, h4⟩ := hd
  have hne := fV_ne hT hl2 hs
  unfold pLine at hS
  have eM : (((t, -1, nu), mm 1) : PM).2 = mm 1 := rfl
  have eP : (((t, -1, nu), mm 1) : PM).1 = (t, -1, nu) := rfl
  have eN : pmNx (((t, -1, nu), mm 1) : PM) = (((t + 1, -1, nu), mm 1) : PM) := rfl
  rw [eM, eP, eN] at hS
  have hself : HiE (mm 1) (mm 1) := fun _ _ => rfl
  have hhi : ∀ {x : Nat} {v : Int32} {M : MR}, HiE (mm 1) M → 1 ≤ x ∧ x < 1530 → HiE (mm 1) (upd M x v) := by
    intro x v M h hx y hy
    rw [pk_un (by omega)]
    exact h y hy
  unfold w_X13_forestLine
  refine t_skip hBB hT hs (fun p0 y0 => ?_)
  have e0 : nI p0 = fV k t := y0.2
  refine t_has (nu := nu) hBB hT y0.1 (w := 0) (by omega) rfl (fun q p' hs' => ⟨fun z => absurd z (by decide), fun _ => ?_⟩) (fun q1 p1 y1 => ⟨fun _ => ?_, fun z => absurd rfl z⟩)
  · have q' : pIs k 1 (t, -1, nu) = true := q
    have f38 : ¬ ((¬ 11 ≤ mm 1 1 ∧ mm 1 2 = 0) ∧ pIs k 1 (t, -1, nu) = true) → B_X13_forestLine_38 post (stR mm (nI p0) (-1) 0 0 9) (stR mm (nI p') (-1) 0) := by
      intro hng
      rw [if_neg hng, if_neg (by rw [pIs_ne q' (by decide)]; decide), if_neg (by rw [pIs_ne q' (by decide)]; decide), if_neg (by rw [pIs_ne q' (by decide)]; decide), if_neg (by rw [pIs_ne q' (by decide)]; decide), pRef_f] at hS
      unfold B_X13_forestLine_38
      refine r_wrong ?_
      rw [if_pos rfl, stR_9, e0]
      unfold B_X13_forestLine_43
      refine r_figF hne (r_figF hne ?_)
      rw [stR_10]
      refine ⟨fun z => absurd z hne, fun _ => ?_⟩
      subst hS
      have := hbad hne p' (mm 1) 0 hs'.2.1 hself
      rw [s1_id] at this
      exact this
    rw [cl_1, cl_2]
    have g1 : stR mm (nI p') (-1) 0 1 1 = nI n := by rw [stR_o (by omega), h1]
    have g2 : stR mm (nI p') (-1) 0 1 2 = nI c := by rw [stR_o (by omega), h3]
    rw [g1, g2]
    refine ⟨fun z => f38 (fun y => y.1.1 (by rw [h1, z]; decide)), fun z => ⟨fun z2 => ?_, fun z2 => f38 (fun y => z2 (by rw [← h3, y.1.2]; decide))⟩⟩
    have hn11 : n < 11 := by
      have : n ≠ 11 := fun e => z (by rw [e]; rfl)
      omega
    have hc0 : c = 0 := by
      rw [fa_lit 0, nI_leI (by omega) (by omega)] at z2
      omega
    have hg : (¬ 11 ≤ mm 1 1 ∧ mm 1 2 = 0) ∧ pIs k 1 (t, -1, nu) = true := by
      refine ⟨⟨?_, ?_⟩, q'⟩
      · rw [h1, fa_lit 11, nI_leI (by omega) (by omega)]
        omega
      · rw [h3, hc0]
        rfl
    rw [if_pos hg] at hS
    exact r_camp hB hT hs' h1 hn11 hS hok (fun z3 p2 M' dd hp2 hm => hbad z3 p2 M' dd hp2 (by rw [hm]; exact hself))
  have q1' : pIs k 1 (t, -1, nu) = false := q1
  rw [if_neg (fun y => by rw [q1'] at y; exact absurd y.2 (by decide))] at hS
  refine t_has (nu := nu) hBB hT y1.1 (w := 1) (by omega) rfl (fun q p' hs' => ⟨fun z => absurd z (by decide), fun _ => ?_⟩) (fun q2 p2 y2 => ⟨fun _ => ?_, fun z => absurd rfl z⟩)
  · have q' : pIs k 2 (t, -1, nu) = true := q
    rw [if_pos q'] at hS
    have g1 : stR mm (nI p') (-1) 0 1 (Int32.toNatClampNeg 1) = nI n := by rw [cl_1, stR_o (by omega), h1]
    rw [g1]
    exact r_reach hB hT hs' h1 h2 hS hok (fun z3 p2 M' dd hp2 hm => hbad z3 p2 M' dd hp2 (by rw [hm]; exact hself))
  have q2' : pIs k 2 (t, -1, nu) = false := q2
  rw [if_neg (by rw [q2']; decide)] at hS
  -- one number
  have one : ∀ (lo hi : Int32) (x : Nat) (p' : Nat), 1 ≤ x ∧ x < 1530 → Sx k b len p' (t + 1) → S = lnNum k lo hi x ((t + 1, -1, nu), mm 1) → ∀ xx : Int32, xx.toNatClampNeg = x → w_X13_figures (fun r u => B_X13_forestLine_420 post (up2 u 1 (Int32.toNatClampNeg xx) r)) lo hi (stR mm (nI p') (-1) 0) := by
    intro lo hi x p' hx hs' hS2 xx hxx
    have hS3 : S = ((pNum k lo hi (t + 1, -1, nu)).2, upd (mm 1) x (pNum k lo hi (t + 1, -1, nu)).1) := hS2
    subst hS3
    rw [hxx]
    unfold B_X13_forestLine_420
    refine t_num (nu := nu) hBB hT hs' rfl (fun e1 _ _ p3 g3 => ?_) (fun e1 p3 v hp3 => ?_)
    · rw [up2_st1]
      have e2 : (pNum k lo hi (t + 1, -1, nu)).2.2.1 = -1 := by rw [e1]
      exact hok e2 p3 g3
    · rw [up2_st1]
      exact hbad e1 p3 _ 0 hp3 (hhi hself hx)
  refine t_has (nu := nu) hBB hT y2.1 (w := 21) (by omega) rfl (fun q p' hs' => ⟨fun z => absurd z (by decide), fun _ => ?_⟩) (fun q3 p3 y3 => ⟨fun _ => ?_, fun z => absurd rfl z⟩)
  · have q' : pIs k 22 (t, -1, nu) = true := q
    rw [if_pos q'] at hS
    exact one 1 9 5 p' (by omega) hs' hS 5 cl_5
  have q3' : pIs k 22 (t, -1, nu) = false := q3
  rw [if_neg (by rw [q3']; decide)] at hS
  refine t_has (nu := nu) hBB hT y3.1 (w := 14) (by omega) rfl (fun q p' hs' => ⟨fun z => absurd z (by decide), fun _ => ?_⟩) (fun q4 p4 y4 => ⟨fun _ => ?_, fun z => absurd rfl z⟩)
  · have q' : pIs k 15 (t, -1, nu) = true := q
    rw [if_pos q'] at hS
    have hS3 : S = ((pNum k 0 23 (pNum k 0 23 (t + 1, -1, nu)).2).2, upd (upd (mm 1) 6 (pNum k 0 23 (t + 1, -1, nu)).1) 7 (pNum k 0 23 (pNum k 0 23 (t + 1, -1, nu)).2).1) := hS
    clear hS
    rw [cl_6, cl_7]
    unfold B_X13_forestLine_420
    refine t_num (nu := nu) hBB hT hs' rfl (fun e1 _ _ p5 g5 => ?_) (fun e1 p5 v hp5 => ?_)
    · generalize pNum k 0 23 (t + 1, -1, nu) = N at *
      obtain ⟨v1, t1, x1, z1⟩ := N
      have e1' : (t1, x1, z1) = (t1, -1, nu) := e1
      injection e1' with _ e2
      injection e2 with e3 e4
      subst e3
      subst e4
      simp only [] at hS3 g5
      rw [up2_st1]
      refine t_num (nu := z1) (mm := s1 mm _) (BYt_BY (BYt_s1 hB)) hT g5 rfl (fun e5 _ _ p6 g6 => ?_) (fun e5 p6 v hp6 => ?_)
      · rw [up2_s1st]
        subst hS3
        have e6 : (pNum k 0 23 (t1, -1, z1)).2.2.1 = -1 := by rw [e5]
        exact hok e6 p6 g6
      · rw [up2_s1st]
        subst hS3
        exact hbad e5 p6 _ 0 hp6 (hhi (hhi hself (by omega)) (by omega))
    · generalize pNum k 0 23 (t + 1, -1, nu) = N at *
      rw [up2_st1]
      refine r_figF e1 ?_
      rw [up2_s1st]
      have e2 : (pNum k 0 23 N.2).2 = N.2 := fs_num e1
      have e3 : S.1.2.1 = N.2.2.1 := by rw [hS3, e2]
      have := hbad (by rw [e3]; exact e1) p5 (upd (upd (mm 1) 6 v) 7 0) 0 hp5 (hhi (hhi hself (by omega)) (by omega))
      rw [e3] at this
      exact this
  have q4' : pIs k 15 (t, -1, nu) = false := q4
  rw [if_neg (by rw [q4']; decide)] at hS
  refine t_has (nu := nu) hBB hT y4.1 (w := 4) (by omega) rfl (fun q p' hs' => ⟨fun z => absurd z (by decide), fun _ => ?_⟩) (fun q5 p5 y5 => ⟨fun _ => ?_, fun z => absurd rfl z⟩)
  · have q' : pIs k 5 (t, -1, nu) = true := q
    rw [if_pos q'] at hS
    exact one 0 999 8 p' (by omega) hs' hS 8 cl_8
  · have q5' : pIs k 5 (t, -1, nu) = false := q5
    rw [if_neg (by rw [q5']; decide), pRef_f] at hS
    refine r_wrong ?_
    have e4 : nI p5 = fV k t := y5.2
    rw [if_pos rfl, stR_9, e4]
    unfold B_X13_forestLine_420
    subst hS
    have := hbad hne p5 (mm 1) 0 y5.1.2.1 hself
    rw [s1_id] at this
    rw [← e4] at this ⊢
    exact this
theorem r_lines (hT : TKL k (tks b len 0) len) {post : Int32 → MM → Prop} : ∀ (f j : Nat) (mm : MM) (p t : Nat) (nu : Int32), j + f = 14 → BYt mm b len → Sx k b len p t → HdM (mm 1) → ∀ E : PM, E = zL k f ((t, -1, nu), mm 1) →
    (E.1.2.1 = -1 → HdM E.2 → HiE (mm 1) E.2 → ∀ a, B_X13_forest_155 post (stR (s1 mm E.2) a (-1) 0)) →
    (¬ E.1.2.1 = -1 → ∀ a M' dd, HiE (mm 1) M' → B_X13_forest_155 post (stR (s1 mm M') a E.1.2.1 dd)) →
    B_X13_forest_54 post (f + 2) true (nI j) (stR mm (nI p) (-1) 0) := by
  intro f
  induction f with
  | zero =>
    intro j mm p t nu hj hB hs hd E hE hok hbad
    have hBB := BYt_BY hB
    have hl2 := hBB.2.1
    have ej : j = 14 := by omega
    have hne := fV_ne hT hl2 hs
    have eE : E = ((t, fV k t, nu), mm 1) := by
      rw [hE]
      show (pRef k (t, -1, nu), mm 1) = _
      rw [pRef_f]
    subst eE
    unfold B_X13_forest_54
    rw [stR_10]
    refine ⟨fun z => absurd z (by decide), fun _ => ⟨fun z => absurd rfl z, fun _ => t_skip hBB hT hs (fun p0 y0 => ⟨fun z => absurd (by rw [ej]; rfl) z, fun _ => r_wrong ?_⟩)⟩⟩
    have e0 : nI p0 = fV k t := y0.2
    rw [if_pos rfl, stR_9]
    unfold B_X13_forest_91
    have := y0.1.2.1
    refine r_skip hBB (by omega) ?_
    rw [stR_10]
    rw [← e0] at hne
    refine ⟨fun _ => ?_, fun z => absurd z hne⟩
    unfold B_X13_forest_117 B_X13_forest_54
    refine ⟨fun _ => ?_, fun z => absurd rfl z⟩
    have := hbad (by rw [← e0]; exact hne) (nI (skp b len p0)) (mm 1) 0 (fun _ _ => rfl)
    rw [s1_id, ← e0] at this
    exact this
  | succ f ih =>
    intro j mm p t nu hj hB hs hd E hE hok hbad
    have hBB := BYt_BY hB
    have hl2 := hBB.2.1
    have hE2 : E = if pIs k 16 (pLine k ((t, -1, nu), mm 1)).1 then zL k f (pmNx (pLine k ((t, -1, nu), mm 1))) else if (pLine k ((t, -1, nu), mm 1)).1.1 < tN k then (pRef k (pLine k ((t, -1, nu), mm 1)).1, (pLine k ((t, -1, nu), mm 1)).2) else pLine k ((t, -1, nu), mm 1) := hE
    clear hE
    have hhd := pLine_hd (k := k) (s := ((t, -1, nu), mm 1)) hd
    unfold B_X13_forest_54
    rw [stR_10]
    refine ⟨fun z => absurd z (by decide), fun _ => ⟨fun z => absurd rfl z, fun _ => t_skip hBB hT hs (fun p0 y0 => ⟨fun _ => ?_, fun z => absurd z ?_⟩)⟩⟩
    · refine r_line (nu := nu) hB hT y0.1 hd rfl (fun e1 p1 s1' => ?_) (fun e1 p1 M' dd hp1 hM' => ?_)
      · generalize pLine k ((t, -1, nu), mm 1) = S at *
        obtain ⟨⟨t1, x1, nu1⟩, M1⟩ := S
        have e1' : x1 = -1 := e1
        subst e1'
        simp only [] at s1' hE2 hhd
        have hB1 : BYt (s1 mm M1) b len := BYt_s1 hB
        have hBB1 := BYt_BY hB1
        have h8 : ∀ a e : Int32, stR (s1 mm M1) a e 0 0 8 = nI len := fun a e => by rw [stR_o (by omega)]; exact hBB1.1
        have hl3 := s1'.2.1
        obtain ⟨k1, k2, k3⟩ := Sx_skp hT s1'
        unfold B_X13_forest_91
        refine r_skip hBB1 (by omega) ?_
        generalize skp b len p1 = q at *
        have hq := k1.1.2.1
        rw [stR_10, stR_9, h8]
        refine ⟨fun z => absurd rfl z, fun _ => ⟨fun g => ?_, fun g => ?_⟩⟩
        · rw [nI_eq (by omega) (by omega)] at g
          have htl : t1 < tN k := k2.mp (by omega)
          refine t_sign (nu := nu1) hBB1 hT k1.1 (w := 15) (by omega) rfl rfl (fun q2 p3 hp3 hs3 => ⟨fun z => absurd z (by decide), fun _ => ?_⟩) (fun q2 p3 y3 => ⟨fun _ => ?_, fun z => absurd rfl z⟩)
          · have q2' : pIs k 16 (t1, -1, nu1) = true := q2
            rw [if_pos q2'] at hE2
            rw [stR_9, nI_1, stR_u9, nI_1]
            refine ih (j + 1) (s1 mm M1) (p3 + 1) (t1 + 1) nu1 (by omega) hB1 hs3 hhd.1 E hE2 (fun e5 h5 h6 a => ?_) (fun e5 a M' dd h6 => ?_)
            · rw [s1_s1]
              exact hok e5 h5 (fun x hx => by rw [h6 x hx]; exact hhd.2 x hx) a
            · rw [s1_s1]
              exact hbad e5 a M' dd (fun x hx => by rw [h6 x hx]; exact hhd.2 x hx)
          · have q2' : pIs k 16 (t1, -1, nu1) = false := q2
            rw [if_neg (by rw [q2']; decide), if_pos htl, pRef_f] at hE2
            refine r_wrong ?_
            have e4 : nI p3 = fV k t1 := y3.2
            have hne1 := fV_ne hT hl2 s1'
            rw [if_pos rfl, stR_9, e4]
            unfold B_X13_forest_54
            rw [stR_10]
            refine ⟨fun z => absurd z (by decide), fun _ => ⟨fun _ => ?_, fun z => absurd z hne1⟩⟩
            subst hE2
            exact hbad hne1 _ M1 0 hhd.2
        · rw [nI_eq (by omega) (by omega)] at g
          have htl : ¬ t1 < tN k := fun z => by have := k2.mpr z; omega
          have q2' : pIs k 16 (t1, -1, nu1) = false := decide_eq_false (fun z => htl z.2.1)
          rw [if_neg (by rw [q2']; decide), if_neg htl] at hE2
          unfold B_X13_forest_117 B_X13_forest_54
          refine ⟨fun _ => ?_, fun z => absurd rfl z⟩
          subst hE2
          exact hok rfl hhd.1 hhd.2 _
      · generalize pLine k ((t, -1, nu), mm 1) = S at *
        rw [fs_is e1, if_neg (by decide)] at hE2
        have eE : E.1.2.1 = S.1.2.1 := by
          rw [hE2, fs_ref e1]
          split <;> rfl
        have hBB1 := BYt_BY (BYt_s1 (M := M') hB)
        unfold B_X13_forest_91
        refine r_skip hBB1 (by omega) ?_
        rw [stR_10]
        refine ⟨fun _ => ?_, fun z => absurd z e1⟩
        unfold B_X13_forest_117 B_X13_forest_54
        refine ⟨fun _ => ?_, fun z => absurd rfl z⟩
        have := hbad (by rw [eE]; exact e1) (nI (skp b len p1)) M' dd hM'
        rw [eE] at this
        exact this
    · rw [fa_lit 14, nI_eq (by omega) (by omega)]
      omega
end RFO
