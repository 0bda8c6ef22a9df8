/-! ===== the reference reads a forest's text: a line ===== -/
/-- the tape is read -/
def BYt (mm : MM) (b : Nat → Int32) (len : Nat) : Prop := mm 0 8 = nI len ∧ len ≤ 400 ∧ mm 0 7 = -1 ∧ ∀ i, i < len → mm 4 i = b i
theorem BYt_BY {mm : MM} {b : Nat → Int32} {len : Nat} (h : BYt mm b len) : BY mm b len := ⟨h.1, h.2.1, Or.inl ⟨h.2.2.1, h.2.2.2⟩⟩
theorem BYt_s1 {mm : MM} {b : Nat → Int32} {len : Nat} {M : MR} (h : BYt mm b len) : BYt (s1 mm M) b len := h
section RL
variable {mm : MM} {b : Nat → Int32} {len : Nat} {k : TK}
theorem t_num (hB : BY mm b len) (hT : TKL k (tks b len 0) len) {p t : Nat} {d nu : Int32} (h : Sx k b len p t) {lo hi : Int32} {post : Int32 → MM → Prop} {N : Int32 × PT} (hN : N = pNum k lo hi (t, -1, nu))
    (h1 : N.2 = (N.2.1, -1, nu) → lo ≤ N.1 → N.1 ≤ hi → ∀ p', Sx k b len p' N.2.1 → post N.1 (stR mm (nI p') (-1) d))
    (h0 : ¬ N.2.2.1 = -1 → ∀ p' v, p' ≤ len → post v (stR mm (nI p') N.2.2.1 d)) : w_X13_figures post lo hi (stR mm (nI p) (-1) d) := by
  have hne := fV_ne hT hB.2.1 h
  refine t_fig (nu := nu) hB hT h (fun q p' hs => ?_) (fun q p' v hp' => ?_)
  · have e : N = (tV k t, (t + 1, -1, nu)) := by
      rw [hN]
      unfold pNum
      rw [if_pos q]
      rfl
    have z := of_decide_eq_true q
    have z1 : ¬ tV k t < lo := z.2.2.2.1
    have z2 : ¬ hi < tV k t := z.2.2.2.2
    rw [e] at h1
    rw [fa_lt] at z1 z2
    exact h1 rfl (by rw [fa_le]; show lo.toInt ≤ (tV k t).toInt; omega) (by rw [fa_le]; show (tV k t).toInt ≤ hi.toInt; omega) p' hs
  · have e : N = (lo, (t, fV k t, nu)) := by
      rw [hN]
      unfold pNum
      rw [if_neg (by rw [q]; decide), pRef_f]
    rw [e] at h0
    exact h0 hne p' v hp'
/-- nothing is read behind a fault -/
theorem r_figF {a e d lo hi : Int32} (he : ¬ e = -1) {post : Int32 → MM → Prop} (h : post 0 (stR mm a e d)) : w_X13_figures post lo hi (stR mm a e d) := by
  unfold w_X13_figures
  rw [stR_10]
  exact ⟨fun z => absurd z he, fun _ => h⟩
theorem addM_eq {M : MR} {i : Nat} {len trees : Int32} (hi : 1 ≤ i ∧ i ≤ 11) (hM : (M 1).toNatClampNeg + 1 = i) :
    upd (upd (upd (upd (upd (upd (upd (upd M 1 (nI i)) (10 + 3 * i + 0) len) (10 + 3 * i + 1) 0) (10 + 3 * i + 2) 0) (46 + 4 * i + 0) trees) (46 + 4 * i + 1) 0) (46 + 4 * i + 2) 0) (46 + 4 * i + 3) 0 = addM len trees M := by
  unfold addM
  rw [hM]
  simp only []
  funext x
  by_cases hx : x < 46
  · rw [pk_un (by omega), pk_un (by omega), pk_un (by omega), pk_un (by omega)]
    have hb : upd (upd (upd (upd (upd M 1 (nI i)) (46 + 4 * i + 0) trees) (46 + 4 * i + 1) 0) (46 + 4 * i + 2) 0) (46 + 4 * i + 3) 0 x = upd M 1 (nI i) x := by
      rw [pk_un (by omega), pk_un (by omega), pk_un (by omega), pk_un (by omega)]
    show (if x = 10 + 3 * i + 2 then (0 : Int32) else if x = 10 + 3 * i + 1 then 0 else if x = 10 + 3 * i + 0 then len else upd M 1 (nI i) x) = (if x = 10 + 3 * i + 2 then (0 : Int32) else if x = 10 + 3 * i + 1 then 0 else if x = 10 + 3 * i + 0 then len else upd (upd (upd (upd (upd M 1 (nI i)) (46 + 4 * i + 0) trees) (46 + 4 * i + 1) 0) (46 + 4 * i + 2) 0) (46 + 4 * i + 3) 0 x)
    rw [hb]
  · have hr : upd (upd (upd (upd (upd (upd (upd (upd M 1 (nI i)) (46 + 4 * i + 0) trees) (46 + 4 * i + 1) 0) (46 + 4 * i + 2) 0) (46 + 4 * i + 3) 0) (10 + 3 * i + 0) len) (10 + 3 * i + 1) 0) (10 + 3 * i + 2) 0 x = upd (upd (upd (upd (upd M 1 (nI i)) (46 + 4 * i + 0) trees) (46 + 4 * i + 1) 0) (46 + 4 * i + 2) 0) (46 + 4 * i + 3) 0 x := by
      rw [pk_un (by omega), pk_un (by omega), pk_un (by omega)]
    rw [hr]
    have hb : upd (upd (upd (upd M 1 (nI i)) (10 + 3 * i + 0) len) (10 + 3 * i + 1) 0) (10 + 3 * i + 2) 0 x = upd M 1 (nI i) x := by
      rw [pk_un (by omega), pk_un (by omega), pk_un (by omega)]
    show (if x = 46 + 4 * i + 3 then (0 : Int32) else if x = 46 + 4 * i + 2 then 0 else if x = 46 + 4 * i + 1 then 0 else if x = 46 + 4 * i + 0 then trees else upd (upd (upd (upd M 1 (nI i)) (10 + 3 * i + 0) len) (10 + 3 * i + 1) 0) (10 + 3 * i + 2) 0 x) = (if x = 46 + 4 * i + 3 then (0 : Int32) else if x = 46 + 4 * i + 2 then 0 else if x = 46 + 4 * i + 1 then 0 else if x = 46 + 4 * i + 0 then trees else upd M 1 (nI i) x)
    rw [hb]
theorem r_135s {post : MM → Prop} {f i j : Nat} {tt : Int32} {u : MM} (hi : i ≤ 11) (hj : j < 4) (h : B_X13_forestLine_135 post f tt (nI i) (nI (j + 1)) (s1 u (upd (u 1) (46 + 4 * i + j) (if j = 0 then tt else 0)))) : B_X13_forestLine_135 post (f + 1) tt (nI i) (nI j) u := by
  unfold B_X13_forestLine_135
  have e46 : (46 + (4 * nI i) : Int32) = nI (46 + 4 * i) := by rw [fa_lit 46, fa_lit 4, nI_mul, nI_add]
  rw [e46, nI_add]
  refine ⟨fun q => ?_, fun _ => ⟨fun q => ?_, fun q => ?_⟩⟩
  · rw [fa_lit 4, nI_leI (by omega) (by omega)] at q
    omega
  · rw [fa_lit 0, nI_eq (by omega) (by omega)] at q
    rw [if_neg q] at h
    unfold B_X13_forestLine_165
    rw [nI_clamp (by omega), up2_1, nI_1]
    exact ⟨vp_in_nI (by omega) (by omega), h⟩
  · rw [fa_lit 0, nI_eq (by omega) (by omega)] at q
    rw [if_pos q] at h
    unfold B_X13_forestLine_165
    rw [nI_clamp (by omega), up2_1, nI_1]
    exact ⟨vp_in_nI (by omega) (by omega), h⟩
theorem r_135 {post : MM → Prop} {i : Nat} {tt : Int32} {u : MM} (hi : i ≤ 11) (h : post (s1 u (upd (upd (upd (upd (u 1) (46 + 4 * i + 0) tt) (46 + 4 * i + 1) 0) (46 + 4 * i + 2) 0) (46 + 4 * i + 3) 0))) : B_X13_forestLine_135 post 5 tt (nI i) 0 u := by
  refine r_135s (j := 0) hi (by omega) (r_135s (j := 1) hi (by omega) (r_135s (j := 2) hi (by omega) (r_135s (j := 3) hi (by omega) ?_)))
  unfold B_X13_forestLine_135 B_X13_forestLine_420
  simp only [s1_s1, s1_1, if_true, if_neg (show ¬ (1 : Nat) = 0 by omega), if_neg (show ¬ (2 : Nat) = 0 by omega), if_neg (show ¬ (3 : Nat) = 0 by omega)]
  exact ⟨fun _ => h, fun q => absurd (by decide) q⟩
theorem r_camp (hB : BYt mm b len) (hT : TKL k (tks b len 0) len) {p t n : Nat} {nu : Int32} (hs : Sx k b len p t) (hn : mm 1 1 = nI n) (hn2 : n < 11) {S : PM} (hS : S = lnCamp k ((t, -1, nu), mm 1)) {post : MM → Prop}
    (hok : S.1.2.1 = -1 → ∀ p', Sx k b len p' S.1.1 → post (stR (s1 mm S.2) (nI p') (-1) 0))
    (hbad : ¬ S.1.2.1 = -1 → ∀ p' M' dd, p' ≤ len → M' = mm 1 → post (stR (s1 mm M') (nI p') S.1.2.1 dd)) : B_X13_forestLine_43 post (stR mm (nI p) (-1) 0) := by
  have hBB := BYt_BY hB
  unfold lnCamp at hS
  unfold B_X13_forestLine_43
  refine t_num (nu := nu) hBB hT hs rfl (fun e1 _ _ p1 h1 => ?_) (fun e1 p1 v hp1 => ?_)
  · generalize pNum k 1 20 (t, -1, nu) = N at *
    obtain ⟨v1, t1, x1, y1⟩ := N
    have e1' : (t1, x1, y1) = (t1, -1, nu) := e1
    injection e1' with _ e2
    injection e2 with e3 e4
    subst e3
    subst e4
    simp only [] at hS h1
    refine t_num (nu := y1) hBB hT h1 rfl (fun e5 _ _ p2 h2 => ?_) (fun e5 p2 v hp2 => ?_)
    · generalize pNum k 0 999 (t1, -1, y1) = N2 at *
      obtain ⟨v2, t2, x2, y2⟩ := N2
      have e5' : (t2, x2, y2) = (t2, -1, y1) := e5
      injection e5' with _ e6
      injection e6 with e7 e8
      subst e7
      simp only [if_true] at hS h2
      rw [stR_10]
      refine ⟨fun _ => ?_, fun z => absurd rfl z⟩
      have hv1 : up2 (stR mm (nI p2) (-1) 0) 1 1 (stR mm (nI p2) (-1) 0 1 1 + 1) 1 1 = nI (n + 1) := by
        rw [up2_hit, stR_o (by omega), hn, nI_1]
      have ev : stR mm (nI p2) (-1) 0 1 1 + 1 = nI (n + 1) := by rw [stR_o (by omega), hn, nI_1]
      rw [cl_1, hv1, ev]
      have e10 : (10 + (3 * nI (n + 1)) : Int32) = nI (10 + 3 * (n + 1)) := by rw [fa_lit 10, fa_lit 3, nI_mul, nI_add]
      have c0 : nI (10 + 3 * (n + 1)) + 0 = nI (10 + 3 * (n + 1) + 0) := by rw [fa_lit 0, nI_add]
      have c1 : nI (10 + 3 * (n + 1)) + 1 = nI (10 + 3 * (n + 1) + 1) := by rw [nI_1]
      have c2 : nI (10 + 3 * (n + 1)) + 2 = nI (10 + 3 * (n + 1) + 2) := by rw [fa_lit 2, nI_add]
      rw [e10, c0, c1, c2, nI_clamp (show 10 + 3 * (n + 1) + 0 < 2 ^ 31 by omega), nI_clamp (show 10 + 3 * (n + 1) + 1 < 2 ^ 31 by omega), nI_clamp (show 10 + 3 * (n + 1) + 2 < 2 ^ 31 by omega)]
      refine ⟨vp_in_nI (by omega) (by omega), vp_in_nI (by omega) (by omega), vp_in_nI (by omega) (by omega), 5, r_135 (by omega) ?_⟩
      simp only [up2_1, s1_s1, s1_1]
      rw [stR_1, addM_eq (by omega) (by rw [hn, nI_clamp (by omega)]), s1_st]
      subst hS
      exact hok rfl p2 h2
    · generalize pNum k 0 999 (t1, -1, y1) = N2 at *
      have e9 : S = (N2.2, mm 1) := by
        rw [hS]
        rw [if_neg e5]
      subst e9
      rw [stR_10]
      refine ⟨fun z => absurd z e5, fun _ => ?_⟩
      have := hbad e5 p2 (mm 1) 0 hp2 rfl
      rw [s1_id] at this
      exact this
  · generalize pNum k 1 20 (t, -1, nu) = N at *
    refine r_figF e1 ?_
    rw [stR_10]
    refine ⟨fun z => absurd z e1, fun _ => ?_⟩
    have e2 : (pNum k 0 999 N.2).2 = N.2 := fs_num e1
    simp only [e2] at hS
    rw [if_neg e1] at hS
    subst hS
    have := hbad e1 p1 (mm 1) 0 hp1 rfl
    rw [s1_id] at this
    exact this
/-- an optional number of a reach -/
theorem r_opt (hB : BY mm b len) (hT : TKL k (tks b len 0) len) {p t w : Nat} {nu hi : Int32} (hs : Sx k b len p t) (hw : w < 29) (hl : ltW w = true) (h0i : 0 ≤ hi) {N : Int32 × PT} (hN : N = lnOpt k (wAt w) hi (t, -1, nu)) {P1 : MM → Prop} {P2 : Int32 → MM → Prop}
    (h1 : N.2 = (N.2.1, -1, nu) → ∀ p', Sx k b len p' N.2.1 → (N.1 = 0 → P1 (stR mm (nI p') (-1) 0)) ∧ P2 N.1 (stR mm (nI p') (-1) 0))
    (h0 : ¬ N.2.2.1 = -1 → ∀ p' v, p' ≤ len → P2 v (stR mm (nI p') N.2.2.1 0)) :
    w_X13_has (fun r u => ((r = false) → P1 u) ∧ (¬ (r = false) → w_X13_figures P2 0 hi u)) w (stR mm (nI p) (-1) 0) := by
  unfold lnOpt at hN
  refine t_has (nu := nu) hB hT hs hw hl (fun q p' hs' => ⟨fun z => absurd z (by decide), fun _ => ?_⟩) (fun q p' y => ⟨fun _ => ?_, fun z => absurd rfl z⟩)
  · rw [if_pos q] at hN
    have en : pNx (t, -1, nu) = ((t + 1, -1, nu) : PT) := rfl
    rw [en] at hN
    exact t_num (nu := nu) hB hT hs' hN (fun e1 _ _ p2 h2 => (h1 e1 p2 h2).2) (fun e1 p2 v hp2 => h0 e1 p2 v hp2)
  · rw [if_neg (by rw [q]; decide)] at hN
    subst hN
    exact (h1 rfl p' y.1).1 rfl
theorem r_reach (hB : BYt mm b len) (hT : TKL k (tks b len 0) len) {p t n : Nat} {nu : Int32} (hs : Sx k b len p t) (hn : mm 1 1 = nI n) (hn2 : n ≤ 11) {S : PM} (hS : S = lnReach k ((t, -1, nu), mm 1)) {post : MM → Prop}
    (hok : S.1.2.1 = -1 → ∀ p', Sx k b len p' S.1.1 → post (stR (s1 mm S.2) (nI p') (-1) 0))
    (hbad : ¬ S.1.2.1 = -1 → ∀ p' M' dd, p' ≤ len → M' = mm 1 → post (stR (s1 mm M') (nI p') S.1.2.1 dd)) :
    w_X13_figures (fun (r23 : Int32) (u24 : MM) => w_X13_figures (fun (r25 : Int32) (u26 : MM) => (¬ (u26 0 10) = (-1) → (B_X13_forestLine_231 post r23 r25 u26)) ∧ ((u26 0 10) = (-1) → (w_X13_has (fun (r27 : Bool) (u28 : MM) => ((r27 = false) → (B_X13_forestLine_231 post r23 r25 u28)) ∧ (¬ (r27 = false) → (w_X13_figures (fun (r29 : Int32) (u30 : MM) => B_X13_forestLine_232 post r23 r25 r29 u30) 0 99 u28))) 2 u26))) 1 20 u24) 0 (nI n) (stR mm (nI p) (-1) 0) := by
  have hBB := BYt_BY hB
  unfold lnReach at hS
  rw [show (((t, -1, nu), mm 1) : PM).2 1 = nI n from hn] at hS
  have fin : ∀ (p' : Nat) (e v2 v3 v4 v5 : Int32), ¬ e = -1 → post (stR mm (nI p') e 0) → B_X13_forestLine_262 post v2 v3 v4 v5 (stR mm (nI p') e 0) := by
    intro p' e v2 v3 v4 v5 he hp
    unfold B_X13_forestLine_262
    rw [stR_10]
    exact ⟨fun z => absurd z he, fun _ => hp⟩
  have fin2 : ∀ (p' : Nat) (e v2 v3 v4 : Int32), ¬ e = -1 → post (stR mm (nI p') e 0) → B_X13_forestLine_232 post v2 v3 v4 (stR mm (nI p') e 0) := by
    intro p' e v2 v3 v4 he hp
    unfold B_X13_forestLine_232 B_X13_forestLine_261
    rw [stR_10]
    exact ⟨fun _ => fin _ _ _ _ _ _ he hp, fun z => absurd z he⟩
  have hpost : ∀ (p' : Nat) (e : Int32), S.1.2.1 = e → ¬ e = -1 → p' ≤ len → post (stR mm (nI p') e 0) := by
    intro p' e he hne hp'
    have := hbad (by rw [he]; exact hne) p' (mm 1) 0 hp' rfl
    rw [s1_id, he] at this
    exact this
  have fo : ∀ {w : Fin 32} {hi : Int32} {s : PT}, ¬ s.2.1 = -1 → (lnOpt k w hi s).2 = s := by
    intro w hi s h
    unfold lnOpt
    rw [fs_is h, if_neg (by decide)]
  refine t_num (nu := nu) hBB hT hs rfl (fun e1 lo1 hi1 p1 h1 => ?_) (fun e1 p1 v hp1 => ?_)
  · generalize pNum k 0 (nI n) (t, -1, nu) = N at *
    obtain ⟨v1, t1, x1, y1⟩ := N
    have e1' : (t1, x1, y1) = (t1, -1, nu) := e1
    injection e1' with _ e2
    injection e2 with e3 e4
    subst e3
    subst e4
    simp only [] at hS h1 lo1 hi1
    refine t_num (nu := y1) hBB hT h1 rfl (fun e5 _ _ p2 h2 => ?_) (fun e5 p2 v hp2 => ?_)
    · generalize pNum k 1 20 (t1, -1, y1) = N2 at *
      obtain ⟨v2, t2, x2, y2⟩ := N2
      have e5' : (t2, x2, y2) = (t2, -1, y1) := e5
      injection e5' with _ e6
      injection e6 with e7 e8
      subst e7
      subst e8
      simp only [] at hS h2
      rw [stR_10]
      refine ⟨fun z => absurd rfl z, fun _ => ?_⟩
      have tail : ∀ (v3 : Int32) (p3 t3 : Nat), Sx k b len p3 t3 → lnOpt k 3 99 (t2, -1, y2) = (v3, (t3, -1, y2)) → B_X13_forestLine_232 post v1 v2 v3 (stR mm (nI p3) (-1) 0) := by
        intro v3 p3 t3 hs3 hl3
        rw [hl3] at hS
        simp only [] at hS
        unfold B_X13_forestLine_232
        rw [stR_10]
        refine ⟨fun z => absurd rfl z, fun _ => ?_⟩
        have last : ∀ (v4 : Int32) (p4 t4 : Nat), Sx k b len p4 t4 → lnOpt k 4 9 (t3, -1, y2) = (v4, (t4, -1, y2)) → B_X13_forestLine_262 post v1 v2 v3 v4 (stR mm (nI p4) (-1) 0) := by
          intro v4 p4 t4 hs4 hl4
          rw [hl4] at hS
          simp only [if_true] at hS
          unfold B_X13_forestLine_262 B_X13_forestLine_420
          rw [stR_10]
          refine ⟨fun _ => ?_, fun z => absurd rfl z⟩
          have e0 : (0 : Int32).toInt = 0 := rfl
          obtain ⟨r, hr, rfl⟩ := nI_of (x := v1) (by rw [fa_lt]; rw [fa_le] at lo1; omega)
          rw [fa_le, nI_toInt hr, nI_toInt (by omega)] at hi1
          have e10 : (10 + (3 * nI r) : Int32) = nI (10 + 3 * r) := by rw [fa_lit 10, fa_lit 3, nI_mul, nI_add]
          have c0 : nI (10 + 3 * r) + 0 = nI (10 + 3 * r + 0) := by rw [fa_lit 0, nI_add]
          have c1 : nI (10 + 3 * r) + 1 = nI (10 + 3 * r + 1) := by rw [nI_1]
          have c2 : nI (10 + 3 * r) + 2 = nI (10 + 3 * r + 2) := by rw [fa_lit 2, nI_add]
          rw [e10, c0, c1, c2, nI_clamp (show 10 + 3 * r + 0 < 2 ^ 31 by omega), nI_clamp (show 10 + 3 * r + 1 < 2 ^ 31 by omega), nI_clamp (show 10 + 3 * r + 2 < 2 ^ 31 by omega)]
          refine ⟨vp_in_nI (by omega) (by omega), vp_in_nI (by omega) (by omega), vp_in_nI (by omega) (by omega), ?_⟩
          simp only [up2_1, s1_s1, s1_1]
          rw [stR_1, s1_st]
          rw [nI_clamp hr] at hS
          subst hS
          exact hok rfl p4 hs4
        refine r_opt (nu := y2) hBB hT hs3 (w := 3) (by omega) rfl (by decide) rfl (fun e8 p4 h4 => ?_) (fun e8 p4 v hp4 => ?_)
        · have hl4 : lnOpt k 4 9 (t3, -1, y2) = ((lnOpt k 4 9 (t3, -1, y2)).1, ((lnOpt k 4 9 (t3, -1, y2)).2.1, -1, y2)) := Prod.ext rfl e8
          have l := last _ p4 _ h4 hl4
          refine ⟨fun z => ?_, l⟩
          have z2 : (lnOpt k 4 9 (t3, -1, y2)).1 = 0 := z
          rw [z2] at l
          unfold B_X13_forestLine_261
          exact l
        · have e9 : ¬ (lnOpt k 4 9 (t3, -1, y2)).2.2.1 = -1 := e8
          exact fin _ _ _ _ _ _ e9 (hpost p4 _ (by rw [hS]; rfl) e9 hp4)
      refine r_opt (nu := y2) hBB hT h2 (w := 2) (by omega) rfl (by decide) rfl (fun e8 p3 h3 => ?_) (fun e8 p3 v hp3 => ?_)
      · have hl3 : lnOpt k 3 99 (t2, -1, y2) = ((lnOpt k 3 99 (t2, -1, y2)).1, ((lnOpt k 3 99 (t2, -1, y2)).2.1, -1, y2)) := Prod.ext rfl e8
        have l := tail _ p3 _ h3 hl3
        refine ⟨fun z => ?_, l⟩
        have z2 : (lnOpt k 3 99 (t2, -1, y2)).1 = 0 := z
        rw [z2] at l
        unfold B_X13_forestLine_231
        exact l
      · have e9 : ¬ (lnOpt k 3 99 (t2, -1, y2)).2.2.1 = -1 := e8
        refine fin2 _ _ _ _ _ e9 (hpost p3 _ ?_ e9 hp3)
        rw [hS, fo e9]
        rfl
    · generalize pNum k 1 20 (t1, -1, y1) = N2 at *
      rw [stR_10]
      refine ⟨fun _ => ?_, fun z => absurd z e5⟩
      unfold B_X13_forestLine_231
      refine fin2 _ _ _ _ _ e5 (hpost p2 _ ?_ e5 hp2)
      rw [hS, fo (by rw [fo e5]; exact e5), fo e5]
  · generalize pNum k 0 (nI n) (t, -1, nu) = N at *
    refine r_figF e1 ?_
    rw [stR_10]
    refine ⟨fun _ => ?_, fun z => absurd z e1⟩
    unfold B_X13_forestLine_231
    refine fin2 _ _ _ _ _ e1 (hpost p1 _ ?_ e1 hp1)
    have e2 : (pNum k 1 20 N.2).2 = N.2 := fs_num e1
    simp only [e2] at hS
    rw [fo (by rw [fo e1]; exact e1), fo e1] at hS
    rw [hS]
end RL
