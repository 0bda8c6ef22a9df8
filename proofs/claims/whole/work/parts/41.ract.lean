/-! ===== the reference's acts, read and done ===== -/
/-- an act of a text: its word, its number, its question's steps -/
abbrev PX1 : Type := Fin 32 × Int32 × SL
def pxA : Nat → List PX1 → AL
  | _, [] => []
  | o, x :: r => (x.1, x.2.1, o) :: pxA (o + x.2.2.length) r
def pxS : List PX1 → SL
  | [] => []
  | x :: r => x.2.2 ++ pxS r
theorem pxS_snoc (px : List PX1) (x : PX1) : pxS (px ++ [x]) = pxS px ++ x.2.2 := by
  induction px with
  | nil => show x.2.2 ++ [] = [] ++ x.2.2; simp
  | cons y r ih =>
    show y.2.2 ++ pxS (r ++ [x]) = (y.2.2 ++ pxS r) ++ x.2.2
    rw [ih, List.append_assoc]
theorem pxA_snoc (x : PX1) : ∀ (px : List PX1) (o : Nat), pxA o (px ++ [x]) = pxA o px ++ [(x.1, x.2.1, o + (pxS px).length)] := by
  intro px
  induction px with
  | nil => intro o; rfl
  | cons y r ih =>
    intro o
    show (y.1, y.2.1, o) :: pxA (o + y.2.2.length) (r ++ [x]) = (y.1, y.2.1, o) :: (pxA (o + y.2.2.length) r ++ [(x.1, x.2.1, o + (y.2.2 ++ pxS r).length)])
    rw [ih, List.length_append, Nat.add_assoc]
theorem pxA_len : ∀ (px : List PX1) (o : Nat), (pxA o px).length = px.length := by
  intro px
  induction px with
  | nil => intro o; rfl
  | cons y r ih =>
    intro o
    show (pxA (o + y.2.2.length) r).length + 1 = r.length + 1
    rw [ih]
theorem px_uni : ∀ (px py : List PX1) (o : Nat), pxA o px = pxA o py → pxS px = pxS py → px = py := by
  intro px
  induction px with
  | nil =>
    intro py o h1 _
    cases py with
    | nil => rfl
    | cons y r => exact absurd h1 (by simp [pxA])
  | cons x r ih =>
    intro py o h1 h2
    cases py with
    | nil => exact absurd h1 (by simp [pxA])
    | cons y r2 =>
      have h3 : (x.1, x.2.1, o) :: pxA (o + x.2.2.length) r = (y.1, y.2.1, o) :: pxA (o + y.2.2.length) r2 := h1
      have h4 : x.2.2 ++ pxS r = y.2.2 ++ pxS r2 := h2
      injection h3 with h5 h6
      have hx1 : x.1 = y.1 := congrArg (fun z => z.1) h5
      have hx2 : x.2.1 = y.2.1 := congrArg (fun z => z.2.1) h5
      have hl : x.2.2.length = y.2.2.length := by
        cases r with
        | nil =>
          cases r2 with
          | nil =>
            have := congrArg List.length h4
            simpa [pxS] using this
          | cons z r3 => exact absurd h6 (by simp [pxA])
        | cons w r4 =>
          cases r2 with
          | nil => exact absurd h6 (by simp [pxA])
          | cons z r3 =>
            have h7 : (w.1, w.2.1, o + x.2.2.length) :: pxA (o + x.2.2.length + w.2.2.length) r4 = (z.1, z.2.1, o + y.2.2.length) :: pxA (o + y.2.2.length + z.2.2.length) r3 := h6
            injection h7 with h8 _
            have := congrArg (fun z => z.2.2) h8
            simp only [] at this
            omega
      obtain ⟨h9, h10⟩ := List.append_inj h4 hl
      rw [hl] at h6
      have e := ih r2 _ h6 h10
      rw [e]
      congr 1
      exact Prod.ext hx1 (Prod.ext hx2 h9)
/-- what a question's steps say -/
def qOK (ev : Fin 32 → Int32) (l : SL) : Bool := match runS ev l [] with
  | [] => true
  | v :: _ => decide (¬ v = 0)
def evM (M : MR) (h i : Nat) (w : Fin 32) : Int32 := if 19 ≤ w.val ∧ w.val < 25 then fcM M h i (w.val - 19) else b2 (frostM M)
def exM (h i : Nat) (M : MR) (x : PX1) : MR := if qOK (evM M h i) x.2.2 then xM h x.1 x.2.1 M else M
def exD (D : Bool) (h i : Nat) (M : MR) (x : PX1) : MR := if D then exM h i M x else M
theorem qOK_good {ev : Fin 32 → Int32} {l : SL} {v : Bool} {m : Nat} (h : Good ev l (b2 v) m) : qOK ev l = v := by
  unfold qOK
  rw [(h []).1]
  cases v <;> rfl
theorem evR_s5 {mm : MM} {h i : Nat} {F : MR} (hF : ∀ j, j < 6 → F j = fcM (mm 1) h i j) : evR (s5 mm F) = evM (mm 1) h i := by
  funext w
  unfold evR evM
  rw [s5_o (b := 1) (by omega), s5_5]
  by_cases c : 19 ≤ w.val ∧ w.val < 25
  · rw [if_pos c, if_pos c, hF _ (by omega)]
  · rw [if_neg c, if_neg c]
def AXr (mm mm' : MM) (M' : MR) : Prop := (∀ b, b ≠ 1 → b ≠ 5 → mm' b = mm b) ∧ mm' 1 = M'
def DmA (M : MR) : Prop := ∃ c, M 2 = nI c ∧ c ≤ 60
def DOK (D : Bool) (mm : MM) (h i : Nat) : Prop := mm 0 13 = b2 D ∧ (D = true → mm 0 15 = nI h ∧ mm 0 14 = nI i ∧ 1 ≤ h ∧ h ≤ 11 ∧ i < 60 ∧ DmA (mm 1))
section RAC
variable {mm : MM} {b : Nat → Int32} {len : Nat} {k : TK}
theorem BY_s5 {F : MR} (hB : BY mm b len) : BY (s5 mm F) b len := hB
theorem pIs_ne {w v : Fin 32} {s : PT} (h : pIs k w s = true) (hn : w ≠ v) : pIs k v s = false := by
  have z := of_decide_eq_true h
  exact decide_eq_false (fun y => hn (by rw [← z.2.2, ← y.2.2]))
theorem r_act100 {D : Bool} {h i : Nat} (hB : BY mm b len) (hT : TKL k (tks b len 0) len) (hD : DOK D mm h i) {w : Fin 32} {n : Int32} (hA : AcO w n) {p t : Nat} {nu : Int32} {st : SL} {al : AL} (hs : Sx k b len p t) (hst : st.length ≤ t) {S : PA} (hS : S = if w = 12 then (((t, -1, nu), st), al) else pIf k (((t, -1, nu), st), al)) {post : MM → Prop}
    (hok : ∀ l p' mm', S.1.1.2.1 = -1 → S.1.2 = st ++ l → Sx k b len p' S.1.1.1 → S.1.2.length ≤ S.1.1.1 → AXr mm mm' (exD D h i (mm 1) (w, n, l)) → post (stR mm' (nI p') (-1) 0))
    (hbad : ∀ p' dd mm', ¬ S.1.1.2.1 = -1 → p' ≤ len + 6 → AXr mm mm' (mm 1) → post (stR mm' (nI p') S.1.1.2.1 dd)) : B_X13_act_100 post (wNo w) n (stR mm (nI p) (-1) 0) := by
  obtain ⟨h13, hD⟩ := hD
  unfold B_X13_act_100
  rw [stR_10]
  refine ⟨fun _ => ?_, fun z => absurd rfl z⟩
  have body : ∀ mm1 : MM, BY mm1 b len → mm1 1 = mm 1 → mm1 0 = mm 0 → (∀ b, b ≠ 5 → mm1 b = mm b) → (D = true → evR mm1 = evM (mm 1) h i) →
      ((wNo w = 3 → B_X13_act_135 post (wNo w) n (stR mm1 (nI p) (-1) 0)) ∧ (¬ wNo w = 3 → (w_X13_has (fun (r17 : Bool) (u18 : MM) => ((r17 = false) → (B_X13_act_135 post (wNo w) n u18)) ∧ (¬ (r17 = false) → (w_X13_some (fun (r19 : Bool) (u20 : MM) => ((r19 = false) → (B_X13_act_140 post (wNo w) n false u20)) ∧ (¬ (r19 = false) → (B_X13_act_135 post (wNo w) n u20))) u18))) 12 (stR mm1 (nI p) (-1) 0)))) := by
    intro mm1 hB1 hr1 hr0 hrb hev
    have fin : ∀ (is : Bool) (l : SL) (p2 : Nat), S.1.1.2.1 = -1 → S.1.2 = st ++ l → Sx k b len p2 S.1.1.1 → S.1.2.length ≤ S.1.1.1 → (D = true → is = qOK (evM (mm 1) h i) l) → B_X13_act_140 post (wNo w) n is (stR mm1 (nI p2) (-1) 0) := by
      intro is l p2 h1 h2 h3 h4 h5
      unfold B_X13_act_140 B_X13_act_166
      rw [stR_10, stR_o (by omega), hr0, h13]
      refine ⟨fun z => absurd rfl z, fun _ => ?_⟩
      cases D with
      | false => exact ⟨fun _ => hok l p2 mm1 h1 h2 h3 h4 ⟨fun b hb1 hb5 => hrb b hb5, hr1⟩, fun q => absurd rfl q⟩
      | true =>
        obtain ⟨d15, d14, d1, d2, d3, c, dc, dc2⟩ := hD rfl
        refine ⟨fun q => absurd q (by decide), fun _ => ⟨fun q => ?_, fun q => ?_⟩⟩
        · refine hok l p2 mm1 h1 h2 h3 h4 ⟨fun b hb1 hb5 => hrb b hb5, ?_⟩
          rw [hr1]
          show mm 1 = if qOK (evM (mm 1) h i) l then _ else mm 1
          rw [← h5 rfl, q]
          rfl
        · have g15 : stR mm1 (nI p2) (-1) 0 0 15 = nI h := by
            rw [stR_o (by omega), hr0]
            exact d15
          have g2 : stR mm1 (nI p2) (-1) 0 1 2 = nI c := by
            rw [stR_o (by omega), hr1]
            exact dc
          refine r_acts g15 ⟨d1, d2⟩ g2 dc2 hA ?_
          rw [s1_st]
          refine hok l p2 _ h1 h2 h3 h4 ⟨fun b hb1 hb5 => ?_, ?_⟩
          · rw [s1_o hb1]
            exact hrb b hb5
          · rw [s1_1, stR_1, hr1]
            show _ = if qOK (evM (mm 1) h i) l then xM h w n (mm 1) else mm 1
            have q2 : is = true := by
              cases is
              · exact absurd rfl q
              · rfl
            rw [← h5 rfl, q2]
            rfl
    by_cases hw : w = 12
    · subst hw
      rw [if_pos rfl] at hS
      refine ⟨fun _ => ?_, fun z => absurd (by decide) z⟩
      unfold B_X13_act_135
      rw [hS] at fin
      exact fin true [] p rfl (by simp) hs hst (fun _ => rfl)
    · rw [if_neg hw] at hS
      have hw3 : ¬ wNo w = 3 := by
        rcases hA with ⟨rfl | rfl, _⟩ | rfl | ⟨rfl, _⟩
        · decide
        · decide
        · decide
        · exact absurd rfl hw
      refine ⟨fun z => absurd z hw3, fun _ => ?_⟩
      unfold pIf at hS
      refine t_has (nu := nu) hB1 hT hs (w := 12) (by omega) rfl (fun q p' hs' => ⟨fun z => absurd z (by decide), fun _ => ?_⟩) (fun q p' y => ⟨fun _ => ?_, fun z => absurd rfl z⟩)
      · have q' : pIs k 13 (t, -1, nu) = true := q
        rw [if_pos q'] at hS
        have en : (pNx (t, -1, nu), st) = (((t + 1, -1, nu), st) : PS) := rfl
        simp only [en] at hS
        have h1 := r_que hB1 hT p' (t + 1) nu st
        generalize hY : pQue k (pEx k 6) ((t + 1, -1, nu), st) = Y at hS h1
        subst hS
        refine h1 _ hs' (by omega) (fun v p3 l he hs3 hP hg => ?_) (fun v p3 dd he hp3 => ?_)
        · have h5 : D = true → v = qOK (evM (mm 1) h i) l := by
            intro hd
            rw [hev hd] at hg
            exact (qOK_good hg).symm
          have hl : Y.2.length ≤ Y.1.1 := by
            have := hP.2
            simp only [] at this
            omega
          have f := fin v l p3 he hP.1 hs3 hl h5
          unfold B_X13_act_135
          cases v with
          | false => exact ⟨fun _ => f, fun z => absurd rfl z⟩
          | true => exact ⟨fun z => absurd z (by decide), fun _ => f⟩
        · have f : ∀ is, B_X13_act_140 post (wNo w) n is (stR mm1 (nI p3) Y.1.2.1 dd) := by
            intro is
            unfold B_X13_act_140 B_X13_act_166
            rw [stR_10]
            exact ⟨fun _ => hbad p3 dd mm1 he hp3 ⟨fun b hb1 hb5 => hrb b hb5, hr1⟩, fun z => absurd z he⟩
          unfold B_X13_act_135
          exact ⟨fun _ => f _, fun _ => f _⟩
      · have q' : pIs k 13 (t, -1, nu) = false := q
        rw [if_neg (by rw [q']; decide)] at hS
        unfold B_X13_act_135
        rw [hS] at fin
        exact fin true [] p' rfl (by simp) y.1 hst (fun _ => rfl)
  have h13' : stR mm (nI p) (-1) 0 0 13 = b2 D := by
    rw [stR_o (by omega)]
    exact h13
  refine r_asks (D := D) (h := h) (i := i) h13' (fun hd => ?_) (fun hd => ?_) (fun hd F hF => ?_)
  · obtain ⟨d15, d14, d1, d2, d3, _⟩ := hD hd
    refine ⟨?_, ?_, d2, d3⟩
    · rw [stR_o (by omega)]; exact d15
    · rw [stR_o (by omega)]; exact d14
  · exact body mm hB rfl rfl (fun _ _ => rfl) (fun z => by rw [hd] at z; exact absurd z (by decide))
  · rw [s5_st]
    rw [stR_1] at hF
    exact body (s5 mm F) (BY_s5 hB) rfl rfl (fun b hb => s5_o hb) (fun _ => evR_s5 hF)
theorem pIf_bad {s : PA} (h : ¬ s.1.1.2.1 = -1) : pIf k s = s := by
  unfold pIf
  rw [fs_is h, if_neg (by decide)]
theorem pAct0_ap {w : Fin 32} {n : Int32} {s : PA} (h : s.2.length < 8) : pAct0 w n s = (s.1, s.2 ++ [(w, n, s.1.2.length)]) := by
  unfold pAct0
  rw [if_pos h]
theorem pIf_2 {s : PA} : (pIf k s).2 = s.2 := by
  unfold pIf
  split <;> rfl
theorem r_act {D : Bool} {h i : Nat} (hB : BY mm b len) (hT : TKL k (tks b len 0) len) (hD : DOK D mm h i) {p t : Nat} {nu : Int32} {st : SL} {al : AL} (hs : Sx k b len p t) (hst : st.length ≤ t) (hal : al.length < 8) {post : MM → Prop} {S : PA} (hS : S = pAct k (((t, -1, nu), st), al))
    (hok : ∀ (x : PX1) p' mm', S.1.1.2.1 = -1 → S.1.2 = st ++ x.2.2 → S.2 = al ++ [(x.1, x.2.1, st.length)] → AcO x.1 x.2.1 → Sx k b len p' S.1.1.1 → S.1.2.length ≤ S.1.1.1 → AXr mm mm' (exD D h i (mm 1) x) → post (stR mm' (nI p') (-1) 0))
    (hbad : ∀ p' dd mm', ¬ S.1.1.2.1 = -1 → p' ≤ len + 6 → AXr mm mm' (mm 1) → post (stR mm' (nI p') S.1.1.2.1 dd)) : w_X13_act post (stR mm (nI p) (-1) 0) := by
  have hl2 := hB.2.1
  have hid : AXr mm mm (mm 1) := ⟨fun _ _ _ => rfl, rfl⟩
  -- the number of an act
  have fig : ∀ (w : Fin 32) (lo hi : Int32) (p' : Nat), (pIs k w (t, -1, nu) = true) → (∀ v : Int32, lo.toInt ≤ v.toInt → v.toInt ≤ hi.toInt → AcO w v) → Sx k b len p' (t + 1) →
      S = (if w = 12 then pActN k w lo hi (pAdv (((t, -1, nu), st), al)) else pIf k (pActN k w lo hi (pAdv (((t, -1, nu), st), al)))) →
      w_X13_figures (fun r u => B_X13_act_100 post (wNo w) r u) lo hi (stR mm (nI p') (-1) 0) := by
    intro w lo hi p' hw hAc hs' hS2
    have eN : pActN k w lo hi (pAdv (((t, -1, nu), st), al)) = (((pNum k lo hi (t + 1, -1, nu)).2, st), al ++ [(w, (pNum k lo hi (t + 1, -1, nu)).1, st.length)]) := by
      show pAct0 w (pNum k lo hi (t + 1, -1, nu)).1 (((pNum k lo hi (t + 1, -1, nu)).2, st), al) = _
      rw [pAct0_ap hal]
    rw [eN] at hS2
    refine t_fig (nu := nu) hB hT hs' (fun q p2 hs2 => ?_) (fun q p2 v hp2 => ?_)
    · have z := of_decide_eq_true q
      have en : pNum k lo hi (t + 1, -1, nu) = (tV k (t + 1), (t + 1 + 1, -1, nu)) := by
        unfold pNum
        rw [if_pos q]
        rfl
      rw [en] at hS2
      simp only [] at hS2
      have hA : AcO w (tV k (t + 1)) := by
        have z1 : ¬ tV k (t + 1) < lo := z.2.2.2.1
        have z2 : ¬ hi < tV k (t + 1) := z.2.2.2.2
        rw [fa_lt] at z1 z2
        exact hAc _ (by omega) (by omega)
      have hS3 : S.2 = al ++ [(w, tV k (t + 1), st.length)] := by
        rw [hS2]
        split
        · rfl
        · rw [pIf_2]
      exact r_act100 hB hT hD hA hs2 (by omega) hS2 (fun l p3 mm' e1 e2 e3 e4 e5 => hok (w, tV k (t + 1), l) p3 mm' e1 e2 hS3 hA e3 e4 e5) hbad
    · have hne := fV_ne hT hl2 hs'
      have en : pNum k lo hi (t + 1, -1, nu) = (lo, (t + 1, fV k (t + 1), nu)) := by
        unfold pNum
        rw [if_neg (by rw [q]; decide), pRef_f]
      rw [en] at hS2
      simp only [] at hS2
      have hS3 : S.1.1.2.1 = fV k (t + 1) := by
        rw [hS2]
        split
        · rfl
        · rw [pIf_bad hne]
      unfold B_X13_act_100
      rw [stR_10]
      refine ⟨fun z => absurd z hne, fun _ => ?_⟩
      have := hbad p2 0 mm (by rw [hS3]; exact hne) (by omega) hid
      rw [hS3] at this
      exact this
  have cs : ∀ v : Int32, (1 : Int32).toInt ≤ v.toInt → v.toInt ≤ (999 : Int32).toInt → 1 ≤ v.toInt ∧ v.toInt ≤ 999 := fun v h1 h2 => ⟨h1, h2⟩
  unfold w_X13_act
  refine t_has (nu := nu) hB hT hs (w := 8) (by omega) rfl (fun q p' hs' => ⟨fun z => absurd z (by decide), fun _ => ?_⟩) (fun q8 p1 y1 => ⟨fun _ => ?_, fun z => absurd rfl z⟩)
  · have q' : pIs k 9 (t, -1, nu) = true := q
    unfold B_X13_act_53
    refine ⟨fun _ => ⟨fun z => absurd z (by decide), fun _ => ?_⟩, fun z => absurd z (by decide)⟩
    refine fig 9 1 999 p' q' (fun v h1 h2 => Or.inl ⟨Or.inl rfl, cs v h1 h2⟩) hs' ?_
    rw [hS]
    unfold pAct
    rw [if_neg (by rw [pIs_ne q' (by decide)]; decide), if_pos q', if_neg (by decide)]
  refine t_has (nu := nu) hB hT y1.1 (w := 9) (by omega) rfl (fun q p' hs' => ⟨fun z => absurd z (by decide), fun _ => ?_⟩) (fun q9 p2 y2 => ⟨fun _ => ?_, fun z => absurd rfl z⟩)
  · have q' : pIs k 10 (t, -1, nu) = true := q
    unfold B_X13_act_53
    refine ⟨fun _ => ⟨fun z => absurd z (by decide), fun _ => ?_⟩, fun z => absurd z (by decide)⟩
    refine fig 10 1 999 p' q' (fun v h1 h2 => Or.inl ⟨Or.inr rfl, cs v h1 h2⟩) hs' ?_
    rw [hS]
    unfold pAct
    rw [if_neg (by rw [pIs_ne q' (by decide)]; decide), if_neg (by rw [pIs_ne q' (by decide)]; decide), if_pos q', if_neg (by decide)]
  have q8' : pIs k 9 (t, -1, nu) = false := q8
  have q9' : pIs k 10 (t, -1, nu) = false := q9
  refine t_has (nu := nu) hB hT y2.1 (w := 10) (by omega) rfl (fun q p' hs' => ⟨fun z => absurd z (by decide), fun _ => ?_⟩) (fun q10 p3 y3 => ⟨fun _ => ?_, fun z => absurd rfl z⟩)
  · have q' : pIs k 11 (t, -1, nu) = true := q
    unfold B_X13_act_53
    refine ⟨fun _ => ⟨fun _ => ⟨fun _ => ?_, fun z => absurd z (by decide)⟩, fun z => absurd (by decide) z⟩, fun z => absurd z (by decide)⟩
    have hS2 : S = if (11 : Fin 32) = 12 then (((t + 1, -1, nu), st), al ++ [(11, 0, st.length)]) else pIf k (((t + 1, -1, nu), st), al ++ [(11, 0, st.length)]) := by
      rw [hS]
      unfold pAct
      rw [if_neg (by rw [pIs_ne q' (by decide)]; decide), if_neg (by rw [q8']; decide), if_neg (by rw [q9']; decide), if_neg (by decide)]
      have ed : pDem k 11 (t, -1, nu) = (t + 1, -1, nu) := by
        unfold pDem
        rw [if_pos q']
        rfl
      simp only [ed]
      rw [pAct0_ap hal]
    have hS3 : S.2 = al ++ [(11, 0, st.length)] := by
      rw [hS2, if_neg (by decide), pIf_2]
    exact r_act100 (w := 11) (n := 0) hB hT hD (Or.inr (Or.inl rfl)) hs' (by omega) hS2 (fun l p4 mm' e1 e2 e3 e4 e5 => hok (11, 0, l) p4 mm' e1 e2 hS3 (Or.inr (Or.inl rfl)) e3 e4 e5) hbad
  have q10' : pIs k 11 (t, -1, nu) = false := q10
  refine t_has (nu := nu) hB hT y3.1 (w := 11) (by omega) rfl (fun q p' hs' => ⟨fun z => absurd z (by decide), fun _ => ?_⟩) (fun q11 p4 y4 => ⟨fun _ => ?_, fun z => absurd rfl z⟩)
  · have q' : pIs k 12 (t, -1, nu) = true := q
    unfold B_X13_act_53
    refine ⟨fun _ => ⟨fun _ => ⟨fun z => absurd (by decide) z, fun _ => ?_⟩, fun z => absurd (by decide) z⟩, fun z => absurd z (by decide)⟩
    refine fig 12 0 59 p' q' (fun v h1 h2 => ?_) hs' ?_
    · have e0 : (0 : Int32).toInt = 0 := rfl
      have e59 : (59 : Int32).toInt = 59 := rfl
      obtain ⟨j, hj, rfl⟩ := nI_of (x := v) (by rw [fa_lt]; omega)
      rw [nI_toInt hj] at h2
      exact Or.inr (Or.inr ⟨rfl, j, rfl, by omega⟩)
    · rw [hS]
      unfold pAct
      rw [if_pos q', if_pos rfl]
  · have q11' : pIs k 12 (t, -1, nu) = false := q11
    unfold B_X13_act_53
    refine ⟨fun z => absurd rfl z, fun _ => r_wrong ?_⟩
    have hne := fV_ne hT hl2 hs
    have hS3 : S.1.1.2.1 = fV k t := by
      rw [hS]
      unfold pAct
      rw [if_neg (by rw [q11']; decide), if_neg (by rw [q8']; decide), if_neg (by rw [q9']; decide)]
      have ed : pDem k 11 (t, -1, nu) = (t, fV k t, nu) := by
        unfold pDem
        rw [if_neg (by rw [q10']; decide), pRef_f]
      simp only [ed]
      rw [pAct0_ap hal, pIf_bad hne]
    have e4 : nI p4 = fV k t := y4.2
    rw [if_pos rfl, stR_9, e4]
    have := hbad p4 0 mm (by rw [hS3]; exact hne) (by have := y4.1.2.1; omega) hid
    rw [hS3, ← e4] at this
    rw [← e4]
    exact this
end RAC
