/-! ===== the reference's forest, chip's text, and a chip's reading ===== -/
def cpR (n : Nat) (A B : MR) : MR := fun x => if x < n then A x else B x
theorem cpR_s {n : Nat} {A B : MR} : upd (cpR n A B) n (A n) = cpR (n + 1) A B := by
  funext x
  unfold upd cpR
  by_cases c : x = n
  · rw [if_pos c, if_pos (by omega), c]
  · rw [if_neg c]
    by_cases c2 : x < n
    · rw [if_pos c2, if_pos (by omega)]
    · rw [if_neg c2, if_neg (by omega)]
theorem cpR_0 {A B : MR} : cpR 0 A B = B := by
  funext x
  exact if_neg (by omega)
def s3 (mm : MM) (F : MR) : MM := fun b => if b = 3 then F else mm b
theorem up2_3 {mm : MM} {F : MR} {j : Nat} {v : Int32} : up2 (s3 mm F) 3 j v = s3 mm (upd F j v) := by
  funext b i
  unfold up2 s3 upd
  by_cases q : b = 3
  · rw [if_pos q, if_pos q]
    by_cases q2 : i = j
    · rw [if_pos ⟨q, q2⟩, if_pos q2]
    · rw [if_neg (fun z => q2 z.2), if_neg q2]
  · rw [if_neg (fun z => q z.1), if_neg q, if_neg q]
theorem s3_id {mm : MM} : s3 mm (mm 3) = mm := by
  funext b
  unfold s3
  by_cases q : b = 3
  · rw [if_pos q, q]
  · rw [if_neg q]
def bgM (mm : MM) : MM := fun b i => if b = 0 ∧ i = 7 then -1 else if b = 0 ∧ i = 8 then mm 0 6 else if b = 0 ∧ i = 6 then 0 else mm b i
section RTX
variable {mm : MM} {len : Nat} {k : TK}
theorem r_begins {post : MM → Prop} (h : post (stR (bgM mm) 0 (-1) 0)) : w_X13_begins post mm := by
  unfold w_X13_begins
  refine Eq.mp (congrArg post ?_) h
  funext b i
  by_cases hb : b = 0
  · subst hb
    by_cases h11 : i = 11
    · subst h11; rfl
    by_cases h9 : i = 9
    · subst h9; rfl
    by_cases h10 : i = 10
    · subst h10; rfl
    by_cases h6 : i = 6
    · subst h6; rfl
    by_cases h7 : i = 7
    · subst h7; rfl
    by_cases h8 : i = 8
    · subst h8; rfl
    unfold stR bgM up2
    simp only [h11, h9, h10, h6, h7, h8, and_false, if_false]
  · unfold stR bgM up2
    simp only [hb, false_and, if_false]
theorem r_196 {post : Int32 → MM → Prop} {u : MM} {M' : MR} (h : post 0 (s1 u (cpR 1530 (u 3) M'))) : ∀ f j, j + f = 1530 → B_X13_forest_196 post (f + 1) (nI j) (s1 u (cpR j (u 3) M')) := by
  intro f
  induction f with
  | zero =>
    intro j hj
    have e : j = 1530 := by omega
    subst e
    unfold B_X13_forest_196
    exact ⟨fun _ => h, fun q => absurd (nI_le (a := 1530) (b := 1530) (by omega) (by omega)) q⟩
  | succ f ih =>
    intro j hj
    unfold B_X13_forest_196
    refine ⟨fun q => absurd q (nI_ge (b := 1530) (by omega) (by omega)), fun _ => ⟨vp_in_nI (by omega) (by omega), vp_in_nI (by omega) (by omega), ?_⟩⟩
    rw [nI_clamp (by omega), s1_o (by omega), up2_1, s1_1, s1_s1, cpR_s, nI_1]
    exact ih (j + 1) (by omega)
theorem r_forest (h6 : mm 0 6 = nI len) (hlen : len ≤ 400) (hT : TKL k (tks (mm 4) len 0) len) (hd : HdM (mm 1)) {nu : Int32} {E : PM} (hE : E = pForest k ((0, -1, nu), mm 1)) {post : Int32 → MM → Prop}
    (h1 : E.1.2.1 = -1 → ¬ mm 1 0 = 10 → ∀ mm', mm' 2 = mm 2 → mm' 4 = mm 4 → mm' 0 3 = mm 0 3 → mm' 0 6 = 0 → mm' 0 10 = -1 → mm' 0 0 = 0 → mm' 1 = upd E.2 0 (mm 1 0 + 1) → post (mm 1 0 + 1) mm')
    (h2 : E.1.2.1 = -1 → mm 1 0 = 10 → ∀ mm', mm' 2 = mm 2 → mm' 4 = mm 4 → mm' 0 3 = mm 0 3 → mm' 0 6 = 0 → mm' 0 10 = -1 → mm' 0 0 = 2 → mm' 1 = mm 1 → post 0 mm')
    (h3 : ¬ E.1.2.1 = -1 → ∀ mm', mm' 2 = mm 2 → mm' 4 = mm 4 → mm' 0 3 = mm 0 3 → mm' 0 6 = 0 → mm' 0 10 = E.1.2.1 → mm' 0 0 = 1 → mm' 1 = mm 1 → post 0 mm') : w_X13_forest post mm := by
  have hmm3 : ∀ F, (s3 mm F) 1 = mm 1 := fun _ => rfl
  -- the end
  have rest : ∀ (F M' : MR), (∀ x, x < 1530 → F x = mm 1 x) → HiE (mm 1) M' → cpR 1530 F M' = mm 1 := by
    intro F M' hF hM
    funext x
    unfold cpR
    by_cases c : x < 1530
    · rw [if_pos c, hF x c]
    · rw [if_neg c, hM x (Or.inr (by omega))]
  have bad : ∀ (s0 : Int32) (F M' : MR) (a e dd : Int32), ¬ s0 ≤ 0 → (∀ x, x < 1530 → F x = mm 1 x) → HiE (mm 1) M' → (∀ mm', mm' 2 = mm 2 → mm' 4 = mm 4 → mm' 0 3 = mm 0 3 → mm' 0 6 = 0 → mm' 0 10 = e → mm' 0 0 = s0 → mm' 1 = mm 1 → post 0 mm') → B_X13_forest_184 post s0 (stR (s1 (bgM (s3 mm F)) M') a e dd) := by
    intro s0 F M' a e dd hs hF hM hp
    unfold B_X13_forest_184
    have e00 : up2 (stR (s1 (bgM (s3 mm F)) M') a e dd) 0 0 s0 0 0 = s0 := up2_hit
    rw [e00]
    refine ⟨fun z => absurd z hs, fun _ => ⟨1531, ?_⟩⟩
    have er : up2 (stR (s1 (bgM (s3 mm F)) M') a e dd) 0 0 s0 3 = F := by
      funext i
      rfl
    have e1 : s1 (up2 (stR (s1 (bgM (s3 mm F)) M') a e dd) 0 0 s0) (cpR 0 (up2 (stR (s1 (bgM (s3 mm F)) M') a e dd) 0 0 s0 3) M') = up2 (stR (s1 (bgM (s3 mm F)) M') a e dd) 0 0 s0 := by
      rw [cpR_0]
      have e2 : M' = up2 (stR (s1 (bgM (s3 mm F)) M') a e dd) 0 0 s0 1 := by
        funext i
        rfl
      conv => lhs; arg 2; rw [e2]
      exact s1_id
    have := r_196 (post := post) (u := up2 (stR (s1 (bgM (s3 mm F)) M') a e dd) 0 0 s0) (M' := M') ?_ 1530 0 rfl
    · rw [e1] at this
      exact this
    · rw [er, rest F M' hF hM]
      exact hp _ (by funext i; rfl) (by funext i; rfl) rfl rfl rfl rfl rfl
  have good : ∀ (F M' : MR) (a dd : Int32), (∀ x, x < 1530 → F x = mm 1 x) → HiE (mm 1) M' → E.1.2.1 = -1 → M' = E.2 → B_X13_forest_155 post (stR (s1 (bgM (s3 mm F)) M') a (-1) dd) := by
    intro F M' a dd hF hM he hM2
    unfold B_X13_forest_155
    rw [stR_10, cl_0, stR_1, s1_1, hM 0 (Or.inl rfl)]
    refine ⟨fun _ => ⟨fun q => ?_, fun q => ?_⟩, fun z => absurd rfl z⟩
    · unfold B_X13_forest_184
      have e00 : up2 (stR (s1 (bgM (s3 mm F)) M') a (-1) dd) 0 0 0 0 0 = 0 := up2_hit
      have e10 : up2 (stR (s1 (bgM (s3 mm F)) M') a (-1) dd) 0 0 0 1 0 = mm 1 0 := hM 0 (Or.inl rfl)
      rw [e00, cl_0, e10, up2_hit]
      refine ⟨fun _ => ?_, fun z => absurd (by decide) z⟩
      refine h1 he q _ (by funext i; rfl) (by funext i; rfl) rfl rfl rfl rfl ?_
      rw [up2_row, ← hM2]
      rfl
    · exact bad 2 F M' a (-1) dd (by decide) hF hM (h2 he q)
  have worse : ∀ (F M' : MR) (a dd : Int32), (∀ x, x < 1530 → F x = mm 1 x) → HiE (mm 1) M' → ¬ E.1.2.1 = -1 → B_X13_forest_155 post (stR (s1 (bgM (s3 mm F)) M') a E.1.2.1 dd) := by
    intro F M' a dd hF hM he
    unfold B_X13_forest_155
    rw [stR_10]
    exact ⟨fun z => absurd z he, fun _ => bad 1 F M' a _ dd (by decide) hF hM (h3 he)⟩
  have key : ∀ (f j : Nat), j + f = 1530 → B_X13_forest_2 post (f + 1) (nI j) (s3 mm (cpR j (mm 1) (mm 3))) := by
    intro f
    induction f with
    | zero =>
      intro j hj
      have e : j = 1530 := by omega
      subst e
      unfold B_X13_forest_2
      refine ⟨fun _ => ?_, fun q => absurd (nI_le (a := 1530) (b := 1530) (by omega) (by omega)) q⟩
      have hF : ∀ x, x < 1530 → cpR 1530 (mm 1) (mm 3) x = mm 1 x := fun x hx => if_pos hx
      generalize cpR 1530 (mm 1) (mm 3) = F at *
      refine r_begins ?_
      have hB : BYt (bgM (s3 mm F)) (mm 4) len := ⟨h6, hlen, rfl, fun _ _ => rfl⟩
      have hBB := BYt_BY hB
      have hs0 : Sx k (mm 4) len 0 0 := ⟨At_0, Nat.zero_le _, Nat.zero_le _⟩
      obtain ⟨k1, k2, k3⟩ := Sx_skp hT hs0
      have h8 : ∀ a e : Int32, stR (bgM (s3 mm F)) a e 0 0 8 = nI len := fun a e => h6
      refine r_skip (p := 0) hBB (by omega) ?_
      generalize skp (mm 4) len 0 = q at *
      have hq := k1.1.2.1
      have eb : bgM (s3 mm F) 1 = mm 1 := rfl
      rw [stR_9, h8]
      refine ⟨fun g => ?_, fun g => ?_⟩
      · rw [nI_leI (by omega) (by omega)] at g
        have h0 : ¬ 0 < tN k := fun z => by have := k2.mpr z; omega
        unfold pForest at hE
        rw [if_neg h0] at hE
        unfold B_X13_forest_51
        refine ⟨1, ?_⟩
        unfold B_X13_forest_54
        refine ⟨fun _ => ?_, fun z => absurd rfl z⟩
        have := good F (mm 1) (nI q) 0 hF (fun _ _ => rfl) (by rw [hE]) (by rw [hE])
        rw [← eb, s1_id] at this
        exact this
      · rw [nI_leI (by omega) (by omega)] at g
        have h0 : 0 < tN k := k2.mp (by omega)
        unfold pForest at hE
        rw [if_pos h0] at hE
        unfold B_X13_forest_51
        refine ⟨16, ?_⟩
        refine r_lines hT 14 0 (bgM (s3 mm F)) q 0 nu rfl hB k1.1 (by rw [eb]; exact hd) E ?_ (fun e1 e2 e3 a => ?_) (fun e1 a M' dd e3 => ?_)
        · rw [eb, hE, zL_eq k 13]
        · exact good F E.2 a 0 hF e3 e1 rfl
        · exact worse F M' a dd hF e3 e1
    | succ f ih =>
      intro j hj
      unfold B_X13_forest_2
      refine ⟨fun q => absurd q (nI_ge (b := 1530) (by omega) (by omega)), fun _ => ⟨vp_in_nI (by omega) (by omega), vp_in_nI (by omega) (by omega), ?_⟩⟩
      rw [nI_clamp (by omega), up2_3, hmm3, cpR_s, nI_1]
      exact ih (j + 1) (by omega)
  unfold w_X13_forest
  refine ⟨1531, ?_⟩
  have := key 1530 0 rfl
  rw [cpR_0, s3_id] at this
  exact this
/-! a chip's text -/
def cpT (c len : Nat) (b : MR) (M : MR) : MR := fun x => if 1530 + 400 * c ≤ x ∧ x < 1530 + 400 * c + len then b (x - (1530 + 400 * c)) else M x
theorem cpT_s {c j : Nat} {b M : MR} : upd (cpT c j b M) (1530 + 400 * c + j) (b j) = cpT c (j + 1) b M := by
  funext x
  unfold upd cpT
  by_cases q : x = 1530 + 400 * c + j
  · rw [if_pos q, if_pos (by omega)]
    congr 1
    omega
  · rw [if_neg q]
    by_cases q2 : 1530 + 400 * c ≤ x ∧ x < 1530 + 400 * c + j
    · rw [if_pos q2, if_pos (by omega)]
    · rw [if_neg q2, if_neg (by omega)]
theorem cpT_0 {c : Nat} {b M : MR} : cpT c 0 b M = M := by
  funext x
  exact if_neg (by omega)
theorem fold_exD {h i : Nat} (px : List PX1) (M : MR) : px.foldl (exD false h i) M = M := by
  induction px generalizing M with
  | nil => rfl
  | cons x r ih => exact ih M
theorem fold_exT {h i : Nat} (px : List PX1) (M : MR) : px.foldl (exD true h i) M = px.foldl (exM h i) M := rfl
theorem r_ctext (h6 : mm 0 6 = nI len) (hlen : len ≤ 400) (hT : TKL k (tks (mm 4) len 0) len) {n c : Nat} (hn : mm 1 1 = nI n) (hn2 : n ≤ 11) (hc : mm 1 2 = nI c) (hc2 : c ≤ 60) {st wt nu : Int32} {R : Int32 × PA} (hR : R = pNot k nu) {post : Int32 → MM → Prop}
    (h1 : (st < 0 ∨ nI n < st) → ∀ mm', mm' 2 = mm 2 → mm' 4 = mm 4 → mm' 0 3 = mm 0 3 → mm' 0 6 = 0 → mm' 0 10 = mm 0 10 → mm' 0 0 = 1 → mm' 1 = mm 1 → post 0 mm')
    (h2 : ¬ (st < 0 ∨ nI n < st) → (wt < 1 ∨ 9 < wt) → ∀ mm', mm' 2 = mm 2 → mm' 4 = mm 4 → mm' 0 3 = mm 0 3 → mm' 0 6 = 0 → mm' 0 10 = mm 0 10 → mm' 0 0 = 2 → mm' 1 = mm 1 → post 0 mm')
    (h3 : ¬ (st < 0 ∨ nI n < st) → ¬ (wt < 1 ∨ 9 < wt) → ¬ R.2.1.1.2.1 = -1 → ∀ mm', mm' 2 = mm 2 → mm' 4 = mm 4 → mm' 0 3 = mm 0 3 → mm' 0 6 = 0 → mm' 0 10 = R.2.1.1.2.1 → mm' 0 0 = 2 → mm' 1 = mm 1 → post 0 mm')
    (h4 : ¬ (st < 0 ∨ nI n < st) → ¬ (wt < 1 ∨ 9 < wt) → R.2.1.1.2.1 = -1 → c = 60 → ∀ mm', mm' 2 = mm 2 → mm' 4 = mm 4 → mm' 0 3 = mm 0 3 → mm' 0 6 = 0 → mm' 0 10 = -1 → mm' 0 0 = 3 → mm' 1 = mm 1 → post 0 mm')
    (h5 : ¬ (st < 0 ∨ nI n < st) → ¬ (wt < 1 ∨ 9 < wt) → R.2.1.1.2.1 = -1 → c < 60 → ∀ mm', mm' 2 = mm 2 → mm' 4 = mm 4 → mm' 0 3 = mm 0 3 → mm' 0 6 = 0 → mm' 0 10 = -1 → mm' 0 0 = 0 → mm' 1 = cpT c len (mm 4) (adM c st wt (-1) (nI len) (mm 1)) → post (nI c) mm') : w_X13_chip post st wt mm := by
  unfold w_X13_chip w_X13_isStation
  rw [cl_1, hn]
  refine r_isIn ⟨fun q => ?_, fun q => ?_⟩
  · have hst : ¬ (st < 0 ∨ nI n < st) := by
      have z : decide (¬ st < 0 ∧ ¬ nI n < st) = true := by
        cases e : decide (¬ st < 0 ∧ ¬ nI n < st)
        · exact absurd e q
        · rfl
      have z2 := of_decide_eq_true z
      exact fun y => y.elim z2.1 z2.2
    refine r_isIn ⟨fun q2 => ?_, fun q2 => ?_⟩
    · have hwt : ¬ (wt < 1 ∨ 9 < wt) := by
        have z : decide (¬ wt < 1 ∧ ¬ 9 < wt) = true := by
          cases e : decide (¬ wt < 1 ∧ ¬ 9 < wt)
          · exact absurd e q2
          · rfl
        have z2 := of_decide_eq_true z
        exact fun y => y.elim z2.1 z2.2
      refine r_begins ?_
      rw [stR_un (by omega)]
      have hBx : BYx (up2 (bgM mm) 0 13 0) (mm 4) len := ⟨h6, hlen, Or.inl ⟨rfl, fun _ _ => rfl⟩⟩
      have hD : DOK false (up2 (bgM mm) 0 13 0) 0 0 := ⟨rfl, fun z => absurd z (by decide)⟩
      have hr1 : up2 (bgM mm) 0 13 0 1 = mm 1 := by funext i; rfl
      refine r_notches hT hBx hD hR (fun px mm' a e1 e2 e3 e4 e5 nx _ => ?_) (fun e1 => ⟨rfl, fun mm' a dd nx => ?_⟩)
      · rw [fold_exD, hr1] at nx
        obtain ⟨n1, n2, n3⟩ := nx
        have g2 : stR mm' a (-1) 0 1 2 = nI c := by rw [stR_o (by omega), n3, hc]
        have b2 : mm' 2 = mm 2 := by rw [n1 2 (by omega) (by omega) (by omega)]; funext i; rfl
        have b4 : mm' 4 = mm 4 := by rw [n1 4 (by omega) (by omega) (by omega)]; funext i; rfl
        have b03 : mm' 0 3 = mm 0 3 := by rw [n2 3 (by omega)]; rfl
        have b06 : mm' 0 6 = 0 := by rw [n2 6 (by omega)]; rfl
        have b08 : mm' 0 8 = nI len := by rw [n2 8 (by omega)]; exact h6
        rw [stR_10, cl_2, g2]
        refine ⟨fun _ => ⟨fun q3 => ?_, fun q3 => ?_⟩, fun z => absurd rfl z⟩
        · have hc3 : c < 60 := by
            have : c ≠ 60 := fun e => q3 (by rw [e]; rfl)
            omega
          unfold B_X13_chip_90
          have e00 : up2 (stR mm' a (-1) 0) 0 0 0 0 0 = 0 := up2_hit
          rw [e00]
          refine ⟨fun _ => ?_, fun z => absurd (by decide) z⟩
          have e08 : up2 (stR mm' a (-1) 0) 0 0 0 0 8 = nI len := b08
          rw [e08]
          have er1 : up2 (stR mm' a (-1) 0) 0 0 0 1 = mm 1 := by
            rw [← n3]
            funext i
            rfl
          refine r_adds hc3 (by rw [er1]; exact hc) ⟨len + 1, ?_⟩
          rw [er1]
          generalize hU : up2 (stR mm' a (-1) 0) 0 0 0 = U at *
          have fin : post (nI c) (s1 U (cpT c len (mm 4) (adM c st wt (-1) (nI len) (mm 1)))) := by
            refine h5 hst hwt e1 hc3 _ ?_ ?_ ?_ ?_ ?_ ?_ rfl
            · rw [← b2, ← hU]; funext i; rfl
            · rw [← b4, ← hU]; funext i; rfl
            · rw [← b03, ← hU]; rfl
            · rw [← b06, ← hU]; rfl
            · rw [← hU]; rfl
            · rw [← hU]; rfl
          have hU8 : U 0 8 = nI len := e08
          have hU4 : U 4 = mm 4 := by
            rw [← b4, ← hU]
            funext i
            rfl
          have key : ∀ (f j : Nat), j + f = len → B_X13_chip_117 post (f + 1) (nI c) (nI j) (s1 U (cpT c j (mm 4) (adM c st wt (-1) (nI len) (mm 1)))) := by
            intro f
            induction f with
            | zero =>
              intro j hj
              have e : j = len := by omega
              subst e
              unfold B_X13_chip_117
              rw [s1_0, hU8]
              exact ⟨fun _ => fin, fun q => absurd (nI_le (by omega) (by omega)) q⟩
            | succ f ih =>
              intro j hj
              unfold B_X13_chip_117
              rw [s1_0, hU8]
              refine ⟨fun q => absurd q (nI_ge (by omega) (by omega)), fun _ => ?_⟩
              rw [fa_lit 1530, fa_lit 400, nI_mul, nI_add, nI_add, nI_clamp (by omega), nI_clamp (by omega), s1_o (by omega), hU4, up2_1, s1_1, s1_s1, cpT_s, nI_1]
              exact ⟨vp_in_nI (by omega) (by omega), vp_in_nI (by omega) (by omega), ih (j + 1) (by omega)⟩
          have := key len 0 (by omega)
          rw [cpT_0] at this
          exact this
        · have hc3 : c = 60 := by
            rw [fa_lit 60, nI_eq (by omega) (by omega)] at q3
            exact q3
          unfold B_X13_chip_90
          have e00 : up2 (stR mm' a (-1) 0) 0 0 3 0 0 = 3 := up2_hit
          rw [e00]
          refine ⟨fun z => absurd z (by decide), fun _ => ?_⟩
          refine h4 hst hwt e1 hc3 _ ?_ ?_ ?_ ?_ ?_ ?_ ?_
          · rw [← b2]; funext i; rfl
          · rw [← b4]; funext i; rfl
          · rw [← b03]; rfl
          · rw [← b06]; rfl
          · rfl
          · rfl
          · rw [← n3]; funext i; rfl
      · rw [hr1] at nx
        obtain ⟨n1, n2, n3⟩ := nx
        rw [stR_10]
        refine ⟨fun z => absurd z e1, fun _ => ?_⟩
        unfold B_X13_chip_90
        have e00 : up2 (stR mm' a R.2.1.1.2.1 dd) 0 0 2 0 0 = 2 := up2_hit
        rw [e00]
        refine ⟨fun z => absurd z (by decide), fun _ => ?_⟩
        have b2 : mm' 2 = mm 2 := by rw [n1 2 (by omega) (by omega) (by omega)]; funext i; rfl
        have b4 : mm' 4 = mm 4 := by rw [n1 4 (by omega) (by omega) (by omega)]; funext i; rfl
        have b03 : mm' 0 3 = mm 0 3 := by rw [n2 3 (by omega)]; rfl
        have b06 : mm' 0 6 = 0 := by rw [n2 6 (by omega)]; rfl
        refine h3 hst hwt e1 _ ?_ ?_ ?_ ?_ ?_ ?_ ?_
        · rw [← b2]; funext i; rfl
        · rw [← b4]; funext i; rfl
        · rw [← b03]; rfl
        · rw [← b06]; rfl
        · rfl
        · rfl
        · rw [← n3]; funext i; rfl
    · have hwt : wt < 1 ∨ 9 < wt := by
        have z2 := of_decide_eq_false q2
        by_cases c1 : wt < 1
        · exact Or.inl c1
        · by_cases c2 : 9 < wt
          · exact Or.inr c2
          · exact absurd ⟨c1, c2⟩ z2
      exact h2 hst hwt _ (by funext i; rfl) (by funext i; rfl) rfl rfl rfl rfl (by funext i; rfl)
  · have hst : st < 0 ∨ nI n < st := by
      have z2 := of_decide_eq_false q
      by_cases c1 : st < 0
      · exact Or.inl c1
      · by_cases c2 : nI n < st
        · exact Or.inr c2
        · exact absurd ⟨c1, c2⟩ z2
    exact h1 hst _ (by funext i; rfl) (by funext i; rfl) rfl rfl rfl rfl (by funext i; rfl)
/-! a chip's notches, read again -/
def TxO (M : MR) (i : Nat) (T : Pg) : Prop := (M (337 + 8 * i) = 0 ∧ T = (-1, [])) ∨ ∃ (len : Nat) (k : TK) (nu : Int32), M (337 + 8 * i) = nI len ∧ 1 ≤ len ∧ len ≤ 400 ∧ TKL k (tks (fun j => M (1530 + 400 * i + j)) len 0) len ∧ (pNot k nu).2.1.1.2.1 = -1 ∧ (pNot k nu).1 = T.1 ∧ (pNot k nu).2.1.2 = pxS T.2 ∧ (pNot k nu).2.2 = pxA 0 T.2
/-- what stays over a chip's reading -/
def KQ (mm mm' : MM) : Prop := (∀ b, b ≠ 0 → b ≠ 1 → b ≠ 5 → mm' b = mm b) ∧ mm' 0 0 = mm 0 0 ∧ mm' 0 3 = mm 0 3 ∧ mm' 0 6 = mm 0 6 ∧ mm' 0 10 = mm 0 10 ∧ mm' 0 15 = mm 0 15
theorem r_reads {i : Nat} (hi : i < 60) {T : Pg} (hT : TxO (mm 1) i T) {D : Bool} {h : Nat} (hD : D = true → mm 0 15 = nI h ∧ 1 ≤ h ∧ h ≤ 11 ∧ DmA (mm 1)) {post : MM → Prop}
    (hp : ∀ mm', KQ mm mm' → mm' 1 = (if D then T.2.foldl (exM h i) (mm 1) else mm 1) → mm' 0 12 = T.1 → post mm') : w_X13_reads post (nI i) D mm := by
  unfold w_X13_reads
  refine r_chipOf (w := 7) rfl (by omega) (by omega) ?_
  have e7 : 330 + 8 * i + 7 = 337 + 8 * i := by omega
  rw [e7]
  rcases hT with ⟨hz, rfl⟩ | ⟨len, k, nu, hl, hl1, hl2, hT, hf, t1, t2, t3⟩
  · rw [hz]
    refine ⟨fun z => absurd rfl z, fun _ => ?_⟩
    refine hp _ ⟨fun b hb0 _ _ => up2_ne hb0, rfl, rfl, rfl, rfl, rfl⟩ ?_ rfl
    have e1 : up2 mm 0 12 (-1) 1 = mm 1 := up2_ne (by omega)
    rw [e1]
    cases D <;> rfl
  · rw [hl]
    refine ⟨fun _ => ?_, fun z => absurd z (nI_ne0 (by omega) (by omega))⟩
    refine r_chipOf (w := 7) rfl (by omega) (by omega) ?_
    have er : up2 (up2 mm 0 10 (-1)) 0 7 (1530 + 400 * nI i) 1 (330 + 8 * i + 7) = nI len := by
      rw [e7]
      exact hl
    rw [er, fa_lit 1530, fa_lit 400, nI_mul, nI_add]
    have es : up2 (up2 (up2 (up2 (up2 mm 0 10 (-1)) 0 7 (nI (1530 + 400 * i))) 0 8 (nI len)) 0 13 (b2 D)) 0 14 (nI i) = stR (up2 (up2 (up2 (up2 mm 0 7 (nI (1530 + 400 * i))) 0 8 (nI len)) 0 13 (b2 D)) 0 14 (nI i)) (mm 0 9) (-1) (mm 0 11) := by
      funext b j
      by_cases hb : b = 0
      · subst hb
        by_cases h9 : j = 9
        · subst h9; rfl
        by_cases h10 : j = 10
        · subst h10; rfl
        by_cases h11 : j = 11
        · subst h11; rfl
        unfold stR up2
        simp only [h9, h10, h11, and_false, if_false]
      · unfold stR up2
        simp only [hb, false_and, if_false]
    rw [es]
    generalize hV : up2 (up2 (up2 (up2 mm 0 7 (nI (1530 + 400 * i))) 0 8 (nI len)) 0 13 (b2 D)) 0 14 (nI i) = V
    have v1 : V 1 = mm 1 := by rw [← hV]; funext j; rfl
    have hBx : BYx V (fun j => mm 1 (1530 + 400 * i + j)) len := by
      refine ⟨by rw [← hV]; rfl, hl2, Or.inr ⟨1530 + 400 * i, by rw [← hV]; rfl, by omega, by omega, fun j _ => ?_⟩⟩
      rw [v1]
    have hDD : DOK D V h i := by
      refine ⟨by rw [← hV]; rfl, fun z => ?_⟩
      obtain ⟨d1, d2, d3, d4⟩ := hD z
      exact ⟨by rw [← hV]; exact d1, by rw [← hV]; rfl, d2, d3, hi, by rw [v1]; exact d4⟩
    refine r_notches hT hBx hDD rfl (fun px mm' a e1 e2 e3 e4 e5 nx e6 => ?_) (fun e1 => absurd hf e1)
    obtain ⟨n1, n2, n3⟩ := nx
    have epx : px = T.2 := px_uni px T.2 0 (by rw [← e3, t3]) (by rw [← e2, t2])
    subst epx
    have vo : ∀ b, b ≠ 0 → V b = mm b := by
      intro b hb
      rw [← hV]
      rw [up2_ne hb, up2_ne hb, up2_ne hb, up2_ne hb]
    refine hp _ ⟨fun b hb0 hb1 hb5 => ?_, ?_, ?_, ?_, ?_, ?_⟩ ?_ ?_
    · rw [up2_ne hb0, up2_ne hb0, ← vo b hb0, ← n1 b hb0 hb1 hb5]
      funext j
      exact stR_o (by omega)
    · show mm' 0 0 = _
      rw [n2 0 (by omega), ← hV]; rfl
    · show mm' 0 3 = _
      rw [n2 3 (by omega), ← hV]; rfl
    · show mm' 0 6 = _
      rw [n2 6 (by omega), ← hV]; rfl
    · rfl
    · show mm' 0 15 = _
      rw [n2 15 (by omega), ← hV]; rfl
    · have e1' : up2 (up2 (stR mm' a (-1) 0) 0 10 (mm 0 10)) 0 13 0 1 = mm' 1 := by funext j; rfl
      rw [e1', n3, v1]
      cases D with
      | false => exact fold_exD _ _
      | true => rfl
    · show mm' 0 12 = _
      rw [e6, t1]
end RTX
