/-! ===== plan ===== -/
def s9 (mm : MM) (F : MR) : MM := fun b => if b = 9 then F else mm b
theorem s9_9 {mm : MM} {F : MR} : s9 mm F 9 = F := rfl
theorem s9_o {mm : MM} {F : MR} {b : Nat} (h : b ≠ 9) : s9 mm F b = mm b := if_neg h
theorem up2_9 {mm : MM} {F : MR} {j : Nat} {v : Int32} : up2 (s9 mm F) 9 j v = s9 mm (upd F j v) := by
  funext b i
  unfold up2 s9 upd
  by_cases q : b = 9
  · rw [if_pos q, if_pos q]
    by_cases z : i = j
    · rw [if_pos ⟨q, z⟩, if_pos z]
    · rw [if_neg (fun y => z y.2), if_neg z]
  · rw [if_neg (fun y => q y.1), if_neg q, if_neg q]
theorem s9_id {mm : MM} : s9 mm (mm 9) = mm := by
  funext b
  unfold s9
  by_cases q : b = 9
  · rw [if_pos q, q]
  · rw [if_neg q]
def stpP (M : MR) (a b : Nat) (st : MR × Bool) : MR × Bool := if M (118 + 12 * a + b) = 0 then st else if st.1 b < st.1 a + M (118 + 12 * a + b) then (upd st.1 b (st.1 a + M (118 + 12 * a + b)), true) else st
def inP (M : MR) (a : Nat) : Nat → MR × Bool → MR × Bool
  | 0, st => st
  | j + 1, st => stpP M a j (inP M a j st)
def ouP (M : MR) (s : Nat) : Nat → MR × Bool → MR × Bool
  | 0, st => st
  | i + 1, st => inP M i s (ouP M s i st)
def rnP (M : MR) (s : Nat) : Nat → MR → MR × Bool
  | 0, W => (W, true)
  | k + 1, W => if (rnP M s k W).2 then ouP M s s ((rnP M s k W).1, false) else rnP M s k W
def mxW (W : MR) : Nat → Int32
  | 0 => 0
  | j + 1 => jmax (mxW W j) (W j)
def yW (M : MR) (i : Nat) : Int32 := lenS M 0 (M (94 + 2 * i)).toNatClampNeg * ((M (95 + 2 * i) + 10) - M 5)
def BdP (s : Nat) (W : MR) (U : Nat) : Prop := ∀ i, i < s → 0 ≤ (W i).toInt ∧ (W i).toInt ≤ U
theorem BdP_mono {s : Nat} {W : MR} {U U' : Nat} (h : BdP s W U) (hU : U ≤ U') : BdP s W U' := fun i hi => ⟨(h i hi).1, by have := (h i hi).2; omega⟩
section PLB
variable {M : MR} {s : Nat}
theorem stpP_bd {a b : Nat} {st : MR × Bool} {U : Nat} (h : BdP s st.1 U) (ha : a < s) (hd : 0 ≤ (M (118 + 12 * a + b)).toInt ∧ (M (118 + 12 * a + b)).toInt ≤ 999) (hU : U ≤ 10000000) : BdP s (stpP M a b st).1 (U + 999) := by
  unfold stpP
  split
  · exact BdP_mono h (by omega)
  · split
    · intro i hi
      show 0 ≤ (upd st.1 b (st.1 a + M (118 + 12 * a + b)) i).toInt ∧ (upd st.1 b (st.1 a + M (118 + 12 * a + b)) i).toInt ≤ _
      unfold upd
      have h1 := h a ha
      have h2 := h i hi
      split
      · rw [ti_add (by omega)]
        omega
      · omega
    · exact BdP_mono h (by omega)
theorem inP_bd (hd : ∀ i j, i < 12 → j < 12 → 0 ≤ (M (118 + 12 * i + j)).toInt ∧ (M (118 + 12 * i + j)).toInt ≤ 999) (hs : s ≤ 12) {a : Nat} (ha : a < s) {st : MR × Bool} {U : Nat} (h : BdP s st.1 U) (hU : U ≤ 5000000) : ∀ j, j ≤ s → BdP s (inP M a j st).1 (U + 999 * j) := by
  intro j
  induction j with
  | zero => intro _; exact h
  | succ j ih =>
    intro hj
    unfold inP
    exact BdP_mono (stpP_bd (ih (by omega)) ha (hd a j (by omega) (by omega)) (by omega)) (by omega)
theorem ouP_bd (hd : ∀ i j, i < 12 → j < 12 → 0 ≤ (M (118 + 12 * i + j)).toInt ∧ (M (118 + 12 * i + j)).toInt ≤ 999) (hs : s ≤ 12) {st : MR × Bool} {U : Nat} (h : BdP s st.1 U) (hU : U ≤ 4000000) : ∀ i, i ≤ s → BdP s (ouP M s i st).1 (U + 11988 * i) := by
  intro i
  induction i with
  | zero => intro _; exact h
  | succ i ih =>
    intro hi
    unfold ouP
    exact BdP_mono (inP_bd hd hs (by omega) (ih (by omega)) (by omega) s (Nat.le_refl _)) (by omega)
theorem rnP_bd (hd : ∀ i j, i < 12 → j < 12 → 0 ≤ (M (118 + 12 * i + j)).toInt ∧ (M (118 + 12 * i + j)).toInt ≤ 999) (hs : s ≤ 12) {W : MR} (h : BdP s W 10000) : ∀ k, k ≤ 13 → BdP s (rnP M s k W).1 (10000 + 143856 * k) := by
  intro k
  induction k with
  | zero => intro _; exact h
  | succ k ih =>
    intro hk
    unfold rnP
    split
    · exact BdP_mono (ouP_bd hd hs (st := ((rnP M s k W).1, false)) (ih (by omega)) (by omega) s (Nat.le_refl _)) (by omega)
    · exact BdP_mono (ih (by omega)) (by omega)
theorem rnP_st {W : MR} {k : Nat} (h : (rnP M s k W).2 = false) : ∀ g, rnP M s (k + g) W = rnP M s k W := by
  intro g
  induction g with
  | zero => rfl
  | succ g ih =>
    show (if (rnP M s (k + g) W).2 then ouP M s s ((rnP M s (k + g) W).1, false) else rnP M s (k + g) W) = _
    rw [ih, h]
    exact if_neg (by decide)
theorem lenS_bd {n a : Nat} (hR : DR M n) (hn : n ≤ 11) : ∀ j, a + j ≤ n + 1 → 0 ≤ (lenS M a j).toInt ∧ (lenS M a j).toInt ≤ 20 * j := by
  intro j
  induction j with
  | zero => intro _; exact ⟨Int.le_refl _, Int.le_refl _⟩
  | succ j ih =>
    intro hj
    have h := ih (by omega)
    have r := hR (a + j) (by omega)
    unfold RcO at r
    unfold lenS
    rw [ti_add (by omega)]
    omega
theorem yW_bd {n i : Nat} (hR : DR M n) (hn : n ≤ 11) (h5 : 1 ≤ (M 5).toInt ∧ (M 5).toInt ≤ 9) {p : Nat} (hp : M (94 + 2 * i) = nI p) (hpn : p ≤ n) (hw : 1 ≤ (M (95 + 2 * i)).toInt ∧ (M (95 + 2 * i)).toInt ≤ 9) : 0 ≤ (yW M i).toInt ∧ (yW M i).toInt ≤ 10000 := by
  unfold yW
  rw [hp, nI_clamp (by omega)]
  have h := lenS_bd (M := M) (a := 0) hR hn p (by omega)
  have e10 : (10 : Int32).toInt = 10 := rfl
  have h1 : (M (95 + 2 * i) + 10).toInt = (M (95 + 2 * i)).toInt + 10 := by rw [ti_add (by omega), e10]
  have h2 : (M (95 + 2 * i) + 10 - M 5).toInt = (M (95 + 2 * i)).toInt + 10 - (M 5).toInt := by rw [ti_sub (by omega), h1]
  have b1 : (lenS M 0 p).toInt ≤ 220 := by omega
  have b2 : 0 ≤ (M (95 + 2 * i) + 10 - M 5).toInt ∧ (M (95 + 2 * i) + 10 - M 5).toInt ≤ 18 := by omega
  have lo := Int.mul_nonneg h.1 b2.1
  have hi : (lenS M 0 p).toInt * (M (95 + 2 * i) + 10 - M 5).toInt ≤ 220 * 18 := Int.mul_le_mul b1 b2.2 b2.1 (by omega)
  rw [ti_mul (by omega)]
  omega
theorem cmpP {A B Y D : Int32} (hA : 0 ≤ A.toInt ∧ A.toInt ≤ 10000000) (hB : 0 ≤ B.toInt ∧ B.toInt ≤ 10000000) (hY : 0 ≤ Y.toInt ∧ Y.toInt ≤ 10000) (hD : 0 ≤ D.toInt ∧ D.toInt ≤ 999) : (A + D) - Y ≤ B - Y ↔ ¬ B < A + D := by
  have h1 : (A + D).toInt = A.toInt + D.toInt := ti_add (by omega)
  rw [fa_le, fa_lt, ti_sub (by omega), ti_sub (by omega), h1]
  omega
end PLB
/-! the class's -/
theorem Fo_un {cm : CMu} {f : Nat} {M : MR} {T : Nat → Pg} {n c o : Nat} (hF : Fo cm f M T n c o) (hn : n ≤ 11) (hc : c ≤ 60) (ho : o ≤ 60) {a j : Nat} (ha : a = f + 21 ∨ a = f + 22) (v : Int32) : Fo (uI cm a j v) f M T n c o := by
  obtain ⟨g1, g2, g3, g4⟩ := hF
  refine ⟨RFI_un g1 (DD_im hn hc ho) (Or.inr ?_), fun r hr => ?_, fun i hi => ?_, g4⟩
  · rcases ha with rfl | rfl
    · rw [show f + 21 - f = 21 by omega]
      rfl
    · rw [show f + 22 - f = 22 by omega]
      rfl
  · rw [gI_c (by omega)]
    exact g2 r hr
  · rw [gI_c (by omega)]
    exact g3 i hi
def PC (cm0 cm : CMu) (M : MR) (T : Nat → Pg) (n c o s : Nat) (W : MR) : Prop := Fo cm 382 M T n c o ∧ FrC 382 cm0 cm ∧ (∀ i, i < s → gI cm 404 i = yW M i) ∧ (∀ i, i < s → gI cm 403 i + yW M i = W i)
section PLC
variable {cm0 : CMu} {M : MR} {T : Nat → Pg} {n c o s : Nat}
theorem PC_e3 {cm : CMu} {W : MR} (h : PC cm0 cm M T n c o s W) (h9 : M 9 = nI s) : gI cm 387 3 = nI s := by
  rw [← h9]
  exact (Fo_h h.1).2.2.2.2.2.2.2.2.2
theorem c_inP (hn : n ≤ 11) (hc : c ≤ 60) (ho : o ≤ 60) (hs : s ≤ 12) (h9 : M 9 = nI s) (hy : ∀ i, i < s → 0 ≤ (yW M i).toInt ∧ (yW M i).toInt ≤ 10000)
    (hd : ∀ i j, i < 12 → j < 12 → 0 ≤ (M (118 + 12 * i + j)).toInt ∧ (M (118 + 12 * i + j)).toInt ≤ 999) {a : Nat} (ha : a < s) {st0 : MR × Bool} {U : Nat} (hb : BdP s st0.1 U) (hU : U ≤ 5000000)
    {post : Bool → CMu → Prop} {k4 : Nat → Int32 → Int32 → CMu → Prop} (hk : ∀ cm2, PC cm0 cm2 M T n c o s (inP M a s st0).1 → k4 387 (b2 (inP M a s st0).2) (nI (a + 1)) cm2) :
    ∀ (g j : Nat) (cm : CMu), j + g = s → PC cm0 cm M T n c o s (inP M a j st0).1 → B_X6_delaySome_14 post k4 (g + 1) 387 (b2 (inP M a j st0).2) (nI a) (nI j) cm := by
  intro g
  induction g with
  | zero =>
    intro j cm hj hP
    have e : j = s := by omega
    subst e
    unfold B_X6_delaySome_14
    rw [PC_e3 hP h9, nI_1]
    exact ⟨fun _ => hk cm hP, fun z => absurd (nI_le (Nat.le_refl _) (by omega)) z⟩
  | succ g ih =>
    intro j cm hj hP
    have B := inP_bd hd hs ha hb hU j (by omega)
    have ej : inP M a (j + 1) st0 = stpP M a j (inP M a j st0) := rfl
    have ih' := fun cm' => ih (j + 1) cm' (by omega)
    rw [ej] at ih'
    generalize hst : inP M a j st0 = st at hP B ih'
    unfold B_X6_delaySome_14
    rw [PC_e3 hP h9, nI_clamp (by omega), nI_clamp (by omega)]
    refine ⟨fun z => absurd z (nI_ge (by omega) (by omega)), fun _ => ?_⟩
    have va : vp_in (nI a) 12 := vp_in_nI (by omega) (by omega)
    have vj : vp_in (nI j) 12 := vp_in_nI (by omega) (by omega)
    have ed : gI cm (387 + 4 + a) j = M (118 + 12 * a + j) := RF_a hP.1.1 (by omega) (by omega)
    have hdj := hd a j (by omega) (by omega)
    have eY1 : gI cm (387 + 17) a = yW M a := hP.2.2.1 a ha
    have eY2 : gI cm (387 + 17) j = yW M j := hP.2.2.1 j (by omega)
    have eS1 : gI cm (387 + 16) a + yW M a = st.1 a := hP.2.2.2 a ha
    have eS2 : gI cm (387 + 16) j = st.1 j - yW M j := by
      rw [← hP.2.2.2 j (by omega), Int32.add_sub_cancel]
    rw [ed, eY1, eY2, eS1, eS2]
    have keep : stpP M a j st = st → B_X6_delaySome_85 post k4 (B_X6_delaySome_14 post k4 (g + 1)) 387 (b2 st.2) (nI a) (nI j) cm := by
      intro e
      unfold B_X6_delaySome_85
      rw [nI_1]
      rw [e] at ih'
      exact ih' cm hP
    refine ⟨va, va, va, vj, vj, va, vj, fun z => keep ?_, fun z => ⟨vj, fun z2 => keep ?_, fun z2 => ⟨vj, ?_⟩⟩⟩
    · have e0 : M (118 + 12 * a + j) = 0 := by
        rw [fa_eq]
        rw [fa_le] at z
        have : (0 : Int32).toInt = 0 := rfl
        omega
      unfold stpP
      rw [if_pos e0]
    · rw [cmpP ⟨(B a ha).1, by have := (B a ha).2; omega⟩ ⟨(B j (by omega)).1, by have := (B j (by omega)).2; omega⟩ (hy j (by omega)) hdj] at z2
      unfold stpP
      rw [if_neg z2]
      exact ite_self _
    · rw [cmpP ⟨(B a ha).1, by have := (B a ha).2; omega⟩ ⟨(B j (by omega)).1, by have := (B j (by omega)).2; omega⟩ (hy j (by omega)) hdj, Classical.not_not] at z2
      have e0 : ¬ M (118 + 12 * a + j) = 0 := by
        intro y
        rw [y] at z
        exact z (Int32.le_refl _)
      have e : stpP M a j st = (upd st.1 j (st.1 a + M (118 + 12 * a + j)), true) := by
        unfold stpP
        rw [if_neg e0, if_pos z2]
      unfold B_X6_delaySome_85
      rw [nI_1]
      rw [e] at ih'
      refine ih' _ ⟨Fo_un hP.1 hn hc ho (Or.inl rfl) _, FrC_tr hP.2.1 (FrC_uI (by omega)), fun i hi => ?_, fun i hi => ?_⟩
      · rw [gI_c (by omega)]
        exact hP.2.2.1 i hi
      · show gI (uI cm 403 j _) 403 i + yW M i = upd st.1 j _ i
        unfold upd
        by_cases q : i = j
        · subst q
          rw [gI_hit, if_pos rfl, Int32.sub_add_cancel]
        · rw [gI_f q, if_neg q]
          exact hP.2.2.2 i hi
theorem c_rnd (hn : n ≤ 11) (hc : c ≤ 60) (ho : o ≤ 60) (hs : s ≤ 12) (h9 : M 9 = nI s) (hy : ∀ i, i < s → 0 ≤ (yW M i).toInt ∧ (yW M i).toInt ≤ 10000)
    (hd : ∀ i j, i < 12 → j < 12 → 0 ≤ (M (118 + 12 * i + j)).toInt ∧ (M (118 + 12 * i + j)).toInt ≤ 999) {W : MR} {U : Nat} (hb : BdP s W U) (hU : U ≤ 4000000)
    {post : Bool → CMu → Prop} (hk : ∀ cm2, PC cm0 cm2 M T n c o s (ouP M s s (W, false)).1 → post (ouP M s s (W, false)).2 cm2) {cm : CMu} (hP : PC cm0 cm M T n c o s W) : w_X6_delaySome post 387 cm := by
  unfold w_X6_delaySome
  have key : ∀ (g i : Nat) (cm : CMu), i + g = s → PC cm0 cm M T n c o s (ouP M s i (W, false)).1 → B_X6_delaySome_4 post (g + 1) 387 (b2 (ouP M s i (W, false)).2) (nI i) cm := by
    intro g
    induction g with
    | zero =>
      intro i cm hi hP
      have e : i = s := by omega
      subst e
      unfold B_X6_delaySome_4
      rw [PC_e3 hP h9]
      refine ⟨fun _ => ?_, fun z => absurd (nI_le (Nat.le_refl _) (by omega)) z⟩
      have := hk cm hP
      cases e : (ouP M i i (W, false)).2
      · rw [e] at this
        exact Or.inl ⟨rfl, this⟩
      · rw [e] at this
        exact Or.inr ⟨rfl, this⟩
    | succ g ih =>
      intro i cm hi hP
      have B := ouP_bd hd hs (st := (W, false)) hb hU i (by omega)
      unfold B_X6_delaySome_4
      rw [PC_e3 hP h9]
      refine ⟨fun z => absurd z (nI_ge (by omega) (by omega)), fun _ => ⟨s + 1, ?_⟩⟩
      exact c_inP hn hc ho hs h9 hy hd (by omega) B (by omega) (fun cm2 h2 => ih (i + 1) cm2 (by omega) h2) s 0 cm (by omega) hP
  exact ⟨s + 1, key s 0 cm (by omega) hP⟩
theorem c_settle (hR : DR M n) (h5 : 1 ≤ (M 5).toInt ∧ (M 5).toInt ≤ 9) (hn : n ≤ 11) (hc : c ≤ 60) (ho : o ≤ 60) (hs : s ≤ 12) (h9 : M 9 = nI s) (hq : ∀ i, i < s → (∃ p, M (94 + 2 * i) = nI p ∧ 1 ≤ p ∧ p ≤ n) ∧ 1 ≤ (M (95 + 2 * i)).toInt ∧ (M (95 + 2 * i)).toInt ≤ 9)
    (hd : ∀ i j, i < 12 → j < 12 → 0 ≤ (M (118 + 12 * i + j)).toInt ∧ (M (118 + 12 * i + j)).toInt ≤ 999) {W0 : MR} (hW : ∀ i, i < s → W0 i = yW M i) (hF : Fo cm0 382 M T n c o)
    {post : Bool → CMu → Prop} (hk : ∀ cm2, PC cm0 cm2 M T n c o s (rnP M s (s + 1) W0).1 → post (!(rnP M s (s + 1) W0).2) cm2) : w_X6_settle post 387 382 cm0 := by
  have hy : ∀ i, i < s → 0 ≤ (yW M i).toInt ∧ (yW M i).toInt ≤ 10000 := by
    intro i hi
    obtain ⟨⟨p, p1, p2, p3⟩, p4⟩ := hq i hi
    exact yW_bd hR hn h5 p1 p3 p4
  have hb : BdP s W0 10000 := fun i hi => by
    rw [hW i hi]
    exact hy i hi
  unfold w_X6_settle
  -- rounds
  have rounds : ∀ (g k : Nat) (cm : CMu), k + g = s + 1 → (rnP M s k W0).2 = true → PC cm0 cm M T n c o s (rnP M s k W0).1 → B_X6_settle_55 post (g + 1) 387 (nI k) cm := by
    intro g
    induction g with
    | zero =>
      intro k cm hk1 ht hP
      have e : k = s + 1 := by omega
      subst e
      unfold B_X6_settle_55
      rw [PC_e3 hP h9]
      have := hk cm hP
      rw [ht] at this
      exact ⟨fun _ => this, fun z => absurd (nI_lt (by omega) (by omega)) z⟩
    | succ g ih =>
      intro k cm hk1 ht hP
      have er : rnP M s (k + 1) W0 = ouP M s s ((rnP M s k W0).1, false) := by
        show (if (rnP M s k W0).2 then ouP M s s ((rnP M s k W0).1, false) else rnP M s k W0) = _
        rw [if_pos ht]
      unfold B_X6_settle_55
      rw [PC_e3 hP h9]
      refine ⟨fun z => absurd z (nI_nlt (by omega) (by omega)), fun _ => ?_⟩
      refine c_rnd hn hc ho hs h9 hy hd (rnP_bd hd hs hb k (by omega)) (by omega) (fun cm2 h2 => ?_) hP
      rw [← er] at h2 ⊢
      refine ⟨fun z => ?_, fun z => ?_⟩
      · rw [nI_1]
        refine ih (k + 1) cm2 (by omega) ?_ h2
        cases e : (rnP M s (k + 1) W0).2
        · exact absurd e z
        · rfl
      · have e2 := rnP_st (M := M) (s := s) (W := W0) z (s + 1 - (k + 1))
        rw [show k + 1 + (s + 1 - (k + 1)) = s + 1 by omega] at e2
        rw [← e2] at h2 z
        have := hk cm2 h2
        rw [z] at this
        exact this
  -- the first ways
  have key : ∀ (g j : Nat) (cm : CMu), j + g = s → Fo cm 382 M T n c o → FrC 382 cm0 cm → (∀ i, i < j → gI cm 404 i = yW M i) → (∀ i, i < j → gI cm 403 i = 0) → B_X6_settle_2 post (g + 1) 387 382 (nI j) cm := by
    intro g
    induction g with
    | zero =>
      intro j cm hj F1 fr hY hS
      have e : j = s := by omega
      subst e
      have hP : PC cm0 cm M T n c o j W0 := ⟨F1, fr, hY, fun i hi => by rw [hS i hi, hW i hi, Int32.zero_add]⟩
      unfold B_X6_settle_2
      rw [PC_e3 hP h9]
      exact ⟨fun _ => ⟨j + 1 + 1, rounds (j + 1) 0 cm (by omega) rfl hP⟩, fun z => absurd (nI_le (Nat.le_refl _) (by omega)) z⟩
    | succ g ih =>
      intro j cm hj F1 fr hY hS
      obtain ⟨⟨p, p1, p2, p3⟩, p4⟩ := hq j (by omega)
      have e3 : gI cm 387 3 = nI s := by
        rw [← h9]
        exact (Fo_h F1).2.2.2.2.2.2.2.2.2
      unfold B_X6_settle_2
      rw [e3, nI_clamp (by omega)]
      refine ⟨fun z => absurd z (nI_ge (by omega) (by omega)), fun _ => ?_⟩
      have vj : vp_in (nI j) 12 := vp_in_nI (by omega) (by omega)
      refine ⟨vj, vj, ?_⟩
      have F2 : Fo (uI cm (387 + 16) j 0) 382 M T n c o := Fo_un F1 hn hc ho (Or.inl rfl) 0
      have a1 : gI (uI cm (387 + 16) j 0) (387 + 1) j = nI p := by
        rw [gI_c (by omega), ← p1]
        exact RF_q (w := 0) F1.1 (by omega) (by omega)
      have a2 : gI (uI cm (387 + 16) j 0) (387 + 2) j = M (95 + 2 * j) := by
        rw [gI_c (by omega), show 95 + 2 * j = 94 + 2 * j + 1 by omega]
        exact RF_q (w := 1) F1.1 (by omega) (by omega)
      have a3 : gI (uI cm (387 + 16) j 0) 382 9 = M 5 := (Fo_h F2).2.2.2.2.2.1
      rw [a1]
      refine c_len F2 hn (a := 0) (by omega) (Nat.zero_le _) ⟨vj, ?_⟩
      unfold w_X12_minutesFor
      rw [a2, a3, Nat.sub_zero]
      refine ⟨vj, ?_⟩
      have ey : lenS M 0 p * ((M (95 + 2 * j) + 10) - M 5) = yW M j := by
        unfold yW
        rw [p1, nI_clamp (by omega)]
      rw [ey, nI_1]
      refine ih (j + 1) _ (by omega) (Fo_un F2 hn hc ho (Or.inr rfl) _) (FrC_tr (FrC_tr fr (FrC_uI (by omega))) (FrC_uI (by omega))) (fun i hi => ?_) (fun i hi => ?_)
      · by_cases q : i = j
        · subst q
          exact gI_hit
        · rw [gI_f q, gI_c (by omega)]
          exact hY i (by omega)
      · rw [gI_c (by omega)]
        by_cases q : i = j
        · subst q
          exact gI_hit
        · rw [gI_f q]
          exact hS i (by omega)
  exact ⟨s + 1, key s 0 cm0 (by omega) hF FrC_rf (fun i hi => absurd hi (by omega)) (fun i hi => absurd hi (by omega))⟩
theorem c_span {cm : CMu} {W : MR} (hs : s ≤ 12) (h9 : M 9 = nI s) (hP : PC cm0 cm M T n c o s W) {post : Int32 → CMu → Prop} (hk : post (mxW W s) cm) : w_X6_span post 387 cm := by
  unfold w_X6_span
  have key : ∀ (g j : Nat), j + g = s → B_X6_span_4 post (g + 1) 387 (mxW W j) (nI j) cm := by
    intro g
    induction g with
    | zero =>
      intro j hj
      have e : j = s := by omega
      subst e
      unfold B_X6_span_4
      rw [PC_e3 hP h9]
      exact ⟨fun _ => hk, fun z => absurd (nI_le (Nat.le_refl _) (by omega)) z⟩
    | succ g ih =>
      intro j hj
      unfold B_X6_span_4
      rw [PC_e3 hP h9, nI_clamp (by omega)]
      refine ⟨fun z => absurd z (nI_ge (by omega) (by omega)), fun _ => ⟨vp_in_nI (by omega) (by omega), vp_in_nI (by omega) (by omega), ?_⟩⟩
      have e1 : gI cm (387 + 16) j + gI cm (387 + 17) j = W j := by
        rw [← hP.2.2.2 j (by omega)]
        congr 1
        exact hP.2.2.1 j (by omega)
      rw [e1, nI_1]
      exact ih (j + 1) (by omega)
  exact ⟨s + 1, key s 0 (by omega)⟩
end PLC
/-! the reference's -/
section PLR
variable {mm0 : MM} {M : MR} {s : Nat}
theorem r_oTime {mm : MM} (hM : mm 1 = M) {n i p : Nat} (hi : i < 12) (hp : M (94 + 2 * i) = nI p) (hpn : p ≤ n) (hn : n ≤ 11) {post : Int32 → MM → Prop} (h : post (yW M i) mm) : w_X13_orderTime post (nI i) mm := by
  unfold w_X13_orderTime
  rw [fa_lit 94, fa_lit 2, nI_mul, nI_add, nI_1, nI_clamp (by omega), nI_clamp (by omega), hM, hp]
  refine ⟨vp_in_nI (by omega) (by omega), vp_in_nI (by omega) (by omega), ?_⟩
  refine r_way (M := M) hM.symm (a := 0) (by omega) (Nat.zero_le _) ?_
  rw [Nat.sub_zero, cl_5, show 94 + 2 * i + 1 = 95 + 2 * i by omega]
  unfold yW at h
  rw [hp, nI_clamp (by omega)] at h
  exact h
theorem r_inP (hM : mm0 1 = M) (hs : s ≤ 12) {post : Int32 → MM → Prop} {k77 : Int32 → Int32 → Int32 → Int32 → MM → Prop} {k92 : Int32 → Int32 → Int32 → Int32 → Int32 → MM → Prop} {x v4 : Int32} {a : Nat} (ha : a < s) {st0 : MR × Bool}
    (hk : k92 x (nI s) (b2 (inP M a s st0).2) v4 (nI (a + 1)) (s9 mm0 (inP M a s st0).1)) :
    ∀ (g j : Nat), j + g = s → B_X13_plan_101 post k77 k92 (g + 1) x (nI s) (b2 (inP M a j st0).2) v4 (nI a) (nI j) (s9 mm0 (inP M a j st0).1) := by
  intro g
  induction g with
  | zero =>
    intro j hj
    have e : j = s := by omega
    subst e
    unfold B_X13_plan_101
    rw [nI_1]
    exact ⟨fun _ => hk, fun z => absurd (nI_le (Nat.le_refl _) (by omega)) z⟩
  | succ g ih =>
    intro j hj
    have ej : inP M a (j + 1) st0 = stpP M a j (inP M a j st0) := rfl
    have ih' := ih (j + 1) (by omega)
    rw [ej] at ih'
    rw [← nI_1] at ih'
    generalize hst : inP M a j st0 = st at ih'
    have ea : (118 + (12 * nI a) + nI j : Int32) = nI (118 + 12 * a + j) := by rw [fa_lit 118, fa_lit 12, nI_mul, nI_add, nI_add]
    unfold B_X13_plan_101 B_X13_plan_172
    rw [ea, nI_clamp (by omega), nI_clamp (by omega), nI_clamp (by omega), s9_9, s9_o (by omega), hM, nI_1, up2_9]
    have va : vp_in (nI a) 12 := vp_in_nI (by omega) (by omega)
    have vj : vp_in (nI j) 12 := vp_in_nI (by omega) (by omega)
    refine ⟨fun z => absurd z (nI_ge (by omega) (by omega)), fun _ => ⟨vp_in_nI (by omega) (by omega), fun z => ?_, fun z => ⟨vj, va, fun z2 => ⟨va, vj, ?_⟩, fun z2 => ?_⟩⟩⟩
    · have e : stpP M a j st = st := by
        unfold stpP
        rw [if_pos z]
      rw [e] at ih'
      exact ih'
    · have e : stpP M a j st = (upd st.1 j (st.1 a + M (118 + 12 * a + j)), true) := by
        unfold stpP
        rw [if_neg z, if_pos z2]
      rw [e] at ih'
      exact ih'
    · have e : stpP M a j st = st := by
        unfold stpP
        rw [if_neg z, if_neg z2]
      rw [e] at ih'
      exact ih'
theorem r_rnd (hM : mm0 1 = M) (hs : s ≤ 12) {post : Int32 → MM → Prop} {k77 : Int32 → Int32 → Int32 → Int32 → MM → Prop} {x v4 : Int32} {W : MR}
    (hk : k77 x (nI s) (b2 (ouP M s s (W, false)).2) (v4 + 1) (s9 mm0 (ouP M s s (W, false)).1)) :
    ∀ (g i : Nat), i + g = s → B_X13_plan_92 post k77 (g + 1) x (nI s) (b2 (ouP M s i (W, false)).2) v4 (nI i) (s9 mm0 (ouP M s i (W, false)).1) := by
  intro g
  induction g with
  | zero =>
    intro i hi
    have e : i = s := by omega
    subst e
    unfold B_X13_plan_92
    exact ⟨fun _ => hk, fun z => absurd (nI_le (Nat.le_refl _) (by omega)) z⟩
  | succ g ih =>
    intro i hi
    unfold B_X13_plan_92
    refine ⟨fun z => absurd z (nI_ge (by omega) (by omega)), fun _ => ⟨s + 1, ?_⟩⟩
    exact r_inP hM hs (by omega) (ih (i + 1) (by omega)) s 0 (by omega)
theorem r_rounds (hM : mm0 1 = M) (hs : s ≤ 12) {post : Int32 → MM → Prop} {x : Int32} {W : MR} (hk : B_X13_plan_190 post x (nI s) (b2 (rnP M s (s + 1) W).2) (s9 mm0 (rnP M s (s + 1) W).1)) :
    ∀ (g k : Nat), k + g = s + 1 → B_X13_plan_77 post (g + 1) x (nI s) (b2 (rnP M s k W).2) (nI k) (s9 mm0 (rnP M s k W).1) := by
  intro g
  induction g with
  | zero =>
    intro k hk1
    have e : k = s + 1 := by omega
    subst e
    unfold B_X13_plan_77
    exact ⟨fun _ => hk, fun z => absurd (nI_lt (by omega) (by omega)) z⟩
  | succ g ih =>
    intro k hk1
    unfold B_X13_plan_77
    refine ⟨fun z => absurd z (nI_nlt (by omega) (by omega)), fun _ => ⟨fun z => ?_, fun z => ⟨s + 1, ?_⟩⟩⟩
    · have zf : (rnP M s k W).2 = false := by
        cases e : (rnP M s k W).2
        · rfl
        · rw [e] at z
          exact absurd z (by decide)
      have e2 := rnP_st (M := M) (s := s) (W := W) zf (s + 1 - k)
      rw [show k + (s + 1 - k) = s + 1 by omega] at e2
      rw [e2] at hk
      exact hk
    · have zt : (rnP M s k W).2 = true := by
        cases e : (rnP M s k W).2
        · rw [e] at z
          exact absurd rfl z
        · rfl
      have er : rnP M s (k + 1) W = ouP M s s ((rnP M s k W).1, false) := by
        show (if (rnP M s k W).2 then ouP M s s ((rnP M s k W).1, false) else rnP M s k W) = _
        rw [if_pos zt]
      have ih' := ih (k + 1) (by omega)
      rw [er, ← nI_1] at ih'
      exact r_rnd hM hs ih' s 0 (by omega)
theorem r_first (hM : mm0 1 = M) (hs : s ≤ 12) {n : Nat} (hn : n ≤ 11) (hq : ∀ i, i < s → ∃ p, M (94 + 2 * i) = nI p ∧ p ≤ n) {post : Int32 → MM → Prop} {x : Int32} {F : MR} (hk : B_X13_plan_190 post x (nI s) (b2 (rnP M s (s + 1) (fun i => if i < s then yW M i else F i)).2) (s9 mm0 (rnP M s (s + 1) (fun i => if i < s then yW M i else F i)).1)) :
    ∀ (g j : Nat), j + g = s → B_X13_plan_50 post (g + 1) x (nI s) (nI j) (s9 mm0 (fun i => if i < j then yW M i else F i)) := by
  intro g
  induction g with
  | zero =>
    intro j hj
    have e : j = s := by omega
    subst e
    unfold B_X13_plan_50
    refine ⟨fun _ => ⟨j + 1 + 1, ?_⟩, fun z => absurd (nI_le (Nat.le_refl _) (by omega)) z⟩
    exact r_rounds hM hs hk (j + 1) 0 (by omega)
  | succ g ih =>
    intro j hj
    obtain ⟨p, hp, hpn⟩ := hq j (by omega)
    unfold B_X13_plan_50
    refine ⟨fun z => absurd z (nI_ge (by omega) (by omega)), fun _ => ?_⟩
    refine r_oTime (n := n) (M := M) (by rw [s9_o (by omega), hM]) (by omega) hp hpn hn ⟨vp_in_nI (by omega) (by omega), ?_⟩
    rw [nI_clamp (by omega), up2_9, nI_1]
    have e : upd (fun i => if i < j then yW M i else F i) j (yW M j) = (fun i => if i < j + 1 then yW M i else F i) := by
      funext i
      unfold upd
      by_cases q : i = j
      · subst q
        rw [if_pos rfl, if_pos (by omega)]
      · rw [if_neg q]
        show (if i < j then yW M i else F i) = _
        by_cases q2 : i < j
        · rw [if_pos q2, if_pos (by omega)]
        · rw [if_neg q2, if_neg (by omega)]
    rw [e]
    exact ih (j + 1) (by omega)
theorem r_max {W : MR} (hs : s ≤ 12) {post : Int32 → MM → Prop} (hk : post (mxW W s) (s9 mm0 W)) : ∀ (g j : Nat), j + g = s → B_X13_plan_220 post (g + 1) (nI s) (mxW W j) (nI j) (s9 mm0 W) := by
  intro g
  induction g with
  | zero =>
    intro j hj
    have e : j = s := by omega
    subst e
    unfold B_X13_plan_220
    exact ⟨fun _ => hk, fun z => absurd (nI_le (Nat.le_refl _) (by omega)) z⟩
  | succ g ih =>
    intro j hj
    have ih' := ih (j + 1) (by omega)
    have ex : mxW W (j + 1) = jmax (mxW W j) (W j) := rfl
    rw [ex] at ih'
    unfold jmax at ih'
    unfold B_X13_plan_220 B_X13_plan_250
    rw [nI_clamp (by omega), s9_9, nI_1]
    refine ⟨fun z => absurd z (nI_ge (by omega) (by omega)), fun _ => ⟨vp_in_nI (by omega) (by omega), fun z => ?_, fun z => ⟨vp_in_nI (by omega) (by omega), ?_⟩⟩⟩
    · rw [if_neg (le_lt.mp z)] at ih'
      exact ih'
    · rw [if_pos (by
        by_cases y : mxW W j < W j
        · exact y
        · exact absurd (le_lt.mpr y) z)] at ih'
      exact ih'
end PLR
section SPL
variable {q : Nat} {cm : CMu} {mm : MM} {oo : Nat → Int64} {kk : KKt} {v : Int32}
theorem s_plan (h : SI q cm mm) {x : Int32} (hk : ∀ cm' mm' oo', SI (q + 1) cm' mm' → kk v cm' mm' oo') {post : Int32 → CMu × (Nat → Int64) → Prop} (hpost : ∀ r u, w_X13_plan (EX kk v r u) x mm → post r u) : w_L_plan post x cm oo := by
  obtain ⟨n, c, o, T, g1, g2, g3, g4, g5, g6⟩ := id h
  obtain ⟨o1, o2, o3⟩ := mid_o g2
  obtain ⟨s, s1', s2, s3', s4, s5'⟩ := g2.2.2.2.1
  have e9 : gI cm 387 3 = nI s := by rw [← s1']; exact (Fo_h g1).2.2.2.2.2.2.2.2.2
  have r9 : mm 1 (Int32.toNatClampNeg 9) = nI s := by rw [cl_9]; exact s1'
  have hq : ∀ i, i < s → ∃ p, mm 1 (94 + 2 * i) = nI p ∧ p ≤ n := fun i hi => by
    obtain ⟨⟨p, p1, p2, p3⟩, p4⟩ := s3' i hi
    exact ⟨p, p1, p3⟩
  -- the reference throws
  have bad : ¬ x = -1 → ¬ (¬ x < 0 ∧ ¬ nI s - 1 < x) → post 1 (cm, oo) := by
    intro hx hno
    refine hpost _ _ ?_
    unfold w_X13_plan
    rw [r9]
    refine ⟨fun z => absurd z hx, fun _ => r_isIn2 (fun a b => absurd ⟨a, b⟩ hno) (fun _ => ⟨fun z => absurd rfl z, fun _ => ?_⟩)⟩
    unfold B_X13_plan_28
    exact ⟨fun y => absurd y th1, fun _ => EX_th rfl (by decide) (hk _ _ _ (SI_t h 1))⟩
  -- the reference goes
  have good : ∀ (r : Int32) (u : CMu × (Nat → Int64)), (x = -1 ∨ (¬ x < 0 ∧ ¬ nI s - 1 < x)) → B_X13_plan_190 (EX kk v r u) x (nI s) (b2 (rnP (mm 1) s (s + 1) (fun i => if i < s then yW (mm 1) i else mm 9 i)).2) (s9 (up2 mm 0 0 0) (rnP (mm 1) s (s + 1) (fun i => if i < s then yW (mm 1) i else mm 9 i)).1) → post r u := by
    intro r u hx hb
    refine hpost _ _ ?_
    have b27 : B_X13_plan_27 (EX kk v r u) x mm := by
      unfold B_X13_plan_27 B_X13_plan_28
      refine ⟨fun _ => ?_, fun z => absurd th0 z⟩
      have e0 : (up2 mm 0 0 (b2 false)) 1 (Int32.toNatClampNeg (9 : Int32)) = nI s := r9
      rw [e0]
      refine ⟨s + 1, ?_⟩
      have := r_first (mm0 := up2 mm 0 0 0) (M := mm 1) (by funext i; rfl) s2 o1 hq (F := mm 9) hb s 0 (by omega)
      have e9' : s9 (up2 mm 0 0 0) (fun i => if i < 0 then yW (mm 1) i else mm 9 i) = up2 mm 0 0 0 := by
        have : (fun i => if i < 0 then yW (mm 1) i else mm 9 i) = (up2 mm 0 0 0) 9 := by
          funext i
          rw [if_neg (by omega)]
          rfl
        rw [this]
        exact s9_id
      rw [e9'] at this
      exact this
    unfold w_X13_plan
    rw [r9]
    refine ⟨fun _ => b27, fun z => ?_⟩
    rcases hx with hx | hx
    · exact absurd hx z
    · exact r_isIn2 (fun _ _ => ⟨fun _ => b27, fun y => absurd y (by decide)⟩) (fun y => absurd hx y)
  -- the class from here
  have body : (x = -1 ∨ ∃ i, i < s ∧ x = nI i) → B_X12_plan_10 (fun (r : Int32) (u : CMu) => post 0 (u, vp_updL oo (Int32.toNatClampNeg (0 : Int32)) (Int32.toInt64 r))) (fun (x : Nat) (u : CMu) => (x = 1 ∧ post 1 (u, oo))) x cm := by
    intro hx
    have hx2 : x = -1 ∨ (¬ x < 0 ∧ ¬ nI s - 1 < x) := by
      rcases hx with hx | ⟨i, hi, rfl⟩
      · exact Or.inl hx
      · refine Or.inr ⟨nI_pos (by omega), fun z => ?_⟩
        obtain ⟨s', rfl⟩ : ∃ s', s = s' + 1 := ⟨s - 1, by omega⟩
        rw [nI_pred, nI_ltI (by omega) (by omega)] at z
        omega
    unfold B_X12_plan_10
    refine c_settle (M := mm 1) (W0 := fun i => if i < s then yW (mm 1) i else mm 9 i) g2.2.1 ⟨g2.1.2.2.2.2.2.2.2.1, g2.1.2.2.2.2.2.2.2.2.1⟩ o1 o2 o3 s2 s1' s3' s4 (fun i hi => if_pos hi) g1 (fun cm2 hP => ?_)
    have gd := fun r u => good r u hx2
    generalize hW : rnP (mm 1) s (s + 1) (fun i => if i < s then yW (mm 1) i else mm 9 i) = st at hP gd
    have hSI : SI (q + 1) cm2 (s9 (up2 mm 0 0 0) st.1) := SI_now (c := c) (n' := n) (o' := o) g3 g4 g5 g6 hP.2.1 rfl rfl rfl rfl rfl hP.1 (Mid_K g2 (by omega)) (Nat.le_refl c)
    refine ⟨fun z => ?_, fun z => ?_⟩
    · have zf : st.2 = false := by
        cases e : st.2
        · rfl
        · rw [e] at z
          exact absurd rfl z
      have v0 : b2 st.2 = 0 := by rw [zf]; rfl
      refine ⟨fun y => ?_, fun y => ?_⟩
      · rcases hx with hx | ⟨i, hi, rfl⟩
        · exact absurd hx y
        · rw [nI_clamp (by omega)]
          refine ⟨vp_in_nI (by omega) (by omega), ?_⟩
          unfold B_X12_plan_59
          have e1 : gI cm2 403 i = st.1 i - yW (mm 1) i := by
            rw [← hP.2.2.2 i hi, Int32.add_sub_cancel]
          rw [e1]
          refine gd _ _ ?_
          unfold B_X13_plan_190
          rw [v0]
          refine ⟨fun _ => ⟨fun y2 => absurd y2 y, fun _ => ⟨vp_in_nI (by omega) (by omega), ?_⟩⟩, fun y2 => absurd rfl y2⟩
          obtain ⟨p, hp, hpn⟩ := hq i hi
          refine r_oTime (n := n) (M := mm 1) (by funext i; rfl) (by omega) hp hpn o1 ?_
          rw [nI_clamp (by omega), s9_9]
          exact EX_ok rfl (hk _ _ _ hSI)
      · refine c_span s2 s1' hP ?_
        unfold B_X12_plan_59
        refine gd _ _ ?_
        unfold B_X13_plan_190
        rw [v0]
        refine ⟨fun _ => ⟨fun _ => ⟨s + 1, ?_⟩, fun y2 => absurd y y2⟩, fun y2 => absurd rfl y2⟩
        exact r_max s2 (EX_ok rfl (hk _ _ _ hSI)) s 0 (by omega)
    · have zt : st.2 = true := by
        cases e : st.2
        · rw [e] at z
          exact absurd z (by decide)
        · rfl
      have v1 : b2 st.2 = 1 := by rw [zt]; rfl
      refine gd _ _ ?_
      unfold B_X13_plan_190
      rw [v1]
      exact ⟨fun y => absurd y (by decide), fun _ => EX_ok rfl (hk _ _ _ hSI)⟩
  unfold w_L_plan w_X12_plan w_X12_demandOrder B_X12_demandOrder_18
  refine ⟨fun z => body (Or.inl z), fun z => ⟨fun q1 => ⟨rfl, bad z (fun y => y.1 q1)⟩, fun q1 => ⟨fun q2 => ?_, fun q2 => ⟨rfl, bad z (fun y => ?_)⟩⟩⟩⟩
  · rw [e9] at q2
    refine body (Or.inr ?_)
    obtain ⟨j, hj, rfl⟩ := in_of (n := s) (x := x) (by omega) q1 (by rw [fa_lt]; rw [fa_lt] at q2; omega)
    rw [nI_ltI (by omega) (by omega)] at q2
    exact ⟨j, q2, rfl⟩
  · rw [e9] at q2
    refine y.2 ((sub_lt1 (by omega)).mpr (Or.inl (le_lt.mpr q2)))
end SPL
