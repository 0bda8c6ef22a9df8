/-! ===== test ===== -/
theorem cntP_S {p : Nat → Bool} {n : Nat} : cntP p (n + 1) = cntP p n + (if p n then 1 else 0) := rfl
theorem nI_toB (x : Int32) : nI x.toBitVec.toNat = x := by
  apply b_ext
  intro i hi
  show (BitVec.ofNat 32 x.toBitVec.toNat).getLsbD i = _
  rw [BitVec.ofNat_toNat]
  rfl
theorem bcE_eq {y : Int32} (h : ∀ i, 12 ≤ i → bt y i = false) : bcE y = nI (cntP (bt y) 12) := by
  have hk : y.toBitVec.toNat < 2 ^ 12 := Nat.lt_pow_two_of_testBit _ (fun i hi => h i hi)
  have e := bcE_4096 (y.toBitVec.toNat / 64) (by omega) (y.toBitVec.toNat % 64) (by omega)
  rw [show 64 * (y.toBitVec.toNat / 64) + y.toBitVec.toNat % 64 = y.toBitVec.toNat by omega, nI_toB] at e
  exact e
theorem msk : ∀ a, a < 13 → ∀ b, b < 13 → a ≤ b → ∀ i, i < 32 → bt ((1 <<< (nI b &&& 31)) - (1 <<< (nI a &&& 31))) i = decide (a ≤ i ∧ i < b) := by decide +kernel
theorem cntP_cut {f : Nat → Bool} {b : Nat} : ∀ g, cntP (fun i => decide (i < b) && f i) (b + g) = cntP f b := by
  intro g
  induction g with
  | zero =>
    refine cntP_cong (fun i hi => ?_)
    rw [decide_eq_true (show i < b by omega), Bool.true_and]
  | succ g ih =>
    show cntP _ (b + g + 1) = _
    rw [cntP_S, ih, decide_eq_false (show ¬ b + g < b by omega), Bool.false_and, if_neg (by decide), Nat.add_zero]
def bc (x : Int32) (a b : Nat) : Nat := cntP (fun i => decide (a ≤ i) && bt x i) b
def susp (x : Int32) (n : Nat) : Int32 := x &&& ((1 <<< ((nI n + 1) &&& 31)) - 1)
theorem susp_bt {x : Int32} {n i : Nat} (hn : n ≤ 11) (hi : i < 32) : bt (susp x n) i = (bt x i && decide (i < n + 1)) := by
  unfold susp
  have e1 : (1 : Int32) = 1 <<< (nI 0 &&& 31) := by decide
  rw [nI_1, b_and]
  conv => lhs; rhs; arg 1; rhs; rw [e1]
  rw [msk 0 (by omega) (n + 1) (by omega) (by omega) i hi]
  congr 2
  exact propext ⟨fun z => z.2, fun z => ⟨Nat.zero_le _, z⟩⟩
theorem bc_all {x : Int32} {n : Nat} (hn : n ≤ 11) : bcE (susp x n) = nI (bc x 0 (n + 1)) := by
  rw [bcE_eq (fun i hi => ?_)]
  · congr 1
    have e := cntP_cut (f := bt x) (b := n + 1) (12 - (n + 1))
    rw [show n + 1 + (12 - (n + 1)) = 12 by omega] at e
    rw [cntP_cong (q := fun i => decide (i < n + 1) && bt x i) (fun i hi => by rw [susp_bt hn (by omega), Bool.and_comm]), e]
    unfold bc
    exact cntP_cong (fun i hi => by rw [decide_eq_true (Nat.zero_le i), Bool.true_and])
  · by_cases q : i < 32
    · rw [susp_bt hn q, decide_eq_false (by omega), Bool.and_false]
    · exact b_big (by omega)
theorem bc_in {x : Int32} {n a b : Nat} (hn : n ≤ 11) (hab : a ≤ b) (hb : b ≤ n + 1) : bcE (susp x n &&& ((1 <<< (nI b &&& 31)) - (1 <<< (nI a &&& 31)))) = nI (bc x a b) := by
  have hbt : ∀ i, i < 32 → bt (susp x n &&& ((1 <<< (nI b &&& 31)) - (1 <<< (nI a &&& 31)))) i = (decide (i < b) && (decide (a ≤ i) && bt x i)) := by
    intro i hi
    rw [b_and, susp_bt hn hi, msk a (by omega) b (by omega) hab i hi]
    by_cases q : i < b
    · rw [decide_eq_true (show i < n + 1 by omega), decide_eq_true q, Bool.and_true, Bool.true_and, Bool.and_comm]
      congr 2
      exact propext ⟨fun z => z.1, fun z => ⟨z, q⟩⟩
    · rw [decide_eq_false q, decide_eq_false (show ¬ (a ≤ i ∧ i < b) from fun z => q z.2), Bool.and_false, Bool.false_and]
  rw [bcE_eq (fun i hi => ?_)]
  · congr 1
    have e := cntP_cut (f := fun i => decide (a ≤ i) && bt x i) (b := b) (12 - b)
    rw [show b + (12 - b) = 12 by omega] at e
    rw [cntP_cong (fun i hi => hbt i (by omega)), e]
    rfl
  · by_cases q : i < 32
    · rw [hbt i q, decide_eq_false (by omega), Bool.false_and]
    · exact b_big (by omega)
theorem and1 {x : Int32} {h : Nat} (hh : h < 31) : (x >>> (nI h &&& 31)) &&& 1 = nI (if bt x h then 1 else 0) := by
  cases e : bt x h with
  | true => exact (bit_sh x hh).mpr e
  | false =>
    apply b_ext
    intro i hi
    rw [b_and, bt_1 i hi]
    by_cases c : i = 0
    · subst c
      rw [b_sshr h (by omega) x (by omega), if_pos (by omega)]
      show (bt x (h + 0) && true) = bt (nI 0) 0
      rw [Nat.add_zero, e]
      rfl
    · rw [decide_eq_false c, Bool.and_false]
      show false = bt (nI 0) i
      exact (b_0 i).symm
theorem bc_S {x : Int32} {a b : Nat} (hab : a ≤ b) : bc x a (b + 1) = bc x a b + (if bt x b then 1 else 0) := by
  show bc x a b + (if (decide (a ≤ b) && bt x b) = true then 1 else 0) = _
  rw [decide_eq_true hab, Bool.true_and]
theorem bc_e {x : Int32} {a : Nat} : ∀ b, b ≤ a → bc x a b = 0 := by
  intro b
  induction b with
  | zero => intro _; rfl
  | succ b ih =>
    intro hb
    have i := ih (by omega)
    unfold bc at i ⊢
    rw [cntP_S, i, decide_eq_false (show ¬ a ≤ b by omega), Bool.false_and]
    rfl
theorem bc_le {x : Int32} {a b n : Nat} (hb : b ≤ n) : bc x a b ≤ bc x 0 n := by
  have h1 : ∀ d, bc x a d ≤ bc x 0 d := by
    intro d
    induction d with
    | zero => exact Nat.le_refl _
    | succ d ih =>
      unfold bc at ih ⊢
      rw [cntP_S, cntP_S, decide_eq_true (Nat.zero_le d), Bool.true_and]
      by_cases q : a ≤ d
      · rw [decide_eq_true q, Bool.true_and]
        omega
      · rw [decide_eq_false q, Bool.false_and, if_neg (by decide)]
        omega
  have h2 : ∀ g, bc x 0 b ≤ bc x 0 (b + g) := by
    intro g
    induction g with
    | zero => exact Nat.le_refl _
    | succ g ih =>
      have e : bc x 0 (b + (g + 1)) = bc x 0 (b + g) + (if bt x (b + g) then 1 else 0) := bc_S (Nat.zero_le _)
      omega
  have := h1 b
  have := h2 (n - b)
  rw [show b + (n - b) = n by omega] at this
  omega
theorem bc_ex {x : Int32} : ∀ {n}, 0 < bc x 0 n → ∃ i, i < n ∧ bt x i = true := by
  intro n
  induction n with
  | zero => intro h; exact absurd h (Nat.lt_irrefl 0)
  | succ n ih =>
    intro h
    cases e : bt x n with
    | true => exact ⟨n, by omega, e⟩
    | false =>
      rw [bc_S (Nat.zero_le _), e] at h
      obtain ⟨i, h1, h2⟩ := ih h
      exact ⟨i, by omega, h2⟩
/-! the best pair, twice -/
def wsF (x : Int32) (all a b : Nat) : Nat := max (bc x a b) (all - bc x a b)
def stC2 (s : Nat) (q : Nat) (st : Int32 × Nat) : Int32 × Nat := if st.2 ≤ s then st else (nI q, s)
def stR2 (s : Nat) (q : Nat) (st : Int32 × Nat) : Int32 × Nat := if st.1 = -1 ∨ s < st.2 then (nI q, s) else st
def inT (S : Nat → Nat → Int32 × Nat → Int32 × Nat) (x : Int32) (all a : Nat) : Nat → Int32 × Nat → Int32 × Nat
  | 0, st => st
  | d + 1, st => S (wsF x all a (a + 1 + d)) (16 * a + (a + 1 + d)) (inT S x all a d st)
def ouT (S : Nat → Nat → Int32 × Nat → Int32 × Nat) (x : Int32) (all n : Nat) : Nat → Int32 × Nat → Int32 × Nat
  | 0, st => st
  | i + 1, st => inT S x all i (n + 1 - i) (ouT S x all n i st)
def BsT (c r : Int32 × Nat) : Prop := c = r ∧ c.1 ≠ -1
def AsT (all : Nat) (c r : Int32 × Nat) : Prop := BsT c r ∨ (c = (-1, all) ∧ (r.1 = -1 ∨ r.2 = all))
theorem stB {c r : Int32 × Nat} {s q : Nat} (hq : q < 10000) (h : BsT c r) : BsT (stC2 s q c) (stR2 s q r) := by
  obtain ⟨rfl, h2⟩ := h
  unfold stC2 stR2
  by_cases z : c.2 ≤ s
  · rw [if_pos z, if_neg (by
      intro y
      rcases y with y | y
      · exact h2 y
      · omega)]
    exact ⟨rfl, h2⟩
  · rw [if_neg z, if_pos (Or.inr (by omega))]
    exact ⟨rfl, nI_m1 (by omega)⟩
theorem stA {all s q : Nat} {c r : Int32 × Nat} (hq : q < 10000) (hs : s ≤ all) (h : AsT all c r) : AsT all (stC2 s q c) (stR2 s q r) ∧ (s < all → BsT (stC2 s q c) (stR2 s q r)) := by
  rcases h with h | ⟨rfl, h⟩
  · exact ⟨Or.inl (stB hq h), fun _ => stB hq h⟩
  · unfold stC2 stR2
    by_cases z : all ≤ s
    · have e : s = all := by omega
      subst e
      refine ⟨Or.inr ⟨if_pos (Nat.le_refl _), ?_⟩, fun y => absurd y (by omega)⟩
      split
      · exact Or.inr rfl
      · exact h
    · rw [if_neg z, if_pos (by
        rcases h with h | h
        · exact Or.inl h
        · exact Or.inr (by omega))]
      exact ⟨Or.inl ⟨rfl, nI_m1 (by omega)⟩, fun _ => ⟨rfl, nI_m1 (by omega)⟩⟩
section TT
variable {x : Int32} {n : Nat}
theorem inT_B {all a : Nat} (ha : a ≤ 20) {c r : Int32 × Nat} (h : BsT c r) : ∀ d, d ≤ 20 → BsT (inT stC2 x all a d c) (inT stR2 x all a d r) := by
  intro d
  induction d with
  | zero => intro _; exact h
  | succ d ih =>
    intro hd
    exact stB (by omega) (ih (by omega))
theorem inT_A {a : Nat} (ha : a ≤ n) (hn : n ≤ 11) {c r : Int32 × Nat} (h : AsT (bc x 0 (n + 1)) c r) : ∀ d, d ≤ n + 1 - a → AsT (bc x 0 (n + 1)) (inT stC2 x (bc x 0 (n + 1)) a d c) (inT stR2 x (bc x 0 (n + 1)) a d r) ∧ (bt x a = true → 2 ≤ bc x 0 (n + 1) → 0 < d → BsT (inT stC2 x (bc x 0 (n + 1)) a d c) (inT stR2 x (bc x 0 (n + 1)) a d r)) := by
  intro d
  induction d with
  | zero => intro _; exact ⟨h, fun _ _ z => absurd z (by omega)⟩
  | succ d ih =>
    intro hd
    have i := ih (by omega)
    have hw : wsF x (bc x 0 (n + 1)) a (a + 1 + d) ≤ bc x 0 (n + 1) := by
      have := bc_le (x := x) (a := a) (b := a + 1 + d) (n := n + 1) (by omega)
      unfold wsF
      omega
    have s := stA (q := 16 * a + (a + 1 + d)) (by omega) hw i.1
    refine ⟨s.1, fun hb h2 _ => ?_⟩
    by_cases z : d = 0
    · subst z
      refine s.2 ?_
      have e1 : bc x a (a + 1 + 0) = 1 := by
        show bc x a (a + 1) = 1
        rw [bc_S (Nat.le_refl _), bc_e a (Nat.le_refl _), hb]
        rfl
      unfold wsF
      rw [e1]
      omega
    · exact stB (by omega) (i.2 hb h2 (by omega))
theorem ouT_A (hn : n ≤ 11) {c r : Int32 × Nat} (h : AsT (bc x 0 (n + 1)) c r) : ∀ i, i ≤ n + 1 → AsT (bc x 0 (n + 1)) (ouT stC2 x (bc x 0 (n + 1)) n i c) (ouT stR2 x (bc x 0 (n + 1)) n i r) ∧ (2 ≤ bc x 0 (n + 1) → (∃ a, a < i ∧ bt x a = true) → BsT (ouT stC2 x (bc x 0 (n + 1)) n i c) (ouT stR2 x (bc x 0 (n + 1)) n i r)) := by
  intro i
  induction i with
  | zero => intro _; exact ⟨h, fun _ ⟨a, z, _⟩ => absurd z (by omega)⟩
  | succ i ih =>
    intro hi
    have j := ih (by omega)
    have k := inT_A (x := x) (n := n) (a := i) (by omega) hn j.1 (n + 1 - i) (Nat.le_refl _)
    refine ⟨k.1, fun h2 ⟨a, ha, hb⟩ => ?_⟩
    by_cases z : a < i
    · exact inT_B (by omega) (j.2 h2 ⟨a, z, hb⟩) _ (by omega)
    · have e : a = i := by omega
      subst e
      exact k.2 hb h2 (by omega)
end TT
theorem jmax_nI {a b : Nat} (ha : a < 2 ^ 31) (hb : b < 2 ^ 31) : jmax (nI a) (nI b) = nI (max a b) := by
  unfold jmax
  by_cases q : a < b
  · rw [if_pos (nI_lt q hb), Nat.max_eq_right (by omega)]
  · rw [if_neg (nI_nlt (by omega) ha), Nat.max_eq_left (by omega)]
section TC
variable {x : Int32} {n all : Nat}
theorem c_inT (hn : n ≤ 11) (hall : all = bc x 0 (n + 1)) {a : Nat} (ha : a ≤ n) {cm : CMu} (e5 : gI cm 382 5 = nI n) {post : Int32 → CMu → Prop} {k37 : Int32 → Int32 → Int32 → Int32 → Int32 → CMu → Prop} {st0 : Int32 × Nat} (h0 : st0.2 ≤ 100)
    (hk : k37 (susp x n) (nI all) (inT stC2 x all a (n + 1 - a) st0).1 (nI (inT stC2 x all a (n + 1 - a) st0).2) (nI (a + 1)) cm) :
    ∀ (g d : Nat), d + g = n + 1 - a → (inT stC2 x all a d st0).2 ≤ 100 → B_X12_test_55 post k37 (g + 1) (susp x n) (nI all) (inT stC2 x all a d st0).1 (nI (inT stC2 x all a d st0).2) (nI a) (nI (a + 1 + d)) cm := by
  intro g
  induction g with
  | zero =>
    intro d hd hb
    have e : d = n + 1 - a := by omega
    subst e
    unfold B_X12_test_55
    rw [e5, nI_1, nI_1]
    exact ⟨fun _ => hk, fun z => absurd (nI_lt (by omega) (by omega)) z⟩
  | succ g ih =>
    intro d hd hb
    have es : inT stC2 x all a (d + 1) st0 = stC2 (wsF x all a (a + 1 + d)) (16 * a + (a + 1 + d)) (inT stC2 x all a d st0) := rfl
    have ih' := ih (d + 1) (by omega)
    rw [es] at ih'
    have hle : bc x a (a + 1 + d) ≤ all := by
      rw [hall]
      exact bc_le (by omega)
    have hall2 : all ≤ 12 := by
      rw [hall]
      have := cntP_le (fun i => decide (0 ≤ i) && bt x i) (n + 1)
      unfold bc
      omega
    generalize hst : inT stC2 x all a d st0 = st at ih' hb
    have hw : wsF x all a (a + 1 + d) ≤ 12 := by
      unfold wsF
      omega
    unfold B_X12_test_55 B_X12_test_117
    rw [e5, nI_1, nI_1]
    refine ⟨fun z => absurd z (nI_nlt (by omega) (by omega)), fun _ => c_bc ?_⟩
    have hm : max (bc x a (a + 1 + d)) (all - bc x a (a + 1 + d)) = wsF x all a (a + 1 + d) := rfl
    rw [bc_in hn (by omega) (by omega), nI_sub hle, jmax_nI (by omega) (by omega), hm, fa_lit 16, nI_mul, nI_add, nI_1, nI_leI (by omega) (by omega)]
    refine ⟨fun z => ?_, fun z => ?_⟩
    · unfold stC2 at ih'
      rw [if_pos z] at ih'
      exact ih' hb
    · unfold stC2 at ih'
      rw [if_neg z] at ih'
      exact ih' (show wsF x all a (a + 1 + d) ≤ 100 by omega)
theorem inT_bd {S : Nat → Nat → Int32 × Nat → Int32 × Nat} (hS : ∀ s q st, s ≤ 12 → st.2 ≤ 100 → (S s q st).2 ≤ 100) (hn : n ≤ 11) (hall : all = bc x 0 (n + 1)) {a : Nat} (ha : a ≤ n) {st : Int32 × Nat} (h : st.2 ≤ 100) : ∀ d, d ≤ n + 1 - a → (inT S x all a d st).2 ≤ 100 := by
  intro d
  induction d with
  | zero => intro _; exact h
  | succ d ih =>
    intro hd
    have hle : bc x a (a + 1 + d) ≤ all := by
      rw [hall]
      exact bc_le (by omega)
    have hall2 : all ≤ 12 := by
      rw [hall]
      have := cntP_le (fun i => decide (0 ≤ i) && bt x i) (n + 1)
      unfold bc
      omega
    refine hS _ _ _ ?_ (ih (by omega))
    unfold wsF
    omega
theorem stC2_bd : ∀ s q st, s ≤ 12 → st.2 ≤ 100 → (stC2 s q st).2 ≤ 100 := by
  intro s q st h1 h2
  unfold stC2
  split
  · exact h2
  · show s ≤ 100
    omega
theorem stR2_bd : ∀ s q st, s ≤ 12 → st.2 ≤ 100 → (stR2 s q st).2 ≤ 100 := by
  intro s q st h1 h2
  unfold stR2
  split
  · show s ≤ 100
    omega
  · exact h2
theorem ouT_bd {S : Nat → Nat → Int32 × Nat → Int32 × Nat} (hS : ∀ s q st, s ≤ 12 → st.2 ≤ 100 → (S s q st).2 ≤ 100) (hn : n ≤ 11) (hall : all = bc x 0 (n + 1)) {st : Int32 × Nat} (h : st.2 ≤ 100) : ∀ i, i ≤ n + 1 → (ouT S x all n i st).2 ≤ 100 := by
  intro i
  induction i with
  | zero => intro _; exact h
  | succ i ih =>
    intro hi
    exact inT_bd hS hn hall (by omega) (ih (by omega)) _ (Nat.le_refl _)
theorem c_ouT (hn : n ≤ 11) (hall : all = bc x 0 (n + 1)) {cm : CMu} (e5 : gI cm 382 5 = nI n) {post : Int32 → CMu → Prop} {st0 : Int32 × Nat} (h0 : st0.2 ≤ 100) (hk : post (ouT stC2 x all n (n + 1) st0).1 cm) :
    ∀ (g i : Nat), i + g = n + 1 → B_X12_test_37 post (g + 1) (susp x n) (nI all) (ouT stC2 x all n i st0).1 (nI (ouT stC2 x all n i st0).2) (nI i) cm := by
  intro g
  induction g with
  | zero =>
    intro i hi
    have e : i = n + 1 := by omega
    subst e
    unfold B_X12_test_37
    rw [e5]
    exact ⟨fun _ => hk, fun z => absurd (nI_lt (by omega) (by omega)) z⟩
  | succ g ih =>
    intro i hi
    have hb := ouT_bd stC2_bd hn hall h0 i (by omega)
    unfold B_X12_test_37
    rw [e5, nI_1]
    refine ⟨fun z => absurd z (nI_nlt (by omega) (by omega)), fun _ => ⟨n + 1 - i + 1, ?_⟩⟩
    exact c_inT hn hall (by omega) e5 hb (ih (i + 1) (by omega)) (n + 1 - i) 0 (by omega) hb
/-! the reference's -/
theorem r_inT (hn : n ≤ 11) (hall : all = bc x 0 (n + 1)) {a : Nat} (ha : a ≤ n) {mm : MM} (e1 : mm 1 1 = nI n) {post : Int32 → MM → Prop} {k48 : Int32 → Int32 → Int32 → Int32 → Int32 → MM → Prop} {st0 : Int32 × Nat}
    (hk : k48 x (nI all) (inT stR2 x all a (n + 1 - a) st0).1 (nI (inT stR2 x all a (n + 1 - a) st0).2) (nI (a + 1)) mm) :
    ∀ (g d : Nat), d + g = n + 1 - a → (inT stR2 x all a d st0).2 ≤ 100 → B_X13_test_68 post k48 (g + 1) x (nI all) (inT stR2 x all a d st0).1 (nI (inT stR2 x all a d st0).2) (nI a) (nI (bc x a (a + d))) (nI (a + 1 + d)) mm := by
  intro g
  induction g with
  | zero =>
    intro d hd hb
    have e : d = n + 1 - a := by omega
    subst e
    unfold B_X13_test_68
    rw [cl_1, e1, nI_1, nI_1]
    exact ⟨fun _ => hk, fun z => absurd (nI_lt (by omega) (by omega)) z⟩
  | succ g ih =>
    intro d hd hb
    have es : inT stR2 x all a (d + 1) st0 = stR2 (wsF x all a (a + 1 + d)) (16 * a + (a + 1 + d)) (inT stR2 x all a d st0) := rfl
    have ih' := ih (d + 1) (by omega)
    rw [es] at ih'
    have hle : bc x a (a + 1 + d) ≤ all := by
      rw [hall]
      exact bc_le (by omega)
    have hall2 : all ≤ 12 := by
      rw [hall]
      have := cntP_le (fun i => decide (0 ≤ i) && bt x i) (n + 1)
      unfold bc
      omega
    have hbS : bc x a (a + d + 1) = bc x a (a + d) + (if bt x (a + d) then 1 else 0) := bc_S (by omega)
    rw [show a + d + 1 = a + 1 + d by omega] at hbS
    have ep : nI (a + 1 + d) - 1 = nI (a + d) := by
      rw [show a + 1 + d = a + d + 1 by omega, nI_pred]
    have er : nI (bc x a (a + d)) + ((x >>> ((nI (a + 1 + d) - 1) &&& 31)) &&& 1) = nI (bc x a (a + 1 + d)) := by
      rw [ep, and1 (by omega), nI_add, ← hbS]
    rw [show a + (d + 1) = a + 1 + d by omega] at ih'
    generalize hst : inT stR2 x all a d st0 = st at ih' hb
    have hw : wsF x all a (a + 1 + d) ≤ 12 := by
      unfold wsF
      omega
    unfold B_X13_test_68
    rw [cl_1, e1, nI_1, er, nI_sub hle]
    refine ⟨fun z => absurd z (nI_nlt (by omega) (by omega)), fun _ => ?_⟩
    have go : B_X13_test_112 post k48 (B_X13_test_68 post k48 (g + 1)) x (nI all) st.1 (nI st.2) (nI a) (nI (bc x a (a + 1 + d))) (nI (a + 1 + d)) (nI (wsF x all a (a + 1 + d))) mm := by
      have e16 : (16 * nI a + nI (a + 1 + d) : Int32) = nI (16 * a + (a + 1 + d)) := by rw [fa_lit 16, nI_mul, nI_add]
      unfold B_X13_test_112 B_X13_test_129 B_X13_test_142
      rw [e16, nI_1, nI_ltI (by omega) (by omega)]
      unfold stR2 at ih'
      refine ⟨fun z => ?_, fun z => ⟨fun z2 => ?_, fun z2 => ?_⟩⟩
      · rw [if_pos (Or.inl z)] at ih'
        exact ih' (show wsF x all a (a + 1 + d) ≤ 100 by omega)
      · rw [if_pos (Or.inr z2)] at ih'
        exact ih' (show wsF x all a (a + 1 + d) ≤ 100 by omega)
      · rw [if_neg (by
          intro y
          rcases y with y | y
          · exact z y
          · exact z2 y)] at ih'
        exact ih' hb
    rw [nI_leI (by omega) (by omega)]
    refine ⟨fun z => ?_, fun z => ?_⟩
    · have ew : wsF x all a (a + 1 + d) = all - bc x a (a + 1 + d) := by
        unfold wsF
        omega
      rw [ew] at go
      exact go
    · have ew : wsF x all a (a + 1 + d) = bc x a (a + 1 + d) := by
        unfold wsF
        omega
      rw [ew] at go
      exact go
theorem r_ouT (hn : n ≤ 11) (hall : all = bc x 0 (n + 1)) {mm : MM} (e1 : mm 1 1 = nI n) {post : Int32 → MM → Prop} {st0 : Int32 × Nat} (h0 : st0.2 ≤ 100) (hk : post (ouT stR2 x all n (n + 1) st0).1 mm) :
    ∀ (g i : Nat), i + g = n + 1 → B_X13_test_48 post (g + 1) x (nI all) (ouT stR2 x all n i st0).1 (nI (ouT stR2 x all n i st0).2) (nI i) mm := by
  intro g
  induction g with
  | zero =>
    intro i hi
    have e : i = n + 1 := by omega
    subst e
    unfold B_X13_test_48
    rw [cl_1, e1]
    exact ⟨fun _ => hk, fun z => absurd (nI_lt (by omega) (by omega)) z⟩
  | succ g ih =>
    intro i hi
    have hb := ouT_bd stR2_bd hn hall h0 i (by omega)
    unfold B_X13_test_48
    rw [cl_1, e1, nI_1]
    refine ⟨fun z => absurd z (nI_nlt (by omega) (by omega)), fun _ => ⟨n + 1 - i + 1, ?_⟩⟩
    have := r_inT (post := post) hn hall (a := i) (by omega) e1 (st0 := ouT stR2 x all n i st0) (ih (i + 1) (by omega)) (n + 1 - i) 0 (by omega) hb
    rw [show i + 0 = i by omega, bc_e i (Nat.le_refl _)] at this
    exact this
theorem r_susp (hn : n ≤ 11) {mm : MM} (e1 : mm 1 1 = nI n) {post : Int32 → MM → Prop} (hk : (2 ≤ nI (bc x 0 (n + 1)) → ∃ n48, B_X13_test_48 post n48 x (nI (bc x 0 (n + 1))) (-1) 0 0 mm) ∧ (¬ 2 ≤ nI (bc x 0 (n + 1)) → post (-1) mm)) :
    ∀ (g i : Nat), i + g = n + 1 → B_X13_test_9 post (g + 1) x (nI (bc x 0 i)) (nI i) mm := by
  intro g
  induction g with
  | zero =>
    intro i hi
    have e : i = n + 1 := by omega
    subst e
    unfold B_X13_test_9
    rw [cl_1, e1]
    exact ⟨fun _ => hk, fun z => absurd (nI_lt (by omega) (by omega)) z⟩
  | succ g ih =>
    intro i hi
    have ih' := ih (i + 1) (by omega)
    rw [bc_S (Nat.zero_le _)] at ih'
    unfold B_X13_test_9
    rw [cl_1, e1, nI_1, and1 (by omega), nI_add]
    exact ⟨fun z => absurd z (nI_nlt (by omega) (by omega)), fun _ => ih'⟩
end TC
section STE
variable {q : Nat} {cm : CMu} {mm : MM} {oo : Nat → Int64} {kk : KKt} {v : Int32}
theorem s_test (h : SI q cm mm) {x : Int32} (hk : ∀ mm', SI (q + 1) cm mm' → kk v cm mm' oo) {post : Int32 → CMu → Prop} (hpost : ∀ r u, w_X13_test (EQ kk v r u oo) x mm → post r u) : w_X12_test post x cm := by
  obtain ⟨n, c, o, T, g1, o1, o2, o3, e1, e5, g2⟩ := SI_rd h
  have hall2 : bc x 0 (n + 1) ≤ 12 := by
    have := cntP_le (fun i => decide (0 ≤ i) && bt x i) (n + 1)
    unfold bc
    omega
  have e1' : (up2 mm 0 0 0) 1 1 = nI n := e1
  have fin : ∀ r, w_X13_test (EQ kk v r cm oo) x mm → post r cm := fun r z => hpost r cm z
  unfold w_X12_test
  have hs : x &&& ((1 <<< ((nI n + 1) &&& 31)) - 1) = susp x n := rfl
  rw [e5, hs]
  refine c_bc ?_
  rw [bc_all o1]
  have ref : ∀ r, ((2 ≤ nI (bc x 0 (n + 1)) → ∃ n48, B_X13_test_48 (EQ kk v r cm oo) n48 x (nI (bc x 0 (n + 1))) (-1) 0 0 (up2 mm 0 0 0)) ∧ (¬ 2 ≤ nI (bc x 0 (n + 1)) → EQ kk v r cm oo (-1) (up2 mm 0 0 0))) → post r cm := by
    intro r z
    refine fin r ?_
    unfold w_X13_test
    exact ⟨n + 2, r_susp o1 e1' z (n + 1) 0 (by omega)⟩
  refine ⟨fun z => ⟨n + 2, ?_⟩, fun z => ref _ ⟨fun y => absurd y z, fun _ => EQ_ok (hk _ (SI_t h 0))⟩⟩
  have z2 : 2 ≤ bc x 0 (n + 1) := by
    rw [fa_lit 2, nI_leI (by omega) (by omega)] at z
    exact z
  have hA : AsT (bc x 0 (n + 1)) (-1, bc x 0 (n + 1)) (-1, 0) := Or.inr ⟨rfl, Or.inl rfl⟩
  obtain ⟨i, hi, hb⟩ := bc_ex (x := x) (n := n + 1) (by omega)
  have hB := (ouT_A o1 hA (n + 1) (Nat.le_refl _)).2 z2 ⟨i, hi, hb⟩
  refine c_ouT o1 rfl e5 (st0 := (-1, bc x 0 (n + 1))) (show bc x 0 (n + 1) ≤ 100 by omega) ?_ (n + 1) 0 (by omega)
  refine ref _ ⟨fun _ => ⟨n + 2, ?_⟩, fun y => absurd z y⟩
  refine r_ouT o1 rfl e1' (st0 := (-1, 0)) (Nat.zero_le _) ?_ (n + 1) 0 (by omega)
  rw [hB.1]
  exact EQ_ok (hk _ (SI_t h 0))
end STE
