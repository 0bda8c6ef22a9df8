/-! ===== look, camp, reach, pole, count, feed ===== -/
theorem sub_lt1 {o : Nat} (ho : o < 2 ^ 31) {x : Int32} : nI o - 1 < x ↔ nI o ≤ x ∨ (o = 0 ∧ 0 ≤ x) := by
  cases o with
  | zero =>
    have e : nI 0 - 1 = (-1 : Int32) := by decide
    have e1 : (-1 : Int32).toInt = -1 := rfl
    have e0 : (0 : Int32).toInt = 0 := rfl
    have e0' : (nI 0).toInt = 0 := rfl
    rw [e, fa_lt, fa_le, fa_le, e1, e0, e0']
    omega
  | succ o =>
    rw [nI_pred, fa_lt, fa_le, nI_toInt (by omega), nI_toInt (by omega)]
    omega
theorem ti_nI {x : Int32} {k : Nat} (hk : k < 2 ^ 31) (h : x.toInt = k) : x = nI k := by
  rw [fa_eq, h, nI_toInt hk]
theorem not_in {x : Int32} {n : Nat} (hn : n < 2 ^ 31) (h : x.toInt < 0 ∨ (n : Int) < x.toInt) : ¬ (¬ x < 0 ∧ ¬ nI n < x) := by
  intro ⟨a, b⟩
  rw [fa_lt] at a b
  have e0 : (0 : Int32).toInt = 0 := rfl
  rw [nI_toInt hn] at b
  omega
section SM
variable {q : Nat} {cm : CMu} {mm : MM} {oo : Nat → Int64} {kk : KKt} {v : Int32}
theorem s_look (h : SI q cm mm) {x1 x2 : Int32} (hk : ∀ cm' mm' oo', SI (q + 1) cm' mm' → kk v cm' mm' oo') {post : Int32 → CMu × (Nat → Int64) → Prop} (hpost : ∀ r u, w_X13_look (EX kk v r u) x1 x2 mm → post r u) : w_L_look post x1 x2 cm oo := by
  obtain ⟨n, c, o, T, g1, g2, g3, g4, g5, g6⟩ := id h
  obtain ⟨o1, o2, o3⟩ := mid_o g2
  have hH := Fo_h g1
  have e2 : mm 1 2 = nI c := g2.1.2.2.1
  have e6 : gI cm 382 6 = nI c := by rw [hH.2.2.1, e2]
  have r2 : mm 1 (Int32.toNatClampNeg 2) = nI c := by rw [cl_2]; exact e2
  have no : ¬ (¬ x1 < 0 ∧ ¬ nI c - 1 < x1) → post 1 (cm, oo) := by
    intro hno
    refine hpost _ _ ?_
    unfold w_X13_look
    rw [r2]
    refine r_isIn2 (fun a b => absurd ⟨a, b⟩ hno) (fun _ => ⟨fun z => absurd rfl z, fun _ => ⟨fun z => absurd z th1, fun _ => ?_⟩⟩)
    exact EX_th rfl (by decide) (hk _ _ _ (SI_t h 1))
  unfold w_L_look w_X12_look B_X12_look_15
  rw [e6]
  refine ⟨fun q1 => Or.inl ⟨rfl, no (fun z => z.1 q1)⟩, fun q1 => ⟨fun q2 => ?_, fun q2 => Or.inl ⟨rfl, no (fun z => z.2 ((sub_lt1 (by omega)).mpr (Or.inl (le_lt.mpr q2))))⟩⟩⟩
  have q3 : ¬ nI c - 1 < x1 := by
    rw [sub_lt1 (by omega)]
    intro z
    rcases z with z | ⟨z, _⟩
    · exact le_lt.mp z q2
    · subst z
      rw [fa_lt] at q1 q2
      have e0 : (0 : Int32).toInt = 0 := rfl
      have e0' : (nI 0).toInt = 0 := rfl
      omega
  have q4 : ¬ nI c < x1 := by
    rw [fa_lt]
    rw [fa_lt] at q2
    omega
  obtain ⟨i, hi, rfl⟩ := in_of (by omega) q1 q4
  rw [nI_ltI (by omega) (by omega)] at q2
  rw [nI_clamp (by omega)]
  have val : ∀ k : Nat, k ≤ 5 → x2.toInt = k → post 0 (cm, vp_updL oo (Int32.toNatClampNeg (0 : Int32)) (Int32.toInt64 (gI cm (429 + i) k))) := by
    intro k hk5 hx
    have := ti_nI (by omega) hx
    subst this
    refine hpost _ _ ?_
    unfold w_X13_look
    rw [r2]
    refine r_isIn2 (fun _ _ => ⟨fun _ => r_isIn2 (fun _ _ => ⟨fun _ => ⟨fun _ => ?_, fun z => absurd th0 z⟩, fun z => absurd z (by decide)⟩) (fun a => absurd ⟨nI_pos (by omega), nI_nlt (a := 5) (b := k) (by omega) (by omega)⟩ a), fun z => absurd z (by decide)⟩) (fun a => absurd ⟨q1, q3⟩ a)
    refine r_chipOf (w := k) rfl (by omega) (by omega) ?_
    have e : (up2 mm 0 0 0) 1 (330 + 8 * i + k) = gI cm (429 + i) k := (RF_c g1.1 q2 (by omega)).symm
    rw [e]
    exact EX_ok rfl (hk _ _ _ (SI_t h 0))
  refine ⟨vp_in_nI (by omega) (by omega), fun z => Or.inr ⟨rfl, hpost _ _ ?_⟩, val 0 (by omega), val 1 (by omega), val 2 (by omega), val 3 (by omega), val 4 (by omega), val 5 (by omega)⟩
  unfold w_X13_look
  rw [r2]
  refine r_isIn2 (fun _ _ => ⟨fun _ => r_isIn2 (fun a b => absurd ⟨a, b⟩ (not_in (n := 5) (by omega) z)) (fun _ => ⟨fun z => absurd rfl z, fun _ => ⟨fun z => absurd z th2, fun _ => ?_⟩⟩), fun z => absurd z (by decide)⟩) (fun a => absurd ⟨q1, q3⟩ a)
  exact EX_th rfl (by decide) (hk _ _ _ (SI_t h 2))
theorem s_camp (h : SI q cm mm) {x1 x2 : Int32} (hk : ∀ cm' mm' oo', SI (q + 1) cm' mm' → kk v cm' mm' oo') {post : Int32 → CMu × (Nat → Int64) → Prop} (hpost : ∀ r u, w_X13_camp (EX kk v r u) x1 x2 mm → post r u) : w_L_camp post x1 x2 cm oo := by
  obtain ⟨n, c, o, T, g1, g2, g3, g4, g5, g6⟩ := id h
  obtain ⟨o1, o2, o3⟩ := mid_o g2
  have hH := Fo_h g1
  have e1 : mm 1 1 = nI n := g2.1.1
  have e5 : gI cm 382 5 = nI n := by rw [hH.2.1, e1]
  have r1 : mm 1 (Int32.toNatClampNeg 1) = nI n := by rw [cl_1]; exact e1
  have no : ¬ (¬ x1 < 1 ∧ ¬ nI n < x1) → post 1 (cm, oo) := by
    intro hno
    refine hpost _ _ ?_
    unfold w_X13_camp w_X13_isCamp
    rw [r1]
    refine r_isIn2 (fun a b => absurd ⟨a, b⟩ hno) (fun _ => ⟨fun z => absurd rfl z, fun _ => ⟨fun z => absurd z th1, fun _ => ?_⟩⟩)
    exact EX_th rfl (by decide) (hk _ _ _ (SI_t h 1))
  unfold w_L_camp w_X12_camp w_X12_demandCamp B_X12_demandCamp_16
  rw [e5]
  refine ⟨fun q1 => Or.inl ⟨rfl, no (fun z => z.1 q1)⟩, fun q1 => ⟨fun q2 => ?_, fun q2 => Or.inl ⟨rfl, no (fun z => q2 (le_lt.mpr z.2))⟩⟩⟩
  have q3 := le_lt.mp q2
  have q0 : ¬ x1 < 0 := by
    rw [fa_lt] at q1 ⊢
    have a0 : (0 : Int32).toInt = 0 := rfl
    have a1 : (1 : Int32).toInt = 1 := rfl
    omega
  obtain ⟨i, hi, rfl⟩ := in_of (by omega) q0 q3
  have hi1 : 1 ≤ i := by
    rw [fa_lit 1, nI_ltI (by omega) (by omega)] at q1
    omega
  rw [nI_clamp (by omega)]
  have e46 : (46 + (4 * nI i) : Int32) = nI (46 + 4 * i) := by rw [fa_lit 46, fa_lit 4, nI_mul, nI_add]
  have val : ∀ k : Nat, k ≤ 3 → x2.toInt = k → post 0 (cm, vp_updL oo (Int32.toNatClampNeg (0 : Int32)) (Int32.toInt64 (gI cm (405 + 2 * i) k))) := by
    intro k hk5 hx
    have := ti_nI (by omega) hx
    subst this
    refine hpost _ _ ?_
    unfold w_X13_camp w_X13_isCamp
    rw [r1]
    refine r_isIn2 (fun _ _ => ⟨fun _ => r_isIn2 (fun _ _ => ⟨fun _ => ⟨fun _ => ?_, fun z => absurd th0 z⟩, fun z => absurd z (by decide)⟩) (fun a => absurd ⟨nI_pos (by omega), nI_nlt (a := 3) (b := k) (by omega) (by omega)⟩ a), fun z => absurd z (by decide)⟩) (fun a => absurd ⟨q1, q3⟩ a)
    rw [e46, nI_add, nI_clamp (by omega)]
    refine ⟨vp_in_nI (by omega) (by omega), ?_⟩
    have e : (up2 mm 0 0 0) 1 (46 + 4 * i + k) = gI cm (405 + 2 * i) k := (RF_k g1.1 o1 hi1 hi (by omega)).symm
    rw [e]
    exact EX_ok rfl (hk _ _ _ (SI_t h 0))
  refine ⟨vp_in_nI (by omega) (by omega), fun z => Or.inr ⟨rfl, hpost _ _ ?_⟩, val 0 (by omega), val 1 (by omega), val 2 (by omega), val 3 (by omega)⟩
  unfold w_X13_camp w_X13_isCamp
  rw [r1]
  refine r_isIn2 (fun _ _ => ⟨fun _ => r_isIn2 (fun a b => absurd ⟨a, b⟩ (not_in (n := 3) (by omega) z)) (fun _ => ⟨fun z => absurd rfl z, fun _ => ⟨fun z => absurd z th2, fun _ => ?_⟩⟩), fun z => absurd z (by decide)⟩) (fun a => absurd ⟨q1, q3⟩ a)
  exact EX_th rfl (by decide) (hk _ _ _ (SI_t h 2))
theorem s_reach (h : SI q cm mm) {x1 x2 : Int32} (hk : ∀ cm' mm' oo', SI (q + 1) cm' mm' → kk v cm' mm' oo') {post : Int32 → CMu × (Nat → Int64) → Prop} (hpost : ∀ r u, w_X13_reach (EX kk v r u) x1 x2 mm → post r u) : w_L_reach post x1 x2 cm oo := by
  obtain ⟨n, c, o, T, g1, g2, g3, g4, g5, g6⟩ := id h
  obtain ⟨o1, o2, o3⟩ := mid_o g2
  have hH := Fo_h g1
  have e1 : mm 1 1 = nI n := g2.1.1
  have e2 : mm 1 2 = nI c := g2.1.2.2.1
  have e5 : gI cm 382 5 = nI n := by rw [hH.2.1, e1]
  have r1 : mm 1 (Int32.toNatClampNeg 1) = nI n := by rw [cl_1]; exact e1
  have no : ¬ (¬ x1 < 0 ∧ ¬ nI n < x1) → post 1 (cm, oo) := by
    intro hno
    refine hpost _ _ ?_
    unfold w_X13_reach w_X13_isStation
    rw [r1]
    refine r_isIn2 (fun a b => absurd ⟨a, b⟩ hno) (fun _ => ⟨fun z => absurd rfl z, fun _ => ⟨fun z => absurd z th1, fun _ => ?_⟩⟩)
    exact EX_th rfl (by decide) (hk _ _ _ (SI_t h 1))
  unfold w_L_reach w_X12_reach w_X12_demandReach B_X12_demandReach_15
  rw [e5]
  refine ⟨fun q1 => Or.inl ⟨rfl, no (fun z => z.1 q1)⟩, fun q1 => ⟨fun q2 => ?_, fun q2 => Or.inl ⟨rfl, no (fun z => q2 (le_lt.mpr z.2))⟩⟩⟩
  have q3 := le_lt.mp q2
  obtain ⟨i, hi, rfl⟩ := in_of (by omega) q1 q3
  rw [nI_clamp (by omega)]
  have val : ∀ k : Nat, k ≤ 3 → x2.toInt = k → post 0 (cm, vp_updL oo (Int32.toNatClampNeg (0 : Int32)) (Int32.toInt64 (gI cm (406 + 2 * i) k))) := by
    intro k hk5 hx
    have := ti_nI (by omega) hx
    subst this
    refine hpost _ _ ?_
    unfold w_X13_reach w_X13_isStation
    rw [r1]
    refine r_isIn2 (fun _ _ => ⟨fun _ => r_isIn2 (fun _ _ => ⟨fun _ => ⟨fun _ => ⟨fun z3 => ?_, fun z3 => ?_⟩, fun z => absurd th0 z⟩, fun z => absurd z (by decide)⟩) (fun a => absurd ⟨nI_pos (by omega), nI_nlt (a := 3) (b := k) (by omega) (by omega)⟩ a), fun z => absurd z (by decide)⟩) (fun a => absurd ⟨q1, q3⟩ a)
    · have hk3 : k < 3 := by
        have : k ≠ 3 := fun e => z3 (by rw [e]; rfl)
        omega
      refine r_reachOf (w := k) rfl (by omega) (by omega) ?_
      have e : (up2 mm 0 0 0) 1 (10 + 3 * i + k) = gI cm (406 + 2 * i) k := (RF_r g1.1 o1 hi (by omega)).symm
      rw [e]
      exact EX_ok rfl (hk _ _ _ (SI_t h 0))
    · have hk3 : k = 3 := by
        rw [fa_lit 3, nI_eq (by omega) (by omega)] at z3
        exact z3
      subst hk3
      refine r_inReach (c := c) e2 o2 ?_
      have e : nI (inR ((up2 mm 0 0 0) 1) c i) = gI cm (406 + 2 * i) 3 := (g1.2.1 i hi).symm
      rw [e]
      exact EX_ok rfl (hk _ _ _ (SI_t h 0))
  refine ⟨vp_in_nI (by omega) (by omega), fun z => Or.inr ⟨rfl, hpost _ _ ?_⟩, val 0 (by omega), val 1 (by omega), val 2 (by omega), val 3 (by omega)⟩
  unfold w_X13_reach w_X13_isStation
  rw [r1]
  refine r_isIn2 (fun _ _ => ⟨fun _ => r_isIn2 (fun a b => absurd ⟨a, b⟩ (not_in (n := 3) (by omega) z)) (fun _ => ⟨fun z => absurd rfl z, fun _ => ⟨fun z => absurd z th2, fun _ => ?_⟩⟩), fun z => absurd z (by decide)⟩) (fun a => absurd ⟨q1, q3⟩ a)
  exact EX_th rfl (by decide) (hk _ _ _ (SI_t h 2))
/-! what counts up -/
def sumC (M : MR) (w : Nat) : Nat → Int32
  | 0 => 0
  | j + 1 => sumC M w j + M (46 + 4 * (j + 1) + w)
theorem c_allSent {f n c o : Nat} {M : MR} {T : Nat → Pg} (hF : Fo cm f M T n c o) (hn : n ≤ 11) (h5 : gI cm f 5 = nI n) {post : Int32 → CMu → Prop} (hp : post (sumC M 2 n) cm) : w_X4_allSent post f cm := by
  have key : ∀ (g j : Nat), j + g = n → B_X4_allSent_4 post (g + 1) f (sumC M 2 j) (nI (j + 1)) cm := by
    intro g
    induction g with
    | zero =>
      intro j hj
      have e : j = n := by omega
      subst e
      unfold B_X4_allSent_4
      rw [h5]
      exact ⟨fun _ => hp, fun z => absurd (nI_lt (by omega) (by omega)) z⟩
    | succ g ih =>
      intro j hj
      unfold B_X4_allSent_4
      rw [h5, nI_clamp (by omega), RF_k hF.1 hn (by omega) (by omega) (by omega), nI_1]
      refine ⟨fun z => absurd z (nI_nlt (by omega) (by omega)), fun _ => ⟨vp_in_nI (by omega) (by omega), ih (j + 1) (by omega)⟩⟩
  exact ⟨n + 1, key n 0 (by omega)⟩
theorem c_allLate {f n c o : Nat} {M : MR} {T : Nat → Pg} (hF : Fo cm f M T n c o) (hn : n ≤ 11) (h5 : gI cm f 5 = nI n) {post : Int32 → CMu → Prop} (hp : post (sumC M 3 n) cm) : w_X4_allLate post f cm := by
  have key : ∀ (g j : Nat), j + g = n → B_X4_allLate_4 post (g + 1) f (sumC M 3 j) (nI (j + 1)) cm := by
    intro g
    induction g with
    | zero =>
      intro j hj
      have e : j = n := by omega
      subst e
      unfold B_X4_allLate_4
      rw [h5]
      exact ⟨fun _ => hp, fun z => absurd (nI_lt (by omega) (by omega)) z⟩
    | succ g ih =>
      intro j hj
      unfold B_X4_allLate_4
      rw [h5, nI_clamp (by omega), RF_k hF.1 hn (by omega) (by omega) (by omega), nI_1]
      refine ⟨fun z => absurd z (nI_nlt (by omega) (by omega)), fun _ => ⟨vp_in_nI (by omega) (by omega), ih (j + 1) (by omega)⟩⟩
  exact ⟨n + 1, key n 0 (by omega)⟩
theorem s_count (h : SI q cm mm) {x : Int32} (hk : ∀ mm', SI (q + 1) cm mm' → kk v cm mm' oo) {post : Int32 → CMu → Prop} (hpost : ∀ r u, w_X13_count (EQ kk v r u oo) x mm → post r u) : w_X12_count post x cm := by
  obtain ⟨n, c, o, T, g1, g2, g3, g4, g5, g6⟩ := id h
  obtain ⟨o1, o2, o3⟩ := mid_o g2
  have hH := Fo_h g1
  have e1 : mm 1 1 = nI n := g2.1.1
  have e5 : gI cm 382 5 = nI n := by rw [hH.2.1, e1]
  have hSI := SI_t h 0
  -- the reference
  have ref : ∀ (r : Int32), (∀ P : Int32 → MM → Prop, P r (up2 mm 0 0 0) → B_X13_count_12 P 1 x (sumC (mm 1) 3 n) (sumC (mm 1) 2 n) (nI (n + 1)) (up2 mm 0 0 0)) → post r cm := by
    intro r hr
    refine hpost _ _ ?_
    unfold w_X13_count
    have r11 : (up2 mm 0 0 0) 1 (Int32.toNatClampNeg 1) = nI n := by rw [cl_1]; exact e1
    have key : ∀ (g j : Nat), j + g = n → B_X13_count_12 (EQ kk v r cm oo) (g + 1) x (sumC (mm 1) 3 j) (sumC (mm 1) 2 j) (nI (j + 1)) (up2 mm 0 0 0) := by
      intro g
      induction g with
      | zero =>
        intro j hj
        have e : j = n := by omega
        subst e
        exact hr _ (EQ_ok (hk _ hSI))
      | succ g ih =>
        intro j hj
        unfold B_X13_count_12
        rw [r11]
        refine ⟨fun z => absurd z (nI_nlt (by omega) (by omega)), fun _ => ?_⟩
        have a46 : (46 + (4 * nI (j + 1)) : Int32) = nI (46 + 4 * (j + 1)) := by rw [fa_lit 46, fa_lit 4, nI_mul, nI_add]
        have a3 : nI (46 + 4 * (j + 1)) + 3 = nI (46 + 4 * (j + 1) + 3) := by rw [fa_lit 3, nI_add]
        have a2 : nI (46 + 4 * (j + 1)) + 2 = nI (46 + 4 * (j + 1) + 2) := by rw [fa_lit 2, nI_add]
        rw [a46, a3, a2, nI_clamp (show 46 + 4 * (j + 1) + 3 < 2 ^ 31 by omega), nI_clamp (show 46 + 4 * (j + 1) + 2 < 2 ^ 31 by omega), nI_1]
        exact ⟨vp_in_nI (by omega) (by omega), vp_in_nI (by omega) (by omega), ih (j + 1) (by omega)⟩
    exact ⟨n + 1, key n 0 (by omega)⟩
  have hend : (up2 mm 0 0 0) 1 (Int32.toNatClampNeg 1) < nI (n + 1) := by
    have r11 : (up2 mm 0 0 0) 1 (Int32.toNatClampNeg 1) = nI n := by rw [cl_1]; exact e1
    rw [r11]
    exact nI_lt (by omega) (by omega)
  have ne : ∀ {k j : Nat}, x.toInt = k → j ≠ k → k < 100 → j < 100 → ¬ x = nI j := by
    intro k j hx hj hk hj2 e
    rw [e, nI_toInt (by omega)] at hx
    omega
  have eq : ∀ {k : Nat}, x.toInt = k → k < 100 → x = nI k := fun hx hk => ti_nI (by omega) hx
  unfold w_X12_count
  refine ⟨fun z => ref _ (fun P hP => ?_), fun z => ref _ (fun P hP => ?_), fun z => ref _ (fun P hP => ?_), fun z => ref _ (fun P hP => ?_), fun z => ref _ (fun P hP => ?_), fun z => ref _ (fun P hP => ?_), fun z => ref _ (fun P hP => ?_), fun z => ref _ (fun P hP => ?_), fun z => c_allLate g1 o1 e5 (ref _ (fun P hP => ?_)), fun z => c_allSent g1 o1 e5 (ref _ (fun P hP => ?_)), fun z => c_frost g1 ?_⟩
  · have nn : ∀ j : Nat, j ≤ 9 → ¬ x = nI j := by
      intro j hj e
      rw [e, nI_toInt (by omega)] at z
      omega
    unfold B_X13_count_12 B_X13_count_204
    exact ⟨fun _ => ⟨fun _ => ⟨fun _ => ⟨fun _ => ⟨fun _ => ⟨fun _ => ⟨fun _ => ⟨fun _ => ⟨fun _ => ⟨fun _ => ⟨fun _ => hP, fun y => absurd y (nn 9 (by omega))⟩, fun y => absurd y (nn 8 (by omega))⟩, fun y => absurd y (nn 7 (by omega))⟩, fun y => absurd y (nn 6 (by omega))⟩, fun y => absurd y (nn 5 (by omega))⟩, fun y => absurd y (nn 4 (by omega))⟩, fun y => absurd y (nn 3 (by omega))⟩, fun y => absurd y (nn 2 (by omega))⟩, fun y => absurd y (nn 1 (by omega))⟩, fun y => absurd y (nn 0 (by omega))⟩, fun y => absurd hend y⟩
  · have e := eq (k := 0) z (by omega)
    have hv : gI cm 382 5 = (up2 mm 0 0 0) 1 (Int32.toNatClampNeg 1) := by rw [cl_1]; exact hH.2.1
    rw [hv] at hP
    unfold B_X13_count_12 B_X13_count_204
    exact ⟨fun _ => ⟨fun y => absurd e y, fun _ => hP⟩, fun y => absurd hend y⟩
  · have hv : gI cm 382 8 = (up2 mm 0 0 0) 1 (Int32.toNatClampNeg 0) := by rw [cl_0]; exact hH.1
    rw [hv] at hP
    have e := eq (k := 1) z (by omega)
    unfold B_X13_count_12 B_X13_count_204
    exact ⟨fun _ => ⟨fun _ => ⟨fun y => absurd e y, fun _ => hP⟩, fun y => absurd y (ne (k := 1) (j := 0) z (by omega) (by omega) (by omega))⟩, fun y => absurd hend y⟩
  · have hv : gI cm 382 6 = (up2 mm 0 0 0) 1 (Int32.toNatClampNeg 2) := by rw [cl_2]; exact hH.2.2.1
    rw [hv] at hP
    have e := eq (k := 2) z (by omega)
    have n1 : ∀ j, j < 2 → ¬ x = nI j := fun j hj => ne (k := 2) (j := j) z (by omega) (by omega) (by omega)
    unfold B_X13_count_12 B_X13_count_204
    exact ⟨fun _ => ⟨fun _ => ⟨fun _ => ⟨fun y => absurd e y, fun _ => hP⟩, fun y => absurd y (n1 1 (by omega))⟩, fun y => absurd y (n1 0 (by omega))⟩, fun y => absurd hend y⟩
  · have hv : gI cm 382 7 = (up2 mm 0 0 0) 1 (Int32.toNatClampNeg 3) := by rw [cl_3]; exact hH.2.2.2.1
    rw [hv] at hP
    have e := eq (k := 3) z (by omega)
    have n1 : ∀ j, j < 3 → ¬ x = nI j := fun j hj => ne (k := 3) (j := j) z (by omega) (by omega) (by omega)
    unfold B_X13_count_12 B_X13_count_204
    exact ⟨fun _ => ⟨fun _ => ⟨fun _ => ⟨fun _ => ⟨fun y => absurd e y, fun _ => hP⟩, fun y => absurd y (n1 2 (by omega))⟩, fun y => absurd y (n1 1 (by omega))⟩, fun y => absurd y (n1 0 (by omega))⟩, fun y => absurd hend y⟩
  · have hv : gI cm 382 12 = (up2 mm 0 0 0) 1 (Int32.toNatClampNeg 4) := by rw [cl_4]; exact hH.2.2.2.2.1
    rw [hv] at hP
    have e := eq (k := 4) z (by omega)
    have n1 : ∀ j, j < 4 → ¬ x = nI j := fun j hj => ne (k := 4) (j := j) z (by omega) (by omega) (by omega)
    unfold B_X13_count_12 B_X13_count_204
    exact ⟨fun _ => ⟨fun _ => ⟨fun _ => ⟨fun _ => ⟨fun _ => ⟨fun y => absurd e y, fun _ => hP⟩, fun y => absurd y (n1 3 (by omega))⟩, fun y => absurd y (n1 2 (by omega))⟩, fun y => absurd y (n1 1 (by omega))⟩, fun y => absurd y (n1 0 (by omega))⟩, fun y => absurd hend y⟩
  · have hv : gI cm 382 9 = (up2 mm 0 0 0) 1 (Int32.toNatClampNeg 5) := by rw [cl_5]; exact hH.2.2.2.2.2.1
    rw [hv] at hP
    have e := eq (k := 5) z (by omega)
    have n1 : ∀ j, j < 5 → ¬ x = nI j := fun j hj => ne (k := 5) (j := j) z (by omega) (by omega) (by omega)
    unfold B_X13_count_12 B_X13_count_204
    exact ⟨fun _ => ⟨fun _ => ⟨fun _ => ⟨fun _ => ⟨fun _ => ⟨fun _ => ⟨fun y => absurd e y, fun _ => hP⟩, fun y => absurd y (n1 4 (by omega))⟩, fun y => absurd y (n1 3 (by omega))⟩, fun y => absurd y (n1 2 (by omega))⟩, fun y => absurd y (n1 1 (by omega))⟩, fun y => absurd y (n1 0 (by omega))⟩, fun y => absurd hend y⟩
  · have hv : gI cm 387 3 = (up2 mm 0 0 0) 1 (Int32.toNatClampNeg 9) := by rw [cl_9]; exact hH.2.2.2.2.2.2.2.2.2
    rw [hv] at hP
    have e := eq (k := 6) z (by omega)
    have n1 : ∀ j, j < 6 → ¬ x = nI j := fun j hj => ne (k := 6) (j := j) z (by omega) (by omega) (by omega)
    unfold B_X13_count_12 B_X13_count_204
    exact ⟨fun _ => ⟨fun _ => ⟨fun _ => ⟨fun _ => ⟨fun _ => ⟨fun _ => ⟨fun _ => ⟨fun y => absurd e y, fun _ => hP⟩, fun y => absurd y (n1 5 (by omega))⟩, fun y => absurd y (n1 4 (by omega))⟩, fun y => absurd y (n1 3 (by omega))⟩, fun y => absurd y (n1 2 (by omega))⟩, fun y => absurd y (n1 1 (by omega))⟩, fun y => absurd y (n1 0 (by omega))⟩, fun y => absurd hend y⟩
  · have e := eq (k := 7) z (by omega)
    have n1 : ∀ j, j < 7 → ¬ x = nI j := fun j hj => ne (k := 7) (j := j) z (by omega) (by omega) (by omega)
    unfold B_X13_count_12 B_X13_count_204
    exact ⟨fun _ => ⟨fun _ => ⟨fun _ => ⟨fun _ => ⟨fun _ => ⟨fun _ => ⟨fun _ => ⟨fun _ => ⟨fun y => absurd e y, fun _ => hP⟩, fun y => absurd y (n1 6 (by omega))⟩, fun y => absurd y (n1 5 (by omega))⟩, fun y => absurd y (n1 4 (by omega))⟩, fun y => absurd y (n1 3 (by omega))⟩, fun y => absurd y (n1 2 (by omega))⟩, fun y => absurd y (n1 1 (by omega))⟩, fun y => absurd y (n1 0 (by omega))⟩, fun y => absurd hend y⟩
  · have e := eq (k := 8) z (by omega)
    have n1 : ∀ j, j < 8 → ¬ x = nI j := fun j hj => ne (k := 8) (j := j) z (by omega) (by omega) (by omega)
    unfold B_X13_count_12 B_X13_count_204
    exact ⟨fun _ => ⟨fun _ => ⟨fun _ => ⟨fun _ => ⟨fun _ => ⟨fun _ => ⟨fun _ => ⟨fun _ => ⟨fun _ => ⟨fun y => absurd e y, fun _ => hP⟩, fun y => absurd y (n1 7 (by omega))⟩, fun y => absurd y (n1 6 (by omega))⟩, fun y => absurd y (n1 5 (by omega))⟩, fun y => absurd y (n1 4 (by omega))⟩, fun y => absurd y (n1 3 (by omega))⟩, fun y => absurd y (n1 2 (by omega))⟩, fun y => absurd y (n1 1 (by omega))⟩, fun y => absurd y (n1 0 (by omega))⟩, fun y => absurd hend y⟩
  · have e := eq (k := 9) z (by omega)
    have n1 : ∀ j, j < 9 → ¬ x = nI j := fun j hj => ne (k := 9) (j := j) z (by omega) (by omega) (by omega)
    have fin : ∀ b : Bool, frostM (mm 1) = b → post (b2 b) cm := by
      intro b hb
      refine ref _ (fun P hP => ?_)
      unfold B_X13_count_12 B_X13_count_204
      refine ⟨fun _ => ⟨fun _ => ⟨fun _ => ⟨fun _ => ⟨fun _ => ⟨fun _ => ⟨fun _ => ⟨fun _ => ⟨fun _ => ⟨fun _ => ⟨fun y => absurd e y, fun _ => ?_⟩, fun y => absurd y (n1 8 (by omega))⟩, fun y => absurd y (n1 7 (by omega))⟩, fun y => absurd y (n1 6 (by omega))⟩, fun y => absurd y (n1 5 (by omega))⟩, fun y => absurd y (n1 4 (by omega))⟩, fun y => absurd y (n1 3 (by omega))⟩, fun y => absurd y (n1 2 (by omega))⟩, fun y => absurd y (n1 1 (by omega))⟩, fun y => absurd y (n1 0 (by omega))⟩, fun y => absurd hend y⟩
      refine r_frost ?_
      have e0 : frostM ((up2 mm 0 0 0) 1) = b := hb
      rw [e0]
      cases b
      · exact ⟨fun _ => hP, fun y => absurd rfl y⟩
      · exact ⟨fun y => absurd y (by decide), fun _ => hP⟩
    unfold B_X12_count_146
    refine ⟨fun y => fin false y, fun y => fin true ?_⟩
    cases e2 : frostM (mm 1)
    · exact absurd e2 y
    · rfl
end SM
