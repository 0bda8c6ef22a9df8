/-! ===== the reference's row ===== -/
theorem cl_0 : Int32.toNatClampNeg (0 : Int32) = 0 := by decide
theorem cl_1 : Int32.toNatClampNeg (1 : Int32) = 1 := by decide
theorem cl_2 : Int32.toNatClampNeg (2 : Int32) = 2 := by decide
theorem cl_3 : Int32.toNatClampNeg (3 : Int32) = 3 := by decide
theorem cl_4 : Int32.toNatClampNeg (4 : Int32) = 4 := by decide
theorem cl_5 : Int32.toNatClampNeg (5 : Int32) = 5 := by decide
theorem cl_6 : Int32.toNatClampNeg (6 : Int32) = 6 := by decide
theorem cl_7 : Int32.toNatClampNeg (7 : Int32) = 7 := by decide
theorem cl_8 : Int32.toNatClampNeg (8 : Int32) = 8 := by decide
theorem cl_9 : Int32.toNatClampNeg (9 : Int32) = 9 := by decide
abbrev MR : Type := Nat → Int32
/-- with another row -/
def s1 (mm : MM) (M : MR) : MM := fun b => if b = 1 then M else mm b
theorem s1_1 {mm : MM} {M : MR} : s1 mm M 1 = M := rfl
theorem s1_o {mm : MM} {M : MR} {b : Nat} (h : b ≠ 1) : s1 mm M b = mm b := if_neg h
theorem s1_0 {mm : MM} {M : MR} : s1 mm M 0 = mm 0 := rfl
theorem s1_s1 {mm : MM} {M M' : MR} : s1 (s1 mm M) M' = s1 mm M' := by
  funext b
  unfold s1
  by_cases q : b = 1
  · rw [if_pos q, if_pos q]
  · rw [if_neg q, if_neg q, if_neg q]
theorem s1_id {mm : MM} : s1 mm (mm 1) = mm := by
  funext b
  unfold s1
  by_cases q : b = 1
  · rw [if_pos q, q]
  · rw [if_neg q]
theorem s1_st {mm : MM} {M : MR} {a e d : Int32} : s1 (stR mm a e d) M = stR (s1 mm M) a e d := by
  funext b i
  by_cases q : b = 1
  · subst q
    show M i = stR (s1 mm M) a e d 1 i
    rw [stR_o (by omega)]
    rfl
  · rw [s1_o q]
    unfold stR
    rw [s1_o q]
theorem up2_1 {mm : MM} {j : Nat} {v : Int32} : up2 mm 1 j v = s1 mm (upd (mm 1) j v) := by
  funext b i
  unfold up2 s1 upd
  by_cases q : b = 1
  · rw [if_pos q, q]
    by_cases q2 : i = j
    · rw [if_pos ⟨rfl, q2⟩, if_pos q2]
    · rw [if_neg (fun z => q2 z.2), if_neg q2]
  · rw [if_neg (fun z => q z.1), if_neg q]
section RR
variable {mm : MM}
theorem r_chipOf {post : Int32 → MM → Prop} {i w : Nat} {x2 : Int32} (e2 : x2 = nI w) (hi : i ≤ 60) (hw : w < 8) (h : post (mm 1 (330 + 8 * i + w)) mm) : w_X13_chipOf post (nI i) x2 mm := by
  unfold w_X13_chipOf
  subst e2
  rw [fa_lit 330, fa_lit 8, nI_mul, nI_add, nI_add, nI_clamp (by omega)]
  exact ⟨vp_in_nI (by omega) (by omega), h⟩
theorem r_sets {post : MM → Prop} {i w : Nat} {x2 v : Int32} (e2 : x2 = nI w) (hi : i ≤ 60) (hw : w < 8) (h : post (s1 mm (upd (mm 1) (330 + 8 * i + w) v))) : w_X13_sets post (nI i) x2 v mm := by
  unfold w_X13_sets
  subst e2
  rw [fa_lit 330, fa_lit 8, nI_mul, nI_add, nI_add, nI_clamp (by omega), up2_1]
  exact ⟨vp_in_nI (by omega) (by omega), h⟩
theorem r_reachOf {post : Int32 → MM → Prop} {i w : Nat} {x2 : Int32} (e2 : x2 = nI w) (hi : i ≤ 12) (hw : w < 3) (h : post (mm 1 (10 + 3 * i + w)) mm) : w_X13_reachOf post (nI i) x2 mm := by
  unfold w_X13_reachOf
  subst e2
  rw [fa_lit 10, fa_lit 3, nI_mul, nI_add, nI_add, nI_clamp (by omega)]
  exact ⟨vp_in_nI (by omega) (by omega), h⟩
/-- a chip more, at the row's number c -/
def adM (c : Nat) (st wt nu sz : Int32) (M : MR) : MR := fun x => if x = 2 then nI (c + 1) else if 330 + 8 * c ≤ x ∧ x < 338 + 8 * c then (if x = 331 + 8 * c then st else if x = 333 + 8 * c then wt else if x = 334 + 8 * c then M 4 else if x = 335 + 8 * c then nu else if x = 337 + 8 * c then sz else 0) else M x
theorem r_adds {post : Int32 → MM → Prop} {c : Nat} (hc : c < 60) (h2 : mm 1 2 = nI c) {st wt nu sz : Int32} (h : post (nI c) (s1 mm (adM c st wt nu sz (mm 1)))) : w_X13_adds post st wt nu sz mm := by
  unfold w_X13_adds
  rw [cl_2, up2_1, h2, nI_1]
  have key : ∀ (f j : Nat) (Z : MR), j + f = 8 → (∀ x, Z x = if x = 2 then nI (c + 1) else if 330 + 8 * c ≤ x ∧ x < 330 + 8 * c + j then 0 else mm 1 x) → B_X13_adds_21 post (f + 1) st wt nu sz (nI c) (nI j) (s1 mm Z) := by
    intro f
    induction f with
    | zero =>
      intro j Z hj hZ
      have ej : j = 8 := by omega
      subst ej
      unfold B_X13_adds_21
      refine ⟨fun _ => ?_, fun q => absurd ?_ q⟩
      · refine r_sets (w := 1) rfl (by omega) (by omega) ?_
        refine r_sets (w := 3) rfl (by omega) (by omega) ?_
        rw [cl_4]
        refine r_sets (w := 4) rfl (by omega) (by omega) ?_
        refine r_sets (w := 5) rfl (by omega) (by omega) ?_
        refine r_sets (w := 7) rfl (by omega) (by omega) ?_
        simp only [s1_s1, s1_1]
        have e : upd (upd (upd (upd (upd Z (330 + 8 * c + 1) st) (330 + 8 * c + 3) wt) (330 + 8 * c + 4) (upd (upd Z (330 + 8 * c + 1) st) (330 + 8 * c + 3) wt 4)) (330 + 8 * c + 5) nu) (330 + 8 * c + 7) sz = adM c st wt nu sz (mm 1) := by
          have e4 : upd (upd Z (330 + 8 * c + 1) st) (330 + 8 * c + 3) wt 4 = mm 1 4 := by
            rw [pk_un (by omega), pk_un (by omega), hZ, if_neg (by omega), if_neg (by omega)]
          rw [e4]
          funext x
          unfold adM upd
          rw [hZ]
          by_cases c1 : x = 330 + 8 * c + 1
          · rw [if_neg (by omega), if_neg (by omega), if_neg (by omega), if_neg (by omega), if_pos c1, if_neg (by omega), if_pos (by omega), if_pos (by omega)]
          by_cases c3 : x = 330 + 8 * c + 3
          · rw [if_neg (by omega), if_neg (by omega), if_neg (by omega), if_pos c3, if_neg (by omega), if_pos (by omega), if_neg (by omega), if_pos (by omega)]
          by_cases c4 : x = 330 + 8 * c + 4
          · rw [if_neg (by omega), if_neg (by omega), if_pos c4, if_neg (by omega), if_pos (by omega), if_neg (by omega), if_neg (by omega), if_pos (by omega)]
          by_cases c5 : x = 330 + 8 * c + 5
          · rw [if_neg (by omega), if_pos c5, if_neg (by omega), if_pos (by omega), if_neg (by omega), if_neg (by omega), if_neg (by omega), if_pos (by omega)]
          by_cases c7 : x = 330 + 8 * c + 7
          · rw [if_pos c7, if_neg (by omega), if_pos (by omega), if_neg (by omega), if_neg (by omega), if_neg (by omega), if_neg (by omega), if_pos (by omega)]
          rw [if_neg c7, if_neg c5, if_neg c4, if_neg c3, if_neg c1]
          by_cases c2 : x = 2
          · rw [if_pos c2, if_pos c2]
          rw [if_neg c2, if_neg c2]
          by_cases c8 : 330 + 8 * c ≤ x ∧ x < 330 + 8 * c + 8
          · rw [if_pos c8, if_pos (by omega), if_neg (by omega), if_neg (by omega), if_neg (by omega), if_neg (by omega), if_neg (by omega)]
          · rw [if_neg c8, if_neg (by omega)]
        rw [e]
        exact h
      · exact nI_le (a := 8) (b := 8) (by omega) (by omega)
    | succ f ih =>
      intro j Z hj hZ
      unfold B_X13_adds_21
      refine ⟨fun q => ?_, fun _ => ?_⟩
      · rw [fa_lit 8, nI_leI (by omega) (by omega)] at q
        omega
      · refine r_sets (w := j) rfl (by omega) (by omega) ?_
        rw [s1_s1, s1_1, nI_1]
        refine ih (j + 1) _ (by omega) (fun x => ?_)
        unfold upd
        rw [hZ]
        by_cases c1 : x = 330 + 8 * c + j
        · rw [if_pos c1, if_neg (by omega), if_pos (by omega)]
        · rw [if_neg c1]
          by_cases c2 : x = 2
          · rw [if_pos c2, if_pos c2]
          rw [if_neg c2, if_neg c2]
          by_cases c3 : 330 + 8 * c ≤ x ∧ x < 330 + 8 * c + j
          · rw [if_pos c3, if_pos (by omega)]
          · rw [if_neg c3, if_neg (by omega)]
  refine ⟨9, key 8 0 _ rfl (fun x => ?_)⟩
  unfold upd
  by_cases c2 : x = 2
  · rw [if_pos c2, if_pos c2]
  · rw [if_neg c2, if_neg c2, if_neg (by omega)]
/-! what an act does -/
def minI (a b : Int32) : Int32 := if b ≤ a then b else a
def xM (h : Nat) (w : Fin 32) (n : Int32) (M : MR) : MR :=
  if w = 9 then upd (upd M (46 + 4 * h) (M (46 + 4 * h) - minI (M (46 + 4 * h)) n)) (47 + 4 * h) (M (47 + 4 * h) + minI (M (46 + 4 * h)) n)
  else if w = 10 then upd (upd M (47 + 4 * h) (M (47 + 4 * h) - minI (M (47 + 4 * h)) n)) (48 + 4 * h) (M (48 + 4 * h) + minI (M (47 + 4 * h)) n)
  else if w = 11 then (if M 2 = 60 then M else adM (M 2).toNatClampNeg (nI h) 1 (M (47 + 4 * h)) 0 M)
  else if n < M 2 ∧ bit32 (M (336 + 8 * n.toNatClampNeg)) h = true then upd M (49 + 4 * h) (M (49 + 4 * h) + 1)
  else upd M (810 + 60 * h + n.toNatClampNeg) 1
/-- an act: its word, its number -/
def AcO (w : Fin 32) (n : Int32) : Prop := ((w = 9 ∨ w = 10) ∧ 1 ≤ n.toInt ∧ n.toInt ≤ 999) ∨ w = 11 ∨ (w = 12 ∧ ∃ j, n = nI j ∧ j < 60)
def wNo (w : Fin 32) : Int32 := if w = 9 then 0 else if w = 10 then 1 else if w = 11 then 2 else 3
theorem bt_1 : ∀ i, i < 32 → bt 1 i = decide (i = 0) := by decide +kernel
theorem bit_sh (x : Int32) {h : Nat} (hh : h < 31) : ((x >>> (nI h &&& 31)) &&& 1 = 1) ↔ bit32 x h = true := by
  constructor
  · intro e
    have e2 := congrArg (fun y => bt y 0) e
    simp only [b_and] at e2
    rw [b_sshr h (by omega) x (by omega), if_pos (by omega), bt_1 0 (by omega)] at e2
    have e3 : bt x h = true := by simpa using e2
    exact e3
  · intro e
    apply b_ext
    intro i hi
    rw [b_and, bt_1 i hi]
    by_cases c : i = 0
    · subst c
      rw [b_sshr h (by omega) x (by omega), if_pos (by omega)]
      have e3 : bt x (h + 0) = true := e
      rw [e3]
      rfl
    · rw [decide_eq_false c, Bool.and_false]
theorem xM_9 {h : Nat} {n : Int32} {M : MR} : xM h 9 n M = upd (upd M (46 + 4 * h) (M (46 + 4 * h) - minI (M (46 + 4 * h)) n)) (47 + 4 * h) (M (47 + 4 * h) + minI (M (46 + 4 * h)) n) := if_pos rfl
theorem xM_10 {h : Nat} {n : Int32} {M : MR} : xM h 10 n M = upd (upd M (47 + 4 * h) (M (47 + 4 * h) - minI (M (47 + 4 * h)) n)) (48 + 4 * h) (M (48 + 4 * h) + minI (M (47 + 4 * h)) n) := by
  unfold xM
  rw [if_neg (by decide), if_pos rfl]
theorem xM_11 {h : Nat} {n : Int32} {M : MR} : xM h 11 n M = if M 2 = 60 then M else adM (M 2).toNatClampNeg (nI h) 1 (M (47 + 4 * h)) 0 M := by
  unfold xM
  rw [if_neg (by decide), if_neg (by decide), if_pos rfl]
theorem xM_12 {h : Nat} {n : Int32} {M : MR} : xM h 12 n M = if n < M 2 ∧ bit32 (M (336 + 8 * n.toNatClampNeg)) h = true then upd M (49 + 4 * h) (M (49 + 4 * h) + 1) else upd M (810 + 60 * h + n.toNatClampNeg) 1 := by
  unfold xM
  rw [if_neg (by decide), if_neg (by decide), if_neg (by decide)]
theorem r_a38 {post : MM → Prop} {h : Nat} (hh : h ≤ 11) {v : Int32} (hp : post (s1 mm (upd (upd (mm 1) (46 + 4 * h) (mm 1 (46 + 4 * h) - v)) (47 + 4 * h) (mm 1 (47 + 4 * h) + v)))) : B_X13_acts_38 post (nI (46 + 4 * h)) v mm := by
  unfold B_X13_acts_38 B_X13_acts_230
  have e0 : nI (46 + 4 * h) + 0 = nI (46 + 4 * h) := by rw [fa_lit 0, nI_add, Nat.add_zero]
  have e1 : nI (46 + 4 * h) + 1 = nI (47 + 4 * h) := by rw [nI_1]; congr 1; omega
  have k0 : (nI (46 + 4 * h)).toNatClampNeg = 46 + 4 * h := nI_clamp (by omega)
  have k1 : (nI (47 + 4 * h)).toNatClampNeg = 47 + 4 * h := nI_clamp (by omega)
  rw [e0, e1, k0, k1, up2_1, up2_1, s1_s1, s1_1, pk_un (by omega)]
  exact ⟨vp_in_nI (by omega) (by omega), vp_in_nI (by omega) (by omega), vp_in_nI (by omega) (by omega), vp_in_nI (by omega) (by omega), hp⟩
theorem r_a98 {post : MM → Prop} {h : Nat} (hh : h ≤ 11) {v : Int32} (hp : post (s1 mm (upd (upd (mm 1) (47 + 4 * h) (mm 1 (47 + 4 * h) - v)) (48 + 4 * h) (mm 1 (48 + 4 * h) + v)))) : B_X13_acts_98 post (nI (46 + 4 * h)) v mm := by
  unfold B_X13_acts_98 B_X13_acts_230
  have e0 : nI (46 + 4 * h) + 1 = nI (47 + 4 * h) := by rw [nI_1]; congr 1; omega
  have e1 : nI (46 + 4 * h) + 2 = nI (48 + 4 * h) := by rw [fa_lit 2, nI_add]; congr 1; omega
  have k0 : (nI (47 + 4 * h)).toNatClampNeg = 47 + 4 * h := nI_clamp (by omega)
  have k1 : (nI (48 + 4 * h)).toNatClampNeg = 48 + 4 * h := nI_clamp (by omega)
  rw [e0, e1, k0, k1, up2_1, up2_1, s1_s1, s1_1, pk_un (by omega)]
  exact ⟨vp_in_nI (by omega) (by omega), vp_in_nI (by omega) (by omega), vp_in_nI (by omega) (by omega), vp_in_nI (by omega) (by omega), hp⟩
theorem r_acts {post : MM → Prop} {h c : Nat} (h15 : mm 0 15 = nI h) (hh : 1 ≤ h ∧ h ≤ 11) (h2 : mm 1 2 = nI c) (hc : c ≤ 60) {w : Fin 32} {n : Int32} (hA : AcO w n) (hp : post (s1 mm (xM h w n (mm 1)))) : w_X13_acts post (wNo w) n mm := by
  have h60 : mm 1 2 = 60 ↔ c = 60 := by
    rw [h2, fa_lit 60, nI_eq (by omega) (by omega)]
  unfold w_X13_acts
  have e46 : (46 + (4 * nI h) : Int32) = nI (46 + 4 * h) := by rw [fa_lit 46, fa_lit 4, nI_mul, nI_add]
  have e0 : nI (46 + 4 * h) + 0 = nI (46 + 4 * h) := by rw [fa_lit 0, nI_add, Nat.add_zero]
  have e1 : nI (46 + 4 * h) + 1 = nI (47 + 4 * h) := by rw [nI_1]; congr 1; omega
  have e3 : nI (46 + 4 * h) + 3 = nI (49 + 4 * h) := by rw [fa_lit 3, nI_add]; congr 1; omega
  have k0 : (nI (46 + 4 * h)).toNatClampNeg = 46 + 4 * h := nI_clamp (by omega)
  have k1 : (nI (47 + 4 * h)).toNatClampNeg = 47 + 4 * h := nI_clamp (by omega)
  have k3 : (nI (49 + 4 * h)).toNatClampNeg = 49 + 4 * h := nI_clamp (by omega)
  rw [cl_2, h15, e46, e0, e1, e3, k0, k1, k3]
  have hv : ∀ j, j < 25530 → vp_in (nI j) 25530 := fun j hj => vp_in_nI hj (by omega)
  have no : ∀ {P : Prop} {a b : Int32}, a = b → a ≠ b → P := fun x y => absurd x y
  rcases hA with ⟨hw, hn⟩ | rfl | ⟨rfl, j, rfl, hj⟩
  · rcases hw with rfl | rfl
    · rw [xM_9] at hp
      unfold minI at hp
      refine ⟨fun q => absurd (by decide) q, fun _ => ⟨hv _ (by omega), fun q => r_a38 hh.2 ?_, fun q => ⟨hv _ (by omega), r_a38 hh.2 ?_⟩⟩⟩
      · rw [if_pos q] at hp; exact hp
      · rw [if_neg q] at hp; exact hp
    · rw [xM_10] at hp
      unfold minI at hp
      refine ⟨fun _ => ⟨fun q => absurd (by decide) q, fun _ => ⟨hv _ (by omega), fun q => r_a98 hh.2 ?_, fun q => ⟨hv _ (by omega), r_a98 hh.2 ?_⟩⟩⟩, fun q => no q (by decide)⟩
      · rw [if_pos q] at hp; exact hp
      · rw [if_neg q] at hp; exact hp
  · rw [xM_11] at hp
    refine ⟨fun _ => ⟨fun _ => ⟨fun q => absurd (by decide) q, fun _ => ⟨fun q => ?_, fun q => ?_⟩⟩, fun q => no q (by decide)⟩, fun q => no q (by decide)⟩
    · rw [if_neg q, h2, nI_clamp (by omega)] at hp
      have hc2 : c < 60 := by
        have : c ≠ 60 := fun z => q (h60.mpr z)
        omega
      exact ⟨hv _ (by omega), r_adds hc2 h2 hp⟩
    · rw [if_pos q, s1_id] at hp
      exact hp
  · rw [xM_12, h2, nI_clamp (by omega)] at hp
    have v211 : post (s1 mm (upd (mm 1) (810 + 60 * h + j) 1)) → B_X13_acts_211 post (nI j) mm := by
      intro z
      unfold B_X13_acts_211 B_X13_acts_230
      rw [h15, fa_lit 810, fa_lit 60, nI_mul, nI_add, nI_add, nI_clamp (by omega), up2_1]
      exact ⟨hv _ (by omega), z⟩
    refine ⟨fun _ => ⟨fun _ => ⟨fun _ => ⟨fun q => ?_, fun q => ?_⟩, fun q => no q (by decide)⟩, fun q => no q (by decide)⟩, fun q => no q (by decide)⟩
    · rw [h2, nI_leI (by omega) (by omega)] at q
      rw [if_neg (fun z => by have := z.1; rw [nI_ltI (by omega) (by omega)] at this; omega)] at hp
      exact v211 hp
    · rw [h2, nI_leI (by omega) (by omega)] at q
      refine r_chipOf (w := 6) rfl (by omega) (by omega) ⟨fun q2 => v211 ?_, fun q2 => ⟨hv _ (by omega), hv _ (by omega), ?_⟩⟩
      · rw [h15, bit_sh _ (by omega)] at q2
        rw [if_neg (fun z => q2 (by rw [← z.2]; congr 2; omega))] at hp
        exact hp
      · rw [h15, bit_sh _ (by omega)] at q2
        rw [if_pos ⟨by rw [nI_ltI (by omega) (by omega)]; omega, by rw [← q2]; congr 2; omega⟩] at hp
        unfold B_X13_acts_230
        rw [up2_1]
        exact hp
/-! the facts of an act's question -/
def s5 (mm : MM) (F : MR) : MM := fun b => if b = 5 then F else mm b
theorem s5_5 {mm : MM} {F : MR} : s5 mm F 5 = F := rfl
theorem s5_o {mm : MM} {F : MR} {b : Nat} (h : b ≠ 5) : s5 mm F b = mm b := if_neg h
theorem up2_5 {mm : MM} {F : MR} {j : Nat} {v : Int32} : up2 (s5 mm F) 5 j v = s5 mm (upd F j v) := by
  funext b i
  unfold up2 s5 upd
  by_cases q : b = 5
  · rw [if_pos q, if_pos q]
    by_cases q2 : i = j
    · rw [if_pos ⟨q, q2⟩, if_pos q2]
    · rw [if_neg (fun z => q2 z.2), if_neg q2]
  · rw [if_neg (fun z => q z.1), if_neg q, if_neg q]
theorem s5_id {mm : MM} : s5 mm (mm 5) = mm := by
  funext b
  unfold s5
  by_cases q : b = 5
  · rw [if_pos q, q]
  · rw [if_neg q]
theorem s5_st {mm : MM} {F : MR} {a e d : Int32} : s5 (stR mm a e d) F = stR (s5 mm F) a e d := by
  funext b i
  by_cases q : b = 5
  · subst q
    show F i = stR (s5 mm F) a e d 5 i
    rw [stR_o (by omega)]
    rfl
  · rw [s5_o q]
    unfold stR
    rw [s5_o q]
def fcM (M : MR) (h i : Nat) : MR := fun j => if j < 3 then M (46 + 4 * h + j) else if j = 3 then M 5 else if j = 4 then hourM M else M (333 + 8 * i)
theorem r_asks {post : MM → Prop} {D : Bool} {h i : Nat} (h13 : mm 0 13 = b2 D) (hD : D = true → mm 0 15 = nI h ∧ mm 0 14 = nI i ∧ h ≤ 11 ∧ i < 60) (h0 : D = false → post mm) (h1 : D = true → ∀ F : MR, (∀ j, j < 6 → F j = fcM (mm 1) h i j) → post (s5 mm F)) : w_X13_asks post mm := by
  unfold w_X13_asks
  rw [h13]
  cases D with
  | false => exact ⟨fun q => absurd rfl q, fun _ => h0 rfl⟩
  | true =>
    refine ⟨fun _ => ?_, fun q => absurd q (by decide)⟩
    obtain ⟨h15, h14, hh, hi⟩ := hD rfl
    have h1 := h1 rfl
    have e46 : (46 + (4 * nI h) : Int32) = nI (46 + 4 * h) := by rw [fa_lit 46, fa_lit 4, nI_mul, nI_add]
    have key : ∀ (f j : Nat) (F : MR), j + f = 3 → (∀ u, u < j → F u = fcM (mm 1) h i u) → B_X13_asks_10 post (f + 1) (nI j) (s5 mm F) := by
      intro f
      induction f with
      | zero =>
        intro j F hj hF
        unfold B_X13_asks_10
        refine ⟨fun _ => ?_, fun q => absurd ?_ q⟩
        · rw [cl_3, cl_4, cl_5, up2_5, up2_5, s5_o (by omega), s5_o (by omega), s5_o (by omega), h14]
          refine r_chipOf (w := 3) rfl (by omega) (by omega) ?_
          rw [up2_5, s5_o (by omega)]
          refine h1 _ (fun u hu => ?_)
          have c : u = 0 ∨ u = 1 ∨ u = 2 ∨ u = 3 ∨ u = 4 ∨ u = 5 := by omega
          rcases c with rfl | rfl | rfl | rfl | rfl | rfl
          · rw [pk_un (by omega), pk_un (by omega), pk_un (by omega)]; exact hF 0 (by omega)
          · rw [pk_un (by omega), pk_un (by omega), pk_un (by omega)]; exact hF 1 (by omega)
          · rw [pk_un (by omega), pk_un (by omega), pk_un (by omega)]; exact hF 2 (by omega)
          · rw [pk_un (by omega), pk_un (by omega)]; exact if_pos rfl
          · rw [pk_un (by omega)]; exact if_pos rfl
          · unfold upd fcM
            rw [if_pos rfl, if_neg (by omega), if_neg (by omega), if_neg (by omega)]
            congr 1
            omega
        · rw [fa_lit 3, nI_leI (by omega) (by omega)]
          omega
      | succ f ih =>
        intro j F hj hF
        unfold B_X13_asks_10
        refine ⟨fun q => ?_, fun _ => ?_⟩
        · rw [fa_lit 3, nI_leI (by omega) (by omega)] at q
          omega
        · rw [s5_o (by omega), s5_o (by omega), h15, e46, nI_add, nI_clamp (by omega), nI_clamp (by omega), up2_5, nI_1]
          refine ⟨vp_in_nI (by omega) (by omega), vp_in_nI (by omega) (by omega), ih (j + 1) _ (by omega) (fun u hu => ?_)⟩
          unfold upd
          by_cases c : u = j
          · rw [if_pos c, c]
            unfold fcM
            rw [if_pos (by omega)]
          · rw [if_neg c]
            exact hF u (by omega)
    refine ⟨4, ?_⟩
    have := key 3 0 (mm 5) rfl (fun u hu => by omega)
    rw [s5_id] at this
    exact this
end RR
