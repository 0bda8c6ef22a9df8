/-! ===== what steps are worth ===== -/
def hourM (M : Nat → Int32) : Int32 := (M 4 / 60) - (M 4 / 60) / 24 * 24
def frostM (M : Nat → Int32) : Bool := if M 6 ≤ M 7 then decide (M 6 ≤ hourM M ∧ hourM M < M 7) else decide (M 6 ≤ hourM M ∨ hourM M < M 7)
def pv (ev : Fin 32 → Int32) (x : Fin 32 × Int32) : Int32 := if x.1 = 30 then x.2 else ev x.1
def joi (w : Fin 32) (x y : Int32) : Int32 := if w = 27 then x + y else if w = 26 then x &&& y else if w = 25 then x ||| y else if w = 28 then (if x < y then 1 else 0) else (if y < x then 1 else 0)
def stp (ev : Fin 32 → Int32) (x : Fin 32 × Int32) : List Int32 → List Int32
  | [] => [pv ev x]
  | a :: st => if x.1 = 14 then (1 - a) :: st else match st with
    | [] => [pv ev x, a]
    | b :: st2 => if wJ x.1 then joi x.1 b a :: st2 else pv ev x :: a :: b :: st2
def runS (ev : Fin 32 → Int32) (l : SL) (st : List Int32) : List Int32 := l.foldl (fun st x => stp ev x st) st
/-- steps that come to one value, on a stack that grows by m at most -/
def Good (ev : Fin 32 → Int32) (l : SL) (v : Int32) (m : Nat) : Prop := ∀ st, runS ev l st = v :: st ∧ ∀ l1 l2, l = l1 ++ l2 → (runS ev l1 st).length ≤ st.length + m
theorem runS_app {ev : Fin 32 → Int32} {l1 l2 : SL} {st : List Int32} : runS ev (l1 ++ l2) st = runS ev l2 (runS ev l1 st) := List.foldl_append ..
theorem Good_mono {ev : Fin 32 → Int32} {l : SL} {v : Int32} {m m' : Nat} (h : Good ev l v m) (hm : m ≤ m') : Good ev l v m' :=
  fun st => ⟨(h st).1, fun l1 l2 e => Nat.le_trans ((h st).2 l1 l2 e) (by omega)⟩
theorem stp_val {ev : Fin 32 → Int32} {x : Fin 32 × Int32} (h1 : x.1 ≠ 14) (h2 : wJ x.1 = false) (st : List Int32) : stp ev x st = pv ev x :: st := by
  cases st with
  | nil => rfl
  | cons a st =>
    cases st with
    | nil =>
      show (if x.1 = 14 then [1 - a] else [pv ev x, a]) = _
      rw [if_neg h1]
    | cons b st =>
      show (if x.1 = 14 then (1 - a) :: b :: st else if wJ x.1 then joi x.1 b a :: st else pv ev x :: a :: b :: st) = _
      rw [if_neg h1, h2]
      rfl
theorem Good_val {ev : Fin 32 → Int32} {x : Fin 32 × Int32} (h1 : x.1 ≠ 14) (h2 : wJ x.1 = false) : Good ev [x] (pv ev x) 1 := by
  intro st
  refine ⟨stp_val h1 h2 st, fun l1 l2 e => ?_⟩
  cases l1 with
  | nil => show st.length ≤ _; omega
  | cons y l1 =>
    rw [List.cons_append] at e
    injection e with e1 e2
    have : l1 = [] := by
      cases l1 with
      | nil => rfl
      | cons z l1 => exact absurd e2 (by simp)
    subst this
    subst e1
    show (stp ev x st).length ≤ _
    rw [stp_val h1 h2]
    simp
/-- a prefix of one and another row -/
theorem pre_app {l1 l2 a b : SL} (e : a ++ b = l1 ++ l2) : (∃ c, a = l1 ++ c) ∨ ∃ c, l1 = a ++ c ∧ b = c ++ l2 := by
  rcases List.append_eq_append_iff.mp e with ⟨c, h1, h2⟩ | ⟨c, h1, h2⟩
  · exact Or.inr ⟨c, h1, h2⟩
  · exact Or.inl ⟨c, h1⟩
theorem pre_one {l1 l2 : SL} {x : Fin 32 × Int32} (e : [x] = l1 ++ l2) : l1 = [] ∨ l1 = [x] := by
  cases l1 with
  | nil => exact Or.inl rfl
  | cons y l1 =>
    rw [List.cons_append] at e
    injection e with e1 e2
    cases l1 with
    | nil => rw [e1]; exact Or.inr rfl
    | cons z l1 => exact absurd e2 (by simp)
theorem Good_join {ev : Fin 32 → Int32} {l1 l2 : SL} {v1 v2 : Int32} {m1 m2 : Nat} {x : Fin 32 × Int32} (h1 : Good ev l1 v1 m1) (h2 : Good ev l2 v2 m2) (hx : x.1 ≠ 14) (hj : wJ x.1 = true) : Good ev (l1 ++ l2 ++ [x]) (joi x.1 v1 v2) (max m1 (m2 + 1)) := by
  intro st
  have e1 := (h1 st).1
  have e2 := (h2 (v1 :: st)).1
  have e3 : stp ev x (v2 :: v1 :: st) = joi x.1 v1 v2 :: st := by
    show (if x.1 = 14 then (1 - v2) :: v1 :: st else if wJ x.1 then joi x.1 v1 v2 :: st else pv ev x :: v2 :: v1 :: st) = _
    rw [if_neg hx, hj]
    rfl
  refine ⟨?_, fun a b e => ?_⟩
  · rw [runS_app, runS_app, e1, e2]
    exact e3
  · rcases pre_app e with ⟨c, hc⟩ | ⟨c, hc, hb⟩
    · rcases pre_app hc with ⟨c2, hc2⟩ | ⟨c2, hc2, hb2⟩
      · have := (h1 st).2 a c2 hc2
        omega
      · rw [hc2, runS_app, e1]
        have := (h2 (v1 :: st)).2 c2 c hb2
        rw [List.length_cons] at this
        omega
    · have h3 := (h2 (v1 :: st)).2 l2 [] (by simp)
      rw [e2] at h3
      simp only [List.length_cons] at h3
      rw [hc, runS_app, runS_app, e1, e2]
      rcases pre_one hb with q | q
      · rw [q]
        show (v2 :: v1 :: st).length ≤ _
        simp only [List.length_cons]
        omega
      · rw [q]
        show (stp ev x (v2 :: v1 :: st)).length ≤ _
        rw [e3]
        simp only [List.length_cons]
        omega
theorem Good_not {ev : Fin 32 → Int32} {l : SL} {v n : Int32} {m : Nat} (h : Good ev l v m) : Good ev (l ++ [(14, n)]) (1 - v) m := by
  intro st
  have e1 := (h st).1
  have e3 : stp ev (14, n) (v :: st) = (1 - v) :: st := by
    rfl
  refine ⟨?_, fun a b e => ?_⟩
  · rw [runS_app, e1]
    exact e3
  · rcases pre_app e with ⟨c, hc⟩ | ⟨c, hc, hb⟩
    · exact (h st).2 a c hc
    · have h3 := (h st).2 l [] (by simp)
      rw [e1] at h3
      rw [hc, runS_app, e1]
      rcases pre_one hb with q | q
      · rw [q]
        exact h3
      · rw [q]
        show (stp ev (14, n) (v :: st)).length ≤ _
        rw [e3]
        simp only [List.length_cons] at h3 ⊢
        exact h3
theorem b2_and (x y : Bool) : joi 26 (b2 x) (b2 y) = b2 (x && y) := by cases x <;> cases y <;> decide
theorem b2_or (x y : Bool) : joi 25 (b2 x) (b2 y) = b2 (x || y) := by cases x <;> cases y <;> decide
theorem b2_not (x : Bool) : 1 - b2 x = b2 (!x) := by cases x <;> decide
theorem r_frost {mm : MM} {post : Bool → MM → Prop} (h : post (frostM (mm 1)) mm) : w_X13_isFrost post mm := by
  unfold w_X13_isFrost
  have e4 : Int32.toNatClampNeg (4 : Int32) = 4 := by decide
  have e6 : Int32.toNatClampNeg (6 : Int32) = 6 := by decide
  have e7 : Int32.toNatClampNeg (7 : Int32) = 7 := by decide
  rw [e4, e6, e7]
  have eh : (mm 1 4 / 60) - (mm 1 4 / 60) / 24 * 24 = hourM (mm 1) := rfl
  rw [eh]
  unfold frostM at h
  generalize hourM (mm 1) = hh at *
  generalize mm 1 6 = f at *
  generalize mm 1 7 = g at *
  simp only [fa_lt, fa_le, fa_eq] at h ⊢
  refine ⟨fun q => ⟨fun q2 => ⟨fun q3 => ?_, fun q3 => ⟨fun q4 => ?_, fun q4 => ?_⟩⟩, fun q2 => ⟨fun q3 => ?_, fun q3 => ⟨fun q4 => ?_, fun q4 => ?_⟩⟩⟩, fun q => ?_⟩
  · rw [if_neg (by omega), decide_eq_true (by omega)] at h; exact h
  · rw [if_neg (by omega), decide_eq_false (by omega)] at h; exact h
  · rw [if_neg (by omega), decide_eq_true (by omega)] at h; exact h
  · rw [if_pos (by omega), decide_eq_false (by omega)] at h; exact h
  · rw [if_pos (by omega), decide_eq_false (by omega)] at h; exact h
  · rw [if_pos (by omega), decide_eq_true (by omega)] at h; exact h
  · rw [if_pos (by omega), decide_eq_false (by omega)] at h; exact h
/-- numbers of three figures at most -/
theorem vl_dig {v x : Int32} {a : Int} (hv : v.toInt = a) (h1 : 0 ≤ a) (h2 : a ≤ 99) (hx : isD x = true) : 0 ≤ (10 * v + x - 48).toInt ∧ (10 * v + x - 48).toInt ≤ 10 * a + 9 := by
  have hd := of_decide_eq_true hx
  rw [fa_lt, fa_lt] at hd
  have e1 : (48 : Int32).toInt = 48 := rfl
  have e2 : (57 : Int32).toInt = 57 := rfl
  have e3 : (10 : Int32).toInt = 10 := rfl
  have m1 : (10 * v : Int32).toInt = 10 * a := by rw [ti_mul (by rw [e3, hv]; omega), e3, hv]
  have m2 : (10 * v + x).toInt = 10 * a + x.toInt := by rw [ti_add (by rw [m1]; omega), m1]
  have m3 : (10 * v + x - 48).toInt = 10 * a + x.toInt - 48 := by rw [ti_sub (by rw [m2, e1]; omega), m2, e1]
  rw [m3]
  omega
theorem vl_3 {b : Nat → Int32} {i n : Nat} (hn : n ≤ 3) (hd : ∀ u, i ≤ u → u < i + n → isD (b u) = true) : 0 ≤ (vlF b n i 0).toInt ∧ (vlF b n i 0).toInt ≤ 999 := by
  have z : (0 : Int32).toInt = 0 := rfl
  have c : n = 0 ∨ n = 1 ∨ n = 2 ∨ n = 3 := by omega
  rcases c with rfl | rfl | rfl | rfl
  · exact ⟨by show 0 ≤ (0 : Int32).toInt; omega, by show (0 : Int32).toInt ≤ 999; omega⟩
  · have s1 := vl_dig z (by omega) (by omega) (hd i (by omega) (by omega))
    unfold vlF vlF
    omega
  · have s1 := vl_dig z (by omega) (by omega) (hd i (by omega) (by omega))
    have s2 := vl_dig rfl s1.1 (by omega) (hd (i + 1) (by omega) (by omega))
    unfold vlF vlF vlF
    omega
  · have s1 := vl_dig z (by omega) (by omega) (hd i (by omega) (by omega))
    have s2 := vl_dig rfl s1.1 (by omega) (hd (i + 1) (by omega) (by omega))
    have s3 := vl_dig rfl s2.1 (by omega) (hd (i + 1 + 1) (by omega) (by omega))
    unfold vlF vlF vlF vlF
    omega
