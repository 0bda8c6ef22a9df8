/-! ===== the world of both systems: 715 cells at fixed places, told by numbers ===== -/
/-- what the class's cells hold: ints, longs, words (0 is null, w is the constant of place w - 1) -/
abbrev CMu : Type := (Nat → Nat → Int32) × (Nat → Nat → Int64) × (Nat → Nat → Fin 32)
/-- the class's cells, the reference's, the law's row of one long -/
abbrev Ka : Type := CMu × (Nat → Nat → Int32) × (Nat → Int64)
/-- the classes' numbers and slots; the array classes' numbers -/
abbrev Gd : Type := va_G × (Nat → ClassId)
def up2 {α : Type} (f : Nat → Nat → α) (a j : Nat) (v : α) : Nat → Nat → α := fun b i => if b = a ∧ i = j then v else f b i
def gI (c : CMu) (a j : Nat) : Int32 := c.1 a j
def gL (c : CMu) (a j : Nat) : Int64 := c.2.1 a j
def gW (c : CMu) (a j : Nat) : Fin 32 := c.2.2 a j
def uI (c : CMu) (a j : Nat) (v : Int32) : CMu := (up2 c.1 a j v, c.2)
def uL (c : CMu) (a j : Nat) (v : Int64) : CMu := (c.1, up2 c.2.1 a j v, c.2.2)
def uW (c : CMu) (a j : Nat) (v : Fin 32) : CMu := (c.1, c.2.1, up2 c.2.2 a j v)
/-- the kind of a cell, and the length of an array: 0 to 12 an object of that class; 20 an int row of the class, 28 of the reference, 21 the long row, 22 to 27 rows of references -/
def KD0 (a : Nat) : Nat × Nat :=
  if a < 11 then [(99, 0), (11, 0), (8, 0), (20, 400), (9, 0), (26, 400), (20, 400), (20, 400), (2, 0), (27, 61), (20, 32)].getD a (99, 0)
  else if a < 377 then [(4, 0), (26, 8), (20, 8), (20, 8), (26, 400), (20, 400)].getD ((a - 11) % 6) (99, 0)
  else if a < 382 then (if a = 377 then (7, 0) else (20, 6))
  else if a < 703 then
    (if (a - 382) % 107 < 23 then [(3, 0), (22, 12), (23, 12), (24, 60), (20, 60), (5, 0), (20, 12), (20, 12), (25, 12), (20, 12), (20, 12), (20, 12), (20, 12), (20, 12), (20, 12), (20, 12), (20, 12), (20, 12), (20, 12), (20, 12), (20, 12), (20, 12), (20, 12)].getD ((a - 382) % 107) (99, 0)
     else if (a - 382) % 107 < 47 then (if ((a - 382) % 107 - 23) % 2 = 0 then (0, 0) else (6, 0))
     else (1, 0))
  else [(12, 0), (28, 25530), (28, 25530), (28, 1530), (28, 400), (28, 6), (28, 6), (28, 6), (28, 6), (28, 12), (28, 1530), (28, 5), (21, 1)].getD (a - 703) (99, 0)
def KD (a : Nat) : Nat × Nat := if 1 ≤ a ∧ a ≤ 715 then KD0 a else (99, 0)
/-- the fields of a class: 0 an int or a boolean, 1 a long, 2 a reference -/
def FT (c : Nat) : List Nat := [[0, 0, 0, 0, 1, 1], [0, 0, 0, 0, 0, 0, 0], [2, 2], [2, 2, 2, 2, 2, 0, 0, 0, 0, 0, 0, 0, 0, 0], [2, 2, 2, 2, 2, 0, 0, 0], [2, 2, 2, 0, 2, 2], [0, 0, 0, 0], [2, 2, 2, 2, 0, 0], [2, 0], [2, 2, 2, 0, 0, 0, 0, 0], [], [2, 2, 2, 2, 2, 2, 2, 0], [0, 2, 2, 0, 2, 2, 0, 0, 0, 0, 0, 0, 0, 0, 0, 0, 2, 2, 2, 2, 0, 0, 2, 2, 2]].getD c []
/-- how far behind an object the cell of a reference stands -/
def OF (c : Nat) : List Nat := [[], [], [1, 2], [1, 2, 3, 4, 5], [1, 2, 3, 4, 5], [1, 2, 3, 0, 16, 17], [], [1, 2, 3, 4], [1], [1, 2, 3], [], [1, 3, 7, 376, 381, 488, 595], [0, 1, 2, 0, 3, 4, 0, 0, 0, 0, 0, 0, 0, 0, 0, 0, 5, 6, 7, 8, 0, 0, 9, 10, 11]].getD c []
/-- what the references tell, from the constructors' end on -/
def RF (a j : Nat) : Nat :=
  if (KD a).1 < 20 then a + (OF (KD a).1).getD j 0
  else if (KD a).1 < 24 then a + 22 + 2 * j
  else if (KD a).1 = 24 then a + 44 + j
  else if (KD a).1 = 25 then a + 1 + j
  else a + 2 + 6 * j
def rO (ρ : Nat → Nat) (r : Nat) : Option Nat := if r = 0 then none else some (ρ r)
def wO (ρ : Nat → Nat) (w : Fin 32) : Option Nat := if w = 0 then none else some (ρ (1000 + w.val))
def wv (w : Fin 32) : Value := if w = 0 then .null else .ref (1000 + w.val)
/-- a value of ours as the machine has it -/
def cv (ρ : Nat → Nat) : Value → Value
  | .ref a => .ref (ρ a)
  | v => v
theorem cv_wv (ρ : Nat → Nat) (w : Fin 32) : cv ρ (wv w) = va_rf (wO ρ w) := by
  unfold wv wO
  split <;> rfl
def iA (κ : Ka) (a : Nat) : Nat → Int32 := if a < 703 then κ.1.1 a else κ.2.1 (a - 703)
def fvl (ρ : Nat → Nat) (R : Nat → Nat → Nat) (κ : Ka) (a j t : Nat) : Value :=
  if t = 0 then .int (iA κ a j) else if t = 1 then .long (κ.1.2.1 a j) else va_rf (rO ρ (R a j))
def cellE (G : Gd) (ρ : Nat → Nat) (R : Nat → Nat → Nat) (κ : Ka) (a : Nat) : va_E :=
  if (KD a).1 < 20 then .inr ((KD a).1, (List.range (FT (KD a).1).length).map (fun j => fvl ρ R κ a j ((FT (KD a).1).getD j 0)))
  else if (KD a).1 = 20 then .inl (G.2 0, (KD a).2, .inl (iA κ a))
  else if (KD a).1 = 28 then .inl (G.2 0, (KD a).2, .inl (iA κ a))
  else if (KD a).1 = 21 then .inl (G.2 1, (KD a).2, .inr (.inl κ.2.2))
  else if (KD a).1 = 26 then .inl (G.2 6, (KD a).2, .inr (.inr (.inr (.inr (fun i => wO ρ (κ.1.2.2 a i))))))
  else .inl (G.2 ((KD a).1 - 20), (KD a).2, .inr (.inr (.inr (.inr (fun i => rO ρ (R a i))))))
def wsK (G : Gd) (ρ : Nat → Nat) (κ : Ka) : va_W := (List.range 715).map (fun k => (ρ (k + 1), cellE G ρ RF κ (k + 1)))
def tysG (G : Gd) : List (ClassId × FieldType) := [(G.2 0, .int), (G.2 1, .long), (G.2 2, .object RX1), (G.2 3, .object RX7), (G.2 4, .object RX2), (G.2 5, .array .int), (G.2 6, .object RX11), (G.2 7, .object RX5)]
theorem KD_in {a : Nat} (h : (KD a).1 ≠ 99) : 1 ≤ a ∧ a ≤ 715 := by
  unfold KD at h
  by_cases q : 1 ≤ a ∧ a ≤ 715
  · exact q
  · rw [if_neg q] at h
    exact absurd rfl h
theorem KD_all {P : Nat → Prop} (h : ∀ a, a < 716 → P a) {a : Nat} (h9 : (KD a).1 ≠ 99) : P a := h a (by have := KD_in h9; omega)
theorem wsK_get (G : Gd) (ρ : Nat → Nat) (κ : Ka) {a : Nat} (h1 : 1 ≤ a) (h2 : a ≤ 715) : (wsK G ρ κ)[a - 1]? = some (ρ a, cellE G ρ RF κ a) := by
  unfold wsK
  rw [List.getElem?_map, List.getElem?_range (by omega)]
  show some (ρ (a - 1 + 1), cellE G ρ RF κ (a - 1 + 1)) = _
  rw [Nat.sub_add_cancel h1]
theorem wsK_len (G : Gd) (ρ : Nat → Nat) (κ : Ka) : (wsK G ρ κ).length = 715 := by unfold wsK; rw [List.length_map, List.length_range]
theorem wsK_set (G : Gd) (ρ : Nat → Nat) (κ κ' : Ka) {a : Nat} (h1 : 1 ≤ a) (h2 : a ≤ 715) {e : va_E} (he : cellE G ρ RF κ' a = e) (ho : ∀ b, b ≠ a → cellE G ρ RF κ' b = cellE G ρ RF κ b) : (wsK G ρ κ).set (a - 1) (ρ a, e) = wsK G ρ κ' := by
  apply List.ext_getElem?
  intro i
  rw [List.getElem?_set]
  by_cases q : a - 1 = i
  · rw [if_pos q, if_pos (by rw [wsK_len]; omega), ← q, wsK_get G ρ κ' h1 h2, he]
  · rw [if_neg q]
    by_cases hi : i < 715
    · have e1 := wsK_get G ρ κ (a := i + 1) (by omega) (by omega)
      have e2 := wsK_get G ρ κ' (a := i + 1) (by omega) (by omega)
      rw [Nat.add_sub_cancel] at e1 e2
      rw [e1, e2, ho (i + 1) (by omega)]
    · rw [List.getElem?_eq_none (by rw [wsK_len]; omega), List.getElem?_eq_none (by rw [wsK_len]; omega)]
def InjR (ρ : Nat → Nat) : Prop := ∀ a b, 1 ≤ a → a ≤ 715 → 1 ≤ b → b ≤ 715 → ρ a = ρ b → a = b
theorem wsK_D {G : Gd} {ρ : Nat → Nat} {κ : Ka} {A : Nat → Prop} (hi : InjR ρ) (hA : ∀ a, 1 ≤ a → a ≤ 715 → A (ρ a)) : va_D A (wsK G ρ κ) := by
  have key : ∀ (i : Nat) (q : Nat × va_E), (wsK G ρ κ)[i]? = some q → i < 715 ∧ q.1 = ρ (i + 1) := by
    intro i q hq
    have hl : i < 715 := by rw [← wsK_len G ρ κ]; exact (List.getElem?_eq_some_iff.mp hq).1
    have e1 := wsK_get G ρ κ (a := i + 1) (by omega) (by omega)
    rw [Nat.add_sub_cancel, hq] at e1
    exact ⟨hl, by rw [Option.some.inj e1]⟩
  refine ⟨fun i j x y hx hy hxy => ?_, fun k q hq => ?_⟩
  · obtain ⟨a1, a2⟩ := key i x hx
    obtain ⟨b1, b2⟩ := key j y hy
    have := hi (i + 1) (j + 1) (by omega) (by omega) (by omega) (by omega) (by rw [← a2, ← b2]; exact hxy)
    omega
  · obtain ⟨a1, a2⟩ := key k q hq
    rw [a2]
    exact hA _ (by omega) (by omega)
theorem cell_obj {G : Gd} {ρ : Nat → Nat} {R : Nat → Nat → Nat} {κ : Ka} {a ci : Nat} (h : (KD a).1 = ci) (hc : ci < 20) : cellE G ρ R κ a = .inr (ci, (List.range (FT ci).length).map (fun j => fvl ρ R κ a j ((FT ci).getD j 0))) := by
  subst h
  unfold cellE
  rw [if_pos hc]
theorem cell_int {G : Gd} {ρ : Nat → Nat} {R : Nat → Nat → Nat} {κ : Ka} {a n : Nat} (h : KD a = (20, n)) : cellE G ρ R κ a = .inl (G.2 0, n, .inl (iA κ a)) := by
  unfold cellE
  rw [h]
  rfl
theorem cell_intM {G : Gd} {ρ : Nat → Nat} {R : Nat → Nat → Nat} {κ : Ka} {a n : Nat} (h : KD a = (28, n)) : cellE G ρ R κ a = .inl (G.2 0, n, .inl (iA κ a)) := by
  unfold cellE
  rw [h]
  rfl
theorem cell_word {G : Gd} {ρ : Nat → Nat} {R : Nat → Nat → Nat} {κ : Ka} {a n : Nat} (h : KD a = (26, n)) : cellE G ρ R κ a = .inl (G.2 6, n, .inr (.inr (.inr (.inr (fun i => wO ρ (κ.1.2.2 a i)))))) := by
  unfold cellE
  rw [h]
  rfl
theorem cell_out {G : Gd} {ρ : Nat → Nat} {R : Nat → Nat → Nat} {κ : Ka} {a n : Nat} (h : KD a = (21, n)) : cellE G ρ R κ a = .inl (G.2 1, n, .inr (.inl κ.2.2)) := by
  unfold cellE
  rw [h]
  rfl
theorem cell_refs {G : Gd} {ρ : Nat → Nat} {R : Nat → Nat → Nat} {κ : Ka} {a n k : Nat} (h : KD a = (k, n)) (hk : 22 ≤ k) (hk6 : k ≠ 26) (hk8 : k ≠ 28) : cellE G ρ R κ a = .inl (G.2 (k - 20), n, .inr (.inr (.inr (.inr (fun i => rO ρ (R a i)))))) := by
  unfold cellE
  rw [h]
  rw [if_neg (show ¬ k < 20 by omega), if_neg (show ¬ k = 20 by omega), if_neg hk8, if_neg (show ¬ k = 21 by omega), if_neg hk6]
theorem iA_c {κ : Ka} {a : Nat} (h : a < 703) : iA κ a = κ.1.1 a := if_pos h
theorem iA_m (κ : Ka) (a : Nat) : iA κ (703 + a) = κ.2.1 a := by
  unfold iA
  rw [if_neg (by omega), Nat.add_sub_cancel_left]
theorem KD_c {a ci : Nat} (h : (KD a).1 = ci) (hc : ci < 12) : a < 703 := by
  have h9 : (KD a).1 ≠ 99 := by omega
  exact KD_all (P := fun a => (KD a).1 < 12 → a < 703) (by decide +kernel) h9 (by omega)
theorem KD_i {a n : Nat} (h : KD a = (20, n)) : a < 703 := by
  have h9 : (KD a).1 ≠ 99 := by rw [h]; show (20 : Nat) ≠ 99; omega
  exact KD_all (P := fun a => (KD a).1 = 20 → a < 703) (by decide +kernel) h9 (by rw [h])
theorem KD_w {a n : Nat} (h : KD a = (26, n)) : a < 703 := by
  have h9 : (KD a).1 ≠ 99 := by rw [h]; show (26 : Nat) ≠ 99; omega
  exact KD_all (P := fun a => (KD a).1 = 26 → a < 703) (by decide +kernel) h9 (by rw [h])
theorem cellE_congr {G : Gd} {ρ : Nat → Nat} {R : Nat → Nat → Nat} {κ κ' : Ka} {b : Nat} (h1 : iA κ' b = iA κ b) (h2 : κ'.1.2.1 b = κ.1.2.1 b) (h3 : κ'.1.2.2 b = κ.1.2.2 b) (h4 : κ'.2.2 = κ.2.2 ∨ (KD b).1 ≠ 21) : cellE G ρ R κ' b = cellE G ρ R κ b := by
  have e : ∀ j t, fvl ρ R κ' b j t = fvl ρ R κ b j t := by
    intro j t
    unfold fvl
    rw [h1, h2]
  unfold cellE
  rcases h4 with h4 | h4
  · simp only [h1, h3, h4, e]
  · simp only [h1, h3, e, if_neg h4]
theorem up2_ne {α : Type} {f : Nat → Nat → α} {a j b : Nat} {v : α} (h : b ≠ a) : up2 f a j v b = f b := by
  funext i
  unfold up2
  rw [if_neg (fun q => h q.1)]
theorem up2_row {f : Nat → Nat → Int32} {a j : Nat} {v : Int32} : up2 f a j v a = upd (f a) j v := by
  funext i
  unfold up2 upd
  by_cases q : i = j
  · rw [if_pos ⟨rfl, q⟩, if_pos q]
  · rw [if_neg (fun z => q z.2), if_neg q]
theorem up2_rowL {f : Nat → Nat → Int64} {a j : Nat} {v : Int64} : up2 f a j v a = vp_updL (f a) j v := by
  funext i
  unfold up2 vp_updL
  by_cases q : i = j
  · rw [if_pos ⟨rfl, q⟩, if_pos q]
  · rw [if_neg (fun z => q z.2), if_neg q]
theorem iA_uI {c : CMu} {m : Nat → Nat → Int32} {o : Nat → Int64} {a j b : Nat} {v : Int32} (h : b ≠ a) : iA (uI c a j v, m, o) b = iA (c, m, o) b := by
  unfold iA
  split
  · exact up2_ne h
  · rfl
theorem cell_uI {G : Gd} {ρ : Nat → Nat} {R : Nat → Nat → Nat} {c : CMu} {m : Nat → Nat → Int32} {o : Nat → Int64} {a j b : Nat} {v : Int32} (h : b ≠ a) : cellE G ρ R (uI c a j v, m, o) b = cellE G ρ R (c, m, o) b :=
  cellE_congr (iA_uI h) rfl rfl (Or.inl rfl)
theorem cell_uL {G : Gd} {ρ : Nat → Nat} {R : Nat → Nat → Nat} {c : CMu} {m : Nat → Nat → Int32} {o : Nat → Int64} {a j b : Nat} {v : Int64} (h : b ≠ a) : cellE G ρ R (uL c a j v, m, o) b = cellE G ρ R (c, m, o) b :=
  cellE_congr rfl (up2_ne h) rfl (Or.inl rfl)
theorem cell_uW {G : Gd} {ρ : Nat → Nat} {R : Nat → Nat → Nat} {c : CMu} {m : Nat → Nat → Int32} {o : Nat → Int64} {a j b : Nat} {v : Fin 32} (h : b ≠ a) : cellE G ρ R (uW c a j v, m, o) b = cellE G ρ R (c, m, o) b :=
  cellE_congr rfl rfl (up2_ne h) (Or.inl rfl)
theorem cell_uM {G : Gd} {ρ : Nat → Nat} {R : Nat → Nat → Nat} {c : CMu} {m : Nat → Nat → Int32} {o : Nat → Int64} {a j b : Nat} {v : Int32} (h : b ≠ 703 + a) : cellE G ρ R (c, up2 m a j v, o) b = cellE G ρ R (c, m, o) b := by
  refine cellE_congr ?_ rfl rfl (Or.inl rfl)
  unfold iA
  by_cases q : b < 703
  · rw [if_pos q, if_pos q]
  · rw [if_neg q, if_neg q]
    have h2 : b - 703 ≠ a := by omega
    generalize b - 703 = z at h2 ⊢
    exact up2_ne h2
theorem cell_uO {G : Gd} {ρ : Nat → Nat} {R : Nat → Nat → Nat} {c : CMu} {m : Nat → Nat → Int32} {o o' : Nat → Int64} {b : Nat} (h : b ≠ 715) : cellE G ρ R (c, m, o') b = cellE G ρ R (c, m, o) b := by
  refine cellE_congr rfl rfl rfl (Or.inr ?_)
  intro q
  have h9 : (KD b).1 ≠ 99 := by omega
  exact h (KD_all (P := fun a => (KD a).1 = 21 → a = 715) (by decide +kernel) h9 q)
/-! what stands from the start: the words, their spellings, the two rows of theirs -/
def wnm : List String := ["CAMP", "REACH", "STICK", "BEND", "SEED", "TO", "ALL", "MILL", "CUT", "SEND", "ANSWER", "VOID", "IF", "NOT", "FROST", "SEMICOLON", "OPEN", "CLOSE", "TREES", "LOGS", "SENT", "WATER", "HOUR", "WEIGHT", "OR", "AND", "PLUS", "LESS", "MORE", "NUMBER", "UNKNOWN"]
def word : List Int32 := (List.range 31).map Int32.ofNat
def wpt : List Int32 := [0, 0, 0, 0, 0, 0, 0, 0, 0, 0, 0, 0, 0, 0, 0, 0, 0, 0, 1, 1, 1, 1, 1, 1, 0, 0, 0, 0, 0, 1, 0]
def wjn : List Int32 := [0, 0, 0, 0, 0, 0, 0, 0, 0, 0, 0, 0, 0, 0, 0, 0, 0, 0, 0, 0, 0, 0, 0, 0, 1, 1, 1, 1, 1, 0, 0]
def swm : List Int32 := [0, 0, 0, 0, 0, 0, 0, 0, 0, 0, 0, 0, 0, 0, 0, 0, 0, 0, 1, 2, 3, 4, 5, 6, 9, 8, 7, 10, 0, 0, 0]
def wsp (w : Nat) : Nat := if w < 29 then w else 29
def stx : List String := ["camp", "reach", "stick", "bend", "seed", "to", "all", "mill", "cut", "send", "answer", "void", "if", "not", "frost", ";", "(", ")", "trees", "logs", "sent", "water", "hour", "weight", "or", "and", "+", "<", ">", ""]
def sbyt : List (List Int32) := [[99, 97, 109, 112], [114, 101, 97, 99, 104], [115, 116, 105, 99, 107], [98, 101, 110, 100], [115, 101, 101, 100], [116, 111], [97, 108, 108], [109, 105, 108, 108], [99, 117, 116], [115, 101, 110, 100], [97, 110, 115, 119, 101, 114], [118, 111, 105, 100], [105, 102], [110, 111, 116], [102, 114, 111, 115, 116], [59], [40], [41], [116, 114, 101, 101, 115], [108, 111, 103, 115], [115, 101, 110, 116], [119, 97, 116, 101, 114], [104, 111, 117, 114], [119, 101, 105, 103, 104, 116], [111, 114], [97, 110, 100], [43], [60], [62], []]
def slen : List Nat := sbyt.map List.length
def wF : List (String × String × String × List Int32) := [("java/lang/Enum", "ordinal", "I", word), (RX11, "isPart", "Z", wpt), (RX11, "isJoin", "Z", wjn)]
/-- the reference's texts: their entries and their numbers -/
def mtx : List (Nat × Nat) := [(87, 0), (97, 1), (99, 2), (101, 3), (103, 21), (105, 14), (107, 4), (135, 18), (137, 19), (139, 20), (141, 22), (143, 23), (155, 13), (166, 25), (171, 24), (173, 8), (175, 9), (177, 10), (179, 11), (184, 12), (190, 5), (195, 6), (197, 7)]
/-- links between nest mates, and what an exception may be cast to -/
def nestL : List (String × Nat × MethodName × String) := [(RX3, 230, yX12_minutesFor, RX12), (RX6, 42, yX12_minutesFor, RX12), (RX8, 57, yX12_minutesFor, RX12)]
def castL : List String := ["java/lang/IllegalArgumentException", "java/lang/IndexOutOfBoundsException", "java/lang/UnsupportedOperationException", "java/util/NoSuchElementException"]
def decL : List MethodName := [⟨"java/lang/RuntimeException", "<init>", "()V"⟩, ⟨"java/lang/Exception", "<init>", "()V"⟩, ⟨"java/lang/Throwable", "<init>", "()V"⟩]
def ncL : List (String × String) := [("java/lang/IllegalArgumentException", "java/lang/IndexOutOfBoundsException"), ("java/lang/UnsupportedOperationException", "java/lang/IndexOutOfBoundsException"), ("java/lang/UnsupportedOperationException", "java/lang/IllegalArgumentException"), ("java/util/NoSuchElementException", "java/lang/IndexOutOfBoundsException"), ("java/util/NoSuchElementException", "java/lang/IllegalArgumentException")]
def Stat (ρ : Nat → Nat) (A : Nat → Prop) (U : State) (H : Heap) : Prop :=
  va_En RX11 "LFlumeOrders$Word;" wnm wF (fun i => ρ (1001 + i)) A U H ∧
  va_Ef 31 RX11 "spelling" "Ljava/lang/String;" (fun i => .ref (ρ (2001 + wsp i))) (fun i => ρ (1001 + i)) A U H ∧
  vk_S 30 slen sbyt (fun i => ρ (2001 + i)) (fun i => ρ (3001 + i)) A U H ∧
  (va_Z RX11 "LIST" "[LFlumeOrders$Word;" (.ref (ρ 1100)) A U H ∧ va_T (.object RX11) (ρ 1100) 31 (fun j => .ref (ρ (1001 + j))) A U H) ∧
  (va_Z "FlumeOrders$1" "$SwitchMap$FlumeOrders$Word" "[I" (.ref (ρ 1101)) A U H ∧ va_T .int (ρ 1101) 31 (fun j => .int (swm.getD j 0)) A U H) ∧
  va_Z "java/lang/String" "COMPACT_STRINGS" "Z" (.int 1) A U H ∧
  (va_Z "jdk/internal/util/Preconditions" "SIOOBE_FORMATTER" "Ljava/util/function/BiFunction;" .null A U H ∨ va_Z "jdk/internal/util/Preconditions" "SIOOBE_FORMATTER" "Ljava/util/function/BiFunction;" (.ref (ρ 4000)) A U H) ∧
  vx_Zq Bundle.tN "UNASSIGNED_STACK" Bundle.steD A U H ∧ vx_Zq Bundle.tN "SUPPRESSED_SENTINEL" Bundle.listD A U H ∧
  (∀ q ∈ mtx, vk_R RX13 q.1 (stx.getD q.2 "") (ρ (2001 + q.2)) U) ∧
  (∀ q ∈ nestL, va_Nw (.methodLinkNest q.1 q.2.1 q.2.2.1 q.2.2.2) U) ∧ (∀ q ∈ castL, va_Nw (.castable q q) U) ∧ (∀ q ∈ decL, va_Nw (.declares q) U) ∧ ∀ q ∈ ncL, va_Nc q.1 q.2 U
theorem Stat.warm {ρ : Nat → Nat} {A : Nat → Prop} {u U : State} {H : Heap} (hW : u.WarmedH U.vm) (h : Stat ρ A u H) : Stat ρ A U H := by
  obtain ⟨h1, h2, h3, ⟨h4, h5⟩, ⟨h6, h7⟩, h8, h9, h10, h11, h12, h13, h14, h15, h16⟩ := h
  have hv := hW.alike
  exact ⟨h1.moved hv, h2.moved hv, h3.moved hv, ⟨h4.moved hv, h5.moved hv⟩, ⟨h6.moved hv, h7.moved hv⟩, h8.moved hv, h9.imp (va_Z.moved hv) (va_Z.moved hv), h10.moved hv, h11.moved hv, fun q hq => (h12 q hq).warm hW, fun q hq => (h13 q hq).warmM hW, fun q hq => (h14 q hq).warmC hW, fun q hq => (h15 q hq).warmD hW, fun q hq => (h16 q hq).moved hv⟩
theorem Stat.same {ρ : Nat → Nat} {A : Nat → Prop} {u U : State} {H : Heap} (hv : U.vm = u.vm) (ha : u.vm.Alike U.vm) (h : Stat ρ A u H) : Stat ρ A U H := by
  obtain ⟨h1, h2, h3, ⟨h4, h5⟩, ⟨h6, h7⟩, h8, h9, h10, h11, h12, h13, h14, h15, h16⟩ := h
  exact ⟨h1.moved ha, h2.moved ha, h3.moved ha, ⟨h4.moved ha, h5.moved ha⟩, ⟨h6.moved ha, h7.moved ha⟩, h8.moved ha, h9.imp (va_Z.moved ha) (va_Z.moved ha), h10.moved ha, h11.moved ha, fun q hq => (h12 q hq).same hv, fun q hq => va_Nw.same rfl hv.symm (h13 q hq), fun q hq => va_Nw.same rfl hv.symm (h14 q hq), fun q hq => va_Nw.same rfl hv.symm (h15 q hq), fun q hq => (h16 q hq).moved ha⟩
theorem Stat.kept {ρ : Nat → Nat} {A : Nat → Prop} {U : State} {H H1 : Heap} (h : Stat ρ A U H) (hq : ∀ a : Nat, a < H.size → ¬ A a → H1[a]? = H[a]?) : Stat ρ A U H1 := by
  obtain ⟨h1, h2, h3, ⟨h4, h5⟩, ⟨h6, h7⟩, h8, h9, h10, h11, h12, h13, h14, h15, h16⟩ := h
  exact ⟨h1.kept hq, h2.kept hq, h3.kept hq, ⟨h4.kept hq, h5.kept hq⟩, ⟨h6.kept hq, h7.kept hq⟩, h8.kept hq, h9.imp (fun h => h.kept hq) (fun h => h.kept hq), h10.kept hq, h11.kept hq, h12, h13, h14, h15, h16⟩
theorem Stat.narrow {ρ : Nat → Nat} {A B : Nat → Prop} {U : State} {H : Heap} (h : Stat ρ A U H) (hAB : ∀ q, B q → A q) : Stat ρ B U H := by
  obtain ⟨h1, h2, h3, ⟨h4, h5⟩, ⟨h6, h7⟩, h8, h9, h10, h11, h12, h13, h14, h15, h16⟩ := h
  exact ⟨h1.narrow hAB, h2.narrow hAB, h3.narrow hAB, ⟨h4.narrow hAB, h5.narrow hAB⟩, ⟨h6.narrow hAB, h7.narrow hAB⟩, h8.narrow hAB, h9.imp (fun h => h.narrow hAB) (fun h => h.narrow hAB), h10.narrow hAB, h11.narrow hAB, h12, h13, h14, h15, h16⟩
/-- what a method may write: the 715 cells, and what is made from its start on -/
def AW (ρ : Nat → Nat) (sz : Nat) : Nat → Prop := fun q => (∃ a, 1 ≤ a ∧ a ≤ 715 ∧ q = ρ a) ∨ sz ≤ q
/-- the world at a method's start -/
def WA (G : Gd) (ρ : Nat → Nat) (sz : Nat) (κ : Ka) (U : State) : Prop :=
  va_P G.1 vwCl (wsK G ρ κ) U.heap ∧ va_K G.1 vwCl (tysG G) U ∧ InjR ρ ∧ Stat ρ (AW ρ sz) U U.heap
def xN (x : Nat) : String := ["java/lang/IllegalArgumentException", "java/lang/IndexOutOfBoundsException", "java/lang/UnsupportedOperationException", "java/util/NoSuchElementException"].getD x ""
def LQ (G : Gd) (ρ : Nat → Nat) (A : Nat → Prop) (P : Option Value → Ka → Prop) : Array Value → State → Outcome → State → Prop := fun _ st o t =>
  ∃ (v : Option Value) (κ : Ka), o = .returned (v.map (cv ρ)) ∧ P v κ ∧ va_P G.1 vwCl (wsK G ρ κ) t.heap ∧ va_F A st t
def LX (G : Gd) (ρ : Nat → Nat) (A : Nat → Prop) (PX : Nat → Ka → Prop) : String → State → State → Prop := fun E st t =>
  ∃ (x : Nat) (κ : Ka), E = xN x ∧ PX x κ ∧ va_P G.1 vwCl (wsK G ρ κ) t.heap ∧ va_F A st t
/-- a method's contract: from the world κ with the arguments As it ends as P tells, or throws as PX tells -/
def CT (l : Launch) (y : MethodName) (hd : Cond) (rm : Room) (mc ms : Nat) (G : Gd) (ρ : Nat → Nat) (As : List Value) (κ : Ka) (P : Option Value → Ka → Prop) (PX : Nat → Ka → Prop) : Prop :=
  ∀ sz, vx_Met l y (hd :: TW) rm (fun v U => v = (As.map (cv ρ)).toArray ∧ U.heap.size = sz ∧ WA G ρ sz κ U) (LQ G ρ (AW ρ sz) P) (LX G ρ (AW ρ sz) PX) mc ms (AW ρ sz)
def noX : Nat → Ka → Prop := fun _ _ => False
