/-! ===== the constructors ===== -/
theorem fr0 {ρ : Nat → Nat} {κ : Ka} {x ci b : Nat} (j : Nat) (h : (KD x).1 = ci) (hc : ci < 20) (hb : x + (OF ci).getD j 0 = b) (hb0 : b ≠ 0) : fvl ρ RF κ x j 2 = .ref (ρ b) := by
  show va_rf (rO ρ (RF x j)) = _
  unfold RF rO
  rw [h, if_pos hc, hb, if_neg hb0]
  rfl
theorem fi0 {ρ : Nat → Nat} {x ci : Nat} {v : Int32} (j : Nat) (h : (KD x).1 = ci) (hc : ci < 12) (hv : cI0 x j = v) : fvl ρ RF kI0 x j 0 = .int v := by
  show Value.int (iA kI0 x j) = _
  rw [iA_c (KD_c h hc)]
  exact congrArg Value.int hv
theorem fvlm0 {ρ : Nat → Nat} {v : Int32} (j : Nat) (hv : mI0 0 j = v) : fvl ρ RF kI0 703 j 0 = .int v := by
  show Value.int (iA kI0 (703 + 0) j) = _
  rw [iA_m]
  exact congrArg Value.int hv
theorem end1 {G : Gd} {ρ : Nat → Nat} {a : Nat} {e0 : va_E} (h : CE G ρ a = e0) : ∀ (j : Nat) (e : va_E), [e0][j]? = some e → ∀ H : Heap, va_at G.1 vwCl (ρ (a + j), e) H → va_at G.1 vwCl (ρ (a + j), CE G ρ (a + j)) H := by
  intro j e hj H hH
  cases j with
  | zero =>
    have h2 : e0 = e := Option.some.inj hj
    subst h2
    show va_at G.1 vwCl (ρ a, CE G ρ a) H
    rw [h]
    exact hH
  | succ j => cases hj
theorem endc {G : Gd} {ρ : Nat → Nat} {a : Nat} {e0 : va_E} {L : List va_E} (h0 : ∀ H : Heap, va_at G.1 vwCl (ρ a, e0) H → va_at G.1 vwCl (ρ a, CE G ρ a) H) (h : ∀ (j : Nat) (e : va_E), L[j]? = some e → ∀ H : Heap, va_at G.1 vwCl (ρ (a + 1 + j), e) H → va_at G.1 vwCl (ρ (a + 1 + j), CE G ρ (a + 1 + j)) H) : ∀ (j : Nat) (e : va_E), (e0 :: L)[j]? = some e → ∀ H : Heap, va_at G.1 vwCl (ρ (a + j), e) H → va_at G.1 vwCl (ρ (a + j), CE G ρ (a + j)) H := by
  intro j e hj H hH
  cases j with
  | zero =>
    have h2 : e0 = e := Option.some.inj hj
    subst h2
    exact h0 H hH
  | succ j =>
    have h3 := h j e hj H
    have e9 : a + 1 + j = a + (j + 1) := by omega
    rw [e9] at h3
    exact h3 hH
theorem end0 {G : Gd} {ρ : Nat → Nat} {a : Nat} : ∀ (j : Nat) (e : va_E), ([] : List va_E)[j]? = some e → ∀ H : Heap, va_at G.1 vwCl (ρ (a + j), e) H → va_at G.1 vwCl (ρ (a + j), CE G ρ (a + j)) H := by
  intro j e hj
  cases hj
theorem ceo_0 {G : Gd} {ρ : Nat → Nat} {x : Nat} (h : (KD x).1 = 0) : CE G ρ x = .inr (0, [.int 0, .int 0, .int 0, .int 0, .long 0, .long 0]) := by
  unfold CE
  rw [cell_obj h (by decide)]
  show (Sum.inr (0, [fvl ρ RF kI0 x 0 0, fvl ρ RF kI0 x 1 0, fvl ρ RF kI0 x 2 0, fvl ρ RF kI0 x 3 0, fvl ρ RF kI0 x 4 1, fvl ρ RF kI0 x 5 1]) : va_E) = _
  rw [fi0 0 (v := 0) h (by decide) (cI0_z (by rw [h]; decide) (by rw [h]; decide) (by rw [h]; decide)), fi0 1 (v := 0) h (by decide) (cI0_z (by rw [h]; decide) (by rw [h]; decide) (by rw [h]; decide)), fi0 2 (v := 0) h (by decide) (cI0_z (by rw [h]; decide) (by rw [h]; decide) (by rw [h]; decide)), fi0 3 (v := 0) h (by decide) (cI0_z (by rw [h]; decide) (by rw [h]; decide) (by rw [h]; decide))]
  rfl
theorem ceo_1 {G : Gd} {ρ : Nat → Nat} {x : Nat} (h : (KD x).1 = 1) : CE G ρ x = .inr (1, [.int 0, .int 0, .int 0, .int 0, .int 0, .int 0, .int 0]) := by
  unfold CE
  rw [cell_obj h (by decide)]
  show (Sum.inr (1, [fvl ρ RF kI0 x 0 0, fvl ρ RF kI0 x 1 0, fvl ρ RF kI0 x 2 0, fvl ρ RF kI0 x 3 0, fvl ρ RF kI0 x 4 0, fvl ρ RF kI0 x 5 0, fvl ρ RF kI0 x 6 0]) : va_E) = _
  rw [fi0 0 (v := 0) h (by decide) (cI0_z (by rw [h]; decide) (by rw [h]; decide) (by rw [h]; decide)), fi0 1 (v := 0) h (by decide) (cI0_z (by rw [h]; decide) (by rw [h]; decide) (by rw [h]; decide)), fi0 2 (v := 0) h (by decide) (cI0_z (by rw [h]; decide) (by rw [h]; decide) (by rw [h]; decide)), fi0 3 (v := 0) h (by decide) (cI0_z (by rw [h]; decide) (by rw [h]; decide) (by rw [h]; decide)), fi0 4 (v := 0) h (by decide) (cI0_z (by rw [h]; decide) (by rw [h]; decide) (by rw [h]; decide)), fi0 5 (v := 0) h (by decide) (cI0_z (by rw [h]; decide) (by rw [h]; decide) (by rw [h]; decide)), fi0 6 (v := 0) h (by decide) (cI0_z (by rw [h]; decide) (by rw [h]; decide) (by rw [h]; decide))]
theorem ceo_2 {G : Gd} {ρ : Nat → Nat} {x : Nat} (h : (KD x).1 = 2) : CE G ρ x = .inr (2, [.ref (ρ (x + 1)), .ref (ρ (x + 2))]) := by
  unfold CE
  rw [cell_obj h (by decide)]
  show (Sum.inr (2, [fvl ρ RF kI0 x 0 2, fvl ρ RF kI0 x 1 2]) : va_E) = _
  rw [fr0 (b := x + 1) 0 h (by decide) rfl (by omega), fr0 (b := x + 2) 1 h (by decide) rfl (by omega)]
theorem ceo_3 {G : Gd} {ρ : Nat → Nat} {x : Nat} (h : (KD x).1 = 3) : CE G ρ x = .inr (3, [.ref (ρ (x + 1)), .ref (ρ (x + 2)), .ref (ρ (x + 3)), .ref (ρ (x + 4)), .ref (ρ (x + 5)), .int 0, .int 0, .int 0, .int 0, .int 5, .int 0, .int 0, .int 0, .int 1]) := by
  unfold CE
  rw [cell_obj h (by decide)]
  show (Sum.inr (3, [fvl ρ RF kI0 x 0 2, fvl ρ RF kI0 x 1 2, fvl ρ RF kI0 x 2 2, fvl ρ RF kI0 x 3 2, fvl ρ RF kI0 x 4 2, fvl ρ RF kI0 x 5 0, fvl ρ RF kI0 x 6 0, fvl ρ RF kI0 x 7 0, fvl ρ RF kI0 x 8 0, fvl ρ RF kI0 x 9 0, fvl ρ RF kI0 x 10 0, fvl ρ RF kI0 x 11 0, fvl ρ RF kI0 x 12 0, fvl ρ RF kI0 x 13 0]) : va_E) = _
  rw [fr0 (b := x + 1) 0 h (by decide) rfl (by omega), fr0 (b := x + 2) 1 h (by decide) rfl (by omega), fr0 (b := x + 3) 2 h (by decide) rfl (by omega), fr0 (b := x + 4) 3 h (by decide) rfl (by omega), fr0 (b := x + 5) 4 h (by decide) rfl (by omega), fi0 5 (v := 0) h (by decide) (by unfold cI0; rw [h]; rfl), fi0 6 (v := 0) h (by decide) (by unfold cI0; rw [h]; rfl), fi0 7 (v := 0) h (by decide) (by unfold cI0; rw [h]; rfl), fi0 8 (v := 0) h (by decide) (by unfold cI0; rw [h]; rfl), fi0 9 (v := 5) h (by decide) (by unfold cI0; rw [h]; rfl), fi0 10 (v := 0) h (by decide) (by unfold cI0; rw [h]; rfl), fi0 11 (v := 0) h (by decide) (by unfold cI0; rw [h]; rfl), fi0 12 (v := 0) h (by decide) (by unfold cI0; rw [h]; rfl), fi0 13 (v := 1) h (by decide) (by unfold cI0; rw [h]; rfl)]
theorem ceo_4 {G : Gd} {ρ : Nat → Nat} {x : Nat} (h : (KD x).1 = 4) : CE G ρ x = .inr (4, [.ref (ρ (x + 1)), .ref (ρ (x + 2)), .ref (ρ (x + 3)), .ref (ρ (x + 4)), .ref (ρ (x + 5)), .int 0, .int 0, .int 0]) := by
  unfold CE
  rw [cell_obj h (by decide)]
  show (Sum.inr (4, [fvl ρ RF kI0 x 0 2, fvl ρ RF kI0 x 1 2, fvl ρ RF kI0 x 2 2, fvl ρ RF kI0 x 3 2, fvl ρ RF kI0 x 4 2, fvl ρ RF kI0 x 5 0, fvl ρ RF kI0 x 6 0, fvl ρ RF kI0 x 7 0]) : va_E) = _
  rw [fr0 (b := x + 1) 0 h (by decide) rfl (by omega), fr0 (b := x + 2) 1 h (by decide) rfl (by omega), fr0 (b := x + 3) 2 h (by decide) rfl (by omega), fr0 (b := x + 4) 3 h (by decide) rfl (by omega), fr0 (b := x + 5) 4 h (by decide) rfl (by omega), fi0 5 (v := 0) h (by decide) (cI0_z (by rw [h]; decide) (by rw [h]; decide) (by rw [h]; decide)), fi0 6 (v := 0) h (by decide) (cI0_z (by rw [h]; decide) (by rw [h]; decide) (by rw [h]; decide)), fi0 7 (v := 0) h (by decide) (cI0_z (by rw [h]; decide) (by rw [h]; decide) (by rw [h]; decide))]
theorem ceo_5 {G : Gd} {ρ : Nat → Nat} {x : Nat} (h : (KD x).1 = 5) : CE G ρ x = .inr (5, [.ref (ρ (x + 1)), .ref (ρ (x + 2)), .ref (ρ (x + 3)), .int 0, .ref (ρ (x + 16)), .ref (ρ (x + 17))]) := by
  unfold CE
  rw [cell_obj h (by decide)]
  show (Sum.inr (5, [fvl ρ RF kI0 x 0 2, fvl ρ RF kI0 x 1 2, fvl ρ RF kI0 x 2 2, fvl ρ RF kI0 x 3 0, fvl ρ RF kI0 x 4 2, fvl ρ RF kI0 x 5 2]) : va_E) = _
  rw [fr0 (b := x + 1) 0 h (by decide) rfl (by omega), fr0 (b := x + 2) 1 h (by decide) rfl (by omega), fr0 (b := x + 3) 2 h (by decide) rfl (by omega), fi0 3 (v := 0) h (by decide) (cI0_z (by rw [h]; decide) (by rw [h]; decide) (by rw [h]; decide)), fr0 (b := x + 16) 4 h (by decide) rfl (by omega), fr0 (b := x + 17) 5 h (by decide) rfl (by omega)]
theorem ceo_6 {G : Gd} {ρ : Nat → Nat} {x : Nat} (h : (KD x).1 = 6) : CE G ρ x = .inr (6, [.int 10, .int 0, .int 0, .int 0]) := by
  unfold CE
  rw [cell_obj h (by decide)]
  show (Sum.inr (6, [fvl ρ RF kI0 x 0 0, fvl ρ RF kI0 x 1 0, fvl ρ RF kI0 x 2 0, fvl ρ RF kI0 x 3 0]) : va_E) = _
  rw [fi0 0 (v := 10) h (by decide) (by unfold cI0; rw [h]; rfl), fi0 1 (v := 0) h (by decide) (by unfold cI0; rw [h]; rfl), fi0 2 (v := 0) h (by decide) (by unfold cI0; rw [h]; rfl), fi0 3 (v := 0) h (by decide) (by unfold cI0; rw [h]; rfl)]
theorem ceo_7 {G : Gd} {ρ : Nat → Nat} {x : Nat} (h : (KD x).1 = 7) : CE G ρ x = .inr (7, [.ref (ρ (x + 1)), .ref (ρ (x + 2)), .ref (ρ (x + 3)), .ref (ρ (x + 4)), .int 0, .int 0]) := by
  unfold CE
  rw [cell_obj h (by decide)]
  show (Sum.inr (7, [fvl ρ RF kI0 x 0 2, fvl ρ RF kI0 x 1 2, fvl ρ RF kI0 x 2 2, fvl ρ RF kI0 x 3 2, fvl ρ RF kI0 x 4 0, fvl ρ RF kI0 x 5 0]) : va_E) = _
  rw [fr0 (b := x + 1) 0 h (by decide) rfl (by omega), fr0 (b := x + 2) 1 h (by decide) rfl (by omega), fr0 (b := x + 3) 2 h (by decide) rfl (by omega), fr0 (b := x + 4) 3 h (by decide) rfl (by omega), fi0 4 (v := 0) h (by decide) (cI0_z (by rw [h]; decide) (by rw [h]; decide) (by rw [h]; decide)), fi0 5 (v := 0) h (by decide) (cI0_z (by rw [h]; decide) (by rw [h]; decide) (by rw [h]; decide))]
theorem ceo_8 {G : Gd} {ρ : Nat → Nat} {x : Nat} (h : (KD x).1 = 8) : CE G ρ x = .inr (8, [.ref (ρ (x + 1)), .int 0]) := by
  unfold CE
  rw [cell_obj h (by decide)]
  show (Sum.inr (8, [fvl ρ RF kI0 x 0 2, fvl ρ RF kI0 x 1 0]) : va_E) = _
  rw [fr0 (b := x + 1) 0 h (by decide) rfl (by omega), fi0 1 (v := 0) h (by decide) (cI0_z (by rw [h]; decide) (by rw [h]; decide) (by rw [h]; decide))]
theorem ceo_9 {G : Gd} {ρ : Nat → Nat} {x : Nat} (h : (KD x).1 = 9) : CE G ρ x = .inr (9, [.ref (ρ (x + 1)), .ref (ρ (x + 2)), .ref (ρ (x + 3)), .int 0, .int 0, .int 0, .int 0, .int (-1)]) := by
  unfold CE
  rw [cell_obj h (by decide)]
  show (Sum.inr (9, [fvl ρ RF kI0 x 0 2, fvl ρ RF kI0 x 1 2, fvl ρ RF kI0 x 2 2, fvl ρ RF kI0 x 3 0, fvl ρ RF kI0 x 4 0, fvl ρ RF kI0 x 5 0, fvl ρ RF kI0 x 6 0, fvl ρ RF kI0 x 7 0]) : va_E) = _
  rw [fr0 (b := x + 1) 0 h (by decide) rfl (by omega), fr0 (b := x + 2) 1 h (by decide) rfl (by omega), fr0 (b := x + 3) 2 h (by decide) rfl (by omega), fi0 3 (v := 0) h (by decide) (by unfold cI0; rw [h]; rfl), fi0 4 (v := 0) h (by decide) (by unfold cI0; rw [h]; rfl), fi0 5 (v := 0) h (by decide) (by unfold cI0; rw [h]; rfl), fi0 6 (v := 0) h (by decide) (by unfold cI0; rw [h]; rfl), fi0 7 (v := -1) h (by decide) (by unfold cI0; rw [h]; rfl)]
theorem ceo_11 {G : Gd} {ρ : Nat → Nat} {x : Nat} (h : (KD x).1 = 11) : CE G ρ x = .inr (11, [.ref (ρ (x + 1)), .ref (ρ (x + 3)), .ref (ρ (x + 7)), .ref (ρ (x + 376)), .ref (ρ (x + 381)), .ref (ρ (x + 488)), .ref (ρ (x + 595)), .int 0]) := by
  unfold CE
  rw [cell_obj h (by decide)]
  show (Sum.inr (11, [fvl ρ RF kI0 x 0 2, fvl ρ RF kI0 x 1 2, fvl ρ RF kI0 x 2 2, fvl ρ RF kI0 x 3 2, fvl ρ RF kI0 x 4 2, fvl ρ RF kI0 x 5 2, fvl ρ RF kI0 x 6 2, fvl ρ RF kI0 x 7 0]) : va_E) = _
  rw [fr0 (b := x + 1) 0 h (by decide) rfl (by omega), fr0 (b := x + 3) 1 h (by decide) rfl (by omega), fr0 (b := x + 7) 2 h (by decide) rfl (by omega), fr0 (b := x + 376) 3 h (by decide) rfl (by omega), fr0 (b := x + 381) 4 h (by decide) rfl (by omega), fr0 (b := x + 488) 5 h (by decide) rfl (by omega), fr0 (b := x + 595) 6 h (by decide) rfl (by omega), fi0 7 (v := 0) h (by decide) (cI0_z (by rw [h]; decide) (by rw [h]; decide) (by rw [h]; decide))]
theorem ceo_12 {G : Gd} {ρ : Nat → Nat} : CE G ρ 703 = .inr (12, [.int 0, .ref (ρ 704), .ref (ρ 705), .int 0, .ref (ρ 706), .ref (ρ 707), .int 0, .int 0, .int 0, .int 0, .int (-1), .int 0, .int 0, .int 0, .int 0, .int 0, .ref (ρ 708), .ref (ρ 709), .ref (ρ 710), .ref (ρ 711), .int 0, .int 0, .ref (ρ 712), .ref (ρ 713), .ref (ρ 714)]) := by
  have h : (KD 703).1 = 12 := by decide +kernel
  unfold CE
  rw [cell_obj h (by decide)]
  show (Sum.inr (12, [fvl ρ RF kI0 703 0 0, fvl ρ RF kI0 703 1 2, fvl ρ RF kI0 703 2 2, fvl ρ RF kI0 703 3 0, fvl ρ RF kI0 703 4 2, fvl ρ RF kI0 703 5 2, fvl ρ RF kI0 703 6 0, fvl ρ RF kI0 703 7 0, fvl ρ RF kI0 703 8 0, fvl ρ RF kI0 703 9 0, fvl ρ RF kI0 703 10 0, fvl ρ RF kI0 703 11 0, fvl ρ RF kI0 703 12 0, fvl ρ RF kI0 703 13 0, fvl ρ RF kI0 703 14 0, fvl ρ RF kI0 703 15 0, fvl ρ RF kI0 703 16 2, fvl ρ RF kI0 703 17 2, fvl ρ RF kI0 703 18 2, fvl ρ RF kI0 703 19 2, fvl ρ RF kI0 703 20 0, fvl ρ RF kI0 703 21 0, fvl ρ RF kI0 703 22 2, fvl ρ RF kI0 703 23 2, fvl ρ RF kI0 703 24 2]) : va_E) = _
  rw [fvlm0 0 (v := 0) rfl, fr0 (b := 704) 1 h (by decide) rfl (by omega), fr0 (b := 705) 2 h (by decide) rfl (by omega), fvlm0 3 (v := 0) rfl, fr0 (b := 706) 4 h (by decide) rfl (by omega), fr0 (b := 707) 5 h (by decide) rfl (by omega), fvlm0 6 (v := 0) rfl, fvlm0 7 (v := 0) rfl, fvlm0 8 (v := 0) rfl, fvlm0 9 (v := 0) rfl, fvlm0 10 (v := -1) rfl, fvlm0 11 (v := 0) rfl, fvlm0 12 (v := 0) rfl, fvlm0 13 (v := 0) rfl, fvlm0 14 (v := 0) rfl, fvlm0 15 (v := 0) rfl, fr0 (b := 708) 16 h (by decide) rfl (by omega), fr0 (b := 709) 17 h (by decide) rfl (by omega), fr0 (b := 710) 18 h (by decide) rfl (by omega), fr0 (b := 711) 19 h (by decide) rfl (by omega), fvlm0 20 (v := 0) rfl, fvlm0 21 (v := 0) rfl, fr0 (b := 712) 22 h (by decide) rfl (by omega), fr0 (b := 713) 23 h (by decide) rfl (by omega), fr0 (b := 714) 24 h (by decide) rfl (by omega)]
theorem bl_0 : ∀ j, j < 6 → defaultValue (tyX1 j) = vp_V [.int 0, .int 0, .int 0, .int 0, .long 0, .long 0] j := by
  intro j hj
  match j, hj with
  | 0, _ => rfl
  | 1, _ => rfl
  | 2, _ => rfl
  | 3, _ => rfl
  | 4, _ => rfl
  | 5, _ => rfl
abbrev rmK1 : Room := { frames := 1, cells := 0, slots := 0, locals := 20 }
theorem bl_1 : ∀ j, j < 7 → defaultValue (tyX2 j) = vp_V [.int 0, .int 0, .int 0, .int 0, .int 0, .int 0, .int 0] j := by
  intro j hj
  match j, hj with
  | 0, _ => rfl
  | 1, _ => rfl
  | 2, _ => rfl
  | 3, _ => rfl
  | 4, _ => rfl
  | 5, _ => rfl
  | 6, _ => rfl
abbrev rmK2 : Room := { frames := 1, cells := 0, slots := 0, locals := 20 }
theorem bl_2 : ∀ j, j < 2 → defaultValue (tyX3 j) = vp_V [.null, .null] j := by
  intro j hj
  match j, hj with
  | 0, _ => rfl
  | 1, _ => rfl
abbrev rmK3 : Room := { frames := 2, cells := 368, slots := 50845, locals := 60 }
theorem bl_3 : ∀ j, j < 14 → defaultValue (tyX4 j) = vp_V [.null, .null, .null, .null, .null, .int 0, .int 0, .int 0, .int 0, .int 0, .int 0, .int 0, .int 0, .int 0] j := by
  intro j hj
  match j, hj with
  | 0, _ => rfl
  | 1, _ => rfl
  | 2, _ => rfl
  | 3, _ => rfl
  | 4, _ => rfl
  | 5, _ => rfl
  | 6, _ => rfl
  | 7, _ => rfl
  | 8, _ => rfl
  | 9, _ => rfl
  | 10, _ => rfl
  | 11, _ => rfl
  | 12, _ => rfl
  | 13, _ => rfl
abbrev rmK4 : Room := { frames := 2, cells := 106, slots := 894, locals := 60 }
theorem bl_4 : ∀ j, j < 8 → defaultValue (tyX5 j) = vp_V [.null, .null, .null, .null, .null, .int 0, .int 0, .int 0] j := by
  intro j hj
  match j, hj with
  | 0, _ => rfl
  | 1, _ => rfl
  | 2, _ => rfl
  | 3, _ => rfl
  | 4, _ => rfl
  | 5, _ => rfl
  | 6, _ => rfl
  | 7, _ => rfl
abbrev rmK5 : Room := { frames := 1, cells := 5, slots := 824, locals := 20 }
theorem bl_5 : ∀ j, j < 6 → defaultValue (tyX6 j) = vp_V [.null, .null, .null, .int 0, .null, .null] j := by
  intro j hj
  match j, hj with
  | 0, _ => rfl
  | 1, _ => rfl
  | 2, _ => rfl
  | 3, _ => rfl
  | 4, _ => rfl
  | 5, _ => rfl
abbrev rmK6 : Room := { frames := 1, cells := 17, slots := 204, locals := 20 }
theorem bl_6 : ∀ j, j < 4 → defaultValue (tyX7 j) = vp_V [.int 0, .int 0, .int 0, .int 0] j := by
  intro j hj
  match j, hj with
  | 0, _ => rfl
  | 1, _ => rfl
  | 2, _ => rfl
  | 3, _ => rfl
abbrev rmK7 : Room := { frames := 1, cells := 0, slots := 0, locals := 20 }
theorem bl_7 : ∀ j, j < 6 → defaultValue (tyX8 j) = vp_V [.null, .null, .null, .null, .int 0, .int 0] j := by
  intro j hj
  match j, hj with
  | 0, _ => rfl
  | 1, _ => rfl
  | 2, _ => rfl
  | 3, _ => rfl
  | 4, _ => rfl
  | 5, _ => rfl
abbrev rmK8 : Room := { frames := 1, cells := 4, slots := 24, locals := 20 }
theorem bl_8 : ∀ j, j < 2 → defaultValue (tyX9 j) = vp_V [.null, .int 0] j := by
  intro j hj
  match j, hj with
  | 0, _ => rfl
  | 1, _ => rfl
abbrev rmK9 : Room := { frames := 1, cells := 1, slots := 400, locals := 20 }
theorem bl_9 : ∀ j, j < 8 → defaultValue (tyX10 j) = vp_V [.null, .null, .null, .int 0, .int 0, .int 0, .int 0, .int 0] j := by
  intro j hj
  match j, hj with
  | 0, _ => rfl
  | 1, _ => rfl
  | 2, _ => rfl
  | 3, _ => rfl
  | 4, _ => rfl
  | 5, _ => rfl
  | 6, _ => rfl
  | 7, _ => rfl
abbrev rmK10 : Room := { frames := 1, cells := 3, slots := 1200, locals := 20 }
theorem bl_11 : ∀ j, j < 8 → defaultValue (tyX12 j) = vp_V [.null, .null, .null, .null, .null, .null, .null, .int 0] j := by
  intro j hj
  match j, hj with
  | 0, _ => rfl
  | 1, _ => rfl
  | 2, _ => rfl
  | 3, _ => rfl
  | 4, _ => rfl
  | 5, _ => rfl
  | 6, _ => rfl
  | 7, _ => rfl
abbrev rmK12 : Room := { frames := 3, cells := 701, slots := 55211, locals := 90 }
theorem bl_12 : ∀ j, j < 25 → defaultValue (tyX13 j) = vp_V [.int 0, .null, .null, .int 0, .null, .null, .int 0, .int 0, .int 0, .int 0, .int 0, .int 0, .int 0, .int 0, .int 0, .int 0, .null, .null, .null, .null, .int 0, .int 0, .null, .null, .null] j := by
  intro j hj
  match j, hj with
  | 0, _ => rfl
  | 1, _ => rfl
  | 2, _ => rfl
  | 3, _ => rfl
  | 4, _ => rfl
  | 5, _ => rfl
  | 6, _ => rfl
  | 7, _ => rfl
  | 8, _ => rfl
  | 9, _ => rfl
  | 10, _ => rfl
  | 11, _ => rfl
  | 12, _ => rfl
  | 13, _ => rfl
  | 14, _ => rfl
  | 15, _ => rfl
  | 16, _ => rfl
  | 17, _ => rfl
  | 18, _ => rfl
  | 19, _ => rfl
  | 20, _ => rfl
  | 21, _ => rfl
  | 22, _ => rfl
  | 23, _ => rfl
  | 24, _ => rfl
  | _ + 25, h => exact absurd h (by omega)
abbrev rmK13 : Room := { frames := 1, cells := 11, slots := 54561, locals := 20 }
theorem cem9 {G : Gd} {ρ : Nat → Nat} {a n : Nat} (ha : a = 703) (r : Nat) (h : KD (703 + r) = (28, n)) (h0 : r ≠ 0) (h1 : r ≠ 1) : CE G ρ (a + r) = .inl (G.2 0, n, .inl (fun _ => 0)) := by
  subst ha
  exact ce_m h h0 h1
theorem zX1_0 : decode cX1_init 0 = .ok (.aload_n 0, 1) := by decide +kernel
theorem zX1_1 : decode cX1_init 1 = .ok (.invokespecial 1, 3) := by decide +kernel
theorem zX1_4 : decode cX1_init 4 = .ok (.return_, 1) := by decide +kernel
theorem k_X1 {l : Launch} {G : Gd} {ρ : Nat → Nat} {B a : Nat} (hρ : ∀ x, 1 ≤ x → x ≤ 715 → ρ x = B + x) (ha : (KD a).1 = 0) : CTI l yX1_init (.code yX1_init cX1_init 1 none) rmK1 0 0 G ρ B a (.inr (0, [.int 0, .int 0, .int 0, .int 0, .long 0, .long 0])) 1 := by
  have hpos : 1 ≤ a := (KD_in (a := a) (by omega)).1
  refine CTI_of (own := RX1) (by decide +kernel) rfl hρ hpos (by decide) ?_
  intro p e s m args below meth c X hret hnm
  have hini : meth.name = "<init>" := hnm
  refine G_aload_n X zX1_0 rfl 0 rfl ?_
  refine G_objI X zX1_1 tw_289 (Nat.le_of_ble_eq_true rfl) (Nat.le_of_ble_eq_true rfl) ?_
  exact G_ret X hret zX1_4 (by omega) (end1 (ceo_0 ha))
theorem zX2_0 : decode cX2_init 0 = .ok (.aload_n 0, 1) := by decide +kernel
theorem zX2_1 : decode cX2_init 1 = .ok (.invokespecial 1, 3) := by decide +kernel
theorem zX2_4 : decode cX2_init 4 = .ok (.return_, 1) := by decide +kernel
theorem k_X2 {l : Launch} {G : Gd} {ρ : Nat → Nat} {B a : Nat} (hρ : ∀ x, 1 ≤ x → x ≤ 715 → ρ x = B + x) (ha : (KD a).1 = 1) : CTI l yX2_init (.code yX2_init cX2_init 1 none) rmK2 0 0 G ρ B a (.inr (1, [.int 0, .int 0, .int 0, .int 0, .int 0, .int 0, .int 0])) 1 := by
  have hpos : 1 ≤ a := (KD_in (a := a) (by omega)).1
  refine CTI_of (own := RX2) (by decide +kernel) rfl hρ hpos (by decide) ?_
  intro p e s m args below meth c X hret hnm
  have hini : meth.name = "<init>" := hnm
  refine G_aload_n X zX2_0 rfl 0 rfl ?_
  refine G_objI X zX2_1 tw_353 (Nat.le_of_ble_eq_true rfl) (Nat.le_of_ble_eq_true rfl) ?_
  exact G_ret X hret zX2_4 (by omega) (end1 (ceo_1 ha))
theorem zX7_0 : decode cX7_init 0 = .ok (.aload_n 0, 1) := by decide +kernel
theorem zX7_1 : decode cX7_init 1 = .ok (.invokespecial 1, 3) := by decide +kernel
theorem zX7_4 : decode cX7_init 4 = .ok (.aload_n 0, 1) := by decide +kernel
theorem zX7_5 : decode cX7_init 5 = .ok (.bipush 10, 2) := by decide +kernel
theorem zX7_7 : decode cX7_init 7 = .ok (.putfield 7, 3) := by decide +kernel
theorem zX7_10 : decode cX7_init 10 = .ok (.return_, 1) := by decide +kernel
theorem k_X7 {l : Launch} {G : Gd} {ρ : Nat → Nat} {B a : Nat} (hρ : ∀ x, 1 ≤ x → x ≤ 715 → ρ x = B + x) (ha : (KD a).1 = 6) : CTI l yX7_init (.code yX7_init cX7_init 1 none) rmK7 0 0 G ρ B a (.inr (6, [.int 0, .int 0, .int 0, .int 0])) 1 := by
  have hlast : a + 0 ≤ 715 := (KD_in (a := a) (by omega)).2
  have hpos : 1 ≤ a := (KD_in (a := a) (by omega)).1
  refine CTI_of (own := RX7) (by decide +kernel) rfl hρ hpos (by decide) ?_
  intro p e s m args below meth c X hret hnm
  have hini : meth.name = "<init>" := hnm
  refine G_aload_n X zX7_0 rfl 0 rfl ?_
  refine G_objI X zX7_1 tw_324 (Nat.le_of_ble_eq_true rfl) (Nat.le_of_ble_eq_true rfl) ?_
  refine G_aload_n X zX7_4 rfl 0 rfl ?_
  refine G_bipush X (x := 10) zX7_5 (by decide +kernel) ?_
  refine G_putN X inX7 tyX7_ok nmX7 rfl 0 (by decide) tw_325 rfl rfl (tyX7_ok 0 (by decide)) rfl rfl (by show 0 < 4; decide) (fs' := [.int 10, .int 0, .int 0, .int 0]) rfl (by omega) (by omega) zX7_7 ?_
  exact G_ret X hret zX7_10 (by omega) (end1 (ceo_6 ha))
theorem zX9_0 : decode cX9_init 0 = .ok (.aload_n 0, 1) := by decide +kernel
theorem zX9_1 : decode cX9_init 1 = .ok (.invokespecial 3, 3) := by decide +kernel
theorem zX9_4 : decode cX9_init 4 = .ok (.aload_n 0, 1) := by decide +kernel
theorem zX9_5 : decode cX9_init 5 = .ok (.sipush 400, 3) := by decide +kernel
theorem zX9_8 : decode cX9_init 8 = .ok (.newarray .int, 2) := by decide +kernel
theorem zX9_10 : decode cX9_init 10 = .ok (.putfield 9, 3) := by decide +kernel
theorem zX9_13 : decode cX9_init 13 = .ok (.return_, 1) := by decide +kernel
theorem k_X9 {l : Launch} {G : Gd} {ρ : Nat → Nat} {B a : Nat} (hρ : ∀ x, 1 ≤ x → x ≤ 715 → ρ x = B + x) (ha : (KD a).1 = 8) : CTI l yX9_init (.code yX9_init cX9_init 1 none) rmK9 1 400 G ρ B a (.inr (8, [.null, .int 0])) 2 := by
  have hlast : a + 1 ≤ 715 := (KD_in (a := a + 1) (by rw [kf_8_0 ha]; decide)).2
  have hpos : 1 ≤ a := (KD_in (a := a) (by omega)).1
  refine CTI_of (own := RX9) (by decide +kernel) rfl hρ hpos (by decide) ?_
  intro p e s m args below meth c X hret hnm
  have hini : meth.name = "<init>" := hnm
  refine G_aload_n X zX9_0 rfl 0 rfl ?_
  refine G_objI X zX9_1 tw_114 (Nat.le_of_ble_eq_true rfl) (Nat.le_of_ble_eq_true rfl) ?_
  refine G_aload_n X zX9_4 rfl 0 rfl ?_
  refine G_sipush X (x := 400) zX9_5 (by decide +kernel) ?_
  refine G_newaI X (N := 400) (L' := [.inr (8, [.null, .int 0])]) tw_125 (by decide +kernel) (by decide +kernel) (by decide) ⟨Nat.le_of_ble_eq_true rfl, Nat.le_of_ble_eq_true rfl⟩ (by omega) (by omega) (fun _ _ _ => rfl) ((EL_ge (by show a + 1 ≤ _; omega)).trans (ce_i (kf_8_0 ha))) zX9_8 ?_
  refine G_putF X inX9 tyX9_ok nmX9 rfl 0 (by decide) tw_115 rfl rfl hini rfl (tyX9_ok 0 (by decide)) rfl rfl (by show 0 < 2; decide) (fs' := [.ref (ρ (a + 1)), .int 0]) rfl (by omega) (by omega) zX9_10 ?_
  exact G_ret X hret zX9_13 (by omega) (end1 (ceo_8 ha))
theorem zX10_0 : decode cX10_init 0 = .ok (.aload_n 0, 1) := by decide +kernel
theorem zX10_1 : decode cX10_init 1 = .ok (.invokespecial 3, 3) := by decide +kernel
theorem zX10_4 : decode cX10_init 4 = .ok (.aload_n 0, 1) := by decide +kernel
theorem zX10_5 : decode cX10_init 5 = .ok (.sipush 400, 3) := by decide +kernel
theorem zX10_8 : decode cX10_init 8 = .ok (.anewarray 9, 3) := by decide +kernel
theorem zX10_11 : decode cX10_init 11 = .ok (.putfield 11, 3) := by decide +kernel
theorem zX10_14 : decode cX10_init 14 = .ok (.aload_n 0, 1) := by decide +kernel
theorem zX10_15 : decode cX10_init 15 = .ok (.sipush 400, 3) := by decide +kernel
theorem zX10_18 : decode cX10_init 18 = .ok (.newarray .int, 2) := by decide +kernel
theorem zX10_20 : decode cX10_init 20 = .ok (.putfield 17, 3) := by decide +kernel
theorem zX10_23 : decode cX10_init 23 = .ok (.aload_n 0, 1) := by decide +kernel
theorem zX10_24 : decode cX10_init 24 = .ok (.sipush 400, 3) := by decide +kernel
theorem zX10_27 : decode cX10_init 27 = .ok (.newarray .int, 2) := by decide +kernel
theorem zX10_29 : decode cX10_init 29 = .ok (.putfield 21, 3) := by decide +kernel
theorem zX10_32 : decode cX10_init 32 = .ok (.aload_n 0, 1) := by decide +kernel
theorem zX10_33 : decode cX10_init 33 = .ok (.iconst (-1), 1) := by decide +kernel
theorem zX10_34 : decode cX10_init 34 = .ok (.putfield 24, 3) := by decide +kernel
theorem zX10_37 : decode cX10_init 37 = .ok (.return_, 1) := by decide +kernel
theorem k_X10 {l : Launch} {G : Gd} {ρ : Nat → Nat} {B a : Nat} (hρ : ∀ x, 1 ≤ x → x ≤ 715 → ρ x = B + x) (ha : (KD a).1 = 9) : CTI l yX10_init (.code yX10_init cX10_init 1 none) rmK10 3 1200 G ρ B a (.inr (9, [.null, .null, .null, .int 0, .int 0, .int 0, .int 0, .int 0])) 4 := by
  have hlast : a + 3 ≤ 715 := (KD_in (a := a + 3) (by rw [kf_9_2 ha]; decide)).2
  have hpos : 1 ≤ a := (KD_in (a := a) (by omega)).1
  refine CTI_of (own := RX10) (by decide +kernel) rfl hρ hpos (by decide) ?_
  intro p e s m args below meth c X hret hnm
  have hini : meth.name = "<init>" := hnm
  refine G_aload_n X zX10_0 rfl 0 rfl ?_
  refine G_objI X zX10_1 tw_131 (Nat.le_of_ble_eq_true rfl) (Nat.le_of_ble_eq_true rfl) ?_
  refine G_aload_n X zX10_4 rfl 0 rfl ?_
  refine G_sipush X (x := 400) zX10_5 (by decide +kernel) ?_
  refine G_anew X (C := RX11) (t0 := 6) (cA := G.2 6) (N := 400) (L' := [.inr (9, [.null, .null, .null, .int 0, .int 0, .int 0, .int 0, .int 0])]) tw_132 X.hAO.2.2.2.1 rfl (by decide +kernel) (by decide +kernel) (by decide) ⟨Nat.le_of_ble_eq_true rfl, Nat.le_of_ble_eq_true rfl⟩ (by omega) (by omega) (fun _ _ _ => rfl) ((EL_ge (by show a + 1 ≤ _; omega)).trans (ce_w (kf_9_0 ha))) zX10_8 ?_
  refine G_putF X inX10 tyX10_ok nmX10 rfl 0 (by decide) tw_134 rfl rfl hini rfl (tyX10_ok 0 (by decide)) rfl rfl (by show 0 < 8; decide) (fs' := [.ref (ρ (a + 1)), .null, .null, .int 0, .int 0, .int 0, .int 0, .int 0]) rfl (by omega) (by omega) zX10_11 ?_
  refine G_aload_n X zX10_14 rfl 0 rfl ?_
  refine G_sipush X (x := 400) zX10_15 (by decide +kernel) ?_
  refine G_newaI X (N := 400) (L' := [.inr (9, [.ref (ρ (a + 1)), .null, .null, .int 0, .int 0, .int 0, .int 0, .int 0])]) tw_125 (by decide +kernel) (by decide +kernel) (by decide) ⟨Nat.le_of_ble_eq_true rfl, Nat.le_of_ble_eq_true rfl⟩ (by omega) (by omega) (fun _ _ _ => rfl) ((EL_ge (by show a + 1 ≤ _; omega)).trans (ce_i (kf_9_1 ha))) zX10_18 ?_
  refine G_putF X inX10 tyX10_ok nmX10 rfl 1 (by decide) tw_135 rfl rfl hini rfl (tyX10_ok 1 (by decide)) rfl rfl (by show 1 < 8; decide) (fs' := [.ref (ρ (a + 1)), .ref (ρ (a + 2)), .null, .int 0, .int 0, .int 0, .int 0, .int 0]) rfl (by omega) (by omega) zX10_20 ?_
  refine G_aload_n X zX10_23 rfl 0 rfl ?_
  refine G_sipush X (x := 400) zX10_24 (by decide +kernel) ?_
  refine G_newaI X (N := 400) (L' := [.inr (9, [.ref (ρ (a + 1)), .ref (ρ (a + 2)), .null, .int 0, .int 0, .int 0, .int 0, .int 0])]) tw_125 (by decide +kernel) (by decide +kernel) (by decide) ⟨Nat.le_of_ble_eq_true rfl, Nat.le_of_ble_eq_true rfl⟩ (by omega) (by omega) (fun _ _ _ => rfl) ((EL_ge (by show a + 1 ≤ _; omega)).trans (ce_i (kf_9_2 ha))) zX10_27 ?_
  refine G_putF X inX10 tyX10_ok nmX10 rfl 2 (by decide) tw_136 rfl rfl hini rfl (tyX10_ok 2 (by decide)) rfl rfl (by show 2 < 8; decide) (fs' := [.ref (ρ (a + 1)), .ref (ρ (a + 2)), .ref (ρ (a + 3)), .int 0, .int 0, .int 0, .int 0, .int 0]) rfl (by omega) (by omega) zX10_29 ?_
  refine G_aload_n X zX10_32 rfl 0 rfl ?_
  refine G_iconst X (x := -1) zX10_33 (by decide +kernel) ?_
  refine G_putN X inX10 tyX10_ok nmX10 rfl 7 (by decide) tw_142 rfl rfl (tyX10_ok 7 (by decide)) rfl rfl (by show 7 < 8; decide) (fs' := [.ref (ρ (a + 1)), .ref (ρ (a + 2)), .ref (ρ (a + 3)), .int 0, .int 0, .int 0, .int 0, .int (-1)]) rfl (by omega) (by omega) zX10_34 ?_
  exact G_ret X hret zX10_37 (by omega) (end1 (ceo_9 ha))
theorem zX8_0 : decode cX8_init 0 = .ok (.aload_n 0, 1) := by decide +kernel
theorem zX8_1 : decode cX8_init 1 = .ok (.invokespecial 3, 3) := by decide +kernel
theorem zX8_4 : decode cX8_init 4 = .ok (.aload_n 0, 1) := by decide +kernel
theorem zX8_5 : decode cX8_init 5 = .ok (.bipush 6, 2) := by decide +kernel
theorem zX8_7 : decode cX8_init 7 = .ok (.newarray .int, 2) := by decide +kernel
theorem zX8_9 : decode cX8_init 9 = .ok (.putfield 9, 3) := by decide +kernel
theorem zX8_12 : decode cX8_init 12 = .ok (.aload_n 0, 1) := by decide +kernel
theorem zX8_13 : decode cX8_init 13 = .ok (.bipush 6, 2) := by decide +kernel
theorem zX8_15 : decode cX8_init 15 = .ok (.newarray .int, 2) := by decide +kernel
theorem zX8_17 : decode cX8_init 17 = .ok (.putfield 15, 3) := by decide +kernel
theorem zX8_20 : decode cX8_init 20 = .ok (.aload_n 0, 1) := by decide +kernel
theorem zX8_21 : decode cX8_init 21 = .ok (.bipush 6, 2) := by decide +kernel
theorem zX8_23 : decode cX8_init 23 = .ok (.newarray .int, 2) := by decide +kernel
theorem zX8_25 : decode cX8_init 25 = .ok (.putfield 18, 3) := by decide +kernel
theorem zX8_28 : decode cX8_init 28 = .ok (.aload_n 0, 1) := by decide +kernel
theorem zX8_29 : decode cX8_init 29 = .ok (.bipush 6, 2) := by decide +kernel
theorem zX8_31 : decode cX8_init 31 = .ok (.newarray .int, 2) := by decide +kernel
theorem zX8_33 : decode cX8_init 33 = .ok (.putfield 21, 3) := by decide +kernel
theorem zX8_36 : decode cX8_init 36 = .ok (.return_, 1) := by decide +kernel
theorem k_X8 {l : Launch} {G : Gd} {ρ : Nat → Nat} {B a : Nat} (hρ : ∀ x, 1 ≤ x → x ≤ 715 → ρ x = B + x) (ha : (KD a).1 = 7) : CTI l yX8_init (.code yX8_init cX8_init 1 none) rmK8 4 24 G ρ B a (.inr (7, [.null, .null, .null, .null, .int 0, .int 0])) 5 := by
  have hlast : a + 4 ≤ 715 := (KD_in (a := a + 4) (by rw [kf_7_3 ha]; decide)).2
  have hpos : 1 ≤ a := (KD_in (a := a) (by omega)).1
  refine CTI_of (own := RX8) (by decide +kernel) rfl hρ hpos (by decide) ?_
  intro p e s m args below meth c X hret hnm
  have hini : meth.name = "<init>" := hnm
  refine G_aload_n X zX8_0 rfl 0 rfl ?_
  refine G_objI X zX8_1 tw_220 (Nat.le_of_ble_eq_true rfl) (Nat.le_of_ble_eq_true rfl) ?_
  refine G_aload_n X zX8_4 rfl 0 rfl ?_
  refine G_bipush X (x := 6) zX8_5 (by decide +kernel) ?_
  refine G_newaI X (N := 6) (L' := [.inr (7, [.null, .null, .null, .null, .int 0, .int 0])]) tw_125 (by decide +kernel) (by decide +kernel) (by decide) ⟨Nat.le_of_ble_eq_true rfl, Nat.le_of_ble_eq_true rfl⟩ (by omega) (by omega) (fun _ _ _ => rfl) ((EL_ge (by show a + 1 ≤ _; omega)).trans (ce_i (kf_7_0 ha))) zX8_7 ?_
  refine G_putF X inX8 tyX8_ok nmX8 rfl 0 (by decide) tw_221 rfl rfl hini rfl (tyX8_ok 0 (by decide)) rfl rfl (by show 0 < 6; decide) (fs' := [.ref (ρ (a + 1)), .null, .null, .null, .int 0, .int 0]) rfl (by omega) (by omega) zX8_9 ?_
  refine G_aload_n X zX8_12 rfl 0 rfl ?_
  refine G_bipush X (x := 6) zX8_13 (by decide +kernel) ?_
  refine G_newaI X (N := 6) (L' := [.inr (7, [.ref (ρ (a + 1)), .null, .null, .null, .int 0, .int 0])]) tw_125 (by decide +kernel) (by decide +kernel) (by decide) ⟨Nat.le_of_ble_eq_true rfl, Nat.le_of_ble_eq_true rfl⟩ (by omega) (by omega) (fun _ _ _ => rfl) ((EL_ge (by show a + 1 ≤ _; omega)).trans (ce_i (kf_7_1 ha))) zX8_15 ?_
  refine G_putF X inX8 tyX8_ok nmX8 rfl 1 (by decide) tw_222 rfl rfl hini rfl (tyX8_ok 1 (by decide)) rfl rfl (by show 1 < 6; decide) (fs' := [.ref (ρ (a + 1)), .ref (ρ (a + 2)), .null, .null, .int 0, .int 0]) rfl (by omega) (by omega) zX8_17 ?_
  refine G_aload_n X zX8_20 rfl 0 rfl ?_
  refine G_bipush X (x := 6) zX8_21 (by decide +kernel) ?_
  refine G_newaI X (N := 6) (L' := [.inr (7, [.ref (ρ (a + 1)), .ref (ρ (a + 2)), .null, .null, .int 0, .int 0])]) tw_125 (by decide +kernel) (by decide +kernel) (by decide) ⟨Nat.le_of_ble_eq_true rfl, Nat.le_of_ble_eq_true rfl⟩ (by omega) (by omega) (fun _ _ _ => rfl) ((EL_ge (by show a + 1 ≤ _; omega)).trans (ce_i (kf_7_2 ha))) zX8_23 ?_
  refine G_putF X inX8 tyX8_ok nmX8 rfl 2 (by decide) tw_223 rfl rfl hini rfl (tyX8_ok 2 (by decide)) rfl rfl (by show 2 < 6; decide) (fs' := [.ref (ρ (a + 1)), .ref (ρ (a + 2)), .ref (ρ (a + 3)), .null, .int 0, .int 0]) rfl (by omega) (by omega) zX8_25 ?_
  refine G_aload_n X zX8_28 rfl 0 rfl ?_
  refine G_bipush X (x := 6) zX8_29 (by decide +kernel) ?_
  refine G_newaI X (N := 6) (L' := [.inr (7, [.ref (ρ (a + 1)), .ref (ρ (a + 2)), .ref (ρ (a + 3)), .null, .int 0, .int 0])]) tw_125 (by decide +kernel) (by decide +kernel) (by decide) ⟨Nat.le_of_ble_eq_true rfl, Nat.le_of_ble_eq_true rfl⟩ (by omega) (by omega) (fun _ _ _ => rfl) ((EL_ge (by show a + 1 ≤ _; omega)).trans (ce_i (kf_7_3 ha))) zX8_31 ?_
  refine G_putF X inX8 tyX8_ok nmX8 rfl 3 (by decide) tw_224 rfl rfl hini rfl (tyX8_ok 3 (by decide)) rfl rfl (by show 3 < 6; decide) (fs' := [.ref (ρ (a + 1)), .ref (ρ (a + 2)), .ref (ρ (a + 3)), .ref (ρ (a + 4)), .int 0, .int 0]) rfl (by omega) (by omega) zX8_33 ?_
  exact G_ret X hret zX8_36 (by omega) (end1 (ceo_7 ha))
theorem zX6_0 : decode cX6_init 0 = .ok (.aload_n 0, 1) := by decide +kernel
theorem zX6_1 : decode cX6_init 1 = .ok (.invokespecial 3, 3) := by decide +kernel
theorem zX6_4 : decode cX6_init 4 = .ok (.aload_n 0, 1) := by decide +kernel
theorem zX6_5 : decode cX6_init 5 = .ok (.bipush 12, 2) := by decide +kernel
theorem zX6_7 : decode cX6_init 7 = .ok (.newarray .int, 2) := by decide +kernel
theorem zX6_9 : decode cX6_init 9 = .ok (.putfield 9, 3) := by decide +kernel
theorem zX6_12 : decode cX6_init 12 = .ok (.aload_n 0, 1) := by decide +kernel
theorem zX6_13 : decode cX6_init 13 = .ok (.bipush 12, 2) := by decide +kernel
theorem zX6_15 : decode cX6_init 15 = .ok (.newarray .int, 2) := by decide +kernel
theorem zX6_17 : decode cX6_init 17 = .ok (.putfield 15, 3) := by decide +kernel
theorem zX6_20 : decode cX6_init 20 = .ok (.aload_n 0, 1) := by decide +kernel
theorem zX6_21 : decode cX6_init 21 = .ok (.bipush 12, 2) := by decide +kernel
theorem zX6_23 : decode cX6_init 23 = .ok (.bipush 12, 2) := by decide +kernel
theorem zX6_25 : decode cX6_init 25 = .ok (.multianewarray 18 2, 4) := by decide +kernel
theorem zX6_29 : decode cX6_init 29 = .ok (.putfield 20, 3) := by decide +kernel
theorem zX6_32 : decode cX6_init 32 = .ok (.aload_n 0, 1) := by decide +kernel
theorem zX6_33 : decode cX6_init 33 = .ok (.bipush 12, 2) := by decide +kernel
theorem zX6_35 : decode cX6_init 35 = .ok (.newarray .int, 2) := by decide +kernel
theorem zX6_37 : decode cX6_init 37 = .ok (.putfield 23, 3) := by decide +kernel
theorem zX6_40 : decode cX6_init 40 = .ok (.aload_n 0, 1) := by decide +kernel
theorem zX6_41 : decode cX6_init 41 = .ok (.bipush 12, 2) := by decide +kernel
theorem zX6_43 : decode cX6_init 43 = .ok (.newarray .int, 2) := by decide +kernel
theorem zX6_45 : decode cX6_init 45 = .ok (.putfield 26, 3) := by decide +kernel
theorem zX6_48 : decode cX6_init 48 = .ok (.return_, 1) := by decide +kernel
theorem k_X6 {l : Launch} {G : Gd} {ρ : Nat → Nat} {B a : Nat} (hρ : ∀ x, 1 ≤ x → x ≤ 715 → ρ x = B + x) (ha : (KD a).1 = 5) : CTI l yX6_init (.code yX6_init cX6_init 1 none) rmK6 17 204 G ρ B a (.inr (5, [.null, .null, .null, .int 0, .null, .null])) 18 := by
  have hlast : a + 17 ≤ 715 := (KD_in (a := a + 17) (by rw [kf_5_5 ha]; decide)).2
  have hpos : 1 ≤ a := (KD_in (a := a) (by omega)).1
  refine CTI_of (own := RX6) (by decide +kernel) rfl hρ hpos (by decide) ?_
  intro p e s m args below meth c X hret hnm
  have hini : meth.name = "<init>" := hnm
  refine G_aload_n X zX6_0 rfl 0 rfl ?_
  refine G_objI X zX6_1 tw_260 (Nat.le_of_ble_eq_true rfl) (Nat.le_of_ble_eq_true rfl) ?_
  refine G_aload_n X zX6_4 rfl 0 rfl ?_
  refine G_bipush X (x := 12) zX6_5 (by decide +kernel) ?_
  refine G_newaI X (N := 12) (L' := [.inr (5, [.null, .null, .null, .int 0, .null, .null])]) tw_125 (by decide +kernel) (by decide +kernel) (by decide) ⟨Nat.le_of_ble_eq_true rfl, Nat.le_of_ble_eq_true rfl⟩ (by omega) (by omega) (fun _ _ _ => rfl) ((EL_ge (by show a + 1 ≤ _; omega)).trans (ce_i (kf_5_0 ha))) zX6_7 ?_
  refine G_putF X inX6 tyX6_ok nmX6 rfl 0 (by decide) tw_263 rfl rfl hini rfl (tyX6_ok 0 (by decide)) rfl rfl (by show 0 < 6; decide) (fs' := [.ref (ρ (a + 1)), .null, .null, .int 0, .null, .null]) rfl (by omega) (by omega) zX6_9 ?_
  refine G_aload_n X zX6_12 rfl 0 rfl ?_
  refine G_bipush X (x := 12) zX6_13 (by decide +kernel) ?_
  refine G_newaI X (N := 12) (L' := [.inr (5, [.ref (ρ (a + 1)), .null, .null, .int 0, .null, .null])]) tw_125 (by decide +kernel) (by decide +kernel) (by decide) ⟨Nat.le_of_ble_eq_true rfl, Nat.le_of_ble_eq_true rfl⟩ (by omega) (by omega) (fun _ _ _ => rfl) ((EL_ge (by show a + 1 ≤ _; omega)).trans (ce_i (kf_5_1 ha))) zX6_15 ?_
  refine G_putF X inX6 tyX6_ok nmX6 rfl 1 (by decide) tw_264 rfl rfl hini rfl (tyX6_ok 1 (by decide)) rfl rfl (by show 1 < 6; decide) (fs' := [.ref (ρ (a + 1)), .ref (ρ (a + 2)), .null, .int 0, .null, .null]) rfl (by omega) (by omega) zX6_17 ?_
  refine G_aload_n X zX6_20 rfl 0 rfl ?_
  refine G_bipush X (x := 12) zX6_21 (by decide +kernel) ?_
  refine G_bipush X (x := 12) zX6_23 (by decide +kernel) ?_
  refine G_mna X tw_261 tw_125 (kf_5_2 ha) (fun i hi => ka_25 (kf_5_2 ha) hi) (by show a + 1 ≤ _; omega) (by omega) ⟨Nat.le_of_ble_eq_true rfl, Nat.le_of_ble_eq_true rfl⟩ zX6_25 ?_
  refine G_putF X inX6 tyX6_ok nmX6 rfl 2 (by decide) tw_265 rfl rfl hini rfl (tyX6_ok 2 (by decide)) rfl rfl (by show 2 < 6; decide) (fs' := [.ref (ρ (a + 1)), .ref (ρ (a + 2)), .ref (ρ (a + 3)), .int 0, .null, .null]) rfl (by omega) (by omega) zX6_29 ?_
  refine G_aload_n X zX6_32 rfl 0 rfl ?_
  refine G_bipush X (x := 12) zX6_33 (by decide +kernel) ?_
  refine G_newaI X (N := 12) (L' := [.inr (5, [.ref (ρ (a + 1)), .ref (ρ (a + 2)), .ref (ρ (a + 3)), .int 0, .null, .null])]) tw_125 (by decide +kernel) (by decide +kernel) (by decide) ⟨Nat.le_of_ble_eq_true rfl, Nat.le_of_ble_eq_true rfl⟩ (by omega) (by omega) (fun _ _ _ => rfl) ((EL_ge (by show a + 1 ≤ _; omega)).trans (ce_i (kf_5_4 ha))) zX6_35 ?_
  refine G_putF X inX6 tyX6_ok nmX6 rfl 4 (by decide) tw_269 rfl rfl hini rfl (tyX6_ok 4 (by decide)) rfl rfl (by show 4 < 6; decide) (fs' := [.ref (ρ (a + 1)), .ref (ρ (a + 2)), .ref (ρ (a + 3)), .int 0, .ref (ρ (a + 16)), .null]) rfl (by omega) (by omega) zX6_37 ?_
  refine G_aload_n X zX6_40 rfl 0 rfl ?_
  refine G_bipush X (x := 12) zX6_41 (by decide +kernel) ?_
  refine G_newaI X (N := 12) (L' := [.inr (5, [.ref (ρ (a + 1)), .ref (ρ (a + 2)), .ref (ρ (a + 3)), .int 0, .ref (ρ (a + 16)), .null])]) tw_125 (by decide +kernel) (by decide +kernel) (by decide) ⟨Nat.le_of_ble_eq_true rfl, Nat.le_of_ble_eq_true rfl⟩ (by omega) (by omega) (fun _ _ _ => rfl) ((EL_ge (by show a + 1 ≤ _; omega)).trans (ce_i (kf_5_5 ha))) zX6_43 ?_
  refine G_putF X inX6 tyX6_ok nmX6 rfl 5 (by decide) tw_271 rfl rfl hini rfl (tyX6_ok 5 (by decide)) rfl rfl (by show 5 < 6; decide) (fs' := [.ref (ρ (a + 1)), .ref (ρ (a + 2)), .ref (ρ (a + 3)), .int 0, .ref (ρ (a + 16)), .ref (ρ (a + 17))]) rfl (by omega) (by omega) zX6_45 ?_
  exact G_ret X hret zX6_48 (by omega) (end1 (ceo_5 ha))
theorem zX5_0 : decode cX5_init 0 = .ok (.aload_n 0, 1) := by decide +kernel
theorem zX5_1 : decode cX5_init 1 = .ok (.invokespecial 3, 3) := by decide +kernel
theorem zX5_4 : decode cX5_init 4 = .ok (.aload_n 0, 1) := by decide +kernel
theorem zX5_5 : decode cX5_init 5 = .ok (.bipush 8, 2) := by decide +kernel
theorem zX5_7 : decode cX5_init 7 = .ok (.anewarray 9, 3) := by decide +kernel
theorem zX5_10 : decode cX5_init 10 = .ok (.putfield 11, 3) := by decide +kernel
theorem zX5_13 : decode cX5_init 13 = .ok (.aload_n 0, 1) := by decide +kernel
theorem zX5_14 : decode cX5_init 14 = .ok (.bipush 8, 2) := by decide +kernel
theorem zX5_16 : decode cX5_init 16 = .ok (.newarray .int, 2) := by decide +kernel
theorem zX5_18 : decode cX5_init 18 = .ok (.putfield 17, 3) := by decide +kernel
theorem zX5_21 : decode cX5_init 21 = .ok (.aload_n 0, 1) := by decide +kernel
theorem zX5_22 : decode cX5_init 22 = .ok (.bipush 8, 2) := by decide +kernel
theorem zX5_24 : decode cX5_init 24 = .ok (.newarray .int, 2) := by decide +kernel
theorem zX5_26 : decode cX5_init 26 = .ok (.putfield 21, 3) := by decide +kernel
theorem zX5_29 : decode cX5_init 29 = .ok (.aload_n 0, 1) := by decide +kernel
theorem zX5_30 : decode cX5_init 30 = .ok (.sipush 400, 3) := by decide +kernel
theorem zX5_33 : decode cX5_init 33 = .ok (.anewarray 9, 3) := by decide +kernel
theorem zX5_36 : decode cX5_init 36 = .ok (.putfield 24, 3) := by decide +kernel
theorem zX5_39 : decode cX5_init 39 = .ok (.aload_n 0, 1) := by decide +kernel
theorem zX5_40 : decode cX5_init 40 = .ok (.sipush 400, 3) := by decide +kernel
theorem zX5_43 : decode cX5_init 43 = .ok (.newarray .int, 2) := by decide +kernel
theorem zX5_45 : decode cX5_init 45 = .ok (.putfield 27, 3) := by decide +kernel
theorem zX5_48 : decode cX5_init 48 = .ok (.return_, 1) := by decide +kernel
theorem k_X5 {l : Launch} {G : Gd} {ρ : Nat → Nat} {B a : Nat} (hρ : ∀ x, 1 ≤ x → x ≤ 715 → ρ x = B + x) (ha : (KD a).1 = 4) : CTI l yX5_init (.code yX5_init cX5_init 1 none) rmK5 5 824 G ρ B a (.inr (4, [.null, .null, .null, .null, .null, .int 0, .int 0, .int 0])) 6 := by
  have hlast : a + 5 ≤ 715 := (KD_in (a := a + 5) (by rw [kf_4_4 ha]; decide)).2
  have hpos : 1 ≤ a := (KD_in (a := a) (by omega)).1
  refine CTI_of (own := RX5) (by decide +kernel) rfl hρ hpos (by decide) ?_
  intro p e s m args below meth c X hret hnm
  have hini : meth.name = "<init>" := hnm
  refine G_aload_n X zX5_0 rfl 0 rfl ?_
  refine G_objI X zX5_1 tw_173 (Nat.le_of_ble_eq_true rfl) (Nat.le_of_ble_eq_true rfl) ?_
  refine G_aload_n X zX5_4 rfl 0 rfl ?_
  refine G_bipush X (x := 8) zX5_5 (by decide +kernel) ?_
  refine G_anew X (C := RX11) (t0 := 6) (cA := G.2 6) (N := 8) (L' := [.inr (4, [.null, .null, .null, .null, .null, .int 0, .int 0, .int 0])]) tw_174 X.hAO.2.2.2.1 rfl (by decide +kernel) (by decide +kernel) (by decide) ⟨Nat.le_of_ble_eq_true rfl, Nat.le_of_ble_eq_true rfl⟩ (by omega) (by omega) (fun _ _ _ => rfl) ((EL_ge (by show a + 1 ≤ _; omega)).trans (ce_w (kf_4_0 ha))) zX5_7 ?_
  refine G_putF X inX5 tyX5_ok nmX5 rfl 0 (by decide) tw_175 rfl rfl hini rfl (tyX5_ok 0 (by decide)) rfl rfl (by show 0 < 8; decide) (fs' := [.ref (ρ (a + 1)), .null, .null, .null, .null, .int 0, .int 0, .int 0]) rfl (by omega) (by omega) zX5_10 ?_
  refine G_aload_n X zX5_13 rfl 0 rfl ?_
  refine G_bipush X (x := 8) zX5_14 (by decide +kernel) ?_
  refine G_newaI X (N := 8) (L' := [.inr (4, [.ref (ρ (a + 1)), .null, .null, .null, .null, .int 0, .int 0, .int 0])]) tw_125 (by decide +kernel) (by decide +kernel) (by decide) ⟨Nat.le_of_ble_eq_true rfl, Nat.le_of_ble_eq_true rfl⟩ (by omega) (by omega) (fun _ _ _ => rfl) ((EL_ge (by show a + 1 ≤ _; omega)).trans (ce_i (kf_4_1 ha))) zX5_16 ?_
  refine G_putF X inX5 tyX5_ok nmX5 rfl 1 (by decide) tw_177 rfl rfl hini rfl (tyX5_ok 1 (by decide)) rfl rfl (by show 1 < 8; decide) (fs' := [.ref (ρ (a + 1)), .ref (ρ (a + 2)), .null, .null, .null, .int 0, .int 0, .int 0]) rfl (by omega) (by omega) zX5_18 ?_
  refine G_aload_n X zX5_21 rfl 0 rfl ?_
  refine G_bipush X (x := 8) zX5_22 (by decide +kernel) ?_
  refine G_newaI X (N := 8) (L' := [.inr (4, [.ref (ρ (a + 1)), .ref (ρ (a + 2)), .null, .null, .null, .int 0, .int 0, .int 0])]) tw_125 (by decide +kernel) (by decide +kernel) (by decide) ⟨Nat.le_of_ble_eq_true rfl, Nat.le_of_ble_eq_true rfl⟩ (by omega) (by omega) (fun _ _ _ => rfl) ((EL_ge (by show a + 1 ≤ _; omega)).trans (ce_i (kf_4_2 ha))) zX5_24 ?_
  refine G_putF X inX5 tyX5_ok nmX5 rfl 2 (by decide) tw_179 rfl rfl hini rfl (tyX5_ok 2 (by decide)) rfl rfl (by show 2 < 8; decide) (fs' := [.ref (ρ (a + 1)), .ref (ρ (a + 2)), .ref (ρ (a + 3)), .null, .null, .int 0, .int 0, .int 0]) rfl (by omega) (by omega) zX5_26 ?_
  refine G_aload_n X zX5_29 rfl 0 rfl ?_
  refine G_sipush X (x := 400) zX5_30 (by decide +kernel) ?_
  refine G_anew X (C := RX11) (t0 := 6) (cA := G.2 6) (N := 400) (L' := [.inr (4, [.ref (ρ (a + 1)), .ref (ρ (a + 2)), .ref (ρ (a + 3)), .null, .null, .int 0, .int 0, .int 0])]) tw_174 X.hAO.2.2.2.1 rfl (by decide +kernel) (by decide +kernel) (by decide) ⟨Nat.le_of_ble_eq_true rfl, Nat.le_of_ble_eq_true rfl⟩ (by omega) (by omega) (fun _ _ _ => rfl) ((EL_ge (by show a + 1 ≤ _; omega)).trans (ce_w (kf_4_3 ha))) zX5_33 ?_
  refine G_putF X inX5 tyX5_ok nmX5 rfl 3 (by decide) tw_181 rfl rfl hini rfl (tyX5_ok 3 (by decide)) rfl rfl (by show 3 < 8; decide) (fs' := [.ref (ρ (a + 1)), .ref (ρ (a + 2)), .ref (ρ (a + 3)), .ref (ρ (a + 4)), .null, .int 0, .int 0, .int 0]) rfl (by omega) (by omega) zX5_36 ?_
  refine G_aload_n X zX5_39 rfl 0 rfl ?_
  refine G_sipush X (x := 400) zX5_40 (by decide +kernel) ?_
  refine G_newaI X (N := 400) (L' := [.inr (4, [.ref (ρ (a + 1)), .ref (ρ (a + 2)), .ref (ρ (a + 3)), .ref (ρ (a + 4)), .null, .int 0, .int 0, .int 0])]) tw_125 (by decide +kernel) (by decide +kernel) (by decide) ⟨Nat.le_of_ble_eq_true rfl, Nat.le_of_ble_eq_true rfl⟩ (by omega) (by omega) (fun _ _ _ => rfl) ((EL_ge (by show a + 1 ≤ _; omega)).trans (ce_i (kf_4_4 ha))) zX5_43 ?_
  refine G_putF X inX5 tyX5_ok nmX5 rfl 4 (by decide) tw_183 rfl rfl hini rfl (tyX5_ok 4 (by decide)) rfl rfl (by show 4 < 8; decide) (fs' := [.ref (ρ (a + 1)), .ref (ρ (a + 2)), .ref (ρ (a + 3)), .ref (ρ (a + 4)), .ref (ρ (a + 5)), .int 0, .int 0, .int 0]) rfl (by omega) (by omega) zX5_45 ?_
  exact G_ret X hret zX5_48 (by omega) (end1 (ceo_4 ha))
theorem cem1 {G : Gd} {ρ : Nat → Nat} {H : Heap} (h : va_at G.1 vwCl (ρ (703 + 1), .inl (G.2 0, 25530, .inl (fun i => if i = 8 then 1 else if i = 5 then 5 else if i = 10 then 10 else 0))) H) : va_at G.1 vwCl (ρ (703 + 1), CE G ρ (703 + 1)) H := by
  have e9 : CE G ρ (703 + 1) = .inl (G.2 0, 25530, .inl (fun i => if i = 8 then 1 else if i = 5 then 5 else if i = 10 then 10 else 0)) := by
    unfold CE
    rw [cell_intM (n := 25530) (by decide +kernel)]
    refine congrArg (fun f => (Sum.inl (G.2 0, 25530, .inl f) : va_E)) (funext fun j => ?_)
    rw [iA_m]
    show mI0 1 j = _
    unfold mI0
    rw [if_neg (fun q => by cases q.1)]
    by_cases h1 : j = 10
    · subst h1
      rfl
    · rw [if_neg (fun q => h1 q.2)]
      by_cases h2 : j = 5
      · subst h2
        rfl
      · rw [if_neg (fun q => h2 q.2)]
        by_cases h3 : j = 8
        · subst h3
          rfl
        · rw [if_neg (fun q => h3 q.2), if_neg h3, if_neg h2, if_neg h1]
  rw [e9]
  exact h
theorem zX13_0 : decode cX13_init 0 = .ok (.aload_n 0, 1) := by decide +kernel
theorem zX13_1 : decode cX13_init 1 = .ok (.invokespecial 1, 3) := by decide +kernel
theorem zX13_4 : decode cX13_init 4 = .ok (.aload_n 0, 1) := by decide +kernel
theorem zX13_5 : decode cX13_init 5 = .ok (.sipush 25530, 3) := by decide +kernel
theorem zX13_8 : decode cX13_init 8 = .ok (.newarray .int, 2) := by decide +kernel
theorem zX13_10 : decode cX13_init 10 = .ok (.putfield 7, 3) := by decide +kernel
theorem zX13_13 : decode cX13_init 13 = .ok (.aload_n 0, 1) := by decide +kernel
theorem zX13_14 : decode cX13_init 14 = .ok (.sipush 25530, 3) := by decide +kernel
theorem zX13_17 : decode cX13_init 17 = .ok (.newarray .int, 2) := by decide +kernel
theorem zX13_19 : decode cX13_init 19 = .ok (.putfield 13, 3) := by decide +kernel
theorem zX13_22 : decode cX13_init 22 = .ok (.aload_n 0, 1) := by decide +kernel
theorem zX13_23 : decode cX13_init 23 = .ok (.sipush 1530, 3) := by decide +kernel
theorem zX13_26 : decode cX13_init 26 = .ok (.newarray .int, 2) := by decide +kernel
theorem zX13_28 : decode cX13_init 28 = .ok (.putfield 16, 3) := by decide +kernel
theorem zX13_31 : decode cX13_init 31 = .ok (.aload_n 0, 1) := by decide +kernel
theorem zX13_32 : decode cX13_init 32 = .ok (.sipush 400, 3) := by decide +kernel
theorem zX13_35 : decode cX13_init 35 = .ok (.newarray .int, 2) := by decide +kernel
theorem zX13_37 : decode cX13_init 37 = .ok (.putfield 19, 3) := by decide +kernel
theorem zX13_40 : decode cX13_init 40 = .ok (.aload_n 0, 1) := by decide +kernel
theorem zX13_41 : decode cX13_init 41 = .ok (.iconst (-1), 1) := by decide +kernel
theorem zX13_42 : decode cX13_init 42 = .ok (.putfield 22, 3) := by decide +kernel
theorem zX13_45 : decode cX13_init 45 = .ok (.aload_n 0, 1) := by decide +kernel
theorem zX13_46 : decode cX13_init 46 = .ok (.bipush 6, 2) := by decide +kernel
theorem zX13_48 : decode cX13_init 48 = .ok (.newarray .int, 2) := by decide +kernel
theorem zX13_50 : decode cX13_init 50 = .ok (.putfield 26, 3) := by decide +kernel
theorem zX13_53 : decode cX13_init 53 = .ok (.aload_n 0, 1) := by decide +kernel
theorem zX13_54 : decode cX13_init 54 = .ok (.bipush 6, 2) := by decide +kernel
theorem zX13_56 : decode cX13_init 56 = .ok (.newarray .int, 2) := by decide +kernel
theorem zX13_58 : decode cX13_init 58 = .ok (.putfield 29, 3) := by decide +kernel
theorem zX13_61 : decode cX13_init 61 = .ok (.aload_n 0, 1) := by decide +kernel
theorem zX13_62 : decode cX13_init 62 = .ok (.bipush 6, 2) := by decide +kernel
theorem zX13_64 : decode cX13_init 64 = .ok (.newarray .int, 2) := by decide +kernel
theorem zX13_66 : decode cX13_init 66 = .ok (.putfield 32, 3) := by decide +kernel
theorem zX13_69 : decode cX13_init 69 = .ok (.aload_n 0, 1) := by decide +kernel
theorem zX13_70 : decode cX13_init 70 = .ok (.bipush 6, 2) := by decide +kernel
theorem zX13_72 : decode cX13_init 72 = .ok (.newarray .int, 2) := by decide +kernel
theorem zX13_74 : decode cX13_init 74 = .ok (.putfield 35, 3) := by decide +kernel
theorem zX13_77 : decode cX13_init 77 = .ok (.aload_n 0, 1) := by decide +kernel
theorem zX13_78 : decode cX13_init 78 = .ok (.bipush 12, 2) := by decide +kernel
theorem zX13_80 : decode cX13_init 80 = .ok (.newarray .int, 2) := by decide +kernel
theorem zX13_82 : decode cX13_init 82 = .ok (.putfield 38, 3) := by decide +kernel
theorem zX13_85 : decode cX13_init 85 = .ok (.aload_n 0, 1) := by decide +kernel
theorem zX13_86 : decode cX13_init 86 = .ok (.sipush 1530, 3) := by decide +kernel
theorem zX13_89 : decode cX13_init 89 = .ok (.newarray .int, 2) := by decide +kernel
theorem zX13_91 : decode cX13_init 91 = .ok (.putfield 41, 3) := by decide +kernel
theorem zX13_94 : decode cX13_init 94 = .ok (.aload_n 0, 1) := by decide +kernel
theorem zX13_95 : decode cX13_init 95 = .ok (.iconst 5, 1) := by decide +kernel
theorem zX13_96 : decode cX13_init 96 = .ok (.newarray .int, 2) := by decide +kernel
theorem zX13_98 : decode cX13_init 98 = .ok (.putfield 44, 3) := by decide +kernel
theorem zX13_101 : decode cX13_init 101 = .ok (.aload_n 0, 1) := by decide +kernel
theorem zX13_102 : decode cX13_init 102 = .ok (.getfield 7, 3) := by decide +kernel
theorem zX13_105 : decode cX13_init 105 = .ok (.bipush 10, 2) := by decide +kernel
theorem zX13_107 : decode cX13_init 107 = .ok (.bipush 10, 2) := by decide +kernel
theorem zX13_109 : decode cX13_init 109 = .ok (.iastore, 1) := by decide +kernel
theorem zX13_110 : decode cX13_init 110 = .ok (.aload_n 0, 1) := by decide +kernel
theorem zX13_111 : decode cX13_init 111 = .ok (.getfield 7, 3) := by decide +kernel
theorem zX13_114 : decode cX13_init 114 = .ok (.iconst 5, 1) := by decide +kernel
theorem zX13_115 : decode cX13_init 115 = .ok (.iconst 5, 1) := by decide +kernel
theorem zX13_116 : decode cX13_init 116 = .ok (.iastore, 1) := by decide +kernel
theorem zX13_117 : decode cX13_init 117 = .ok (.aload_n 0, 1) := by decide +kernel
theorem zX13_118 : decode cX13_init 118 = .ok (.getfield 7, 3) := by decide +kernel
theorem zX13_121 : decode cX13_init 121 = .ok (.bipush 8, 2) := by decide +kernel
theorem zX13_123 : decode cX13_init 123 = .ok (.iconst 1, 1) := by decide +kernel
theorem zX13_124 : decode cX13_init 124 = .ok (.iastore, 1) := by decide +kernel
theorem zX13_125 : decode cX13_init 125 = .ok (.return_, 1) := by decide +kernel
theorem k_X13 {l : Launch} {G : Gd} {ρ : Nat → Nat} {B a : Nat} (hρ : ∀ x, 1 ≤ x → x ≤ 715 → ρ x = B + x) (ha : a = 703) : CTI l yX13_init (.code yX13_init cX13_init 1 none) rmK13 11 54561 G ρ B a (.inr (12, [.int 0, .null, .null, .int 0, .null, .null, .int 0, .int 0, .int 0, .int 0, .int 0, .int 0, .int 0, .int 0, .int 0, .int 0, .null, .null, .null, .null, .int 0, .int 0, .null, .null, .null])) 12 := by
  have hlast : a + 11 ≤ 715 := by omega
  have hpos : 1 ≤ a := by omega
  refine CTI_of (own := RX13) (by decide +kernel) rfl hρ hpos (by decide) ?_
  intro p e s m args below meth c X hret hnm
  have hini : meth.name = "<init>" := hnm
  refine G_aload_n X zX13_0 rfl 0 rfl ?_
  refine G_objI X zX13_1 tw_1237 (Nat.le_of_ble_eq_true rfl) (Nat.le_of_ble_eq_true rfl) ?_
  refine G_aload_n X zX13_4 rfl 0 rfl ?_
  refine G_sipush X (x := 25530) zX13_5 (by decide +kernel) ?_
  refine G_newaI X (N := 25530) (L' := [.inr (12, [.int 0, .null, .null, .int 0, .null, .null, .int 0, .int 0, .int 0, .int 0, .int 0, .int 0, .int 0, .int 0, .int 0, .int 0, .null, .null, .null, .null, .int 0, .int 0, .null, .null, .null]), .inl (G.2 0, 25530, .inl (fun _ => 0))]) tw_125 (by decide +kernel) (by decide +kernel) (by decide) ⟨Nat.le_of_ble_eq_true rfl, Nat.le_of_ble_eq_true rfl⟩ (by omega) (by omega) (fun x h1 h2 => EL_app (L := [.inr (12, [.int 0, .null, .null, .int 0, .null, .null, .int 0, .int 0, .int 0, .int 0, .int 0, .int 0, .int 0, .int 0, .int 0, .int 0, .null, .null, .null, .null, .int 0, .int 0, .null, .null, .null])]) h1 h2 (by show a + 1 = _; omega)) (EL_end (L := [.inr (12, [.int 0, .null, .null, .int 0, .null, .null, .int 0, .int 0, .int 0, .int 0, .int 0, .int 0, .int 0, .int 0, .int 0, .int 0, .null, .null, .null, .null, .int 0, .int 0, .null, .null, .null])]) (by show a + 1 = _; omega)) zX13_8 ?_
  refine G_putF X inX13 tyX13_ok nmX13 rfl 1 (by decide) tw_1239 rfl rfl hini rfl (tyX13_ok 1 (by decide)) rfl rfl (by show 1 < 25; decide) (fs' := [.int 0, .ref (ρ (a + 1)), .null, .int 0, .null, .null, .int 0, .int 0, .int 0, .int 0, .int 0, .int 0, .int 0, .int 0, .int 0, .int 0, .null, .null, .null, .null, .int 0, .int 0, .null, .null, .null]) rfl (by omega) (by omega) zX13_10 ?_
  refine G_aload_n X zX13_13 rfl 0 rfl ?_
  refine G_sipush X (x := 25530) zX13_14 (by decide +kernel) ?_
  refine G_newaI X (N := 25530) (L' := [.inr (12, [.int 0, .ref (ρ (a + 1)), .null, .int 0, .null, .null, .int 0, .int 0, .int 0, .int 0, .int 0, .int 0, .int 0, .int 0, .int 0, .int 0, .null, .null, .null, .null, .int 0, .int 0, .null, .null, .null]), .inl (G.2 0, 25530, .inl (fun _ => 0))]) tw_125 (by decide +kernel) (by decide +kernel) (by decide) ⟨Nat.le_of_ble_eq_true rfl, Nat.le_of_ble_eq_true rfl⟩ (by omega) (by omega) (fun _ _ _ => rfl) ((EL_ge (by show a + 2 ≤ _; omega)).trans (cem9 ha 2 (by decide +kernel) (by decide) (by decide))) zX13_17 ?_
  refine G_putF X inX13 tyX13_ok nmX13 rfl 2 (by decide) tw_1240 rfl rfl hini rfl (tyX13_ok 2 (by decide)) rfl rfl (by show 2 < 25; decide) (fs' := [.int 0, .ref (ρ (a + 1)), .ref (ρ (a + 2)), .int 0, .null, .null, .int 0, .int 0, .int 0, .int 0, .int 0, .int 0, .int 0, .int 0, .int 0, .int 0, .null, .null, .null, .null, .int 0, .int 0, .null, .null, .null]) rfl (by omega) (by omega) zX13_19 ?_
  refine G_aload_n X zX13_22 rfl 0 rfl ?_
  refine G_sipush X (x := 1530) zX13_23 (by decide +kernel) ?_
  refine G_newaI X (N := 1530) (L' := [.inr (12, [.int 0, .ref (ρ (a + 1)), .ref (ρ (a + 2)), .int 0, .null, .null, .int 0, .int 0, .int 0, .int 0, .int 0, .int 0, .int 0, .int 0, .int 0, .int 0, .null, .null, .null, .null, .int 0, .int 0, .null, .null, .null]), .inl (G.2 0, 25530, .inl (fun _ => 0))]) tw_125 (by decide +kernel) (by decide +kernel) (by decide) ⟨Nat.le_of_ble_eq_true rfl, Nat.le_of_ble_eq_true rfl⟩ (by omega) (by omega) (fun _ _ _ => rfl) ((EL_ge (by show a + 2 ≤ _; omega)).trans (cem9 ha 3 (by decide +kernel) (by decide) (by decide))) zX13_26 ?_
  refine G_putF X inX13 tyX13_ok nmX13 rfl 4 (by decide) tw_1242 rfl rfl hini rfl (tyX13_ok 4 (by decide)) rfl rfl (by show 4 < 25; decide) (fs' := [.int 0, .ref (ρ (a + 1)), .ref (ρ (a + 2)), .int 0, .ref (ρ (a + 3)), .null, .int 0, .int 0, .int 0, .int 0, .int 0, .int 0, .int 0, .int 0, .int 0, .int 0, .null, .null, .null, .null, .int 0, .int 0, .null, .null, .null]) rfl (by omega) (by omega) zX13_28 ?_
  refine G_aload_n X zX13_31 rfl 0 rfl ?_
  refine G_sipush X (x := 400) zX13_32 (by decide +kernel) ?_
  refine G_newaI X (N := 400) (L' := [.inr (12, [.int 0, .ref (ρ (a + 1)), .ref (ρ (a + 2)), .int 0, .ref (ρ (a + 3)), .null, .int 0, .int 0, .int 0, .int 0, .int 0, .int 0, .int 0, .int 0, .int 0, .int 0, .null, .null, .null, .null, .int 0, .int 0, .null, .null, .null]), .inl (G.2 0, 25530, .inl (fun _ => 0))]) tw_125 (by decide +kernel) (by decide +kernel) (by decide) ⟨Nat.le_of_ble_eq_true rfl, Nat.le_of_ble_eq_true rfl⟩ (by omega) (by omega) (fun _ _ _ => rfl) ((EL_ge (by show a + 2 ≤ _; omega)).trans (cem9 ha 4 (by decide +kernel) (by decide) (by decide))) zX13_35 ?_
  refine G_putF X inX13 tyX13_ok nmX13 rfl 5 (by decide) tw_1243 rfl rfl hini rfl (tyX13_ok 5 (by decide)) rfl rfl (by show 5 < 25; decide) (fs' := [.int 0, .ref (ρ (a + 1)), .ref (ρ (a + 2)), .int 0, .ref (ρ (a + 3)), .ref (ρ (a + 4)), .int 0, .int 0, .int 0, .int 0, .int 0, .int 0, .int 0, .int 0, .int 0, .int 0, .null, .null, .null, .null, .int 0, .int 0, .null, .null, .null]) rfl (by omega) (by omega) zX13_37 ?_
  refine G_aload_n X zX13_40 rfl 0 rfl ?_
  refine G_iconst X (x := -1) zX13_41 (by decide +kernel) ?_
  refine G_putN X inX13 tyX13_ok nmX13 rfl 10 (by decide) tw_1248 rfl rfl (tyX13_ok 10 (by decide)) rfl rfl (by show 10 < 25; decide) (fs' := [.int 0, .ref (ρ (a + 1)), .ref (ρ (a + 2)), .int 0, .ref (ρ (a + 3)), .ref (ρ (a + 4)), .int 0, .int 0, .int 0, .int 0, .int (-1), .int 0, .int 0, .int 0, .int 0, .int 0, .null, .null, .null, .null, .int 0, .int 0, .null, .null, .null]) rfl (by omega) (by omega) zX13_42 ?_
  refine G_aload_n X zX13_45 rfl 0 rfl ?_
  refine G_bipush X (x := 6) zX13_46 (by decide +kernel) ?_
  refine G_newaI X (N := 6) (L' := [.inr (12, [.int 0, .ref (ρ (a + 1)), .ref (ρ (a + 2)), .int 0, .ref (ρ (a + 3)), .ref (ρ (a + 4)), .int 0, .int 0, .int 0, .int 0, .int (-1), .int 0, .int 0, .int 0, .int 0, .int 0, .null, .null, .null, .null, .int 0, .int 0, .null, .null, .null]), .inl (G.2 0, 25530, .inl (fun _ => 0))]) tw_125 (by decide +kernel) (by decide +kernel) (by decide) ⟨Nat.le_of_ble_eq_true rfl, Nat.le_of_ble_eq_true rfl⟩ (by omega) (by omega) (fun _ _ _ => rfl) ((EL_ge (by show a + 2 ≤ _; omega)).trans (cem9 ha 5 (by decide +kernel) (by decide) (by decide))) zX13_48 ?_
  refine G_putF X inX13 tyX13_ok nmX13 rfl 16 (by decide) tw_1254 rfl rfl hini rfl (tyX13_ok 16 (by decide)) rfl rfl (by show 16 < 25; decide) (fs' := [.int 0, .ref (ρ (a + 1)), .ref (ρ (a + 2)), .int 0, .ref (ρ (a + 3)), .ref (ρ (a + 4)), .int 0, .int 0, .int 0, .int 0, .int (-1), .int 0, .int 0, .int 0, .int 0, .int 0, .ref (ρ (a + 5)), .null, .null, .null, .int 0, .int 0, .null, .null, .null]) rfl (by omega) (by omega) zX13_50 ?_
  refine G_aload_n X zX13_53 rfl 0 rfl ?_
  refine G_bipush X (x := 6) zX13_54 (by decide +kernel) ?_
  refine G_newaI X (N := 6) (L' := [.inr (12, [.int 0, .ref (ρ (a + 1)), .ref (ρ (a + 2)), .int 0, .ref (ρ (a + 3)), .ref (ρ (a + 4)), .int 0, .int 0, .int 0, .int 0, .int (-1), .int 0, .int 0, .int 0, .int 0, .int 0, .ref (ρ (a + 5)), .null, .null, .null, .int 0, .int 0, .null, .null, .null]), .inl (G.2 0, 25530, .inl (fun _ => 0))]) tw_125 (by decide +kernel) (by decide +kernel) (by decide) ⟨Nat.le_of_ble_eq_true rfl, Nat.le_of_ble_eq_true rfl⟩ (by omega) (by omega) (fun _ _ _ => rfl) ((EL_ge (by show a + 2 ≤ _; omega)).trans (cem9 ha 6 (by decide +kernel) (by decide) (by decide))) zX13_56 ?_
  refine G_putF X inX13 tyX13_ok nmX13 rfl 17 (by decide) tw_1255 rfl rfl hini rfl (tyX13_ok 17 (by decide)) rfl rfl (by show 17 < 25; decide) (fs' := [.int 0, .ref (ρ (a + 1)), .ref (ρ (a + 2)), .int 0, .ref (ρ (a + 3)), .ref (ρ (a + 4)), .int 0, .int 0, .int 0, .int 0, .int (-1), .int 0, .int 0, .int 0, .int 0, .int 0, .ref (ρ (a + 5)), .ref (ρ (a + 6)), .null, .null, .int 0, .int 0, .null, .null, .null]) rfl (by omega) (by omega) zX13_58 ?_
  refine G_aload_n X zX13_61 rfl 0 rfl ?_
  refine G_bipush X (x := 6) zX13_62 (by decide +kernel) ?_
  refine G_newaI X (N := 6) (L' := [.inr (12, [.int 0, .ref (ρ (a + 1)), .ref (ρ (a + 2)), .int 0, .ref (ρ (a + 3)), .ref (ρ (a + 4)), .int 0, .int 0, .int 0, .int 0, .int (-1), .int 0, .int 0, .int 0, .int 0, .int 0, .ref (ρ (a + 5)), .ref (ρ (a + 6)), .null, .null, .int 0, .int 0, .null, .null, .null]), .inl (G.2 0, 25530, .inl (fun _ => 0))]) tw_125 (by decide +kernel) (by decide +kernel) (by decide) ⟨Nat.le_of_ble_eq_true rfl, Nat.le_of_ble_eq_true rfl⟩ (by omega) (by omega) (fun _ _ _ => rfl) ((EL_ge (by show a + 2 ≤ _; omega)).trans (cem9 ha 7 (by decide +kernel) (by decide) (by decide))) zX13_64 ?_
  refine G_putF X inX13 tyX13_ok nmX13 rfl 18 (by decide) tw_1256 rfl rfl hini rfl (tyX13_ok 18 (by decide)) rfl rfl (by show 18 < 25; decide) (fs' := [.int 0, .ref (ρ (a + 1)), .ref (ρ (a + 2)), .int 0, .ref (ρ (a + 3)), .ref (ρ (a + 4)), .int 0, .int 0, .int 0, .int 0, .int (-1), .int 0, .int 0, .int 0, .int 0, .int 0, .ref (ρ (a + 5)), .ref (ρ (a + 6)), .ref (ρ (a + 7)), .null, .int 0, .int 0, .null, .null, .null]) rfl (by omega) (by omega) zX13_66 ?_
  refine G_aload_n X zX13_69 rfl 0 rfl ?_
  refine G_bipush X (x := 6) zX13_70 (by decide +kernel) ?_
  refine G_newaI X (N := 6) (L' := [.inr (12, [.int 0, .ref (ρ (a + 1)), .ref (ρ (a + 2)), .int 0, .ref (ρ (a + 3)), .ref (ρ (a + 4)), .int 0, .int 0, .int 0, .int 0, .int (-1), .int 0, .int 0, .int 0, .int 0, .int 0, .ref (ρ (a + 5)), .ref (ρ (a + 6)), .ref (ρ (a + 7)), .null, .int 0, .int 0, .null, .null, .null]), .inl (G.2 0, 25530, .inl (fun _ => 0))]) tw_125 (by decide +kernel) (by decide +kernel) (by decide) ⟨Nat.le_of_ble_eq_true rfl, Nat.le_of_ble_eq_true rfl⟩ (by omega) (by omega) (fun _ _ _ => rfl) ((EL_ge (by show a + 2 ≤ _; omega)).trans (cem9 ha 8 (by decide +kernel) (by decide) (by decide))) zX13_72 ?_
  refine G_putF X inX13 tyX13_ok nmX13 rfl 19 (by decide) tw_1257 rfl rfl hini rfl (tyX13_ok 19 (by decide)) rfl rfl (by show 19 < 25; decide) (fs' := [.int 0, .ref (ρ (a + 1)), .ref (ρ (a + 2)), .int 0, .ref (ρ (a + 3)), .ref (ρ (a + 4)), .int 0, .int 0, .int 0, .int 0, .int (-1), .int 0, .int 0, .int 0, .int 0, .int 0, .ref (ρ (a + 5)), .ref (ρ (a + 6)), .ref (ρ (a + 7)), .ref (ρ (a + 8)), .int 0, .int 0, .null, .null, .null]) rfl (by omega) (by omega) zX13_74 ?_
  refine G_aload_n X zX13_77 rfl 0 rfl ?_
  refine G_bipush X (x := 12) zX13_78 (by decide +kernel) ?_
  refine G_newaI X (N := 12) (L' := [.inr (12, [.int 0, .ref (ρ (a + 1)), .ref (ρ (a + 2)), .int 0, .ref (ρ (a + 3)), .ref (ρ (a + 4)), .int 0, .int 0, .int 0, .int 0, .int (-1), .int 0, .int 0, .int 0, .int 0, .int 0, .ref (ρ (a + 5)), .ref (ρ (a + 6)), .ref (ρ (a + 7)), .ref (ρ (a + 8)), .int 0, .int 0, .null, .null, .null]), .inl (G.2 0, 25530, .inl (fun _ => 0))]) tw_125 (by decide +kernel) (by decide +kernel) (by decide) ⟨Nat.le_of_ble_eq_true rfl, Nat.le_of_ble_eq_true rfl⟩ (by omega) (by omega) (fun _ _ _ => rfl) ((EL_ge (by show a + 2 ≤ _; omega)).trans (cem9 ha 9 (by decide +kernel) (by decide) (by decide))) zX13_80 ?_
  refine G_putF X inX13 tyX13_ok nmX13 rfl 22 (by decide) tw_1260 rfl rfl hini rfl (tyX13_ok 22 (by decide)) rfl rfl (by show 22 < 25; decide) (fs' := [.int 0, .ref (ρ (a + 1)), .ref (ρ (a + 2)), .int 0, .ref (ρ (a + 3)), .ref (ρ (a + 4)), .int 0, .int 0, .int 0, .int 0, .int (-1), .int 0, .int 0, .int 0, .int 0, .int 0, .ref (ρ (a + 5)), .ref (ρ (a + 6)), .ref (ρ (a + 7)), .ref (ρ (a + 8)), .int 0, .int 0, .ref (ρ (a + 9)), .null, .null]) rfl (by omega) (by omega) zX13_82 ?_
  refine G_aload_n X zX13_85 rfl 0 rfl ?_
  refine G_sipush X (x := 1530) zX13_86 (by decide +kernel) ?_
  refine G_newaI X (N := 1530) (L' := [.inr (12, [.int 0, .ref (ρ (a + 1)), .ref (ρ (a + 2)), .int 0, .ref (ρ (a + 3)), .ref (ρ (a + 4)), .int 0, .int 0, .int 0, .int 0, .int (-1), .int 0, .int 0, .int 0, .int 0, .int 0, .ref (ρ (a + 5)), .ref (ρ (a + 6)), .ref (ρ (a + 7)), .ref (ρ (a + 8)), .int 0, .int 0, .ref (ρ (a + 9)), .null, .null]), .inl (G.2 0, 25530, .inl (fun _ => 0))]) tw_125 (by decide +kernel) (by decide +kernel) (by decide) ⟨Nat.le_of_ble_eq_true rfl, Nat.le_of_ble_eq_true rfl⟩ (by omega) (by omega) (fun _ _ _ => rfl) ((EL_ge (by show a + 2 ≤ _; omega)).trans (cem9 ha 10 (by decide +kernel) (by decide) (by decide))) zX13_89 ?_
  refine G_putF X inX13 tyX13_ok nmX13 rfl 23 (by decide) tw_1261 rfl rfl hini rfl (tyX13_ok 23 (by decide)) rfl rfl (by show 23 < 25; decide) (fs' := [.int 0, .ref (ρ (a + 1)), .ref (ρ (a + 2)), .int 0, .ref (ρ (a + 3)), .ref (ρ (a + 4)), .int 0, .int 0, .int 0, .int 0, .int (-1), .int 0, .int 0, .int 0, .int 0, .int 0, .ref (ρ (a + 5)), .ref (ρ (a + 6)), .ref (ρ (a + 7)), .ref (ρ (a + 8)), .int 0, .int 0, .ref (ρ (a + 9)), .ref (ρ (a + 10)), .null]) rfl (by omega) (by omega) zX13_91 ?_
  refine G_aload_n X zX13_94 rfl 0 rfl ?_
  refine G_iconst X (x := 5) zX13_95 (by decide +kernel) ?_
  refine G_newaI X (N := 5) (L' := [.inr (12, [.int 0, .ref (ρ (a + 1)), .ref (ρ (a + 2)), .int 0, .ref (ρ (a + 3)), .ref (ρ (a + 4)), .int 0, .int 0, .int 0, .int 0, .int (-1), .int 0, .int 0, .int 0, .int 0, .int 0, .ref (ρ (a + 5)), .ref (ρ (a + 6)), .ref (ρ (a + 7)), .ref (ρ (a + 8)), .int 0, .int 0, .ref (ρ (a + 9)), .ref (ρ (a + 10)), .null]), .inl (G.2 0, 25530, .inl (fun _ => 0))]) tw_125 (by decide +kernel) (by decide +kernel) (by decide) ⟨Nat.le_of_ble_eq_true rfl, Nat.le_of_ble_eq_true rfl⟩ (by omega) (by omega) (fun _ _ _ => rfl) ((EL_ge (by show a + 2 ≤ _; omega)).trans (cem9 ha 11 (by decide +kernel) (by decide) (by decide))) zX13_96 ?_
  refine G_putF X inX13 tyX13_ok nmX13 rfl 24 (by decide) tw_1262 rfl rfl hini rfl (tyX13_ok 24 (by decide)) rfl rfl (by show 24 < 25; decide) (fs' := [.int 0, .ref (ρ (a + 1)), .ref (ρ (a + 2)), .int 0, .ref (ρ (a + 3)), .ref (ρ (a + 4)), .int 0, .int 0, .int 0, .int 0, .int (-1), .int 0, .int 0, .int 0, .int 0, .int 0, .ref (ρ (a + 5)), .ref (ρ (a + 6)), .ref (ρ (a + 7)), .ref (ρ (a + 8)), .int 0, .int 0, .ref (ρ (a + 9)), .ref (ρ (a + 10)), .ref (ρ (a + 11))]) rfl (by omega) (by omega) zX13_98 ?_
  refine G_aload_n X zX13_101 rfl 0 rfl ?_
  refine G_getR X (b := a + 1) inX13 rfl 1 (by decide) tw_1239 rfl rfl (by omega) zX13_102 ?_
  refine G_bipush X (x := 10) zX13_105 (by decide +kernel) ?_
  refine G_bipush X (x := 10) zX13_107 (by decide +kernel) ?_
  refine G_iast X (f := fun _ => 0) (f' := fun i => if i = 10 then 10 else 0) 1 rfl (by omega) (by omega) (by unfold vp_in; decide +kernel) (by rw [show (10 : Int32).toNatClampNeg = 10 by decide +kernel]; rfl) zX13_109 ?_
  refine LG.to (L' := [.inr (12, [.int 0, .ref (ρ (a + 1)), .ref (ρ (a + 2)), .int 0, .ref (ρ (a + 3)), .ref (ρ (a + 4)), .int 0, .int 0, .int 0, .int 0, .int (-1), .int 0, .int 0, .int 0, .int 0, .int 0, .ref (ρ (a + 5)), .ref (ρ (a + 6)), .ref (ρ (a + 7)), .ref (ρ (a + 8)), .int 0, .int 0, .ref (ρ (a + 9)), .ref (ρ (a + 10)), .ref (ρ (a + 11))]), .inl (G.2 0, 25530, .inl (fun i => if i = 10 then 10 else 0))]) rfl rfl ?_
  refine G_aload_n X zX13_110 rfl 0 rfl ?_
  refine G_getR X (b := a + 1) inX13 rfl 1 (by decide) tw_1239 rfl rfl (by omega) zX13_111 ?_
  refine G_iconst X (x := 5) zX13_114 (by decide +kernel) ?_
  refine G_iconst X (x := 5) zX13_115 (by decide +kernel) ?_
  refine G_iast X (f := fun i => if i = 10 then 10 else 0) (f' := fun i => if i = 5 then 5 else if i = 10 then 10 else 0) 1 rfl (by omega) (by omega) (by unfold vp_in; decide +kernel) (by rw [show (5 : Int32).toNatClampNeg = 5 by decide +kernel]; rfl) zX13_116 ?_
  refine LG.to (L' := [.inr (12, [.int 0, .ref (ρ (a + 1)), .ref (ρ (a + 2)), .int 0, .ref (ρ (a + 3)), .ref (ρ (a + 4)), .int 0, .int 0, .int 0, .int 0, .int (-1), .int 0, .int 0, .int 0, .int 0, .int 0, .ref (ρ (a + 5)), .ref (ρ (a + 6)), .ref (ρ (a + 7)), .ref (ρ (a + 8)), .int 0, .int 0, .ref (ρ (a + 9)), .ref (ρ (a + 10)), .ref (ρ (a + 11))]), .inl (G.2 0, 25530, .inl (fun i => if i = 5 then 5 else if i = 10 then 10 else 0))]) rfl rfl ?_
  refine G_aload_n X zX13_117 rfl 0 rfl ?_
  refine G_getR X (b := a + 1) inX13 rfl 1 (by decide) tw_1239 rfl rfl (by omega) zX13_118 ?_
  refine G_bipush X (x := 8) zX13_121 (by decide +kernel) ?_
  refine G_iconst X (x := 1) zX13_123 (by decide +kernel) ?_
  refine G_iast X (f := fun i => if i = 5 then 5 else if i = 10 then 10 else 0) (f' := fun i => if i = 8 then 1 else if i = 5 then 5 else if i = 10 then 10 else 0) 1 rfl (by omega) (by omega) (by unfold vp_in; decide +kernel) (by rw [show (8 : Int32).toNatClampNeg = 8 by decide +kernel]; rfl) zX13_124 ?_
  refine LG.to (L' := [.inr (12, [.int 0, .ref (ρ (a + 1)), .ref (ρ (a + 2)), .int 0, .ref (ρ (a + 3)), .ref (ρ (a + 4)), .int 0, .int 0, .int 0, .int 0, .int (-1), .int 0, .int 0, .int 0, .int 0, .int 0, .ref (ρ (a + 5)), .ref (ρ (a + 6)), .ref (ρ (a + 7)), .ref (ρ (a + 8)), .int 0, .int 0, .ref (ρ (a + 9)), .ref (ρ (a + 10)), .ref (ρ (a + 11))]), .inl (G.2 0, 25530, .inl (fun i => if i = 8 then 1 else if i = 5 then 5 else if i = 10 then 10 else 0))]) rfl rfl ?_
  exact G_ret X hret zX13_125 (by omega) (endc (fun H hH => by subst ha; rw [ceo_12]; exact hH) (endc (fun H hH => by subst ha; exact cem1 hH) end0))
theorem nI_1i (k : Nat) : nI k + Int32.ofInt 1 = nI (k + 1) := by
  have h : Int32.ofInt 1 = nI 1 := by decide +kernel
  rw [h, nI_add]
theorem va_upS {f g : Nat → Option Nat} {k b : Nat} (h : ∀ i, i ≠ k → g i = f i) (h1 : g k = some b) (hk : k < 2 ^ 31) : va_up f (nI k).toNatClampNeg (some b) = g := by
  rw [nI_clamp hk]
  funext i
  unfold va_up
  by_cases q : i = k
  · rw [if_pos q, q, h1]
  · rw [if_neg q, h i q]
theorem vinI {k n : Nat} (h : k < n) (hn : n < 2 ^ 31) : vp_in (nI k) n := by
  intro q
  rcases q with q | q
  · have h0 : nI k < nI 0 := q
    rw [nI_ltI (by omega) (by omega)] at h0
    omega
  · rw [nI_clamp (by omega)] at q
    omega
/-- what a row of references holds when k of them stand -/
def fK (ρ : Nat → Nat) (b st k : Nat) : Nat → Option Nat := fun i => if i < k then some (ρ (b + st * i)) else none
theorem fK_0 {ρ : Nat → Nat} {b st : Nat} : (fun _ => none) = fK ρ b st 0 := by
  funext i
  exact (if_neg (by omega)).symm
theorem fK_S {ρ : Nat → Nat} {b st k x : Nat} (hx : b + st * k = x) (hk : k < 2 ^ 31) : va_up (fK ρ b st k) (nI k).toNatClampNeg (some (ρ x)) = fK ρ b st (k + 1) := by
  refine va_upS (fun i hi => ?_) ?_ hk
  · unfold fK
    by_cases q : i < k
    · rw [if_pos q, if_pos (by omega)]
    · rw [if_neg q, if_neg (by omega)]
  · unfold fK
    rw [if_pos (by omega), hx]
def L3 (G : Gd) (ρ : Nat → Nat) (a k : Nat) : List va_E := [.inr (2, [.ref (ρ (a + 1)), .ref (ρ (a + 2))]), .inl (G.2 7, 61, .inr (.inr (.inr (.inr (fK ρ (a + 3) 6 k)))))]
theorem zX3_0 : decode cX3_init 0 = .ok (.aload_n 0, 1) := by decide +kernel
theorem zX3_1 : decode cX3_init 1 = .ok (.invokespecial 3, 3) := by decide +kernel
theorem zX3_4 : decode cX3_init 4 = .ok (.aload_n 0, 1) := by decide +kernel
theorem zX3_5 : decode cX3_init 5 = .ok (.bipush 61, 2) := by decide +kernel
theorem zX3_7 : decode cX3_init 7 = .ok (.anewarray 9, 3) := by decide +kernel
theorem zX3_10 : decode cX3_init 10 = .ok (.putfield 11, 3) := by decide +kernel
theorem zX3_13 : decode cX3_init 13 = .ok (.aload_n 0, 1) := by decide +kernel
theorem zX3_14 : decode cX3_init 14 = .ok (.bipush 32, 2) := by decide +kernel
theorem zX3_16 : decode cX3_init 16 = .ok (.newarray .int, 2) := by decide +kernel
theorem zX3_18 : decode cX3_init 18 = .ok (.putfield 17, 3) := by decide +kernel
theorem zX3_21 : decode cX3_init 21 = .ok (.iconst 0, 1) := by decide +kernel
theorem zX3_22 : decode cX3_init 22 = .ok (.istore_n 1, 1) := by decide +kernel
theorem zX3_23 : decode cX3_init 23 = .ok (.iload_n 1, 1) := by decide +kernel
theorem zX3_24 : decode cX3_init 24 = .ok (.aload_n 0, 1) := by decide +kernel
theorem zX3_25 : decode cX3_init 25 = .ok (.getfield 11, 3) := by decide +kernel
theorem zX3_28 : decode cX3_init 28 = .ok (.arraylength, 1) := by decide +kernel
theorem zX3_29 : decode cX3_init 29 = .ok (.if_icmp .ge 22, 3) := by decide +kernel
theorem zX3_51 : decode cX3_init 51 = .ok (.return_, 1) := by decide +kernel
theorem zX3_32 : decode cX3_init 32 = .ok (.aload_n 0, 1) := by decide +kernel
theorem zX3_33 : decode cX3_init 33 = .ok (.getfield 11, 3) := by decide +kernel
theorem zX3_36 : decode cX3_init 36 = .ok (.iload_n 1, 1) := by decide +kernel
theorem zX3_37 : decode cX3_init 37 = .ok (.new 9, 3) := by decide +kernel
theorem zX3_40 : decode cX3_init 40 = .ok (.dup, 1) := by decide +kernel
theorem zX3_41 : decode cX3_init 41 = .ok (.invokespecial 21, 3) := by decide +kernel
theorem zX3_44 : decode cX3_init 44 = .ok (.aastore, 1) := by decide +kernel
theorem zX3_45 : decode cX3_init 45 = .ok (.iinc 1 1, 3) := by decide +kernel
theorem zX3_48 : decode cX3_init 48 = .ok (.goto (-25), 3) := by decide +kernel
theorem loop_X3 {p : Program} {l : Launch} {e : Env} {s : State} {m : MethodId} {args : Array Value} {below : List Frame} {meth : Method} {c : Code} {G : Gd} {ρ : Nat → Nat} {B a : Nat} (X : MG p s m args meth c cX3_init 2 RX3 G ρ B a) (hret : meth.sig.returnType = none) (ha : (KD a).1 = 2) (hlast : a + 368 ≤ 715) : ∀ g k, k + g = 61 → LG p l e rmK3 s m args below meth c (MQ below (fun _ st o t => o = .returned none ∧ GW G ρ B a (a + 369 - 1) [] t.heap ∧ va_F (fun q => B + a ≤ q) st t) args s 368 50845 (fun q => B + a ≤ q)) G ρ B a 2 (2 + 6 * k) (93 + 832 * k) 23 [(1, .int (nI k)), (0, .ref a)] [] (a + 2 + 6 * k) (L3 G ρ a k) := by
  have hpos := X.ha
  have hρ := X.hρ
  intro g
  induction g with
  | zero =>
    intro k hk
    have hk9 : k = 61 := by omega
    subst hk9
    refine G_iload_n X zX3_23 rfl 0 rfl ?_
    refine G_aload_n X zX3_24 rfl 1 rfl ?_
    refine G_getR X (b := a + 1) inX3 rfl 0 (by decide) tw_207 rfl rfl (by omega) zX3_25 ?_
    refine G_alenR X (t0 := 7) (v := nI 61) rfl 1 rfl (by omega) rfl zX3_28 ?_
    refine G_icmp_ge X zX3_29 rfl (fun _ => ?_) (fun q => absurd (Int32.le_refl _) q)
    exact G_ret X hret zX3_51 (by omega) (endc (fun H hH => by rw [ceo_2 ha]; exact hH) (endc (fun H hH => by
      unfold CE
      rw [cell_refs (kf_2_0 ha) (by decide) (by decide) (by decide)]
      refine at_refs (fun i hi => ?_) H hH
      unfold fK
      rw [if_pos hi, ra_27 (kf_2_0 ha)]
      unfold rO
      rw [if_neg (by omega)]
      try exact congrArg (fun z => some (ρ z)) (by omega)) end0))
  | succ g ih =>
    intro k hk
    refine G_iload_n X zX3_23 rfl 0 rfl ?_
    refine G_aload_n X zX3_24 rfl 1 rfl ?_
    refine G_getR X (b := a + 1) inX3 rfl 0 (by decide) tw_207 rfl rfl (by omega) zX3_25 ?_
    refine G_alenR X (t0 := 7) (v := nI 61) rfl 1 rfl (by omega) rfl zX3_28 ?_
    refine G_icmp_ge X zX3_29 rfl (fun q => ?_) (fun _ => ?_)
    · rw [nI_leI (by omega) (by omega)] at q
      omega
    · refine G_aload_n X zX3_32 rfl 1 rfl ?_
      refine G_getR X (b := a + 1) inX3 rfl 0 (by decide) tw_207 rfl rfl (by omega) zX3_33 ?_
      refine G_iload_n X zX3_36 rfl 0 rfl ?_
      have hK5 : (KD (a + 2 + 6 * k + 1)).1 = 4 := by
        have h := ka_27 (kf_2_0 ha) (i := k) (by omega)
        rw [show a + 1 + 2 + 6 * k = a + 2 + 6 * k + 1 by omega] at h
        exact h
      refine G_newC X (fs := [.null, .null, .null, .null, .null, .int 0, .int 0, .int 0]) inX5 tyX5_ok rfl bl_4 tw_167 tw_169 tw_76 rfl rfl (Or.inr (List.mem_of_getElem? (i := 3) rfl)) tw_171 tw_172 (by decide +kernel) ((k_X5 hρ hK5)) rfl rfl (by decide) zX3_37 zX3_40 zX3_41 (by decide) (by omega) (by show a + 2 ≤ _; omega) ⟨by show _ ≤ 368; omega, by show _ ≤ 50845; omega⟩ (Nat.le_of_ble_eq_true rfl) ?_
      refine G_aast X (t0 := 7) (cA := G.2 7) (f' := fK ρ (a + 3) 6 (k + 1)) rfl (rfl : vwCl[4]? = some (RX5, TX5, 8)) 1 rfl (by omega) (by omega) (by show a + 2 ≤ _; omega) (by omega) (ceo_4 hK5) (vinI (by omega) (by decide)) (fK_S (by omega) (by omega)) zX3_44 ?_
      refine G_iinc X zX3_45 0 rfl (nI_1i k) (by decide) (lv2 := [(1, .int (nI (k + 1))), (0, .ref a)]) rfl ?_
      refine G_goto X zX3_48 (tgt := 23) rfl ?_
      exact LG.widen (by omega) (by omega) (LG.to (L' := L3 G ρ a (k + 1)) (by omega) rfl (ih (k + 1) (by omega)))
theorem k_X3 {l : Launch} {G : Gd} {ρ : Nat → Nat} {B a : Nat} (hρ : ∀ x, 1 ≤ x → x ≤ 715 → ρ x = B + x) (ha : (KD a).1 = 2) : CTI l yX3_init (.code yX3_init cX3_init 2 none) rmK3 368 50845 G ρ B a (.inr (2, [.null, .null])) 369 := by
  have hlast : a + 368 ≤ 715 := by
    have h := (KD_in (a := a + 1 + 2 + 6 * 60) (by rw [ka_27 (kf_2_0 ha) (i := 60) (by decide)]; decide)).2
    have h5 := (KD_in (a := a + 1 + 2 + 6 * 60 + 5) (by rw [kf_4_4 (ka_27 (kf_2_0 ha) (i := 60) (by decide))]; decide)).2
    omega
  have hpos : 1 ≤ a := (KD_in (a := a) (by omega)).1
  refine CTI_of (own := RX3) (by decide +kernel) rfl hρ hpos (by decide) ?_
  intro p e s m args below meth c X hret hnm
  have hini : meth.name = "<init>" := hnm
  refine G_aload_n X zX3_0 rfl 0 rfl ?_
  refine G_objI X zX3_1 tw_166 (Nat.le_of_ble_eq_true rfl) (Nat.le_of_ble_eq_true rfl) ?_
  refine G_aload_n X zX3_4 rfl 0 rfl ?_
  refine G_bipush X (x := 61) zX3_5 (by decide +kernel) ?_
  refine G_anew X (C := RX5) (t0 := 7) (cA := G.2 7) (N := 61) (L' := [.inr (2, [.null, .null]), .inl (G.2 7, 61, .inr (.inr (.inr (.inr (fun _ => none)))))]) tw_167 X.hAO.2.2.2.2.1 rfl (by decide +kernel) (by decide +kernel) (by decide) ⟨Nat.le_of_ble_eq_true rfl, Nat.le_of_ble_eq_true rfl⟩ (by omega) (by omega) (fun x h1 h2 => EL_app (L := [.inr (2, [.null, .null])]) h1 h2 (by show a + 1 = _; omega)) (EL_end (L := [.inr (2, [.null, .null])]) (by show a + 1 = _; omega)) zX3_7 ?_
  refine G_putF X inX3 tyX3_ok nmX3 rfl 0 (by decide) tw_207 rfl rfl hini rfl (tyX3_ok 0 (by decide)) rfl rfl (by show 0 < 2; decide) (fs' := [.ref (ρ (a + 1)), .null]) rfl (by omega) (by omega) zX3_10 ?_
  refine G_aload_n X zX3_13 rfl 0 rfl ?_
  refine G_bipush X (x := 32) zX3_14 (by decide +kernel) ?_
  refine G_newaI X (N := 32) (L' := [.inr (2, [.ref (ρ (a + 1)), .null]), .inl (G.2 7, 61, .inr (.inr (.inr (.inr (fun _ => none)))))]) tw_125 (by decide +kernel) (by decide +kernel) (by decide) ⟨Nat.le_of_ble_eq_true rfl, Nat.le_of_ble_eq_true rfl⟩ (by omega) (by omega) (fun _ _ _ => rfl) ((EL_ge (by show a + 2 ≤ _; omega)).trans (ce_i (kf_2_1 ha))) zX3_16 ?_
  refine G_putF X inX3 tyX3_ok nmX3 rfl 1 (by decide) tw_209 rfl rfl hini rfl (tyX3_ok 1 (by decide)) rfl rfl (by show 1 < 2; decide) (fs' := [.ref (ρ (a + 1)), .ref (ρ (a + 2))]) rfl (by omega) (by omega) zX3_18 ?_
  refine G_iconst X (x := nI 0) zX3_21 (by decide +kernel) ?_
  refine G_istore_n X zX3_22 rfl (by decide) (lv2 := [(1, .int (nI 0)), (0, .ref a)]) rfl ?_
  refine LG.to (n' := a + 2 + 6 * 0) (L' := L3 G ρ a 0) rfl ?_ ?_
  · unfold L3
    rw [← fK_0]
  exact loop_X3 X hret ha hlast 61 0 rfl
def L4 (G : Gd) (ρ : Nat → Nat) (a k j : Nat) : List va_E := [.inr (3, [.ref (ρ (a + 1)), .ref (ρ (a + 2)), .ref (ρ (a + 3)), .ref (ρ (a + 4)), .ref (ρ (a + 5)), .int 0, .int 0, .int 0, .int 0, .int 5, .int 0, .int 0, .int 0, .int 1]), .inl (G.2 2, 12, .inr (.inr (.inr (.inr (fK ρ (a + 23) 2 k))))), .inl (G.2 3, 12, .inr (.inr (.inr (.inr (fK ρ (a + 24) 2 k))))), .inl (G.2 4, 60, .inr (.inr (.inr (.inr (fK ρ (a + 47) 1 j)))))]
theorem zX4_0 : decode cX4_init 0 = .ok (.aload_n 0, 1) := by decide +kernel
theorem zX4_1 : decode cX4_init 1 = .ok (.invokespecial 3, 3) := by decide +kernel
theorem zX4_4 : decode cX4_init 4 = .ok (.aload_n 0, 1) := by decide +kernel
theorem zX4_5 : decode cX4_init 5 = .ok (.bipush 12, 2) := by decide +kernel
theorem zX4_7 : decode cX4_init 7 = .ok (.anewarray 9, 3) := by decide +kernel
theorem zX4_10 : decode cX4_init 10 = .ok (.putfield 11, 3) := by decide +kernel
theorem zX4_13 : decode cX4_init 13 = .ok (.aload_n 0, 1) := by decide +kernel
theorem zX4_14 : decode cX4_init 14 = .ok (.bipush 12, 2) := by decide +kernel
theorem zX4_16 : decode cX4_init 16 = .ok (.anewarray 17, 3) := by decide +kernel
theorem zX4_19 : decode cX4_init 19 = .ok (.putfield 19, 3) := by decide +kernel
theorem zX4_22 : decode cX4_init 22 = .ok (.aload_n 0, 1) := by decide +kernel
theorem zX4_23 : decode cX4_init 23 = .ok (.bipush 60, 2) := by decide +kernel
theorem zX4_25 : decode cX4_init 25 = .ok (.anewarray 23, 3) := by decide +kernel
theorem zX4_28 : decode cX4_init 28 = .ok (.putfield 25, 3) := by decide +kernel
theorem zX4_31 : decode cX4_init 31 = .ok (.aload_n 0, 1) := by decide +kernel
theorem zX4_32 : decode cX4_init 32 = .ok (.bipush 60, 2) := by decide +kernel
theorem zX4_34 : decode cX4_init 34 = .ok (.newarray .int, 2) := by decide +kernel
theorem zX4_36 : decode cX4_init 36 = .ok (.putfield 29, 3) := by decide +kernel
theorem zX4_39 : decode cX4_init 39 = .ok (.aload_n 0, 1) := by decide +kernel
theorem zX4_40 : decode cX4_init 40 = .ok (.new 33, 3) := by decide +kernel
theorem zX4_43 : decode cX4_init 43 = .ok (.dup, 1) := by decide +kernel
theorem zX4_44 : decode cX4_init 44 = .ok (.invokespecial 35, 3) := by decide +kernel
theorem zX4_47 : decode cX4_init 47 = .ok (.putfield 36, 3) := by decide +kernel
theorem zX4_50 : decode cX4_init 50 = .ok (.aload_n 0, 1) := by decide +kernel
theorem zX4_51 : decode cX4_init 51 = .ok (.iconst 5, 1) := by decide +kernel
theorem zX4_52 : decode cX4_init 52 = .ok (.putfield 40, 3) := by decide +kernel
theorem zX4_55 : decode cX4_init 55 = .ok (.aload_n 0, 1) := by decide +kernel
theorem zX4_56 : decode cX4_init 56 = .ok (.iconst 1, 1) := by decide +kernel
theorem zX4_57 : decode cX4_init 57 = .ok (.putfield 44, 3) := by decide +kernel
theorem zX4_60 : decode cX4_init 60 = .ok (.iconst 0, 1) := by decide +kernel
theorem zX4_61 : decode cX4_init 61 = .ok (.istore_n 1, 1) := by decide +kernel
theorem zX4_105 : decode cX4_init 105 = .ok (.iload_n 1, 1) := by decide +kernel
theorem zX4_106 : decode cX4_init 106 = .ok (.aload_n 0, 1) := by decide +kernel
theorem zX4_107 : decode cX4_init 107 = .ok (.getfield 25, 3) := by decide +kernel
theorem zX4_110 : decode cX4_init 110 = .ok (.arraylength, 1) := by decide +kernel
theorem zX4_111 : decode cX4_init 111 = .ok (.if_icmp .ge 22, 3) := by decide +kernel
theorem zX4_133 : decode cX4_init 133 = .ok (.return_, 1) := by decide +kernel
theorem zX4_114 : decode cX4_init 114 = .ok (.aload_n 0, 1) := by decide +kernel
theorem zX4_115 : decode cX4_init 115 = .ok (.getfield 25, 3) := by decide +kernel
theorem zX4_118 : decode cX4_init 118 = .ok (.iload_n 1, 1) := by decide +kernel
theorem zX4_119 : decode cX4_init 119 = .ok (.new 23, 3) := by decide +kernel
theorem zX4_122 : decode cX4_init 122 = .ok (.dup, 1) := by decide +kernel
theorem zX4_123 : decode cX4_init 123 = .ok (.invokespecial 49, 3) := by decide +kernel
theorem zX4_126 : decode cX4_init 126 = .ok (.aastore, 1) := by decide +kernel
theorem zX4_127 : decode cX4_init 127 = .ok (.iinc 1 1, 3) := by decide +kernel
theorem zX4_130 : decode cX4_init 130 = .ok (.goto (-25), 3) := by decide +kernel
theorem zX4_62 : decode cX4_init 62 = .ok (.iload_n 1, 1) := by decide +kernel
theorem zX4_63 : decode cX4_init 63 = .ok (.aload_n 0, 1) := by decide +kernel
theorem zX4_64 : decode cX4_init 64 = .ok (.getfield 11, 3) := by decide +kernel
theorem zX4_67 : decode cX4_init 67 = .ok (.arraylength, 1) := by decide +kernel
theorem zX4_68 : decode cX4_init 68 = .ok (.if_icmp .ge 35, 3) := by decide +kernel
theorem zX4_103 : decode cX4_init 103 = .ok (.iconst 0, 1) := by decide +kernel
theorem zX4_104 : decode cX4_init 104 = .ok (.istore_n 1, 1) := by decide +kernel
theorem zX4_71 : decode cX4_init 71 = .ok (.aload_n 0, 1) := by decide +kernel
theorem zX4_72 : decode cX4_init 72 = .ok (.getfield 11, 3) := by decide +kernel
theorem zX4_75 : decode cX4_init 75 = .ok (.iload_n 1, 1) := by decide +kernel
theorem zX4_76 : decode cX4_init 76 = .ok (.new 9, 3) := by decide +kernel
theorem zX4_79 : decode cX4_init 79 = .ok (.dup, 1) := by decide +kernel
theorem zX4_80 : decode cX4_init 80 = .ok (.invokespecial 47, 3) := by decide +kernel
theorem zX4_83 : decode cX4_init 83 = .ok (.aastore, 1) := by decide +kernel
theorem zX4_84 : decode cX4_init 84 = .ok (.aload_n 0, 1) := by decide +kernel
theorem zX4_85 : decode cX4_init 85 = .ok (.getfield 19, 3) := by decide +kernel
theorem zX4_88 : decode cX4_init 88 = .ok (.iload_n 1, 1) := by decide +kernel
theorem zX4_89 : decode cX4_init 89 = .ok (.new 17, 3) := by decide +kernel
theorem zX4_92 : decode cX4_init 92 = .ok (.dup, 1) := by decide +kernel
theorem zX4_93 : decode cX4_init 93 = .ok (.invokespecial 48, 3) := by decide +kernel
theorem zX4_96 : decode cX4_init 96 = .ok (.aastore, 1) := by decide +kernel
theorem zX4_97 : decode cX4_init 97 = .ok (.iinc 1 1, 3) := by decide +kernel
theorem zX4_100 : decode cX4_init 100 = .ok (.goto (-38), 3) := by decide +kernel
theorem loop_X4b {p : Program} {l : Launch} {e : Env} {s : State} {m : MethodId} {args : Array Value} {below : List Frame} {meth : Method} {c : Code} {G : Gd} {ρ : Nat → Nat} {B a : Nat} (X : MG p s m args meth c cX4_init 2 RX4 G ρ B a) (hret : meth.sig.returnType = none) (ha : (KD a).1 = 3) (hlast : a + 106 ≤ 715) : ∀ g k, k + g = 60 → LG p l e rmK4 s m args below meth c (MQ below (fun _ st o t => o = .returned none ∧ GW G ρ B a (a + 107 - 1) [] t.heap ∧ va_F (fun q => B + a ≤ q) st t) args s 106 894 (fun q => B + a ≤ q)) G ρ B a 2 (46 + k) (474 + 7 * k) 105 [(1, .int (nI k)), (0, .ref a)] [] (a + 46 + k) (L4 G ρ a 12 k) := by
  have hpos := X.ha
  have hρ := X.hρ
  intro g
  induction g with
  | zero =>
    intro k hk
    have hk9 : k = 60 := by omega
    subst hk9
    refine G_iload_n X zX4_105 rfl 0 rfl ?_
    refine G_aload_n X zX4_106 rfl 1 rfl ?_
    refine G_getR X (b := a + 3) inX4 rfl 2 (by decide) tw_401 rfl rfl (by omega) zX4_107 ?_
    refine G_alenR X (t0 := 4) (v := nI 60) rfl 3 rfl (by omega) rfl zX4_110 ?_
    refine G_icmp_ge X zX4_111 rfl (fun _ => ?_) (fun q => absurd (Int32.le_refl _) q)
    exact G_ret X hret zX4_133 (by omega) (endc (fun H hH => by rw [ceo_3 ha]; exact hH) (endc (fun H hH => by
      unfold CE
      rw [cell_refs (kf_3_0 ha) (by decide) (by decide) (by decide)]
      refine at_refs (fun i hi => ?_) H hH
      unfold fK
      rw [if_pos hi, ra_22 (kf_3_0 ha)]
      unfold rO
      rw [if_neg (by omega)]
      try exact congrArg (fun z => some (ρ z)) (by omega)) (endc (fun H hH => by
      unfold CE
      rw [cell_refs (kf_3_1 ha) (by decide) (by decide) (by decide)]
      refine at_refs (fun i hi => ?_) H hH
      unfold fK
      rw [if_pos hi, ra_23 (kf_3_1 ha)]
      unfold rO
      rw [if_neg (by omega)]
      try exact congrArg (fun z => some (ρ z)) (by omega)) (endc (fun H hH => by
      unfold CE
      rw [cell_refs (kf_3_2 ha) (by decide) (by decide) (by decide)]
      refine at_refs (fun i hi => ?_) H hH
      unfold fK
      rw [if_pos hi, ra_24 (kf_3_2 ha)]
      unfold rO
      rw [if_neg (by omega)]
      try exact congrArg (fun z => some (ρ z)) (by omega)) end0))))
  | succ g ih =>
    intro k hk
    refine G_iload_n X zX4_105 rfl 0 rfl ?_
    refine G_aload_n X zX4_106 rfl 1 rfl ?_
    refine G_getR X (b := a + 3) inX4 rfl 2 (by decide) tw_401 rfl rfl (by omega) zX4_107 ?_
    refine G_alenR X (t0 := 4) (v := nI 60) rfl 3 rfl (by omega) rfl zX4_110 ?_
    refine G_icmp_ge X zX4_111 rfl (fun q => ?_) (fun _ => ?_)
    · rw [nI_leI (by omega) (by omega)] at q
      omega
    · refine G_aload_n X zX4_114 rfl 1 rfl ?_
      refine G_getR X (b := a + 3) inX4 rfl 2 (by decide) tw_401 rfl rfl (by omega) zX4_115 ?_
      refine G_iload_n X zX4_118 rfl 0 rfl ?_
      have hK2 : (KD (a + 46 + k + 1)).1 = 1 := by
        have h := ka_24 (kf_3_2 ha) (i := k) (by omega)
        rw [show a + 3 + 44 + k = a + 46 + k + 1 by omega] at h
        exact h
      refine G_newC X (fs := [.int 0, .int 0, .int 0, .int 0, .int 0, .int 0, .int 0]) inX2 tyX2_ok rfl bl_1 tw_253 tw_349 tw_82 rfl rfl (Or.inr (List.mem_of_getElem? (i := 7) rfl)) tw_351 tw_352 (by decide +kernel) ((k_X2 hρ hK2)) rfl rfl (by decide) zX4_119 zX4_122 zX4_123 (by decide) (by omega) (by show a + 4 ≤ _; omega) ⟨by show _ ≤ 106; omega, by show _ ≤ 894; omega⟩ (Nat.le_of_ble_eq_true rfl) ?_
      refine G_aast X (t0 := 4) (cA := G.2 4) (f' := fK ρ (a + 47) 1 (k + 1)) rfl (rfl : vwCl[1]? = some (RX2, TX2, 7)) 3 rfl (by omega) (by omega) (by show a + 4 ≤ _; omega) (by omega) (ceo_1 hK2) (vinI (by omega) (by decide)) (fK_S (by omega) (by omega)) zX4_126 ?_
      refine G_iinc X zX4_127 0 rfl (nI_1i k) (by decide) (lv2 := [(1, .int (nI (k + 1))), (0, .ref a)]) rfl ?_
      refine G_goto X zX4_130 (tgt := 105) rfl ?_
      exact LG.widen (by omega) (by omega) (LG.to (L' := L4 G ρ a 12 (k + 1)) (by omega) rfl (ih (k + 1) (by omega)))
theorem loop_X4a {p : Program} {l : Launch} {e : Env} {s : State} {m : MethodId} {args : Array Value} {below : List Frame} {meth : Method} {c : Code} {G : Gd} {ρ : Nat → Nat} {B a : Nat} (X : MG p s m args meth c cX4_init 2 RX4 G ρ B a) (hret : meth.sig.returnType = none) (ha : (KD a).1 = 3) (hlast : a + 106 ≤ 715) : ∀ g k, k + g = 12 → LG p l e rmK4 s m args below meth c (MQ below (fun _ st o t => o = .returned none ∧ GW G ρ B a (a + 107 - 1) [] t.heap ∧ va_F (fun q => B + a ≤ q) st t) args s 106 894 (fun q => B + a ≤ q)) G ρ B a 2 (22 + 2 * k) (354 + 10 * k) 62 [(1, .int (nI k)), (0, .ref a)] [] (a + 22 + 2 * k) (L4 G ρ a k 0) := by
  have hpos := X.ha
  have hρ := X.hρ
  intro g
  induction g with
  | zero =>
    intro k hk
    have hk9 : k = 12 := by omega
    subst hk9
    refine G_iload_n X zX4_62 rfl 0 rfl ?_
    refine G_aload_n X zX4_63 rfl 1 rfl ?_
    refine G_getR X (b := a + 1) inX4 rfl 0 (by decide) tw_395 rfl rfl (by omega) zX4_64 ?_
    refine G_alenR X (t0 := 2) (v := nI 12) rfl 1 rfl (by omega) rfl zX4_67 ?_
    refine G_icmp_ge X zX4_68 rfl (fun _ => ?_) (fun q => absurd (Int32.le_refl _) q)
    refine G_iconst X (x := nI 0) zX4_103 (by decide +kernel) ?_
    refine G_istore_n X zX4_104 rfl (by decide) (lv2 := [(1, .int (nI 0)), (0, .ref a)]) rfl ?_
    exact loop_X4b X hret ha hlast 60 0 rfl
  | succ g ih =>
    intro k hk
    refine G_iload_n X zX4_62 rfl 0 rfl ?_
    refine G_aload_n X zX4_63 rfl 1 rfl ?_
    refine G_getR X (b := a + 1) inX4 rfl 0 (by decide) tw_395 rfl rfl (by omega) zX4_64 ?_
    refine G_alenR X (t0 := 2) (v := nI 12) rfl 1 rfl (by omega) rfl zX4_67 ?_
    refine G_icmp_ge X zX4_68 rfl (fun q => ?_) (fun _ => ?_)
    · rw [nI_leI (by omega) (by omega)] at q
      omega
    · refine G_aload_n X zX4_71 rfl 1 rfl ?_
      refine G_getR X (b := a + 1) inX4 rfl 0 (by decide) tw_395 rfl rfl (by omega) zX4_72 ?_
      refine G_iload_n X zX4_75 rfl 0 rfl ?_
      have hK1 : (KD (a + 22 + 2 * k + 1)).1 = 0 := by
        have h := ka_22 (kf_3_0 ha) (i := k) (by omega)
        rw [show a + 1 + 22 + 2 * k = a + 22 + 2 * k + 1 by omega] at h
        exact h
      have hK7 : (KD (a + 22 + 2 * k + 1 + 1)).1 = 6 := by
        have h := ka_23 (kf_3_1 ha) (i := k) (by omega)
        rw [show a + 2 + 22 + 2 * k = a + 22 + 2 * k + 1 + 1 by omega] at h
        exact h
      refine G_newC X (fs := [.int 0, .int 0, .int 0, .int 0, .long 0, .long 0]) inX1 tyX1_ok rfl bl_0 tw_249 tw_285 tw_80 rfl rfl (Or.inr (List.mem_of_getElem? (i := 5) rfl)) tw_287 tw_288 (by decide +kernel) ((k_X1 hρ hK1)) rfl rfl (by decide) zX4_76 zX4_79 zX4_80 (by decide) (by omega) (by show a + 4 ≤ _; omega) ⟨by show _ ≤ 106; omega, by show _ ≤ 894; omega⟩ (Nat.le_of_ble_eq_true rfl) ?_
      refine G_aast X (t0 := 2) (cA := G.2 2) (f' := fK ρ (a + 23) 2 (k + 1)) rfl (rfl : vwCl[0]? = some (RX1, TX1, 6)) 1 rfl (by omega) (by omega) (by show a + 4 ≤ _; omega) (by omega) (ceo_0 hK1) (vinI (by omega) (by decide)) (fK_S (by omega) (by omega)) zX4_83 ?_
      refine LG.to (L' := [.inr (3, [.ref (ρ (a + 1)), .ref (ρ (a + 2)), .ref (ρ (a + 3)), .ref (ρ (a + 4)), .ref (ρ (a + 5)), .int 0, .int 0, .int 0, .int 0, .int 5, .int 0, .int 0, .int 0, .int 1]), .inl (G.2 2, 12, .inr (.inr (.inr (.inr (fK ρ (a + 23) 2 (k + 1)))))), .inl (G.2 3, 12, .inr (.inr (.inr (.inr (fK ρ (a + 24) 2 k))))), .inl (G.2 4, 60, .inr (.inr (.inr (.inr (fK ρ (a + 47) 1 0)))))]) rfl rfl ?_
      refine G_aload_n X zX4_84 rfl 1 rfl ?_
      refine G_getR X (b := a + 2) inX4 rfl 1 (by decide) tw_398 rfl rfl (by omega) zX4_85 ?_
      refine G_iload_n X zX4_88 rfl 0 rfl ?_
      refine G_newC X (fs := [.int 0, .int 0, .int 0, .int 0]) inX7 tyX7_ok rfl bl_6 tw_251 tw_320 tw_81 rfl rfl (Or.inr (List.mem_of_getElem? (i := 6) rfl)) tw_322 tw_323 (by decide +kernel) ((k_X7 hρ hK7)) rfl rfl (by decide) zX4_89 zX4_92 zX4_93 (by decide) (by omega) (by show a + 4 ≤ _; omega) ⟨by show _ ≤ 106; omega, by show _ ≤ 894; omega⟩ (Nat.le_of_ble_eq_true rfl) ?_
      refine G_aast X (t0 := 3) (cA := G.2 3) (f' := fK ρ (a + 24) 2 (k + 1)) rfl (rfl : vwCl[6]? = some (RX7, TX7, 4)) 2 rfl (by omega) (by omega) (by show a + 4 ≤ _; omega) (by omega) (ceo_6 hK7) (vinI (by omega) (by decide)) (fK_S (by omega) (by omega)) zX4_96 ?_
      refine G_iinc X zX4_97 0 rfl (nI_1i k) (by decide) (lv2 := [(1, .int (nI (k + 1))), (0, .ref a)]) rfl ?_
      refine G_goto X zX4_100 (tgt := 62) rfl ?_
      exact LG.widen (by omega) (by omega) (LG.to (L' := L4 G ρ a (k + 1) 0) (by omega) rfl (ih (k + 1) (by omega)))
theorem k_X4 {l : Launch} {G : Gd} {ρ : Nat → Nat} {B a : Nat} (hρ : ∀ x, 1 ≤ x → x ≤ 715 → ρ x = B + x) (ha : (KD a).1 = 3) : CTI l yX4_init (.code yX4_init cX4_init 2 none) rmK4 106 894 G ρ B a (.inr (3, [.null, .null, .null, .null, .null, .int 0, .int 0, .int 0, .int 0, .int 0, .int 0, .int 0, .int 0, .int 0])) 107 := by
  have hlast : a + 106 ≤ 715 := by
    have h := (KD_in (a := a + 3 + 44 + 59) (by rw [ka_24 (kf_3_2 ha) (i := 59) (by decide)]; decide)).2
    omega
  have hpos : 1 ≤ a := (KD_in (a := a) (by omega)).1
  refine CTI_of (own := RX4) (by decide +kernel) rfl hρ hpos (by decide) ?_
  intro p e s m args below meth c X hret hnm
  have hini : meth.name = "<init>" := hnm
  refine G_aload_n X zX4_0 rfl 0 rfl ?_
  refine G_objI X zX4_1 tw_248 (Nat.le_of_ble_eq_true rfl) (Nat.le_of_ble_eq_true rfl) ?_
  refine G_aload_n X zX4_4 rfl 0 rfl ?_
  refine G_bipush X (x := 12) zX4_5 (by decide +kernel) ?_
  refine G_anew X (C := RX1) (t0 := 2) (cA := G.2 2) (N := 12) (L' := [.inr (3, [.null, .null, .null, .null, .null, .int 0, .int 0, .int 0, .int 0, .int 0, .int 0, .int 0, .int 0, .int 0]), .inl (G.2 2, 12, .inr (.inr (.inr (.inr (fun _ => none)))))]) tw_249 X.hAO.1 rfl (by decide +kernel) (by decide +kernel) (by decide) ⟨Nat.le_of_ble_eq_true rfl, Nat.le_of_ble_eq_true rfl⟩ (by omega) (by omega) (fun x h1 h2 => EL_app (L := [.inr (3, [.null, .null, .null, .null, .null, .int 0, .int 0, .int 0, .int 0, .int 0, .int 0, .int 0, .int 0, .int 0])]) h1 h2 (by show a + 1 = _; omega)) (EL_end (L := [.inr (3, [.null, .null, .null, .null, .null, .int 0, .int 0, .int 0, .int 0, .int 0, .int 0, .int 0, .int 0, .int 0])]) (by show a + 1 = _; omega)) zX4_7 ?_
  refine G_putF X inX4 tyX4_ok nmX4 rfl 0 (by decide) tw_395 rfl rfl hini rfl (tyX4_ok 0 (by decide)) rfl rfl (by show 0 < 14; decide) (fs' := [.ref (ρ (a + 1)), .null, .null, .null, .null, .int 0, .int 0, .int 0, .int 0, .int 0, .int 0, .int 0, .int 0, .int 0]) rfl (by omega) (by omega) zX4_10 ?_
  refine G_aload_n X zX4_13 rfl 0 rfl ?_
  refine G_bipush X (x := 12) zX4_14 (by decide +kernel) ?_
  refine G_anew X (C := RX7) (t0 := 3) (cA := G.2 3) (N := 12) (L' := [.inr (3, [.ref (ρ (a + 1)), .null, .null, .null, .null, .int 0, .int 0, .int 0, .int 0, .int 0, .int 0, .int 0, .int 0, .int 0]), .inl (G.2 2, 12, .inr (.inr (.inr (.inr (fun _ => none))))), .inl (G.2 3, 12, .inr (.inr (.inr (.inr (fun _ => none)))))]) tw_251 X.hAO.2.1 rfl (by decide +kernel) (by decide +kernel) (by decide) ⟨Nat.le_of_ble_eq_true rfl, Nat.le_of_ble_eq_true rfl⟩ (by omega) (by omega) (fun x h1 h2 => EL_app (L := [.inr (3, [.ref (ρ (a + 1)), .null, .null, .null, .null, .int 0, .int 0, .int 0, .int 0, .int 0, .int 0, .int 0, .int 0, .int 0]), .inl (G.2 2, 12, .inr (.inr (.inr (.inr (fun _ => none)))))]) h1 h2 (by show a + 2 = _; omega)) (EL_end (L := [.inr (3, [.ref (ρ (a + 1)), .null, .null, .null, .null, .int 0, .int 0, .int 0, .int 0, .int 0, .int 0, .int 0, .int 0, .int 0]), .inl (G.2 2, 12, .inr (.inr (.inr (.inr (fun _ => none)))))]) (by show a + 2 = _; omega)) zX4_16 ?_
  refine G_putF X inX4 tyX4_ok nmX4 rfl 1 (by decide) tw_398 rfl rfl hini rfl (tyX4_ok 1 (by decide)) rfl rfl (by show 1 < 14; decide) (fs' := [.ref (ρ (a + 1)), .ref (ρ (a + 2)), .null, .null, .null, .int 0, .int 0, .int 0, .int 0, .int 0, .int 0, .int 0, .int 0, .int 0]) rfl (by omega) (by omega) zX4_19 ?_
  refine G_aload_n X zX4_22 rfl 0 rfl ?_
  refine G_bipush X (x := 60) zX4_23 (by decide +kernel) ?_
  refine G_anew X (C := RX2) (t0 := 4) (cA := G.2 4) (N := 60) (L' := [.inr (3, [.ref (ρ (a + 1)), .ref (ρ (a + 2)), .null, .null, .null, .int 0, .int 0, .int 0, .int 0, .int 0, .int 0, .int 0, .int 0, .int 0]), .inl (G.2 2, 12, .inr (.inr (.inr (.inr (fun _ => none))))), .inl (G.2 3, 12, .inr (.inr (.inr (.inr (fun _ => none))))), .inl (G.2 4, 60, .inr (.inr (.inr (.inr (fun _ => none)))))]) tw_253 X.hAO.2.2.1 rfl (by decide +kernel) (by decide +kernel) (by decide) ⟨Nat.le_of_ble_eq_true rfl, Nat.le_of_ble_eq_true rfl⟩ (by omega) (by omega) (fun x h1 h2 => EL_app (L := [.inr (3, [.ref (ρ (a + 1)), .ref (ρ (a + 2)), .null, .null, .null, .int 0, .int 0, .int 0, .int 0, .int 0, .int 0, .int 0, .int 0, .int 0]), .inl (G.2 2, 12, .inr (.inr (.inr (.inr (fun _ => none))))), .inl (G.2 3, 12, .inr (.inr (.inr (.inr (fun _ => none)))))]) h1 h2 (by show a + 3 = _; omega)) (EL_end (L := [.inr (3, [.ref (ρ (a + 1)), .ref (ρ (a + 2)), .null, .null, .null, .int 0, .int 0, .int 0, .int 0, .int 0, .int 0, .int 0, .int 0, .int 0]), .inl (G.2 2, 12, .inr (.inr (.inr (.inr (fun _ => none))))), .inl (G.2 3, 12, .inr (.inr (.inr (.inr (fun _ => none)))))]) (by show a + 3 = _; omega)) zX4_25 ?_
  refine G_putF X inX4 tyX4_ok nmX4 rfl 2 (by decide) tw_401 rfl rfl hini rfl (tyX4_ok 2 (by decide)) rfl rfl (by show 2 < 14; decide) (fs' := [.ref (ρ (a + 1)), .ref (ρ (a + 2)), .ref (ρ (a + 3)), .null, .null, .int 0, .int 0, .int 0, .int 0, .int 0, .int 0, .int 0, .int 0, .int 0]) rfl (by omega) (by omega) zX4_28 ?_
  refine G_aload_n X zX4_31 rfl 0 rfl ?_
  refine G_bipush X (x := 60) zX4_32 (by decide +kernel) ?_
  refine G_newaI X (N := 60) (L' := [.inr (3, [.ref (ρ (a + 1)), .ref (ρ (a + 2)), .ref (ρ (a + 3)), .null, .null, .int 0, .int 0, .int 0, .int 0, .int 0, .int 0, .int 0, .int 0, .int 0]), .inl (G.2 2, 12, .inr (.inr (.inr (.inr (fun _ => none))))), .inl (G.2 3, 12, .inr (.inr (.inr (.inr (fun _ => none))))), .inl (G.2 4, 60, .inr (.inr (.inr (.inr (fun _ => none)))))]) tw_125 (by decide +kernel) (by decide +kernel) (by decide) ⟨Nat.le_of_ble_eq_true rfl, Nat.le_of_ble_eq_true rfl⟩ (by omega) (by omega) (fun _ _ _ => rfl) ((EL_ge (by show a + 4 ≤ _; omega)).trans (ce_i (kf_3_3 ha))) zX4_34 ?_
  refine G_putF X inX4 tyX4_ok nmX4 rfl 3 (by decide) tw_404 rfl rfl hini rfl (tyX4_ok 3 (by decide)) rfl rfl (by show 3 < 14; decide) (fs' := [.ref (ρ (a + 1)), .ref (ρ (a + 2)), .ref (ρ (a + 3)), .ref (ρ (a + 4)), .null, .int 0, .int 0, .int 0, .int 0, .int 0, .int 0, .int 0, .int 0, .int 0]) rfl (by omega) (by omega) zX4_36 ?_
  refine G_aload_n X zX4_39 rfl 0 rfl ?_
  refine G_newC X (fs := [.null, .null, .null, .int 0, .null, .null]) inX6 tyX6_ok rfl bl_5 tw_255 tw_256 tw_79 rfl rfl (Or.inr (List.mem_of_getElem? (i := 4) rfl)) tw_258 tw_259 (by decide +kernel) ((k_X6 hρ (kf_3_4 ha))) rfl rfl (by decide) zX4_40 zX4_43 zX4_44 (by decide) (by omega) (by show a + 4 ≤ _; omega) ⟨Nat.le_of_ble_eq_true rfl, Nat.le_of_ble_eq_true rfl⟩ (Nat.le_of_ble_eq_true rfl) ?_
  refine G_putF X inX4 tyX4_ok nmX4 rfl 4 (by decide) tw_407 rfl rfl hini rfl (tyX4_ok 4 (by decide)) rfl rfl (by show 4 < 14; decide) (fs' := [.ref (ρ (a + 1)), .ref (ρ (a + 2)), .ref (ρ (a + 3)), .ref (ρ (a + 4)), .ref (ρ (a + 5)), .int 0, .int 0, .int 0, .int 0, .int 0, .int 0, .int 0, .int 0, .int 0]) rfl (by omega) (by omega) zX4_47 ?_
  refine G_aload_n X zX4_50 rfl 0 rfl ?_
  refine G_iconst X (x := 5) zX4_51 (by decide +kernel) ?_
  refine G_putN X inX4 tyX4_ok nmX4 rfl 9 (by decide) tw_420 rfl rfl (tyX4_ok 9 (by decide)) rfl rfl (by show 9 < 14; decide) (fs' := [.ref (ρ (a + 1)), .ref (ρ (a + 2)), .ref (ρ (a + 3)), .ref (ρ (a + 4)), .ref (ρ (a + 5)), .int 0, .int 0, .int 0, .int 0, .int 5, .int 0, .int 0, .int 0, .int 0]) rfl (by omega) (by omega) zX4_52 ?_
  refine G_aload_n X zX4_55 rfl 0 rfl ?_
  refine G_iconst X (x := 1) zX4_56 (by decide +kernel) ?_
  refine G_putN X inX4 tyX4_ok nmX4 rfl 13 (by decide) tw_429 rfl rfl (tyX4_ok 13 (by decide)) rfl rfl (by show 13 < 14; decide) (fs' := [.ref (ρ (a + 1)), .ref (ρ (a + 2)), .ref (ρ (a + 3)), .ref (ρ (a + 4)), .ref (ρ (a + 5)), .int 0, .int 0, .int 0, .int 0, .int 5, .int 0, .int 0, .int 0, .int 1]) rfl (by omega) (by omega) zX4_57 ?_
  refine G_iconst X (x := nI 0) zX4_60 (by decide +kernel) ?_
  refine G_istore_n X zX4_61 rfl (by decide) (lv2 := [(1, .int (nI 0)), (0, .ref a)]) rfl ?_
  refine LG.to (n' := a + 22 + 2 * 0) (L' := L4 G ρ a 0 0) rfl ?_ ?_
  · unfold L4
    rw [← fK_0, ← fK_0, ← fK_0]
  exact loop_X4a X hret ha hlast 12 0 rfl
theorem zX12_0 : decode cX12_init 0 = .ok (.aload_n 0, 1) := by decide +kernel
theorem zX12_1 : decode cX12_init 1 = .ok (.invokespecial 1, 3) := by decide +kernel
theorem zX12_4 : decode cX12_init 4 = .ok (.aload_n 0, 1) := by decide +kernel
theorem zX12_5 : decode cX12_init 5 = .ok (.new 7, 3) := by decide +kernel
theorem zX12_8 : decode cX12_init 8 = .ok (.dup, 1) := by decide +kernel
theorem zX12_9 : decode cX12_init 9 = .ok (.invokespecial 9, 3) := by decide +kernel
theorem zX12_12 : decode cX12_init 12 = .ok (.putfield 10, 3) := by decide +kernel
theorem zX12_15 : decode cX12_init 15 = .ok (.aload_n 0, 1) := by decide +kernel
theorem zX12_16 : decode cX12_init 16 = .ok (.new 16, 3) := by decide +kernel
theorem zX12_19 : decode cX12_init 19 = .ok (.dup, 1) := by decide +kernel
theorem zX12_20 : decode cX12_init 20 = .ok (.invokespecial 18, 3) := by decide +kernel
theorem zX12_23 : decode cX12_init 23 = .ok (.putfield 19, 3) := by decide +kernel
theorem zX12_26 : decode cX12_init 26 = .ok (.aload_n 0, 1) := by decide +kernel
theorem zX12_27 : decode cX12_init 27 = .ok (.new 23, 3) := by decide +kernel
theorem zX12_30 : decode cX12_init 30 = .ok (.dup, 1) := by decide +kernel
theorem zX12_31 : decode cX12_init 31 = .ok (.invokespecial 25, 3) := by decide +kernel
theorem zX12_34 : decode cX12_init 34 = .ok (.putfield 26, 3) := by decide +kernel
theorem zX12_37 : decode cX12_init 37 = .ok (.aload_n 0, 1) := by decide +kernel
theorem zX12_38 : decode cX12_init 38 = .ok (.new 30, 3) := by decide +kernel
theorem zX12_41 : decode cX12_init 41 = .ok (.dup, 1) := by decide +kernel
theorem zX12_42 : decode cX12_init 42 = .ok (.invokespecial 32, 3) := by decide +kernel
theorem zX12_45 : decode cX12_init 45 = .ok (.putfield 33, 3) := by decide +kernel
theorem zX12_48 : decode cX12_init 48 = .ok (.aload_n 0, 1) := by decide +kernel
theorem zX12_49 : decode cX12_init 49 = .ok (.new 37, 3) := by decide +kernel
theorem zX12_52 : decode cX12_init 52 = .ok (.dup, 1) := by decide +kernel
theorem zX12_53 : decode cX12_init 53 = .ok (.invokespecial 39, 3) := by decide +kernel
theorem zX12_56 : decode cX12_init 56 = .ok (.putfield 40, 3) := by decide +kernel
theorem zX12_59 : decode cX12_init 59 = .ok (.aload_n 0, 1) := by decide +kernel
theorem zX12_60 : decode cX12_init 60 = .ok (.new 37, 3) := by decide +kernel
theorem zX12_63 : decode cX12_init 63 = .ok (.dup, 1) := by decide +kernel
theorem zX12_64 : decode cX12_init 64 = .ok (.invokespecial 39, 3) := by decide +kernel
theorem zX12_67 : decode cX12_init 67 = .ok (.putfield 44, 3) := by decide +kernel
theorem zX12_70 : decode cX12_init 70 = .ok (.aload_n 0, 1) := by decide +kernel
theorem zX12_71 : decode cX12_init 71 = .ok (.new 37, 3) := by decide +kernel
theorem zX12_74 : decode cX12_init 74 = .ok (.dup, 1) := by decide +kernel
theorem zX12_75 : decode cX12_init 75 = .ok (.invokespecial 39, 3) := by decide +kernel
theorem zX12_78 : decode cX12_init 78 = .ok (.putfield 47, 3) := by decide +kernel
theorem zX12_81 : decode cX12_init 81 = .ok (.return_, 1) := by decide +kernel
theorem k_X12 {l : Launch} {G : Gd} {ρ : Nat → Nat} {B a : Nat} (hρ : ∀ x, 1 ≤ x → x ≤ 715 → ρ x = B + x) (ha : (KD a).1 = 11) : CTI l yX12_init (.code yX12_init cX12_init 1 none) rmK12 701 55211 G ρ B a (.inr (11, [.null, .null, .null, .null, .null, .null, .null, .int 0])) 702 := by
  have hlast : a + 701 ≤ 715 := by
    have h := (KD_in (a := a + 595 + 3 + 44 + 59) (by rw [ka_24 (kf_3_2 (kf_11_6 ha)) (i := 59) (by decide)]; decide)).2
    omega
  have hpos : 1 ≤ a := (KD_in (a := a) (by omega)).1
  refine CTI_of (own := RX12) (by decide +kernel) rfl hρ hpos (by decide) ?_
  intro p e s m args below meth c X hret hnm
  have hini : meth.name = "<init>" := hnm
  refine G_aload_n X zX12_0 rfl 0 rfl ?_
  refine G_objI X zX12_1 tw_106 (Nat.le_of_ble_eq_true rfl) (Nat.le_of_ble_eq_true rfl) ?_
  refine G_aload_n X zX12_4 rfl 0 rfl ?_
  refine G_newC X (fs := [.null, .int 0]) inX9 tyX9_ok rfl bl_8 tw_109 tw_110 tw_73 rfl rfl (Or.inr (List.mem_of_getElem? (i := 0) rfl)) tw_112 tw_113 (by decide +kernel) ((k_X9 hρ (kf_11_0 ha))) rfl rfl (by decide) zX12_5 zX12_8 zX12_9 (by decide) (by omega) (by show a + 1 ≤ _; omega) ⟨Nat.le_of_ble_eq_true rfl, Nat.le_of_ble_eq_true rfl⟩ (Nat.le_of_ble_eq_true rfl) ?_
  refine G_putF X inX12 tyX12_ok nmX12 rfl 0 (by decide) tw_460 rfl rfl hini rfl (tyX12_ok 0 (by decide)) rfl rfl (by show 0 < 8; decide) (fs' := [.ref (ρ (a + 1)), .null, .null, .null, .null, .null, .null, .int 0]) rfl (by omega) (by omega) zX12_12 ?_
  refine G_aload_n X zX12_15 rfl 0 rfl ?_
  refine G_newC X (fs := [.null, .null, .null, .int 0, .int 0, .int 0, .int 0, .int 0]) inX10 tyX10_ok rfl bl_9 tw_126 tw_127 tw_74 rfl rfl (Or.inr (List.mem_of_getElem? (i := 1) rfl)) tw_129 tw_130 (by decide +kernel) ((k_X10 hρ (kf_11_1 ha))) rfl rfl (by decide) zX12_16 zX12_19 zX12_20 (by decide) (by omega) (by show a + 1 ≤ _; omega) ⟨Nat.le_of_ble_eq_true rfl, Nat.le_of_ble_eq_true rfl⟩ (Nat.le_of_ble_eq_true rfl) ?_
  refine G_putF X inX12 tyX12_ok nmX12 rfl 1 (by decide) tw_461 rfl rfl hini rfl (tyX12_ok 1 (by decide)) rfl rfl (by show 1 < 8; decide) (fs' := [.ref (ρ (a + 1)), .ref (ρ (a + 3)), .null, .null, .null, .null, .null, .int 0]) rfl (by omega) (by omega) zX12_23 ?_
  refine G_aload_n X zX12_26 rfl 0 rfl ?_
  refine G_newC X (fs := [.null, .null]) inX3 tyX3_ok rfl bl_2 tw_161 tw_162 tw_75 rfl rfl (Or.inl tw_163) tw_164 tw_165 (by decide +kernel) ((k_X3 hρ (kf_11_2 ha))) rfl rfl (by decide) zX12_27 zX12_30 zX12_31 (by decide) (by omega) (by show a + 1 ≤ _; omega) ⟨Nat.le_of_ble_eq_true rfl, Nat.le_of_ble_eq_true rfl⟩ (Nat.le_of_ble_eq_true rfl) ?_
  refine G_putF X inX12 tyX12_ok nmX12 rfl 2 (by decide) tw_462 rfl rfl hini rfl (tyX12_ok 2 (by decide)) rfl rfl (by show 2 < 8; decide) (fs' := [.ref (ρ (a + 1)), .ref (ρ (a + 3)), .ref (ρ (a + 7)), .null, .null, .null, .null, .int 0]) rfl (by omega) (by omega) zX12_34 ?_
  refine G_aload_n X zX12_37 rfl 0 rfl ?_
  refine G_newC X (fs := [.null, .null, .null, .null, .int 0, .int 0]) inX8 tyX8_ok rfl bl_7 tw_215 tw_216 tw_77 rfl rfl (Or.inr (List.mem_of_getElem? (i := 2) rfl)) tw_218 tw_219 (by decide +kernel) ((k_X8 hρ (kf_11_3 ha))) rfl rfl (by decide) zX12_38 zX12_41 zX12_42 (by decide) (by omega) (by show a + 1 ≤ _; omega) ⟨Nat.le_of_ble_eq_true rfl, Nat.le_of_ble_eq_true rfl⟩ (Nat.le_of_ble_eq_true rfl) ?_
  refine G_putF X inX12 tyX12_ok nmX12 rfl 3 (by decide) tw_463 rfl rfl hini rfl (tyX12_ok 3 (by decide)) rfl rfl (by show 3 < 8; decide) (fs' := [.ref (ρ (a + 1)), .ref (ρ (a + 3)), .ref (ρ (a + 7)), .ref (ρ (a + 376)), .null, .null, .null, .int 0]) rfl (by omega) (by omega) zX12_45 ?_
  refine G_aload_n X zX12_48 rfl 0 rfl ?_
  refine G_newC X (fs := [.null, .null, .null, .null, .null, .int 0, .int 0, .int 0, .int 0, .int 0, .int 0, .int 0, .int 0, .int 0]) inX4 tyX4_ok rfl bl_3 tw_243 tw_244 tw_78 rfl rfl (Or.inl tw_245) tw_246 tw_247 (by decide +kernel) ((k_X4 hρ (kf_11_4 ha))) rfl rfl (by decide) zX12_49 zX12_52 zX12_53 (by decide) (by omega) (by show a + 1 ≤ _; omega) ⟨Nat.le_of_ble_eq_true rfl, Nat.le_of_ble_eq_true rfl⟩ (Nat.le_of_ble_eq_true rfl) ?_
  refine G_putF X inX12 tyX12_ok nmX12 rfl 4 (by decide) tw_464 rfl rfl hini rfl (tyX12_ok 4 (by decide)) rfl rfl (by show 4 < 8; decide) (fs' := [.ref (ρ (a + 1)), .ref (ρ (a + 3)), .ref (ρ (a + 7)), .ref (ρ (a + 376)), .ref (ρ (a + 381)), .null, .null, .int 0]) rfl (by omega) (by omega) zX12_56 ?_
  refine G_aload_n X zX12_59 rfl 0 rfl ?_
  refine G_newC X (fs := [.null, .null, .null, .null, .null, .int 0, .int 0, .int 0, .int 0, .int 0, .int 0, .int 0, .int 0, .int 0]) inX4 tyX4_ok rfl bl_3 tw_243 tw_244 tw_78 rfl rfl (Or.inl tw_245) tw_246 tw_247 (by decide +kernel) ((k_X4 hρ (kf_11_5 ha))) rfl rfl (by decide) zX12_60 zX12_63 zX12_64 (by decide) (by omega) (by show a + 1 ≤ _; omega) ⟨Nat.le_of_ble_eq_true rfl, Nat.le_of_ble_eq_true rfl⟩ (Nat.le_of_ble_eq_true rfl) ?_
  refine G_putF X inX12 tyX12_ok nmX12 rfl 5 (by decide) tw_465 rfl rfl hini rfl (tyX12_ok 5 (by decide)) rfl rfl (by show 5 < 8; decide) (fs' := [.ref (ρ (a + 1)), .ref (ρ (a + 3)), .ref (ρ (a + 7)), .ref (ρ (a + 376)), .ref (ρ (a + 381)), .ref (ρ (a + 488)), .null, .int 0]) rfl (by omega) (by omega) zX12_67 ?_
  refine G_aload_n X zX12_70 rfl 0 rfl ?_
  refine G_newC X (fs := [.null, .null, .null, .null, .null, .int 0, .int 0, .int 0, .int 0, .int 0, .int 0, .int 0, .int 0, .int 0]) inX4 tyX4_ok rfl bl_3 tw_243 tw_244 tw_78 rfl rfl (Or.inl tw_245) tw_246 tw_247 (by decide +kernel) ((k_X4 hρ (kf_11_6 ha))) rfl rfl (by decide) zX12_71 zX12_74 zX12_75 (by decide) (by omega) (by show a + 1 ≤ _; omega) ⟨Nat.le_of_ble_eq_true rfl, Nat.le_of_ble_eq_true rfl⟩ (Nat.le_of_ble_eq_true rfl) ?_
  refine G_putF X inX12 tyX12_ok nmX12 rfl 6 (by decide) tw_466 rfl rfl hini rfl (tyX12_ok 6 (by decide)) rfl rfl (by show 6 < 8; decide) (fs' := [.ref (ρ (a + 1)), .ref (ρ (a + 3)), .ref (ρ (a + 7)), .ref (ρ (a + 376)), .ref (ρ (a + 381)), .ref (ρ (a + 488)), .ref (ρ (a + 595)), .int 0]) rfl (by omega) (by omega) zX12_78 ?_
  exact G_ret X hret zX12_81 (by omega) (end1 (ceo_11 ha))
