/-! ===== the reference's sums and comparisons ===== -/
def evR (mm : MM) (w : Fin 32) : Int32 := if 19 ≤ w.val ∧ w.val < 25 then mm 5 (w.val - 19) else b2 (frostM (mm 1))
theorem evR_st {mm : MM} {a e d : Int32} : evR (stR mm a e d) = evR mm := by
  funext w
  unfold evR
  have h1 : stR mm a e d 1 = mm 1 := by
    funext i
    exact stR_o (by omega)
  rw [h1, stR_o (by omega)]
theorem wP_iff : ∀ w : Fin 32, (¬ wP w = false) ↔ (w = 19 ∨ w = 20 ∨ w = 21 ∨ w = 22 ∨ w = 23 ∨ w = 24 ∨ w = 30) := by decide +kernel
theorem wP_val : ∀ w : Fin 32, (¬ wP w = false) → w ≠ 14 ∧ wJ w = false := by decide +kernel
/-- s' goes on from s by the steps l, and no more of them than tokens were taken -/
def PSok (s s' : PS) (l : SL) : Prop := s'.2 = s.2 ++ l ∧ s'.2.length + s.1.1 ≤ s.2.length + s'.1.1
section RE
variable {mm : MM} {b : Nat → Int32} {len : Nat} {d : Int32} {k : TK}
theorem tV_in (hT : TKL k (tks b len 0) len) {p t : Nat} (h : Sx k b len p t) (ht : t < tN k) (hw : tW k t = 30) : 0 ≤ (tV k t).toInt ∧ (tV k t).toInt ≤ 999 := by
  obtain ⟨s1, s2, s3⟩ := Sx_skp hT h
  have c := s2.mpr ht
  obtain ⟨a1, a2, a3⟩ := s3 c
  generalize skp b len p = q at *
  have hb := bhd_le (b := b) (len := len) c
  rw [hw] at a1
  cases hd : isD (b q)
  · rw [tok_n hd] at a1
    exact absurd a1.symm (wOf_n30 hb.1 31 0 rfl)
  · unfold tok1 at a1 a2
    rw [if_pos hd] at a1 a2
    by_cases c3 : bhd b len q - q ≤ 3
    · rw [if_pos c3] at a2
      rw [a2]
      exact vl_3 c3 (fun u h1 h2 => (bhd_D (len := len) hd).1 u h1 (by omega))
    · rw [if_neg c3] at a1
      exact absurd a1 (show ¬ ((30 : Fin 32) = 31) by decide)
theorem r_part131 {p' : Nat} {s0 : Nat} (hs : s0 < 6) {post : Int32 → MM → Prop} (h : post (mm 5 s0) (stR mm (nI p') (-1) d)) : B_X13_part_131 post (nI s0) (stR mm (nI p') (-1) d) := by
  unfold B_X13_part_131
  rw [nI_clamp (by omega), stR_o (by omega)]
  exact ⟨fun _ => ⟨vp_in_nI hs (by omega), h⟩, fun z => absurd z (nI_m1 (by omega))⟩
theorem r_part52 (hB : BY mm b len) (hT : TKL k (tks b len 0) len) {p t : Nat} {nu : Int32} (h : Sx k b len p t) (h30 : ¬ (t < tN k ∧ tW k t = 30)) {post : Int32 → MM → Prop}
    (h1 : pIsP k (t, -1, nu) = true → ∀ p', Sx k b len p' (t + 1) → post (pv (evR mm) (tW k t, tV k t)) (stR mm (nI p') (-1) d))
    (h0 : pIsP k (t, -1, nu) = false → ∀ p' v, p' ≤ len → post v (stR mm (nI p') (fV k t) d)) : B_X13_part_52 post (stR mm (nI p) (-1) d) := by
  unfold B_X13_part_52
  have yes : ∀ (w i : Nat) (p' : Nat), w < 6 → w = i → pIs k (wAt (18 + w)) (t, -1, nu) = true → Sx k b len p' (t + 1) → post (mm 5 i) (stR mm (nI p') (-1) d) := by
    intro w i p' hw he hp hs
    subst he
    have z := of_decide_eq_true hp
    have hW : tW k t = wAt (18 + w) := z.2.2
    have hp2 : pIsP k (t, -1, nu) = true := by
      refine decide_eq_true ⟨rfl, z.2.1, (wP_iff _).mpr ?_⟩
      show tW k t = 19 ∨ _
      rw [hW]
      have c : w = 0 ∨ w = 1 ∨ w = 2 ∨ w = 3 ∨ w = 4 ∨ w = 5 := by omega
      rcases c with rfl | rfl | rfl | rfl | rfl | rfl <;> decide
    have := h1 hp2 p' hs
    unfold pv evR at this
    rw [hW] at this
    have c1 : ¬ wAt (18 + w) = 30 := by
      intro e
      have := wAt_inj (v := 29) (by omega) (by omega) e
      omega
    have c2 : ¬ wAt (18 + w) = 15 := by
      intro e
      have := wAt_inj (v := 14) (by omega) (by omega) e
      omega
    rw [if_neg c1, wAt_val (by omega), if_pos (show 19 ≤ 18 + w + 1 ∧ 18 + w + 1 < 25 by omega), show 18 + w + 1 - 19 = w by omega] at this
    exact this
  refine t_has hB hT h (w := 18) (nu := nu) (by omega) rfl (fun q p' hs => ⟨fun z => absurd z (by decide), fun _ => r_part131 (s0 := 0) (by omega) (yes 0 0 p' (by omega) rfl q hs)⟩) (fun q0 p0 y0 => ⟨fun _ => ?_, fun z => absurd rfl z⟩)
  refine t_has hB hT y0.1 (w := 19) (nu := nu) (by omega) rfl (fun q p' hs => ⟨fun z => absurd z (by decide), fun _ => r_part131 (s0 := 1) (by omega) (yes 1 1 p' (by omega) rfl q hs)⟩) (fun q1 p1 y1 => ⟨fun _ => ?_, fun z => absurd rfl z⟩)
  refine t_has hB hT y1.1 (w := 20) (nu := nu) (by omega) rfl (fun q p' hs => ⟨fun z => absurd z (by decide), fun _ => r_part131 (s0 := 2) (by omega) (yes 2 2 p' (by omega) rfl q hs)⟩) (fun q2 p2 y2 => ⟨fun _ => ?_, fun z => absurd rfl z⟩)
  refine t_has hB hT y2.1 (w := 21) (nu := nu) (by omega) rfl (fun q p' hs => ⟨fun z => absurd z (by decide), fun _ => r_part131 (s0 := 3) (by omega) (yes 3 3 p' (by omega) rfl q hs)⟩) (fun q3 p3 y3 => ⟨fun _ => ?_, fun z => absurd rfl z⟩)
  refine t_has hB hT y3.1 (w := 22) (nu := nu) (by omega) rfl (fun q p' hs => ⟨fun z => absurd z (by decide), fun _ => r_part131 (s0 := 4) (by omega) (yes 4 4 p' (by omega) rfl q hs)⟩) (fun q4 p4 y4 => ⟨fun _ => ?_, fun z => absurd rfl z⟩)
  refine t_has hB hT y4.1 (w := 23) (nu := nu) (by omega) rfl (fun q p' hs => ⟨fun z => absurd z (by decide), fun _ => r_part131 (s0 := 5) (by omega) (yes 5 5 p' (by omega) rfl q hs)⟩) (fun q5 p5 y5 => ⟨fun _ => ?_, fun z => absurd rfl z⟩)
  unfold B_X13_part_131
  refine ⟨fun z => absurd rfl z, fun _ => ?_⟩
  rw [stR_9]
  refine r_wrong ?_
  rw [if_pos rfl]
  have e5 : nI p5 = fV k t := y5.2
  rw [← e5] at h0
  refine h0 (decide_eq_false (fun z => ?_)) p5 0 y5.1.2.1
  have no : ∀ w, w < 29 → pIs k (wAt w) (t, -1, nu) = false → ¬ tW k t = wAt w := fun w _ q e => of_decide_eq_false q ⟨rfl, z.2.1, e⟩
  rcases (wP_iff _).mp z.2.2 with e | e | e | e | e | e | e
  · exact no 18 (by omega) q0 e
  · exact no 19 (by omega) q1 e
  · exact no 20 (by omega) q2 e
  · exact no 21 (by omega) q3 e
  · exact no 22 (by omega) q4 e
  · exact no 23 (by omega) q5 e
  · exact h30 ⟨z.2.1, e⟩
theorem r_part (hB : BY mm b len) (hT : TKL k (tks b len 0) len) {p t : Nat} {nu : Int32} (h : Sx k b len p t) {post : Int32 → MM → Prop}
    (h1 : pIsP k (t, -1, nu) = true → ∀ p', Sx k b len p' (t + 1) → post (pv (evR mm) (tW k t, tV k t)) (stR mm (nI p') (-1) d))
    (h0 : pIsP k (t, -1, nu) = false → ∀ p' v, p' ≤ len → post v (stR mm (nI p') (fV k t) d)) : w_X13_part post (stR mm (nI p) (-1) d) := by
  have hl2 := hB.2.1
  have hl3 := h.2.1
  have h8 : ∀ a e : Int32, stR mm a e d 0 8 = nI len := fun a e => by rw [stR_o (by omega)]; exact hB.1
  obtain ⟨s1, s2, s3⟩ := Sx_skp hT h
  unfold w_X13_part
  rw [stR_10]
  refine ⟨fun _ => r_skip hB (by omega) ?_, fun z => absurd rfl z⟩
  generalize skp b len p = q at *
  have hq := s1.1.2.1
  rw [h8, stR_9]
  refine ⟨fun g => ?_, fun g => ?_⟩
  · rw [nI_leI (by omega) (by omega)] at g
    exact r_part52 hB hT s1.1 (fun z => by have := s2.mpr z.1; omega) h1 h0
  · rw [nI_leI (by omega) (by omega)] at g
    have c : q < len := by omega
    obtain ⟨a1, a2, a3⟩ := s3 c
    have hb := bhd_le (b := b) (len := len) c
    refine r_letter hB (by omega) (r_isIn ⟨fun g2 => ?_, fun g2 => ?_⟩)
    · have hd : isD (b q) = false := g2
      refine r_part52 hB hT s1.1 (fun z => ?_) h1 h0
      have := z.2
      rw [a1, tok_n hd] at this
      exact wOf_n30 hb.1 31 0 rfl this
    · have hd : isD (b q) = true := by
        unfold isD
        revert g2
        cases decide (¬ b q < 48 ∧ ¬ 57 < b q) <;> simp
      refine t_fig (nu := nu) hB hT s1.1 (fun q2 p' hs => ?_) (fun q2 p' v hp' => ?_)
      · have z := of_decide_eq_true q2
        have hP : pIsP k (t, -1, nu) = true := decide_eq_true ⟨rfl, z.2.1, (wP_iff _).mpr (Or.inr (Or.inr (Or.inr (Or.inr (Or.inr (Or.inr z.2.2.1))))))⟩
        have := h1 hP p' hs
        unfold pv at this
        rw [if_pos (show tW k t = 30 from z.2.2.1)] at this
        exact this
      · refine h0 (decide_eq_false (fun z => ?_)) p' v hp'
        have hne := of_decide_eq_false q2
        rcases tok_D (j := bhd b len q) hd with e | e
        · have e2 : tW k t = 30 := by rw [a1, e]
          have hin := tV_in hT s1.1 z.2.1 e2
          refine hne ⟨rfl, z.2.1, e2, fun z2 => ?_, fun z2 => ?_⟩
          · rw [fa_lt] at z2
            have e0 : (0 : Int32).toInt = 0 := rfl
            have z3 : (tV k t).toInt < (0 : Int32).toInt := z2
            omega
          · rw [fa_lt] at z2
            have e0 : (999 : Int32).toInt = 999 := rfl
            have z3 : (999 : Int32).toInt < (tV k t).toInt := z2
            omega
        · have e2 : tW k t = 31 := by rw [a1, e]
          have := z.2.2
          rw [show tW k (t, -1, nu).1 = 31 from e2] at this
          exact absurd this (by decide)
end RE
