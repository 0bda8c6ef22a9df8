/-! ===== the law's loop ===== -/
theorem law_loop {L : Nat} {xs : Nat → Int32} (hL : L ≤ 3072) : ∀ (g q : Nat) (cm : CMu) (mm : MM) (oo : Nat → Int64), q + g = L / 6 + 1 → SI q cm mm → B_L_law L xs (g + 1) (nI (6 * q)) cm mm oo := by
  have e6 : (6 : Int32).toInt = 6 := rfl
  have cond : ∀ q, q ≤ 600 → ((nI L - 6 < nI (6 * q)) ↔ L < 6 * q + 6) := by
    intro q hq
    rw [fa_lt, ti_sub (by rw [nI_toInt (by omega), e6]; omega), nI_toInt (by omega), nI_toInt (by omega), e6]
    omega
  intro g
  induction g with
  | zero =>
    intro q cm mm oo hq h
    unfold B_L_law
    rw [cond q (by omega)]
    exact ⟨fun _ => trivial, fun z => absurd (by omega) z⟩
  | succ g ih =>
    intro q cm mm oo hq h
    unfold B_L_law
    rw [cond q (by omega)]
    refine ⟨fun _ => trivial, fun z => ?_⟩
    have hin : 6 * q + 5 < L := by omega
    have hv : ∀ i, i < 6 → vp_in (nI (6 * q) + nI i) L := by
      intro i hi
      rw [nI_add]
      exact vp_in_nI (by omega) (by omega)
    have v0 : vp_in (nI (6 * q)) L := vp_in_nI (by omega) (by omega)
    have v1 : vp_in (nI (6 * q) + 1) L := hv 1 (by omega)
    have v2 : vp_in (nI (6 * q) + 2) L := hv 2 (by omega)
    have v3 : vp_in (nI (6 * q) + 3) L := hv 3 (by omega)
    have v4 : vp_in (nI (6 * q) + 4) L := hv 4 (by omega)
    have v5 : vp_in (nI (6 * q) + 5) L := hv 5 (by omega)
    have eN : nI (6 * q) + 6 = nI (6 * (q + 1)) := by
      rw [fa_lit 6, nI_add]
      rfl
    have hk : ∀ cm' mm' oo', SI (q + 1) cm' mm' → B_L_law L xs (g + 1) (nI (6 * q) + 6) cm' mm' oo' := by
      intro cm' mm' oo' h'
      rw [eN]
      exact ih (q + 1) cm' mm' oo' (by omega) h'
    have hk2 : ∀ cm' mm', SI (q + 1) cm' mm' → B_L_law L xs (g + 1) (nI (6 * q) + 6) cm' mm' oo := fun cm' mm' h' => hk cm' mm' oo h'
    have hk1 : ∀ mm', SI (q + 1) cm mm' → B_L_law L xs (g + 1) (nI (6 * q) + 6) cm mm' oo := fun mm' h' => hk cm mm' oo h'
    have hq1 : q ≤ 1000 := by omega
    refine ⟨v0, fun _ => hk cm mm oo (SI_mm h rfl rfl rfl rfl rfl rfl), fun _ => ?_, fun _ => ?_, fun _ => ?_, fun _ => ?_, fun _ => ?_, fun _ => ?_, fun _ => ?_, fun _ => ?_, fun _ => ?_, fun _ => ?_, fun _ => ?_, fun _ => ?_, fun _ => ?_, fun _ => ?_, fun _ => ?_, fun _ => ?_, fun _ => ?_, fun _ => ?_, fun _ => ?_, fun _ => ?_, fun _ => ?_, fun _ => ?_, fun _ => ?_, fun _ => ?_, fun _ => ?_⟩
    · exact ⟨v1, v2, v3, v4, v5, s_feed h hk2 (fun r u hx => ⟨v1, v2, v3, v4, v5, hx⟩)⟩
    · exact ⟨v1, s_end h hk2 (fun r u hx => ⟨v1, hx⟩)⟩
    · exact s_forest h hk (fun r u hx => hx)
    · exact ⟨v1, v2, s_chip h hk (fun r u hx => ⟨v1, v2, hx⟩)⟩
    · exact s_fault h hk1 (fun r u hx => hx)
    · exact ⟨v1, s_run h hq1 hk (fun r u hx => ⟨v1, hx⟩)⟩
    · exact ⟨v1, s_pole h hk (fun r u hx => ⟨v1, hx⟩)⟩
    · exact ⟨v1, s_water h hk (fun r u hx => ⟨v1, hx⟩)⟩
    · exact ⟨v1, v2, s_look h hk (fun r u hx => ⟨v1, v2, hx⟩)⟩
    · exact ⟨v1, v2, s_camp h hk (fun r u hx => ⟨v1, v2, hx⟩)⟩
    · exact ⟨v1, v2, s_reach h hk (fun r u hx => ⟨v1, v2, hx⟩)⟩
    · exact ⟨v1, s_out h hk1 (fun r u hx => ⟨v1, hx⟩)⟩
    · exact ⟨v1, v2, v3, v4, s_time h hk (fun r u hx => ⟨v1, v2, v3, v4, hx⟩)⟩
    · exact ⟨v1, v2, v3, v4, v5, s_waits h hk (fun r u hx => ⟨v1, v2, v3, v4, v5, hx⟩)⟩
    · exact ⟨v1, v2, s_order h hk (fun r u hx => ⟨v1, v2, hx⟩)⟩
    · exact ⟨v1, v2, v3, s_ahead h hk (fun r u hx => ⟨v1, v2, v3, hx⟩)⟩
    · exact ⟨v1, s_plan h hk (fun r u hx => ⟨v1, hx⟩)⟩
    · exact ⟨v1, v2, s_chance h hk (fun r u hx => ⟨v1, v2, hx⟩)⟩
    · exact ⟨v1, v2, v3, s_repeats h hk (fun r u hx => ⟨v1, v2, v3, hx⟩)⟩
    · exact ⟨v1, s_fits h hk (fun r u hx => ⟨v1, hx⟩)⟩
    · exact ⟨v1, s_test h hk1 (fun r u hx => ⟨v1, hx⟩)⟩
    · exact ⟨v1, v2, s_later h hq1 hk (fun r u hx => ⟨v1, v2, hx⟩)⟩
    · exact s_image h hk2 (fun u hx => hx)
    · exact s_back h hk2 (fun r u hx => hx)
    · exact ⟨v1, s_count h hk1 (fun r u hx => ⟨v1, hx⟩)⟩
