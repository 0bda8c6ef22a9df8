/-! ===== feed ===== -/
def wrd (x1 x2 x3 x4 x5 : Int32) (j : Nat) : Int32 := if j < 4 then x1 else if j < 8 then x2 else if j < 12 then x3 else if j < 16 then x4 else x5
def fbB (x1 x2 x3 x4 x5 : Int32) (j : Nat) : Int32 := (ush (wrd x1 x2 x3 x4 x5 j) (nI (24 - 8 * (j % 4)))) &&& 255
def CJ (cm0 cm : CMu) (len : Nat) (B : Nat → Int32) (j : Nat) : Prop := (∀ b i, b ≠ 2 → b ≠ 3 → gI cm b i = gI cm0 b i) ∧ cm.2 = cm0.2 ∧ gI cm 2 1 = nI (len + j) ∧ (∀ i, i < len → gI cm 3 i = gI cm0 3 i) ∧ ∀ i, i < j → gI cm 3 (len + i) = B i
def RJ (mm0 mm : MM) (len : Nat) (B : Nat → Int32) (j : Nat) : Prop := (∀ b, b ≠ 0 → b ≠ 4 → mm b = mm0 b) ∧ (∀ i, i ≠ 6 → mm 0 i = mm0 0 i) ∧ mm 0 6 = nI (len + j) ∧ (∀ i, i < len → mm 4 i = mm0 4 i) ∧ ∀ i, i < j → mm 4 (len + i) = B i
def sh4 (t : Nat) : Int32 := if t = 4 then -8 else nI (24 - 8 * t)
section FE
variable {len : Nat} {B : Nat → Int32}
theorem CJ_S {cm0 cm : CMu} {j : Nat} (h : CJ cm0 cm len B j) {w : Int32} (hw : w = B j) {u : Int32} (hu : u = nI (len + j + 1)) : CJ cm0 (uI (uI cm 3 (len + j) w) 2 1 u) len B (j + 1) := by
  obtain ⟨h1, h2, h3, h4, h5⟩ := h
  refine ⟨fun b i hb hb2 => ?_, h2, ?_, fun i hi => ?_, fun i hi => ?_⟩
  · rw [gI_c hb, gI_c hb2]
    exact h1 b i hb hb2
  · rw [gI_hit]
    exact hu
  · rw [gI_c (by omega), gI_f (by omega)]
    exact h4 i hi
  · rw [gI_c (by omega)]
    by_cases q : i = j
    · subst q
      rw [gI_hit]
      exact hw
    · rw [gI_f (by omega)]
      exact h5 i (by omega)
theorem c_word {cm0 cm : CMu} {k : Nat} {w : Int32} (hl : len + 20 ≤ 400) (hk : k < 5) (h : CJ cm0 cm len B (4 * k)) (hB : ∀ t, t < 4 → B (4 * k + t) = (ush w (nI (24 - 8 * t))) &&& 255) {post : CMu → Prop} (hp : ∀ cm', CJ cm0 cm' len B (4 * (k + 1)) → post cm') : w_X9_add post w cm := by
  unfold w_X9_add
  have key : ∀ (g t : Nat) (cm : CMu), t + g = 4 → CJ cm0 cm len B (4 * k + t) → B_X9_add_3 post (g + 1) w (sh4 t) cm := by
    intro g
    induction g with
    | zero =>
      intro t cm ht h
      have e : t = 4 := by omega
      subst e
      unfold B_X9_add_3 B_X9_add_51
      exact ⟨fun _ => hp cm h, fun z => absurd (by decide) z⟩
    | succ g ih =>
      intro t cm ht h
      have s1 : ∀ t, t < 4 → ¬ sh4 t < 0 ∧ sh4 t + (-8) = sh4 (t + 1) ∧ sh4 t = nI (24 - 8 * t) := by decide
      obtain ⟨a1, a2, a3⟩ := s1 t (by omega)
      have n4 : ¬ (400 : Int32) ≤ nI (len + (4 * k + t)) := by
        rw [fa_lit 400, nI_leI (by omega) (by omega)]
        omega
      unfold B_X9_add_3 B_X9_add_51
      rw [h.2.2.1, a2, nI_clamp (by omega)]
      refine ⟨fun z => absurd z a1, fun _ => ⟨fun z => absurd z n4, fun _ => ⟨vp_in_nI (by omega) (by omega), ?_⟩⟩⟩
      refine ih (t + 1) _ (by omega) (CJ_S h ?_ ?_)
      · rw [hB t (by omega), a3]
        rfl
      · rw [gI_c (by omega), h.2.2.1, nI_1]
  exact ⟨5, key 4 0 cm rfl h⟩
theorem r_feed {x1 x2 x3 x4 x5 : Int32} {mm0 : MM} (hl : len + 20 ≤ 400) {post : Int32 → MM → Prop} (hp : ∀ mm', RJ mm0 mm' len (fbB x1 x2 x3 x4 x5) 20 → post (nI (len + 20)) mm') : ∀ (g j : Nat) (mm : MM), j + g = 20 → RJ mm0 mm len (fbB x1 x2 x3 x4 x5) j → B_X13_feed_23 post (g + 1) x1 x2 x3 x4 x5 (nI j) mm := by
  intro g
  induction g with
  | zero =>
    intro j mm hj h
    have e : j = 20 := by omega
    subst e
    unfold B_X13_feed_23
    rw [h.2.2.1]
    exact ⟨fun _ => hp mm h, fun z => absurd (by decide) z⟩
  | succ g ih =>
    intro j mm hj h
    have sh : ∀ j, j < 20 → (24 - (8 * (nI j - nI j / 4 * 4)) : Int32) = nI (24 - 8 * (j % 4)) := by decide +kernel
    have one : B_X13_feed_76 post (B_X13_feed_23 post (g + 1)) x1 x2 x3 x4 x5 (nI j) (wrd x1 x2 x3 x4 x5 j) mm := by
      unfold B_X13_feed_76
      rw [sh j (by omega), h.2.2.1, nI_clamp (by omega), nI_1]
      refine ⟨vp_in_nI (by omega) (by omega), ih (j + 1) _ (by omega) ?_⟩
      obtain ⟨h1, h2, h3, h4, h5⟩ := h
      refine ⟨fun b hb hb4 => ?_, fun i hi => ?_, ?_, fun i hi => ?_, fun i hi => ?_⟩
      · rw [up2_ne hb, up2_ne hb4]
        exact h1 b hb hb4
      · rw [up2_miss (by omega), up2_miss (by omega)]
        exact h2 i hi
      · rw [up2_hit, up2_miss (by omega), h3, nI_1]
        rfl
      · rw [up2_miss (by omega), up2_miss (by omega)]
        exact h4 i hi
      · rw [up2_miss (by omega)]
        by_cases q : i = j
        · subst q
          rw [up2_hit]
          rfl
        · rw [up2_miss (by omega)]
          exact h5 i (by omega)
    unfold wrd at one
    unfold B_X13_feed_23
    rw [fa_lit 20, fa_lit 4, fa_lit 8, fa_lit 12, fa_lit 16, nI_leI (by omega) (by omega), nI_leI (by omega) (by omega), nI_leI (by omega) (by omega), nI_leI (by omega) (by omega), nI_leI (by omega) (by omega)]
    refine ⟨fun z => absurd z (by omega), fun _ => ⟨fun z4 => ⟨fun z8 => ⟨fun z12 => ⟨fun z16 => ?_, fun z16 => ?_⟩, fun z12 => ?_⟩, fun z8 => ?_⟩, fun z4 => ?_⟩⟩
    · rw [if_neg (by omega), if_neg (by omega), if_neg (by omega), if_neg (by omega)] at one
      exact one
    · rw [if_neg (by omega), if_neg (by omega), if_neg (by omega), if_pos (by omega)] at one
      exact one
    · rw [if_neg (by omega), if_neg (by omega), if_pos (by omega)] at one
      exact one
    · rw [if_neg (by omega), if_pos (by omega)] at one
      exact one
    · rw [if_pos (by omega)] at one
      exact one
end FE
section SFE
variable {q : Nat} {cm : CMu} {mm : MM} {oo : Nat → Int64} {kk : KKt} {v : Int32}
theorem s_feed (h : SI q cm mm) {x1 x2 x3 x4 x5 : Int32} (hk : ∀ cm' mm', SI (q + 1) cm' mm' → kk v cm' mm' oo) {post : Int32 → CMu → Prop} (hpost : ∀ r u, w_X13_feed (EQ kk v r u oo) x1 x2 x3 x4 x5 mm → post r u) : w_X12_feed post x1 x2 x3 x4 x5 cm := by
  obtain ⟨n, c, o, T, g1, g2, g3, ⟨len, t1, t2, t3, t4⟩, g5, g6⟩ := id h
  have e6 : (up2 mm 0 0 0) 0 6 = nI len := t2
  have e400 : ((up2 mm 0 0 0) 0 6 + 20 ≤ 400) ↔ len + 20 ≤ 400 := by
    rw [e6, fa_lit 20, nI_add, fa_lit 400, nI_leI (by omega) (by omega)]
  unfold w_X12_feed
  rw [t1, fa_lit 380, nI_leI (by omega) (by omega)]
  refine ⟨fun z => ?_, fun z => ?_⟩
  · have hB : ∀ k, k < 5 → ∀ t, t < 4 → fbB x1 x2 x3 x4 x5 (4 * k + t) = (ush (wrd x1 x2 x3 x4 x5 (4 * k)) (nI (24 - 8 * t))) &&& 255 := by
      intro k hk t ht
      have ew : wrd x1 x2 x3 x4 x5 (4 * k + t) = wrd x1 x2 x3 x4 x5 (4 * k) := by
        have cs : k = 0 ∨ k = 1 ∨ k = 2 ∨ k = 3 ∨ k = 4 := by omega
        unfold wrd
        rcases cs with rfl | rfl | rfl | rfl | rfl
        · rw [if_pos (by omega), if_pos (by omega)]
        · rw [if_neg (by omega), if_pos (by omega), if_neg (by omega), if_pos (by omega)]
        · rw [if_neg (by omega), if_neg (by omega), if_pos (by omega), if_neg (by omega), if_neg (by omega), if_pos (by omega)]
        · rw [if_neg (by omega), if_neg (by omega), if_neg (by omega), if_pos (by omega), if_neg (by omega), if_neg (by omega), if_neg (by omega), if_pos (by omega)]
        · rw [if_neg (by omega), if_neg (by omega), if_neg (by omega), if_neg (by omega), if_neg (by omega), if_neg (by omega), if_neg (by omega), if_neg (by omega)]
      unfold fbB
      rw [ew, show (4 * k + t) % 4 = t by omega]
    have C0 : CJ cm cm len (fbB x1 x2 x3 x4 x5) (4 * 0) := ⟨fun _ _ _ _ => rfl, rfl, t1, fun _ _ => rfl, fun i hi => absurd hi (by omega)⟩
    refine c_word (by omega) (by omega) C0 (hB 0 (by omega)) (fun u2 C1 => c_word (by omega) (by omega) C1 (hB 1 (by omega)) (fun u4 C2 => c_word (by omega) (by omega) C2 (hB 2 (by omega)) (fun u6 C3 => c_word (by omega) (by omega) C3 (hB 3 (by omega)) (fun u8 C4 => c_word (by omega) (by omega) C4 (hB 4 (by omega)) (fun u10 C5 => ?_)))))
    rw [C5.2.2.1]
    refine hpost _ _ ?_
    unfold w_X13_feed
    refine ⟨fun _ => ⟨21, ?_⟩, fun y => absurd (e400.mpr (by omega)) y⟩
    refine r_feed (len := len) (by omega) (fun mm' R => EQ_ok (hk _ _ ?_)) 20 0 (up2 mm 0 0 0) rfl ⟨fun _ _ _ => rfl, fun _ _ => rfl, e6, fun _ _ => rfl, fun i hi => absurd hi (by omega)⟩
    refine SI_fr h (fun b j hb => C5.1 b j (by omega) (by omega)) (C5.1 1 7 (by omega) (by omega)) (fun b j _ => by unfold gL; rw [C5.2.1]) (fun b j _ => by unfold gW; rw [C5.2.1]) (by rw [R.1 1 (by omega) (by omega)]; rfl) (by rw [R.1 2 (by omega) (by omega)]; rfl) (by rw [R.2.1 3 (by omega)]; rfl) ⟨len + 20, C5.2.2.1, R.2.2.1, by omega, fun i hi => ?_⟩ ?_
    · by_cases y : i < len
      · rw [C5.2.2.2.1 i y, R.2.2.2.1 i y]
        exact t4 i y
      · obtain ⟨j, rfl⟩ : ∃ j, i = len + j := ⟨i - len, by omega⟩
        rw [C5.2.2.2.2 j (by omega), R.2.2.2.2 j (by omega)]
    · rw [C5.1 4 7 (by omega) (by omega), R.2.1 10 (by omega)]
      exact g5
  · refine hpost _ _ ?_
    unfold w_X13_feed
    exact ⟨fun y => absurd (e400.mp y) (by omega), fun _ => EQ_ok (hk _ _ (SI_t h 0))⟩
end SFE
