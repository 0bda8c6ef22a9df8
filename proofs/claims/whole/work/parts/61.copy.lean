/-! ===== a forest copied ===== -/
def Cp (d s : Nat) (cm0 cm : CMu) (P Q : Nat → Nat → Prop) : Prop :=
  (∀ b j, (b < d ∨ d + 107 ≤ b) → gI cm b j = gI cm0 b j) ∧ (∀ b j, (b < d ∨ d + 107 ≤ b) → gL cm b j = gL cm0 b j) ∧ cm.2.2 = cm0.2.2 ∧ (∀ a j, P a j → gI cm (d + a) j = gI cm0 (s + a) j) ∧ (∀ a j, Q a j → gL cm (d + a) j = gL cm0 (s + a) j)
section CP
variable {d s : Nat} {cm0 cm : CMu} {P Q : Nat → Nat → Prop}
theorem Cp_mono {P' Q' : Nat → Nat → Prop} (h : Cp d s cm0 cm P Q) (hP : ∀ a j, P' a j → P a j) (hQ : ∀ a j, Q' a j → Q a j) : Cp d s cm0 cm P' Q' :=
  ⟨h.1, h.2.1, h.2.2.1, fun a j z => h.2.2.2.1 a j (hP a j z), fun a j z => h.2.2.2.2 a j (hQ a j z)⟩
theorem Cp_I (hs : s + 107 ≤ d ∨ d + 107 ≤ s) (h : Cp d s cm0 cm P Q) {a : Nat} (ha : a < 107) {b b' j : Nat} (hb : b = d + a) (hb' : b' = s + a) : Cp d s cm0 (uI cm b j (gI cm b' j)) (fun x i => P x i ∨ (x = a ∧ i = j)) Q := by
  subst hb
  subst hb'
  obtain ⟨h1, h2, h3, h4, h5⟩ := h
  refine ⟨fun b j hb => ?_, h2, h3, fun x i hx => ?_, h5⟩
  · rw [gI_c (by omega)]
    exact h1 b j hb
  · by_cases q : x = a ∧ i = j
    · obtain ⟨rfl, rfl⟩ := q
      rw [gI_hit]
      exact h1 _ _ (by omega)
    · have e : gI (uI cm (d + a) j (gI cm (s + a) j)) (d + x) i = gI cm (d + x) i := up2_miss (fun z => q ⟨by omega, z.2⟩)
      rw [e]
      exact h4 x i (hx.elim id (fun z => absurd z q))
theorem Cp_L (hs : s + 107 ≤ d ∨ d + 107 ≤ s) (h : Cp d s cm0 cm P Q) {a : Nat} (ha : a < 107) {b b' j : Nat} (hb : b = d + a) (hb' : b' = s + a) : Cp d s cm0 (uL cm b j (gL cm b' j)) P (fun x i => Q x i ∨ (x = a ∧ i = j)) := by
  subst hb
  subst hb'
  obtain ⟨h1, h2, h3, h4, h5⟩ := h
  refine ⟨h1, fun b j hb => ?_, h3, h4, fun x i hx => ?_⟩
  · rw [gL_c (by omega)]
    exact h2 b j hb
  · by_cases q : x = a ∧ i = j
    · obtain ⟨rfl, rfl⟩ := q
      rw [gL_hit]
      exact h2 _ _ (by omega)
    · have e : gL (uL cm (d + a) j (gL cm (s + a) j)) (d + x) i = gL cm (d + x) i := up2_miss (fun z => q ⟨by omega, z.2⟩)
      rw [e]
      exact h5 x i (hx.elim id (fun z => absurd z q))
def PO (i2 i j : Nat) (a k : Nat) : Prop := (a = 0 ∧ 5 ≤ k ∧ k ≤ 13) ∨ (a = 5 ∧ k = 3) ∨ ((a = 6 ∨ a = 7) ∧ k < i2) ∨ (9 ≤ a ∧ a < 9 + i ∧ k < 12) ∨ (a = 9 + i ∧ k < j)
def PR (r : Nat) (a k : Nat) : Prop := PO 12 12 0 a k ∨ (23 ≤ a ∧ a < 23 + 2 * r ∧ k < 4)
def QR (r : Nat) (a k : Nat) : Prop := 23 ≤ a ∧ a < 23 + 2 * r ∧ a % 2 = 1 ∧ (k = 4 ∨ k = 5)
def PH (n c : Nat) (a k : Nat) : Prop := PR (n + 1) a k ∨ (47 ≤ a ∧ a < 47 + c ∧ k < 7) ∨ (a = 4 ∧ k < c)
theorem c_cpO (hs : s + 107 ≤ d ∨ d + 107 ≤ s) (h : Cp d s cm0 cm (fun a k => a = 0 ∧ 5 ≤ k ∧ k ≤ 13) (fun _ _ => False)) {post : CMu → Prop} (hp : ∀ cm', Cp d s cm0 cm' (PO 12 12 0) (fun _ _ => False) → post cm') : w_X6_copyFrom post (d + 5) (s + 5) cm := by
  unfold w_X6_copyFrom
  have key : ∀ (g i : Nat) (cm : CMu), i + g = 12 → Cp d s cm0 cm (PO i i 0) (fun _ _ => False) → B_X6_copyFrom_10 post (g + 1) (d + 5) (s + 5) (nI i) cm := by
    intro g
    induction g with
    | zero =>
      intro i cm hi h
      have e : i = 12 := by omega
      subst e
      unfold B_X6_copyFrom_10
      exact ⟨fun _ => hp cm h, fun z => absurd (by decide) z⟩
    | succ g ih =>
      intro i cm hi h
      unfold B_X6_copyFrom_10
      have n12 : ¬ (12 : Int32) ≤ nI i := by
        rw [fa_lit 12, nI_leI (by omega) (by omega)]
        omega
      have vi : vp_in (nI i) 12 := vp_in_nI (by omega) (by omega)
      refine ⟨fun z => absurd z n12, fun _ => ⟨vi, vi, vi, vi, 13, ?_⟩⟩
      rw [nI_clamp (by omega)]
      have inner : ∀ (g2 j : Nat) (cm : CMu), j + g2 = 12 → Cp d s cm0 cm (PO (i + 1) i j) (fun _ _ => False) → B_X6_copyFrom_42 post (B_X6_copyFrom_10 post (g + 1)) (g2 + 1) (d + 5) (s + 5) (nI i) (nI j) cm := by
        intro g2
        induction g2 with
        | zero =>
          intro j cm hj h
          have e : j = 12 := by omega
          subst e
          unfold B_X6_copyFrom_42
          refine ⟨fun _ => ?_, fun z => absurd (by decide) z⟩
          rw [nI_1]
          exact ih (i + 1) cm (by omega) (Cp_mono h (fun a k z => by unfold PO at z ⊢; omega) (fun _ _ z => z))
        | succ g2 ih2 =>
          intro j cm hj h
          unfold B_X6_copyFrom_42
          have n12 : ¬ (12 : Int32) ≤ nI j := by
            rw [fa_lit 12, nI_leI (by omega) (by omega)]
            omega
          have vj : vp_in (nI j) 12 := vp_in_nI (by omega) (by omega)
          refine ⟨fun z => absurd z n12, fun _ => ⟨vi, vi, vj, vj, ?_⟩⟩
          rw [nI_1, nI_clamp (by omega), nI_clamp (by omega)]
          exact ih2 (j + 1) _ (by omega) (Cp_mono (Cp_I hs h (a := 9 + i) (by omega) (by omega) (by omega)) (fun a k z => by unfold PO at z ⊢; omega) (fun _ _ z => z))
      exact inner 12 0 _ rfl (Cp_mono (Cp_I hs (Cp_I hs h (a := 6) (j := i) (by omega) (by omega) (by omega)) (a := 7) (j := i) (by omega) (by omega) (by omega)) (fun a k z => by unfold PO at z ⊢; omega) (fun _ _ z => z))
  exact ⟨13, key 12 0 _ rfl (Cp_mono (Cp_I hs h (a := 5) (j := 3) (by omega) (by omega) (by omega)) (fun a k z => by unfold PO at z; omega) (fun _ _ z => z))⟩
theorem c_cpC (hs : s + 107 ≤ d ∨ d + 107 ≤ s) {n c : Nat} (hc : c ≤ 60) (h6 : gI cm0 s 6 = nI c) {post : CMu → Prop} (hp : ∀ cm', Cp d s cm0 cm' (PH n c) (QR (n + 1)) → post cm') : ∀ (g i : Nat) (cm : CMu), i + g = c → Cp d s cm0 cm (PH n i) (QR (n + 1)) → B_X4_copyFrom_140 post (g + 1) d s (nI i) cm := by
  have e6 : ∀ {cm : CMu} {i : Nat}, Cp d s cm0 cm (PH n i) (QR (n + 1)) → gI cm d 6 = nI c := by
    intro cm i h
    rw [← h6]
    exact h.2.2.2.1 0 6 (Or.inl (Or.inl (Or.inl ⟨rfl, by omega, by omega⟩)))
  intro g
  induction g with
  | zero =>
    intro i cm hi h
    have e : i = c := by omega
    subst e
    unfold B_X4_copyFrom_140 B_X4_copyFrom_190
    rw [e6 h]
    exact ⟨fun _ => hp cm h, fun z => absurd (nI_le (Nat.le_refl _) (by omega)) z⟩
  | succ g ih =>
    intro i cm hi h
    unfold B_X4_copyFrom_140 B_X4_copyFrom_190
    rw [e6 h, nI_clamp (by omega)]
    have n60 : ¬ (60 : Int32) ≤ nI i := by
      rw [fa_lit 60, nI_leI (by omega) (by omega)]
      omega
    have vi : vp_in (nI i) 60 := vp_in_nI (by omega) (by omega)
    refine ⟨fun z => absurd z (nI_ge (by omega) (by omega)), fun _ => ⟨fun z => absurd z n60, fun _ => ⟨vi, vi, ?_⟩⟩⟩
    unfold w_X2_copyFrom
    refine ⟨vi, vi, ?_⟩
    rw [nI_1]
    refine ih (i + 1) _ (by omega) (Cp_mono (Cp_I hs (Cp_I hs (Cp_I hs (Cp_I hs (Cp_I hs (Cp_I hs (Cp_I hs (Cp_I hs h (a := 47 + i) (j := 0) (by omega) (by omega) (by omega)) (a := 47 + i) (j := 1) (by omega) (by omega) (by omega)) (a := 47 + i) (j := 2) (by omega) (by omega) (by omega)) (a := 47 + i) (j := 3) (by omega) (by omega) (by omega)) (a := 47 + i) (j := 4) (by omega) (by omega) (by omega)) (a := 47 + i) (j := 5) (by omega) (by omega) (by omega)) (a := 47 + i) (j := 6) (by omega) (by omega) (by omega)) (a := 4) (j := i) (by omega) (by omega) (by omega)) (fun a k z => ?_) (fun _ _ z => z))
    unfold PH at z ⊢
    rcases z with z | z | z
    · exact Or.inl (Or.inl (Or.inl (Or.inl (Or.inl (Or.inl (Or.inl (Or.inl (Or.inl z))))))))
    · by_cases q : a < 47 + i
      · exact Or.inl (Or.inl (Or.inl (Or.inl (Or.inl (Or.inl (Or.inl (Or.inl (Or.inr (Or.inl ⟨z.1, q, z.2.2⟩)))))))))
      · omega
    · by_cases q : k < i
      · exact Or.inl (Or.inl (Or.inl (Or.inl (Or.inl (Or.inl (Or.inl (Or.inl (Or.inr (Or.inr ⟨z.1, q⟩)))))))))
      · omega
theorem c_cpR (hs : s + 107 ≤ d ∨ d + 107 ≤ s) {n : Nat} (hn : n ≤ 11) (h5 : gI cm0 s 5 = nI n) {post : CMu → Prop} (hp : ∀ cm', Cp d s cm0 cm' (PR (n + 1)) (QR (n + 1)) → B_X4_copyFrom_138 post d s cm') : ∀ (g r : Nat) (cm : CMu), r + g = n + 1 → Cp d s cm0 cm (PR r) (QR r) → B_X4_copyFrom_85 post (g + 1) d s (nI r) cm := by
  have e5 : ∀ {cm : CMu} {r : Nat}, Cp d s cm0 cm (PR r) (QR r) → gI cm d 5 = nI n := by
    intro cm i h
    rw [← h5]
    exact h.2.2.2.1 0 5 (Or.inl (Or.inl ⟨rfl, by omega, by omega⟩))
  intro g
  induction g with
  | zero =>
    intro r cm hr h
    have e : r = n + 1 := by omega
    subst e
    unfold B_X4_copyFrom_85
    rw [e5 h]
    exact ⟨fun _ => hp cm h, fun z => absurd (nI_lt (by omega) (by omega)) z⟩
  | succ g ih =>
    intro r cm hr h
    unfold B_X4_copyFrom_85
    rw [e5 h, nI_clamp (by omega)]
    have n12 : ¬ (12 : Int32) ≤ nI r := by
      rw [fa_lit 12, nI_leI (by omega) (by omega)]
      omega
    have vr : vp_in (nI r) 12 := vp_in_nI (by omega) (by omega)
    refine ⟨fun z => absurd z (nI_nlt (by omega) (by omega)), fun _ => ⟨fun z => absurd z n12, fun _ => ⟨vr, vr, ?_⟩⟩⟩
    unfold w_X1_copyFrom
    refine ⟨vr, vr, ?_⟩
    unfold w_X7_copyFrom
    rw [nI_1]
    refine ih (r + 1) _ (by omega) (Cp_mono (Cp_I hs (Cp_I hs (Cp_I hs (Cp_I hs (Cp_L hs (Cp_L hs (Cp_I hs (Cp_I hs (Cp_I hs (Cp_I hs h (a := 23 + 2 * r) (j := 0) (by omega) (by omega) (by omega)) (a := 23 + 2 * r) (j := 1) (by omega) (by omega) (by omega)) (a := 23 + 2 * r) (j := 2) (by omega) (by omega) (by omega)) (a := 23 + 2 * r) (j := 3) (by omega) (by omega) (by omega)) (a := 23 + 2 * r) (j := 4) (by omega) (by omega) (by omega)) (a := 23 + 2 * r) (j := 5) (by omega) (by omega) (by omega)) (a := 24 + 2 * r) (j := 0) (by omega) (by omega) (by omega)) (a := 24 + 2 * r) (j := 1) (by omega) (by omega) (by omega)) (a := 24 + 2 * r) (j := 2) (by omega) (by omega) (by omega)) (a := 24 + 2 * r) (j := 3) (by omega) (by omega) (by omega)) (fun a k z => ?_) (fun a k z => ?_))
    · unfold PR at z ⊢
      rcases z with z | z
      · exact Or.inl (Or.inl (Or.inl (Or.inl (Or.inl (Or.inl (Or.inl (Or.inl (Or.inl z))))))))
      · by_cases q : a < 23 + 2 * r
        · exact Or.inl (Or.inl (Or.inl (Or.inl (Or.inl (Or.inl (Or.inl (Or.inl (Or.inr ⟨z.1, q, z.2.2⟩))))))))
        · omega
    · unfold QR at z ⊢
      omega
theorem c_copy (hs : s + 107 ≤ d ∨ d + 107 ≤ s) {n c : Nat} (hn : n ≤ 11) (hc : c ≤ 60) (h5 : gI cm0 s 5 = nI n) (h6 : gI cm0 s 6 = nI c) {post : CMu → Prop} (hp : ∀ cm', Cp d s cm0 cm' (PH n c) (QR (n + 1)) → post cm') : w_X4_copyFrom post d s cm0 := by
  unfold w_X4_copyFrom
  have h0 : Cp d s cm0 cm0 (fun _ _ => False) (fun _ _ => False) := ⟨fun _ _ _ => rfl, fun _ _ _ => rfl, rfl, fun _ _ z => z.elim, fun _ _ z => z.elim⟩
  refine c_cpO hs (Cp_mono (Cp_I hs (Cp_I hs (Cp_I hs (Cp_I hs (Cp_I hs (Cp_I hs (Cp_I hs (Cp_I hs (Cp_I hs h0 (a := 0) (j := 5) (by omega) (by omega) (by omega)) (a := 0) (j := 6) (by omega) (by omega) (by omega)) (a := 0) (j := 7) (by omega) (by omega) (by omega)) (a := 0) (j := 8) (by omega) (by omega) (by omega)) (a := 0) (j := 9) (by omega) (by omega) (by omega)) (a := 0) (j := 10) (by omega) (by omega) (by omega)) (a := 0) (j := 11) (by omega) (by omega) (by omega)) (a := 0) (j := 12) (by omega) (by omega) (by omega)) (a := 0) (j := 13) (by omega) (by omega) (by omega)) (fun a k z => by omega) (fun _ _ z => z)) (fun cm1 h1 => ⟨n + 2, ?_⟩)
  refine c_cpR hs hn h5 (fun cm2 h2 => ?_) (n + 1) 0 cm1 (by omega) (Cp_mono h1 (fun a k z => z.elim id (fun y => by omega)) (fun a k z => by unfold QR at z; omega))
  unfold B_X4_copyFrom_138
  exact ⟨c + 1, c_cpC hs hc h6 hp c 0 cm2 (by omega) (Cp_mono h2 (fun a k z => z.elim id (fun y => by omega)) (fun _ _ z => z))⟩
end CP
theorem ad_PH {n c o x : Nat} (hn : n ≤ 11) (hc : c ≤ 60) (ho : o ≤ c) (h : DD n c o x) : PH n c (ad x).1 (ad x).2 := by
  unfold DD at h
  rcases h with h | h | h | h | h | h
  · have key : ∀ x, x < 10 → (ad x).1 = 0 ∧ 5 ≤ (ad x).2 ∧ (ad x).2 ≤ 13 ∨ (ad x).1 = 5 ∧ (ad x).2 = 3 := by decide
    rcases key x h with z | z
    · exact Or.inl (Or.inl (Or.inl z))
    · exact Or.inl (Or.inl (Or.inr (Or.inl z)))
  · obtain ⟨r, w, hw, rfl⟩ : ∃ r w, w < 3 ∧ x = 10 + 3 * r + w := ⟨(x - 10) / 3, (x - 10) % 3, by omega, by omega⟩
    rw [ad_r (by omega) hw]
    exact Or.inl (Or.inr ⟨by show 23 ≤ 24 + 2 * r; omega, by show 24 + 2 * r < 23 + 2 * (n + 1); omega, by show w < 4; omega⟩)
  · obtain ⟨r, w, hw, rfl⟩ : ∃ r w, w < 4 ∧ x = 46 + 4 * r + w := ⟨(x - 46) / 4, (x - 46) % 4, by omega, by omega⟩
    rw [ad_k (by omega) hw]
    exact Or.inl (Or.inr ⟨by show 23 ≤ 23 + 2 * r; omega, by show 23 + 2 * r < 23 + 2 * (n + 1); omega, by show w < 4; omega⟩)
  · by_cases q : x < 118
    · obtain ⟨r, w, hw, rfl⟩ : ∃ r w, w < 2 ∧ x = 94 + 2 * r + w := ⟨(x - 94) / 2, (x - 94) % 2, by omega, by omega⟩
      rw [ad_q (by omega) hw]
      exact Or.inl (Or.inl (Or.inr (Or.inr (Or.inl ⟨by show 6 + w = 6 ∨ 6 + w = 7; omega, by show r < 12; omega⟩))))
    · obtain ⟨r, w, hw, rfl⟩ : ∃ r w, w < 12 ∧ x = 118 + 12 * r + w := ⟨(x - 118) / 12, (x - 118) % 12, by omega, by omega⟩
      rw [ad_a (by omega) hw]
      exact Or.inl (Or.inl (Or.inr (Or.inr (Or.inr (Or.inl ⟨by show 9 ≤ 9 + r; omega, by show 9 + r < 9 + 12; omega, hw⟩)))))
  · obtain ⟨i, rfl⟩ : ∃ i, x = 262 + i := ⟨x - 262, by omega⟩
    rw [ad_o (by omega)]
    exact Or.inr (Or.inr ⟨rfl, by show i < c; omega⟩)
  · obtain ⟨i, w, hw, rfl⟩ : ∃ i w, w < 8 ∧ x = 330 + 8 * i + w := ⟨(x - 330) / 8, (x - 330) % 8, by omega, by omega⟩
    rw [ad_c hw]
    exact Or.inr (Or.inl ⟨by show 47 ≤ 47 + i; omega, by show 47 + i < 47 + c; omega, by show w < 7; omega⟩)
theorem Fo_copy {d s : Nat} {cm0 cm : CMu} {M : MR} {T : Nat → Pg} {n c o : Nat} (hF : Fo cm0 s M T n c o) (hn : n ≤ 11) (hc : c ≤ 60) (ho : o ≤ c) (h : Cp d s cm0 cm (PH n c) (QR (n + 1))) : Fo cm d M T n c o := by
  obtain ⟨g1, g2, g3, g4⟩ := hF
  refine ⟨fun x hx => ?_, fun r hr => ?_, fun i hi => ?_, fun i p h1 h2 h3 => ?_⟩
  · rw [h.2.2.2.1 _ _ (ad_PH hn hc ho hx)]
    exact g1 x hx
  · rw [← g2 r hr, Nat.add_assoc, Nat.add_assoc]
    exact h.2.2.2.1 _ _ (Or.inl (Or.inr ⟨by omega, by omega, by omega⟩))
  · rw [← g3 i hi, Nat.add_assoc, Nat.add_assoc]
    exact h.2.2.2.1 _ _ (Or.inr (Or.inl ⟨by omega, by omega, by omega⟩))
  · have e5 : gL cm (d + 23 + 2 * i) 5 = gL cm0 (s + 23 + 2 * i) 5 := by
      rw [Nat.add_assoc, Nat.add_assoc]
      exact h.2.2.2.2 _ _ ⟨by omega, by omega, by omega, Or.inr rfl⟩
    have e4 : gL cm (d + 23 + 2 * i) 4 = gL cm0 (s + 23 + 2 * i) 4 := by
      rw [Nat.add_assoc, Nat.add_assoc]
      exact h.2.2.2.2 _ _ ⟨by omega, by omega, by omega, Or.inl rfl⟩
    rw [e5, e4]
    exact g4 i p h1 h2 h3
