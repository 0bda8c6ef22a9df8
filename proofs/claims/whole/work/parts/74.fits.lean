/-! ===== fits: the call ===== -/
def dgO (x : Int32) : Prop := ¬ x < 49 ∧ ¬ 57 < x
theorem dg_eq {x : Int32} : dgO x ↔ (¬ x - 48 < 1 ∧ x - 48 ≤ 9) := by
  have e49 : (49 : Int32).toInt = 49 := rfl
  have e57 : (57 : Int32).toInt = 57 := rfl
  have e48 : (48 : Int32).toInt = 48 := rfl
  have e1 : (1 : Int32).toInt = 1 := rfl
  have e9 : (9 : Int32).toInt = 9 := rfl
  unfold dgO
  rw [fa_lt, fa_lt, fa_lt, fa_le, e49, e57, e1, e9]
  constructor
  · intro ⟨h1, h2⟩
    have : (x - 48).toInt = x.toInt - 48 := by rw [ti_sub (by omega), e48]
    omega
  · intro ⟨h1, h2⟩
    have e : x - 48 + 48 = x := Int32.sub_add_cancel ..
    have : (x - 48 + 48).toInt = (x - 48).toInt + 48 := by rw [ti_add (by omega), e48]
    rw [e] at this
    omega
theorem dg_nI {x : Int32} (h : dgO x) : ∃ d, x - 48 = nI d ∧ 1 ≤ d ∧ d ≤ 9 := by
  obtain ⟨h1, h2⟩ := dg_eq.mp h
  have e1 : (1 : Int32).toInt = 1 := rfl
  have e9 : (9 : Int32).toInt = 9 := rfl
  rw [fa_lt] at h1
  rw [fa_le] at h2
  obtain ⟨j, hj, e⟩ := nI_of (x := x - 48) (by rw [fa_lt]; have e0 : (0 : Int32).toInt = 0 := rfl; omega)
  rw [e, nI_toInt hj] at h1 h2
  exact ⟨j, e, by omega, by omega⟩
def RD (cm0 cm : CMu) (B : Nat → Int32) (j : Nat) : Prop := (∀ b i, (b < 377 ∨ 381 < b) → gI cm b i = gI cm0 b i) ∧ cm.2 = cm0.2 ∧ ∀ i, i < j → gI cm 378 i = B i - 48
theorem c_digits {cm0 : CMu} {B : Nat → Int32} {l : Nat} (hl : l ≤ 6) (hB : ∀ i, i < l → gI cm0 3 i = B i) {post : Bool → CMu → Prop}
    (h1 : (∀ i, i < l → dgO (B i)) → ∀ cm', RD cm0 cm' B l → gI cm' 377 4 = nI l → post true cm') (h0 : ¬ (∀ i, i < l → dgO (B i)) → ∀ cm', RD cm0 cm' B 0 → post false cm') :
    ∀ (g j : Nat) (cm : CMu), j + g = l → (∀ i, i < j → dgO (B i)) → RD cm0 cm B j → B_X8_read_25 post (g + 1) (nI l) (nI j) cm := by
  intro g
  induction g with
  | zero =>
    intro j cm hj hd h
    have e : j = l := by omega
    subst e
    unfold B_X8_read_25
    refine ⟨fun _ => h1 hd _ ⟨fun b i hb => by rw [gI_c (by omega)]; exact h.1 b i hb, h.2.1, fun i hi => by rw [gI_c (by omega)]; exact h.2.2 i hi⟩ gI_hit, fun z => absurd (nI_le (Nat.le_refl _) (by omega)) z⟩
  | succ g ih =>
    intro j cm hj hd h
    have e3 : gI cm 3 j = B j := by
      rw [h.1 3 j (by omega)]
      exact hB j (by omega)
    have R' : RD cm0 (uI cm 378 j (B j - 48)) B (j + 1) := by
      refine ⟨fun b i hb => by rw [gI_c (by omega)]; exact h.1 b i hb, h.2.1, fun i hi => ?_⟩
      by_cases q : i = j
      · subst q
        exact gI_hit
      · rw [gI_f q]
        exact h.2.2 i (by omega)
    have bad : ¬ dgO (B j) → post false (uI cm 378 j (B j - 48)) := fun hn => h0 (fun z => hn (z j (by omega))) _ ⟨R'.1, R'.2.1, fun i hi => absurd hi (by omega)⟩
    unfold B_X8_read_25 B_X8_read_66
    rw [nI_clamp (by omega), e3, gI_hit, nI_1]
    refine ⟨fun z => absurd z (nI_ge (by omega) (by omega)), fun _ => ⟨vp_in_nI (by omega) (by omega), vp_in_nI (by omega) (by omega), vp_in_nI (by omega) (by omega), fun z => bad (fun y => (dg_eq.mp y).1 z), fun z => ⟨vp_in_nI (by omega) (by omega), fun z2 => ?_, fun z2 => bad (fun y => z2 (dg_eq.mp y).2)⟩⟩⟩
    have dj : dgO (B j) := dg_eq.mpr ⟨z, z2⟩
    refine ih (j + 1) _ (by omega) (fun i hi => ?_) R'
    by_cases q : i = j
    · rw [q]; exact dj
    · exact hd i (by omega)
theorem r_digits {B : Nat → Int32} {l : Nat} {x : Int32} {mm : MM} {post : Int32 → MM → Prop} (hl : l ≤ 6) (hB : ∀ i, i < l → mm 4 i = B i) (h1 : (∀ i, i < l → dgO (B i)) → B_X13_fits_65 post x (nI l) true mm) (h0 : ¬ (∀ i, i < l → dgO (B i)) → B_X13_fits_65 post x (nI l) false mm) :
    ∀ (g j : Nat), j + g = l → (∀ i, i < j → dgO (B i)) → B_X13_fits_34 post (g + 2) x (nI l) true (nI j) mm := by
  intro g
  induction g with
  | zero =>
    intro j hj hd
    have e : j = l := by omega
    subst e
    unfold B_X13_fits_34
    exact ⟨fun _ => h1 hd, fun z => absurd (nI_le (Nat.le_refl _) (by omega)) z⟩
  | succ g ih =>
    intro j hj hd
    unfold B_X13_fits_34
    rw [nI_clamp (by omega), hB j (by omega), nI_1]
    refine ⟨fun z => absurd z (nI_ge (by omega) (by omega)), fun _ => ⟨fun z => absurd z (by decide), fun _ => ⟨vp_in_nI (by omega) (by omega), r_isIn2 (fun a b => ih (j + 1) (by omega) (fun i hi => ?_)) (fun hn => ?_)⟩⟩⟩
    · by_cases q : i = j
      · rw [q]; exact ⟨a, b⟩
      · exact hd i (by omega)
    · have hf : B_X13_fits_65 post x (nI l) false mm := h0 (fun z => hn (z j (by omega)))
      show B_X13_fits_34 post (g + 1 + 1) x (nI l) false (nI (j + 1)) mm
      unfold B_X13_fits_34
      exact ⟨fun _ => hf, fun _ => ⟨fun _ => hf, fun z => absurd rfl z⟩⟩
theorem r_load {l n : Nat} {x : Int32} {mm0 : MM} {post : Int32 → MM → Prop} (hl : l ≤ 6) (hp : ∀ mm', (∀ b, b ≠ 6 → mm' b = mm0 b) → (∀ i, i < l → mm' 6 i = mm0 4 i - 48) → w_X13_tries (fun u7 => (¬ x = (-1) → (((u7 0 21) ≤ 0 → (B_X13_fits_166 post u7)) ∧ (¬ (u7 0 21) ≤ 0 → ((nI l ≤ x → (B_X13_fits_166 post u7)) ∧ (¬ nI l ≤ x → ((vp_in x 6) ∧ B_X13_fits_167 post (u7 8 (Int32.toNatClampNeg x)) u7)))))) ∧ (x = (-1) → (post (u7 0 21) u7))) 0 0 (up2 mm' 0 21 0)) :
    ∀ (g j : Nat) (mm : MM), j + g = l → (∀ b, b ≠ 6 → mm b = mm0 b) → (∀ i, i < j → mm 6 i = mm0 4 i - 48) → B_X13_fits_95 post (g + 1) x (nI l) (nI j) mm := by
  intro g
  induction g with
  | zero =>
    intro j mm hj ho h6
    have e : j = l := by omega
    subst e
    unfold B_X13_fits_95
    exact ⟨fun _ => hp mm ho h6, fun z => absurd (nI_le (Nat.le_refl _) (by omega)) z⟩
  | succ g ih =>
    intro j mm hj ho h6
    unfold B_X13_fits_95
    rw [nI_clamp (by omega), nI_1]
    refine ⟨fun z => absurd z (nI_ge (by omega) (by omega)), fun _ => ⟨vp_in_nI (by omega) (by omega), vp_in_nI (by omega) (by omega), ?_⟩⟩
    refine ih (j + 1) _ (by omega) (fun b hb => by rw [up2_ne hb, ho b hb]) (fun i hi => ?_)
    by_cases q : i = j
    · subst q
      rw [up2_hit, ho 4 (by omega)]
    · rw [up2_miss (by omega)]
      exact h6 i (by omega)
theorem SI_fit {q : Nat} {cm cm' : CMu} {mm mm' : MM} (h : SI q cm mm) (hI : ∀ b j, (b < 377 ∨ 381 < b) → gI cm' b j = gI (uI cm 2 1 0) b j) (h2 : cm'.2 = cm.2) (e1 : mm' 1 = mm 1) (e2 : mm' 2 = mm 2) (e3 : mm' 0 3 = mm 0 3) (e6 : mm' 0 6 = 0) (e10 : mm' 0 10 = mm 0 10) : SI (q + 1) cm' mm' := by
  obtain ⟨n, c, o, T, g1, g2, g3, g4, g5, b, k1, k2, k3⟩ := h
  obtain ⟨o1, o2, o3⟩ := mid_o g2
  have hI' : ∀ b j, b ≠ 2 → (b < 377 ∨ 381 < b) → gI cm' b j = gI cm b j := fun b j hb hb2 => by rw [hI b j hb2, gI_c hb]
  have hL : ∀ b j, gL cm' b j = gL cm b j := fun b j => by unfold gL; rw [h2]
  have hW : ∀ b j, gW cm' b j = gW cm b j := fun b j => by unfold gW; rw [h2]
  refine ⟨n, c, o, T, ?_, ?_, fun i hi ht => WRo_fr2 (g3 i hi ht) (fun b j h1 _ => hI' b j (by omega) (by omega)) (fun b j h1 _ => hW b j), TP_0 (by rw [hI 2 1 (by omega), gI_hit]) e6, by rw [hI' 4 7 (by omega) (by omega), e10]; exact g5, b, by rw [hI' 1 7 (by omega) (by omega)]; exact k1, by rw [e3]; exact k2, fun z => ?_⟩
  · rw [e1]
    exact Fo_fr g1 o1 o2 o3 (fun b j h1 _ => hI' b j (by omega) (by omega)) (fun b j h1 _ => hL b j)
  · rw [e1]
    exact Mid_K g2 (by omega)
  · obtain ⟨nk, ck, ok, Tk, a1, a2, a3, a4⟩ := k3 z
    obtain ⟨p1, p2, p3⟩ := mid_o a2
    refine ⟨nk, ck, ok, Tk, ?_, ?_, a3, a4⟩
    · rw [e2]
      exact Fo_fr a1 p1 p2 p3 (fun b j h1 _ => hI' b j (by omega) (by omega)) (fun b j h1 _ => hL b j)
    · rw [e2]
      exact Mid_K a2 (by omega)
section SFI
variable {q : Nat} {cm : CMu} {mm : MM} {oo : Nat → Int64} {kk : KKt} {v : Int32}
theorem s_fits (h : SI q cm mm) {x : Int32} (hk : ∀ cm' mm' oo', SI (q + 1) cm' mm' → kk v cm' mm' oo') {post : Int32 → CMu × (Nat → Int64) → Prop} (hpost : ∀ r u, w_X13_fits (EX kk v r u) x mm → post r u) : w_L_fits post x cm oo := by
  obtain ⟨n, c, o, T, g1, g2, g3, ⟨len, t1, t2, t3, t4⟩, g5, g6⟩ := id h
  obtain ⟨o1, o2, o3⟩ := mid_o g2
  have hH := Fo_h g1
  have e5 : gI cm 382 5 = nI n := by rw [hH.2.1, g2.1.1]
  have e6 : (up2 mm 0 6 0) 0 20 = mm 0 20 := rfl
  -- what stays
  have stay : ∀ (cm' : CMu) (mm' : MM), (∀ b j, (b < 377 ∨ 381 < b) → gI cm' b j = gI (uI cm 2 1 0) b j) → cm'.2 = cm.2 → mm' 1 = mm 1 → mm' 2 = mm 2 → mm' 0 3 = mm 0 3 → mm' 0 6 = 0 → mm' 0 10 = mm 0 10 → SI (q + 1) cm' mm' := fun cm' mm' a1 a2 a3 a4 a5 a6 a7 => SI_fit h a1 a2 a3 a4 a5 a6 a7
  -- the reference refuses
  have refuse : ∀ (cm' : CMu), (∀ b j, (b < 377 ∨ 381 < b) → gI cm' b j = gI (uI cm 2 1 0) b j) → cm'.2 = cm.2 → (∀ (P : Int32 → MM → Prop), B_X13_fits_75 P x (nI len) true (up2 mm 0 6 0) → w_X13_fits P x mm) → post 1 (cm', oo) := by
    intro cm' hI h2 hw
    refine hpost _ _ (hw _ ?_)
    unfold B_X13_fits_75
    refine ⟨fun y => absurd (show (up2 (up2 mm 0 6 0) 0 0 1) 0 0 ≤ 0 from y) (by decide : ¬ (1 : Int32) ≤ 0), fun _ => EX_th (r := 1) rfl (by decide) (hk _ _ _ (stay _ _ hI h2 (by funext i; rfl) (by funext i; rfl) rfl rfl rfl))⟩
  have f29 : ∀ (P : Int32 → MM → Prop), B_X13_fits_75 P x (nI len) true (up2 mm 0 6 0) → B_X13_fits_29 P x (nI len) (up2 mm 0 6 0) := by
    intro P hP
    have h65 : B_X13_fits_65 P x (nI len) false (up2 mm 0 6 0) := by
      unfold B_X13_fits_65
      exact ⟨fun z => absurd rfl z, fun _ => hP⟩
    unfold B_X13_fits_29 B_X13_fits_30
    refine ⟨1, ?_⟩
    unfold B_X13_fits_34
    exact ⟨fun _ => h65, fun _ => ⟨fun _ => h65, fun z => absurd rfl z⟩⟩
  have frU : ∀ b j, (b < 377 ∨ 381 < b) → gI (uI (uI cm 377 4 0) 2 1 0) b j = gI (uI cm 2 1 0) b j := by
    intro b j hb
    by_cases z : b = 2 ∧ j = 1
    · obtain ⟨rfl, rfl⟩ := z
      rw [gI_hit, gI_hit]
    · have a1 : gI (uI (uI cm 377 4 0) 2 1 0) b j = gI (uI cm 377 4 0) b j := up2_miss z
      have a2 : gI (uI cm 2 1 0) b j = gI cm b j := up2_miss z
      rw [a1, a2, gI_c (by omega)]
  unfold w_L_fits w_X12_fits w_X8_read w_X9_useUp B_X8_read_21 B_X12_fits_21
  have r21 : gI (uI cm 377 4 0) 2 1 = nI len := by rw [gI_c (by omega)]; exact t1
  rw [r21]
  -- lengths
  have badlen : (len < 1 ∨ 6 < len) → post 1 (uI (uI cm 377 4 0) 2 1 0, oo) := by
    intro hb
    refine refuse _ frU rfl (fun P hP => ?_)
    unfold w_X13_fits
    rw [t2]
    refine r_isIn2 (fun a b => ?_) (fun _ => ⟨fun _ => f29 P hP, fun z => absurd rfl z⟩)
    rw [fa_lit 1, nI_ltI (by omega) (by omega)] at a
    rw [fa_lit 6, nI_ltI (by omega) (by omega)] at b
    omega
  have c1 : nI len < 1 ↔ len < 1 := by rw [fa_lit 1, nI_ltI (by omega) (by omega)]
  have c6 : nI len ≤ 6 ↔ len ≤ 6 := by rw [fa_lit 6, nI_leI (by omega) (by omega)]
  refine ⟨fun z => ⟨fun _ => ⟨rfl, badlen (Or.inl (c1.mp z))⟩, fun y => absurd rfl y⟩, fun z1' => ⟨fun z6' => ⟨len + 1, ?_⟩, fun z => ⟨fun _ => ⟨rfl, badlen (Or.inr (by rw [c6] at z; omega))⟩, fun y => absurd rfl y⟩⟩⟩
  have z1 : ¬ len < 1 := fun y => z1' (c1.mpr y)
  have z6 : len ≤ 6 := c6.mp z6'
  have inlen : ∀ (P : Int32 → MM → Prop), (x < -1 → B_X13_fits_29 P x (nI len) (up2 mm 0 6 0)) → (¬ x < -1 → B_X13_fits_30 P x (nI len) true (up2 mm 0 6 0)) → w_X13_fits P x mm := by
    intro P a1 a2
    unfold w_X13_fits
    rw [t2]
    refine r_isIn2 (fun _ _ => ⟨fun z => absurd z (by decide), fun _ => ⟨a1, a2⟩⟩) (fun z => absurd ⟨?_, ?_⟩ z)
    · rw [fa_lit 1, nI_ltI (by omega) (by omega)]
      omega
    · rw [fa_lit 6, nI_ltI (by omega) (by omega)]
      omega
  have B4 : ∀ i, i < len → (up2 mm 0 6 0) 4 i = mm 4 i := fun i _ => rfl
  refine c_digits (cm0 := uI (uI cm 377 4 0) 2 1 0) (B := mm 4) z6 (fun i hi => by rw [gI_c (by omega), gI_c (by omega)]; exact t4 i hi) (fun hd cm1 h1 h4 => ⟨fun y => absurd y (by decide), fun _ => ?_⟩) (fun hd cm1 h1 => ⟨fun _ => ⟨rfl, ?_⟩, fun y => absurd rfl y⟩) len 0 _ (by omega) (fun i hi => absurd hi (by omega)) ⟨fun _ _ _ => rfl, rfl, fun i hi => absurd hi (by omega)⟩
  · -- all are figures
    have le_neg : (-1 ≤ x) ↔ ¬ x < -1 := le_lt
    refine ⟨fun hx => ?_, fun hx => ⟨rfl, ?_⟩⟩
    · have hx' := le_neg.mp hx
      have e51 : gI cm1 382 5 = nI n := by
        rw [h1.1 382 5 (by omega), gI_c (by omega), gI_c (by omega)]
        exact e5
      have e91 : ∀ u : CMu, u = cm1 → gI u 382 9 = mm 1 5 := by
        intro u hu
        rw [hu, h1.1 382 9 (by omega), gI_c (by omega), gI_c (by omega)]
        exact hH.2.2.2.2.2.1
      rw [e51, nI_1]
      have F1 : Fo cm1 382 (mm 1) T n c o := by
        refine Fo_fr g1 o1 o2 o3 (fun b j h3 h4 => ?_) (fun b j h3 h4 => ?_)
        · rw [h1.1 b j (by omega), gI_c (by omega), gI_c (by omega)]
        · show cm1.2.1 b j = cm.2.1 b j
          rw [h1.2.1]
          rfl
      refine c_len F1 o1 (a := 0) (Nat.le_refl _) (Nat.zero_le _) ?_
      rw [Nat.sub_zero, e91 cm1 rfl]
      obtain ⟨td, htd⟩ : ∃ td : Nat → Nat, ∀ i, i < len → mm 4 i - 48 = nI (td i) ∧ 1 ≤ td i ∧ td i ≤ 9 := by
        refine ⟨fun i => (mm 4 i - 48).toNatClampNeg, fun i hi => ?_⟩
        obtain ⟨d, e, a, b⟩ := dg_nI (hd i hi)
        show _ = nI (mm 4 i - 48).toNatClampNeg ∧ 1 ≤ (mm 4 i - 48).toNatClampNeg ∧ (mm 4 i - 48).toNatClampNeg ≤ 9
        rw [e, nI_clamp (by omega)]
        exact ⟨rfl, a, b⟩
      have hz : ∀ k, k < len → 1 ≤ td k ∧ td k ≤ 9 := fun k hk => (htd k hk).2
      have hokc := cT_ok len hz
      obtain ⟨en1, ⟨rest, en2⟩, en3⟩ := enF_all len (cT td len) hokc
      have enl := enF_len len (cT td len) hokc
      have f6 : fct len ≤ 720 := by
        have : ∀ k, k < 7 → fct k ≤ 720 := by decide
        exact this len (by omega)
      rw [en2, List.length_cons] at enl
      have afst := en1 (ascF len (cT td len)) (by rw [en2]; simp)
      have avals : ∀ z ∈ ascF len (cT td len), 1 ≤ z ∧ z ≤ 9 := by
        intro z hz2
        have hc : 0 < cT td len z := by
          rw [← afst.2 z]
          exact List.count_pos_iff.mpr hz2
        by_cases y : z = 0 ∨ 9 < z
        · rw [hokc.1 z y] at hc
          omega
        · omega
      unfold w_X8_tryAll
      have S0 : SO (uI cm 2 1 0) (uI cm1 377 5 0) td len := by
        refine ⟨fun b j hb => ?_, ?_, ?_, gI_hit, fun i hi => ?_⟩
        · rw [gI_c (by omega), h1.1 b j hb]
          exact frU b j hb
        · show cm1.2 = _
          rw [h1.2.1]
          rfl
        · rw [gI_f (by omega)]
          exact h4
        · rw [gI_c (by omega), h1.2.2 i hi]
          exact (htd i hi).1
      refine c_sort (fs := []) z6 hz (fun cm2 h2 => ⟨rest.length + 2, ?_⟩) S0
      refine c_all (td := td) z6 (by omega) (fun k hk => (hz k hk).2) rest _ 0 (0, []) cm2 h2 (by rw [← en2]; exact en3) (by omega) (Nat.le_refl _) afst.1 avals (fun cm3 b3 h3 => ?_)
      rw [← en2] at h3
      generalize hF : List.foldl (upT (PFT (lenS (mm 1) 0 (n + 1)) (mm 1 5) td len)) (0, []) (enF len (cT td len)) = F at h3
      -- the reference
      have hle := fold_le (P := PFT (lenS (mm 1) 0 (n + 1)) (mm 1 5) td len) (enF len (cT td len)) (0, [])
      rw [hF, en2, List.length_cons] at hle
      have hF1 : F.1 ≤ 1000 := by
        have : (0, ([] : NL)).1 = 0 := rfl
        omega
      have ref : ∀ (r : Int32), (∀ (P : Int32 → MM → Prop) (u7 : MM), u7 0 21 = nI F.1 → (0 < F.1 → ∀ i, i < len → u7 8 i = nI (gD F.2 i)) → P r u7 → ((¬ x = (-1) → (((u7 0 21) ≤ 0 → (B_X13_fits_166 P u7)) ∧ (¬ (u7 0 21) ≤ 0 → ((nI len ≤ x → (B_X13_fits_166 P u7)) ∧ (¬ nI len ≤ x → ((vp_in x 6) ∧ B_X13_fits_167 P (u7 8 (Int32.toNatClampNeg x)) u7)))))) ∧ (x = (-1) → (P (u7 0 21) u7)))) → post 0 (cm3, vp_updL oo (Int32.toNatClampNeg (0 : Int32)) (Int32.toInt64 r)) := by
        intro r hr
        refine hpost _ _ (inlen _ (fun y => absurd y hx') (fun _ => ?_))
        unfold B_X13_fits_30
        refine ⟨len + 2, r_digits (B := mm 4) z6 B4 (fun _ => ?_) (fun y => absurd hd y) len 0 (by omega) (fun i hi => absurd hi (by omega))⟩
        unfold B_X13_fits_65
        refine ⟨fun _ => ?_, fun y => absurd y (by decide)⟩
        unfold B_X13_fits_75
        refine ⟨fun _ => ⟨len + 1, ?_⟩, fun y => absurd (show (up2 (up2 mm 0 6 0) 0 0 0) 0 0 ≤ 0 from (by decide : (0 : Int32) ≤ 0)) y⟩
        refine r_load (n := n) (mm0 := up2 (up2 (up2 mm 0 6 0) 0 0 (b2 false)) 0 20 (nI len)) z6 (fun mm1 ho h6 => ?_) len 0 _ (by omega) (fun _ _ => rfl) (fun i hi => absurd hi (by omega))
        unfold w_X13_tries
        have m1 : mm1 1 = mm 1 := by rw [ho 1 (by omega)]; funext i; rfl
        have m2 : mm1 2 = mm 2 := by rw [ho 2 (by omega)]; funext i; rfl
        have cm0 : cM td len 0 = cT td len := by
          funext w
          unfold cM cT
          refine cntP_cong (fun k hk => ?_)
          rw [b_0]
          simp
        refine r_tries (mm0 := up2 mm1 0 21 0) (td := td) (M := mm 1) (n := n) z6 (by rw [up2_ne (by omega)]; exact m1) g2.1.1 o1 rfl (by rw [up2_miss (by omega), ho 0 (by omega), up2_hit]) (fun k hk => ?_) hz len 8 [] 0 _ (0, []) _ (by simp) (by omega) (fun z hz2 => absurd hz2 (by simp)) ⟨fun _ _ _ _ => rfl, fun _ _ => rfl, up2_hit, fun k hk => absurd hk (by simp), fun z => absurd z (by decide)⟩ (by rw [cm0]; exact hokc) (by rw [cm0, en2, List.length_cons]; show 0 + (rest.length + 1) ≤ 1000; omega) (fun mm2 h2r => ?_)
        · rw [up2_ne (by omega), h6 k hk]
          show mm 4 k - 48 = _
          exact (htd k hk).1
        · have eid : (enF len (cM td len 0)).map (fun e => [] ++ e) = enF len (cT td len) := by
            rw [cm0]
            exact List.map_id' _
          rw [eid, hF] at h2r
          obtain ⟨b1, b2', b3', b4, b5⟩ := h2r
          refine hr _ mm2 b3' b5 ?_
          have z00 : mm2 0 0 = 0 := by
            rw [b2' 0 (by omega), up2_miss (by omega), ho 0 (by omega)]
            rfl
          refine EX_ok z00 (hk _ _ _ (stay _ _ (fun b j hb => ?_) ?_ ?_ ?_ ?_ ?_ ?_))
          · exact h3.1 b j hb
          · exact h3.2.1
          · rw [b1 1 (by omega) (by omega) (by omega), up2_ne (by omega)]
            exact m1
          · rw [b1 2 (by omega) (by omega) (by omega), up2_ne (by omega)]
            exact m2
          · rw [b2' 3 (by omega), up2_miss (by omega), ho 0 (by omega)]
            rfl
          · rw [b2' 6 (by omega), up2_miss (by omega), ho 0 (by omega)]
            rfl
          · rw [b2' 10 (by omega), up2_miss (by omega), ho 0 (by omega)]
            rfl
      unfold B_X12_fits_106 B_X12_fits_107
      rw [h3.2.2.2.1, h3.2.2.1]
      refine ⟨fun y => ⟨fun y2 => ref (-1) (fun P u7 a1 a2 hP => ?_), fun y2 => ⟨fun y3 => ref (-1) (fun P u7 a1 a2 hP => ?_), fun y3 => ?_⟩⟩, fun y => ref (nI F.1) (fun P u7 a1 a2 hP => ?_)⟩
      · rw [a1]
        refine ⟨fun _ => ⟨fun _ => ?_, fun y3 => absurd y2 y3⟩, fun y3 => absurd y3 y⟩
        unfold B_X13_fits_166 B_X13_fits_167
        exact hP
      · rw [a1]
        refine ⟨fun _ => ⟨fun y4 => absurd y4 y2, fun _ => ⟨fun _ => ?_, fun y4 => absurd y3 y4⟩⟩, fun y4 => absurd y4 y⟩
        unfold B_X13_fits_166 B_X13_fits_167
        exact hP
      · have x0 : ¬ x < 0 := by
          rw [fa_lt] at hx' ⊢
          have em : (-1 : Int32).toInt = -1 := rfl
          have e0 : (0 : Int32).toInt = 0 := rfl
          rw [em] at hx'
          rw [e0]
          intro y4
          have : x.toInt = -1 := by omega
          exact y ((fa_eq _ _).mpr (by rw [this, em]))
        have x1 : ¬ nI len < x := by
          rw [fa_lt]
          rw [fa_le] at y3
          omega
        obtain ⟨k, hk2, rfl⟩ := in_of (n := len) (by omega) x0 x1
        rw [nI_leI (by omega) (by omega)] at y3
        have hpos : 0 < F.1 := by
          rw [fa_lit 0, nI_leI (by omega) (by omega)] at y2
          omega
        rw [nI_clamp (by omega)]
        refine ⟨vp_in_nI (by omega) (by omega), ?_⟩
        have hk3 : k < len := by omega
        rw [h3.2.2.2.2.2.2 hpos k hk3]
        refine ref (nI (gD F.2 k)) (fun P u7 a1 a2 hP => ?_)
        rw [a1, nI_clamp (by omega)]
        refine ⟨fun _ => ⟨fun y4 => absurd y4 y2, fun _ => ⟨fun y4 => absurd y4 ?_, fun _ => ⟨vp_in_nI (by omega) (by omega), ?_⟩⟩⟩, fun y4 => absurd y4 y⟩
        · rw [nI_leI (by omega) (by omega)]
          exact y3
        · unfold B_X13_fits_167
          rw [a2 hpos k hk3]
          exact hP
      · rw [a1]
        exact ⟨fun y3 => absurd y y3, fun _ => hP⟩
    · have hx' : x < -1 := by
        by_cases y : x < -1
        · exact y
        · exact absurd (le_neg.mpr y) hx
      exact refuse cm1 (fun b j hb => by rw [h1.1 b j hb]; exact frU b j hb) (by rw [h1.2.1]; rfl) (fun P hP => inlen P (fun _ => f29 P hP) (fun y => absurd hx' y))
  · refine refuse cm1 (fun b j hb => by rw [h1.1 b j hb]; exact frU b j hb) (by rw [h1.2.1]; rfl) (fun P hP => inlen P (fun _ => f29 P hP) (fun _ => ?_))
    unfold B_X13_fits_30
    refine ⟨len + 2, r_digits (B := mm 4) z6 B4 (fun y => absurd y hd) (fun _ => ?_) len 0 (by omega) (fun i hi => absurd hi (by omega))⟩
    unfold B_X13_fits_65
    exact ⟨fun y => absurd rfl y, fun _ => hP⟩
end SFI
