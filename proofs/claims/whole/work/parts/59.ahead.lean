/-! ===== ahead, pole, run ===== -/
def polF (r : Nat) : Nat → MR → MR
  | 0, M => M
  | j + 1, M => if polF r j M (330 + 8 * j) = 2 ∧ polF r j M (331 + 8 * j) = nI r then upd (polF r j M) (330 + 8 * j) 1 else polF r j M
def polC (r : Nat) : Nat → MR → Nat
  | 0, _ => 0
  | j + 1, M => polC r j M + (if polF r j M (330 + 8 * j) = 2 ∧ polF r j M (331 + 8 * j) = nI r then 1 else 0)
theorem polF_o {r : Nat} {M : MR} {x : Nat} (h : x < 330 ∨ ¬ (x - 330) % 8 = 0) : ∀ j, polF r j M x = M x := by
  intro j
  induction j with
  | zero => rfl
  | succ j ih =>
    unfold polF
    split
    · rw [pk_un (by omega), ih]
    · exact ih
theorem polF_hi {r : Nat} {M : MR} {x : Nat} : ∀ j, 330 + 8 * j ≤ x → polF r j M x = M x := by
  intro j
  induction j with
  | zero => intro _; rfl
  | succ j ih =>
    intro h
    unfold polF
    split
    · rw [pk_un (by omega), ih (by omega)]
    · exact ih (by omega)
theorem Fo_st {cm : CMu} {f : Nat} {M : MR} {T : Nat → Pg} {n c o : Nat} (hF : Fo cm f M T n c o) (hn : n ≤ 11) (hc : c ≤ 60) (ho : o ≤ 60) {i : Nat} (hi : i < 60) (hs : M (330 + 8 * i) = 2) : Fo (uI cm (f + 47 + i) 0 1) f (upd M (330 + 8 * i) 1) T n c o := by
  obtain ⟨g1, g2, g3, g4⟩ := hF
  refine ⟨RS_c g1 (DD_im hn hc ho) (i := i) (w := 0) hi (by omega) 1, fun r hr => ?_, fun j hj => ?_, ?_⟩
  · rw [gI_c (by omega), g2 r hr]
    congr 1
    refine cntP_cong (fun j hj => ?_)
    unfold isIn
    by_cases q : j = i
    · subst q
      have e : upd M (330 + 8 * j) 1 (330 + 8 * j) = 1 := if_pos rfl
      rw [e, hs, pk_un (by omega)]
      congr 1
      apply propext
      exact ⟨fun z => ⟨Or.inl rfl, z.2⟩, fun z => ⟨Or.inr rfl, z.2⟩⟩
    · rw [pk_un (by omega), pk_un (by omega)]
  · rw [gI_f (by omega)]
    exact g3 j hj
  · exact Bts_cong (cm := cm) (f := f) g4 (fun p hp => pk_un (by omega)) (fun x _ _ => pk_un (by omega)) hn
theorem mid_st {M : MR} {T : Nat → Pg} {n c o K : Nat} (h : Mid M T n c o K (fun _ => True)) {i : Nat} (hi : i < c) (hs : M (330 + 8 * i) = 2) : Mid (upd M (330 + 8 * i) 1) T n c o K (fun _ => True) := by
  have i0 : upd M (330 + 8 * i) 1 (330 + 8 * i) = 1 := if_pos rfl
  have nC : ChO (upd M (330 + 8 * i) 1) n i := by
    obtain ⟨p, a1, a2, a3, a4, a5, a6⟩ := (h.2.2.1 i hi).2 trivial
    refine ⟨p, by rw [pk_un (by omega)]; exact a1, a2, by rw [pk_un (by omega)]; exact a3, by rw [pk_un (by omega)]; exact a4, Or.inr (Or.inl ?_), by rw [pk_un (by omega)]; exact a6⟩
    rcases a5 with ⟨a5, _⟩ | ⟨a5, _⟩ | ⟨a5, a7, a8⟩ | ⟨a5, _⟩ | ⟨a5, _⟩
    · rw [hs] at a5; exact absurd a5 (by decide)
    · rw [hs] at a5; exact absurd a5 (by decide)
    · exact ⟨i0, a7, by rw [pk_un (by omega)]; exact a8⟩
    · rw [hs] at a5; exact absurd a5 (by decide)
    · rw [hs] at a5; exact absurd a5 (by decide)
  refine Mid_chip (i := i) h hi (fun x _ hx => pk_un (by omega)) (ChO_G nC) (fun _ => nC) ?_ (fun _ _ z => z)
  unfold isOut
  rw [i0, hs]
  decide
theorem mid_pol {M : MR} {T : Nat → Pg} {n c o K : Nat} (h : Mid M T n c o K (fun _ => True)) {r : Nat} : ∀ j, j ≤ c → Mid (polF r j M) T n c o K (fun _ => True) := by
  intro j
  induction j with
  | zero => intro _; exact h
  | succ j ih =>
    intro hj
    unfold polF
    split
    · rename_i z
      exact mid_st (ih (by omega)) (by omega) z.1
    · exact ih (by omega)
section SA
variable {q : Nat} {cm : CMu} {mm : MM} {oo : Nat → Int64} {kk : KKt} {v : Int32}
theorem s_pole (h : SI q cm mm) {x : Int32} (hk : ∀ cm' mm' oo', SI (q + 1) cm' mm' → kk v cm' mm' oo') {post : Int32 → CMu × (Nat → Int64) → Prop} (hpost : ∀ r u, w_X13_pole (EX kk v r u) x mm → post r u) : w_L_pole post x cm oo := by
  obtain ⟨n, c, o, T, g1, g2, g3, g4, g5, g6⟩ := id h
  obtain ⟨o1, o2, o3⟩ := mid_o g2
  have hH := Fo_h g1
  have e1 : mm 1 1 = nI n := g2.1.1
  have e2 : mm 1 2 = nI c := g2.1.2.2.1
  have e5 : gI cm 382 5 = nI n := by rw [hH.2.1, e1]
  have r11 : mm 1 (Int32.toNatClampNeg 1) = nI n := by rw [cl_1]; exact e1
  unfold w_L_pole w_X12_pole w_X12_demandReach B_X12_demandReach_15
  rw [e5]
  have no1 : ¬ (¬ x < 0 ∧ ¬ nI n < x) → post 1 (cm, oo) := by
    intro hno
    refine hpost _ _ ?_
    unfold w_X13_pole w_X13_isStation
    rw [r11]
    refine r_isIn2 (fun a b => absurd ⟨a, b⟩ hno) (fun _ => ⟨fun z => absurd rfl z, fun _ => ⟨fun y => absurd y th1, fun _ => EX_th rfl (by decide) (hk _ _ _ (SI_t h 1))⟩⟩)
  refine ⟨fun q1 => ⟨rfl, no1 (fun z => z.1 q1)⟩, fun q1 => ⟨fun q2 => ?_, fun q2 => ⟨rfl, no1 (fun z => q2 (le_lt.mpr z.2))⟩⟩⟩
  have q3 := le_lt.mp q2
  obtain ⟨r, hr, rfl⟩ := in_of (by omega) q1 q3
  -- the reference
  have ref : ∀ cm', Fo cm' 382 (polF r c (mm 1)) T n c o → FrC 382 cm cm' → post 0 (cm', vp_updL oo (Int32.toNatClampNeg (0 : Int32)) (Int32.toInt64 (nI (polC r c (mm 1))))) := by
    intro cm' F' fr
    refine hpost _ _ ?_
    unfold w_X13_pole w_X13_isStation
    rw [r11]
    refine r_isIn2 (fun _ _ => ⟨fun _ => ⟨fun _ => ⟨c + 1, ?_⟩, fun z => absurd th0 z⟩, fun z => absurd z (by decide)⟩) (fun z => absurd ⟨q1, q3⟩ z)
    have key : ∀ (g j : Nat), j + g = c → B_X13_pole_36 (EX kk v 0 (cm', vp_updL oo (Int32.toNatClampNeg (0 : Int32)) (Int32.toInt64 (nI (polC r c (mm 1)))))) (g + 1) (nI r) (nI (polC r j (mm 1))) (nI j) (s1 (up2 mm 0 0 0) (polF r j (mm 1))) := by
      intro g
      induction g with
      | zero =>
        intro j hj
        have ej : j = c := by omega
        subst ej
        unfold B_X13_pole_36
        rw [cl_2, s1_1, polF_o (by omega), e2]
        refine ⟨fun _ => EX_ok rfl (hk _ _ _ ?_), fun z => absurd (nI_le (Nat.le_refl _) (by omega)) z⟩
        exact SI_now (c := j) g3 g4 g5 g6 fr (by rw [s1_o (by omega), up2_ne (by omega)]) (by rw [s1_o (by omega), up2_ne (by omega)]) rfl rfl rfl F' (Mid_K (mid_pol g2 j (Nat.le_refl _)) (by omega)) (Nat.le_refl j)
      | succ g ih =>
        intro j hj
        have ef : polF r (j + 1) (mm 1) = if polF r j (mm 1) (330 + 8 * j) = 2 ∧ polF r j (mm 1) (331 + 8 * j) = nI r then upd (polF r j (mm 1)) (330 + 8 * j) 1 else polF r j (mm 1) := rfl
        have ec : polC r (j + 1) (mm 1) = polC r j (mm 1) + (if polF r j (mm 1) (330 + 8 * j) = 2 ∧ polF r j (mm 1) (331 + 8 * j) = nI r then 1 else 0) := rfl
        have ihj := ih (j + 1) (by omega)
        rw [ef, ec] at ihj
        unfold B_X13_pole_36
        rw [cl_2, s1_1, polF_o (by omega), e2]
        refine ⟨fun z => absurd z (nI_ge (by omega) (by omega)), fun _ => ?_⟩
        have skip : ¬ (polF r j (mm 1) (330 + 8 * j) = 2 ∧ polF r j (mm 1) (331 + 8 * j) = nI r) → B_X13_pole_36 (EX kk v 0 (cm', vp_updL oo (Int32.toNatClampNeg (0 : Int32)) (Int32.toInt64 (nI (polC r c (mm 1)))))) (g + 1) (nI r) (nI (polC r j (mm 1))) (nI j + 1) (s1 (up2 mm 0 0 0) (polF r j (mm 1))) := by
          intro hn
          rw [if_neg hn, if_neg hn, Nat.add_zero] at ihj
          rw [nI_1]
          exact ihj
        refine r_chipOf (w := 0) rfl (by omega) (by omega) ⟨fun z => skip (fun y => z y.1), fun z => ?_⟩
        refine r_chipOf (w := 1) rfl (by omega) (by omega) ⟨fun z2 => ?_, fun z2 => skip (fun y => z2 (by rw [← y.2]; rw [s1_1]; congr 1; omega))⟩
        have hy : polF r j (mm 1) (330 + 8 * j) = 2 ∧ polF r j (mm 1) (331 + 8 * j) = nI r := ⟨z, by rw [← z2, s1_1]; congr 1; omega⟩
        rw [if_pos hy, if_pos hy] at ihj
        refine r_sets (w := 0) rfl (by omega) (by omega) ?_
        rw [s1_s1, s1_1, nI_1, nI_1]
        exact ihj
    have := key c 0 (by omega)
    have e0 : s1 (up2 mm 0 0 0) (polF r 0 (mm 1)) = up2 mm 0 0 0 := s1_id (mm := up2 mm 0 0 0)
    rw [e0] at this
    exact this
  -- the class
  unfold w_X4_free
  have key : ∀ (g j : Nat) (cm1 : CMu), j + g = c → Fo cm1 382 (polF r j (mm 1)) T n c o → FrC 382 cm cm1 → B_X4_free_4 (fun r u => post 0 (u, vp_updL oo (Int32.toNatClampNeg (0 : Int32)) (Int32.toInt64 r))) (g + 1) 382 (nI r) (nI (polC r j (mm 1))) (nI j) cm1 := by
    intro g
    induction g with
    | zero =>
      intro j cm1 hj F1 fr
      have ej : j = c := by omega
      subst ej
      unfold B_X4_free_4
      rw [(Fo_h F1).2.2.1, polF_o (by omega), e2]
      exact ⟨fun _ => ref cm1 F1 fr, fun z => absurd (nI_le (Nat.le_refl _) (by omega)) z⟩
    | succ g ih =>
      intro j cm1 hj F1 fr
      have ef : polF r (j + 1) (mm 1) = if polF r j (mm 1) (330 + 8 * j) = 2 ∧ polF r j (mm 1) (331 + 8 * j) = nI r then upd (polF r j (mm 1)) (330 + 8 * j) 1 else polF r j (mm 1) := rfl
      have ec : polC r (j + 1) (mm 1) = polC r j (mm 1) + (if polF r j (mm 1) (330 + 8 * j) = 2 ∧ polF r j (mm 1) (331 + 8 * j) = nI r then 1 else 0) := rfl
      have b0 : gI cm1 (382 + 47 + j) 0 = polF r j (mm 1) (330 + 8 * j) := RF_c F1.1 (by omega) (by omega)
      have b1 : gI cm1 (382 + 47 + j) 1 = polF r j (mm 1) (331 + 8 * j) := by
        rw [RF_c F1.1 (by omega) (by omega)]
        congr 1
        omega
      have skip : ¬ (polF r j (mm 1) (330 + 8 * j) = 2 ∧ polF r j (mm 1) (331 + 8 * j) = nI r) → B_X4_free_51 (fun r u => post 0 (u, vp_updL oo (Int32.toNatClampNeg (0 : Int32)) (Int32.toInt64 r))) (B_X4_free_4 (fun r u => post 0 (u, vp_updL oo (Int32.toNatClampNeg (0 : Int32)) (Int32.toInt64 r))) (g + 1)) 382 (nI r) (nI (polC r j (mm 1))) (nI j) cm1 := by
        intro hn
        have := ih (j + 1) cm1 (by omega) (by rw [ef, if_neg hn]; exact F1) fr
        rw [ec, if_neg hn, Nat.add_zero] at this
        unfold B_X4_free_51
        rw [nI_1]
        exact this
      unfold B_X4_free_4
      rw [(Fo_h F1).2.2.1, polF_o (by omega), e2, nI_clamp (by omega), b0, b1]
      refine ⟨fun z => absurd z (nI_ge (by omega) (by omega)), fun _ => ⟨vp_in_nI (by omega) (by omega), fun z => skip (fun y => z y.1), fun z => ⟨vp_in_nI (by omega) (by omega), fun z2 => skip (fun y => z2 y.2), fun z2 => ⟨vp_in_nI (by omega) (by omega), ?_⟩⟩⟩⟩
      have hy : polF r j (mm 1) (330 + 8 * j) = 2 ∧ polF r j (mm 1) (331 + 8 * j) = nI r := ⟨z, z2⟩
      have := ih (j + 1) (uI cm1 (382 + 47 + j) 0 1) (by omega) (by rw [ef, if_pos hy]; exact Fo_st F1 o1 o2 o3 (by omega) hy.1) (FrC_tr fr (FrC_uI (by omega)))
      rw [ec, if_pos hy] at this
      unfold B_X4_free_51
      rw [nI_1, nI_1]
      exact this
  exact ⟨c + 1, key c 0 cm (by omega) g1 FrC_rf⟩
theorem s_ahead (h : SI q cm mm) {x1 x2 x3 : Int32} (hk : ∀ cm' mm' oo', SI (q + 1) cm' mm' → kk v cm' mm' oo') {post : Int32 → CMu × (Nat → Int64) → Prop} (hpost : ∀ r u, w_X13_ahead (EX kk v r u) x1 x2 x3 mm → post r u) : w_L_ahead post x1 x2 x3 cm oo := by
  obtain ⟨n, c, o, T, g1, g2, g3, g4, g5, g6⟩ := id h
  obtain ⟨o1, o2, o3⟩ := mid_o g2
  have hH := Fo_h g1
  obtain ⟨s, s1', s2, s3', s4, s5'⟩ := g2.2.2.2.1
  have e9 : gI cm 387 3 = nI s := by rw [← s1']; exact hH.2.2.2.2.2.2.2.2.2
  have r9 : mm 1 (Int32.toNatClampNeg 9) = nI s := by rw [cl_9]; exact s1'
  unfold w_L_ahead w_X12_ahead w_X12_demandOrder B_X12_demandOrder_18
  rw [e9]
  have z35 : B_X13_ahead_35 (EX kk v 1 (cm, oo)) x1 x2 x3 mm := by
    unfold B_X13_ahead_35 B_X13_ahead_60
    exact ⟨fun y => absurd y th1, fun _ => EX_th rfl (by decide) (hk _ _ _ (SI_t h 1))⟩
  have z55 : B_X13_ahead_55 (EX kk v 2 (cm, oo)) x1 x2 x3 mm := by
    unfold B_X13_ahead_55 B_X13_ahead_60
    exact ⟨fun y => absurd y th2, fun _ => EX_th rfl (by decide) (hk _ _ _ (SI_t h 2))⟩
  have inq : ∀ {x : Int32}, ¬ x < 0 → x < nI s → ¬ nI s - 1 < x := by
    intro x h1 h2 h3
    rcases (sub_lt1 (by omega)).mp h3 with z | ⟨z, _⟩
    · exact le_lt.mp z h2
    · subst z
      rw [fa_lt] at h1 h2
      have e0 : (0 : Int32).toInt = 0 := rfl
      have e0' : (nI 0).toInt = 0 := rfl
      omega
  have outq : ∀ {x : Int32}, ¬ (¬ x < 0 ∧ x < nI s) → ¬ (¬ x < 0 ∧ ¬ nI s - 1 < x) := by
    intro x h1 ⟨h2, h3⟩
    refine h3 ((sub_lt1 (by omega)).mpr (Or.inl ?_))
    by_cases y : x < nI s
    · exact absurd ⟨h2, y⟩ h1
    · exact le_lt.mpr y
  have no1 : ¬ (¬ x1 < 0 ∧ x1 < nI s) → post 1 (cm, oo) := by
    intro hno
    refine hpost _ _ ?_
    unfold w_X13_ahead
    rw [r9]
    exact r_isIn2 (fun a b => absurd ⟨a, b⟩ (outq hno)) (fun _ => ⟨fun _ => z35, fun z => absurd rfl z⟩)
  have no2 : (¬ x1 < 0 ∧ x1 < nI s) → ¬ (¬ x2 < 0 ∧ x2 < nI s) → post 1 (cm, oo) := by
    intro hy hno
    refine hpost _ _ ?_
    unfold w_X13_ahead
    rw [r9]
    exact r_isIn2 (fun _ _ => ⟨fun z => absurd z (by decide), fun _ => r_isIn2 (fun a b => absurd ⟨a, by rw [r9] at b; exact b⟩ (outq hno)) (fun _ => ⟨fun z => absurd rfl z, fun _ => z35⟩)⟩) (fun z => absurd ⟨hy.1, inq hy.1 hy.2⟩ z)
  have no3 : (¬ x1 < 0 ∧ x1 < nI s) → (¬ x2 < 0 ∧ x2 < nI s) → (x1 = x2 ∨ ¬ (¬ x3 < 0 ∧ ¬ 999 < x3)) → post 2 (cm, oo) := by
    intro hy hy2 hno
    refine hpost _ _ ?_
    unfold w_X13_ahead
    rw [r9]
    refine r_isIn2 (fun _ _ => ⟨fun z => absurd z (by decide), fun _ => r_isIn2 (fun _ _ => ⟨fun _ => ⟨fun _ => z55, fun z => ?_⟩, fun z => absurd z (by decide)⟩) (fun z => absurd ⟨hy2.1, by rw [r9]; exact inq hy2.1 hy2.2⟩ z)⟩) (fun z => absurd ⟨hy.1, inq hy.1 hy.2⟩ z)
    exact r_isIn2 (fun a b => hno.elim (fun y => absurd y z) (fun y => absurd ⟨a, b⟩ y)) (fun _ => ⟨fun y => absurd rfl y, fun _ => z55⟩)
  unfold B_X12_ahead_26
  refine ⟨fun q1 => Or.inl ⟨rfl, no1 (fun z => z.1 q1)⟩, fun q1 => ⟨fun q2 => ⟨fun q3 => Or.inl ⟨rfl, no2 ⟨q1, q2⟩ (fun z => z.1 q3)⟩, fun q3 => ⟨fun q4 => ?_, fun q4 => Or.inl ⟨rfl, no2 ⟨q1, q2⟩ (fun z => q4 (by rw [e9]; exact z.2))⟩⟩⟩, fun q2 => Or.inl ⟨rfl, no1 (fun z => q2 z.2)⟩⟩⟩
  rw [e9] at q4
  refine ⟨fun q5 => Or.inr ⟨rfl, no3 ⟨q1, q2⟩ ⟨q3, q4⟩ (Or.inl q5)⟩, fun q5 => ⟨fun q6 => Or.inr ⟨rfl, no3 ⟨q1, q2⟩ ⟨q3, q4⟩ (Or.inr (fun z => z.1 q6))⟩, fun q6 => ⟨fun q7 => ?_, fun q7 => Or.inr ⟨rfl, no3 ⟨q1, q2⟩ ⟨q3, q4⟩ (Or.inr (fun z => q7 (le_lt.mpr z.2)))⟩⟩⟩⟩
  have q8 := le_lt.mp q7
  have lt_of : ∀ {x : Int32}, ¬ x < 0 → x < nI s → ∃ j, j < s ∧ x = nI j := by
    intro x h1 h2
    obtain ⟨j, hj, rfl⟩ := in_of (n := s) (x := x) (by omega) h1 (by rw [fa_lt]; rw [fa_lt] at h2; omega)
    rw [nI_ltI (by omega) (by omega)] at h2
    exact ⟨j, h2, rfl⟩
  obtain ⟨i, hi, rfl⟩ := lt_of q1 q2
  obtain ⟨j, hj, rfl⟩ := lt_of q3 q4
  have hij : i ≠ j := fun e => q5 (by rw [e])
  rw [nI_clamp (by omega), nI_clamp (by omega)]
  refine ⟨vp_in_nI (by omega) (by omega), vp_in_nI (by omega) (by omega), vp_in_nI (by omega) (by omega), vp_in_nI (by omega) (by omega), hpost _ _ ?_⟩
  unfold w_X13_ahead
  rw [r9]
  refine r_isIn2 (fun _ _ => ⟨fun z => absurd z (by decide), fun _ => r_isIn2 (fun _ _ => ⟨fun _ => ⟨fun z => absurd z q5, fun _ => r_isIn2 (fun _ _ => ⟨fun _ => ?_, fun z => absurd z (by decide)⟩) (fun z => absurd ⟨q6, q8⟩ z)⟩, fun z => absurd z (by decide)⟩) (fun z => absurd ⟨q3, by rw [r9]; exact inq q3 q4⟩ z)⟩) (fun z => absurd ⟨q1, inq q1 q2⟩ z)
  unfold B_X13_ahead_60
  have a118 : (118 + (12 * nI i) + nI j : Int32) = nI (118 + 12 * i + j) := by rw [fa_lit 118, fa_lit 12, nI_mul, nI_add, nI_add]
  rw [a118, nI_clamp (by omega)]
  refine ⟨fun _ => ⟨vp_in_nI (by omega) (by omega), vp_in_nI (by omega) (by omega), ?_⟩, fun z => absurd th0 z⟩
  have ev : (up2 mm 0 0 0) 1 (118 + 12 * i + j) = gI cm (391 + i) j := (RF_a g1.1 (by omega) (by omega)).symm
  rw [ev]
  refine EX_ok rfl (hk _ _ _ ?_)
  have em1 : up2 (up2 mm 0 0 0) 1 (118 + 12 * i + j) x3 1 = upd (mm 1) (118 + 12 * i + j) x3 := by
    rw [up2_row]
    rfl
  have eo : ∀ x, x ≠ 118 + 12 * i + j → upd (mm 1) (118 + 12 * i + j) x3 x = mm 1 x := fun x hx => pk_un hx
  refine SI_now (c := c) g3 g4 g5 g6 (FrC_uI (by omega)) ?_ ?_ rfl rfl rfl ?_ ?_ (Nat.le_refl c) (n' := n) (o' := o)
  · rw [up2_ne (by omega), up2_ne (by omega)]
  · rw [up2_ne (by omega), up2_ne (by omega)]
  · rw [em1]
    obtain ⟨k1, k2, k3, k4⟩ := g1
    refine ⟨RS_a (f := 382) k1 (DD_im o1 o2 o3) (by omega) (by omega) x3, fun r hr => ?_, fun i' hi' => ?_, ?_⟩
    · rw [gI_c (by omega), k2 r hr]
      congr 1
      exact (inR_cong (fun i hi => ⟨eo _ (by omega), eo _ (by omega)⟩)).symm
    · rw [gI_c (by omega)]
      exact k3 i' hi'
    · exact Bts_cong (cm := cm) (f := 382) k4 (fun p' hp' => eo _ (by omega)) (fun x _ _ => eo x (by omega)) o1
  · rw [em1]
    have m := Mid_K g2 (K' := 2000 * (q + 1)) (by omega)
    obtain ⟨m1, m2, m3, m4, m5, m6, m7⟩ := m
    refine ⟨DH_cong m1 (fun x hx => eo x (by omega)) (fun i hi => by unfold isOut; rw [eo _ (by omega)]), DR_cong m2 (fun x h1 h2 => eo x (by omega)), fun j' hj' => ?_, ?_, DV_cong m5 (fun x h1 h2 => eo x (by omega)), fun j' hj' => ⟨TxO_cong (m6 j' hj').1 (eo _ (by omega)) (fun x hx => eo x (by omega)), (m6 j' hj').2⟩, m7⟩
    · have ej : ∀ w, w < 8 → upd (mm 1) (118 + 12 * i + j) x3 (330 + 8 * j' + w) = mm 1 (330 + 8 * j' + w) := fun w hw => eo _ (by omega)
      exact ⟨ChG_cong (m3 j' hj').1 ej, fun z => ChO_cong ((m3 j' hj').2 z) ej⟩
    · refine ⟨s, by rw [eo _ (by omega)]; exact s1', s2, fun i' hi' => ?_, fun i' j' hi' hj' => ?_, fun i' hi' => ?_⟩
      · rw [eo _ (by omega), eo _ (by omega)]
        exact s3' i' hi'
      · by_cases e : 118 + 12 * i' + j' = 118 + 12 * i + j
        · rw [e]
          unfold upd
          rw [if_pos rfl]
          rw [fa_lt] at q6 q8
          have a0 : (0 : Int32).toInt = 0 := rfl
          have a9 : (999 : Int32).toInt = 999 := rfl
          omega
        · rw [eo _ e]
          exact s4 i' j' hi' hj'
      · rw [eo _ (by omega)]
        exact s5' i' hi'
theorem s_run (h : SI q cm mm) (hq : q ≤ 1000) {x : Int32} (hk : ∀ cm' mm' oo', SI (q + 1) cm' mm' → kk v cm' mm' oo') {post : Int32 → CMu × (Nat → Int64) → Prop} (hpost : ∀ r u, w_X13_run (EX kk v r u) x mm → post r u) : w_L_run post x cm oo := by
  obtain ⟨n, c, o, T, g1, g2, g3, g4, g5, g6⟩ := id h
  obtain ⟨o1, o2, o3⟩ := mid_o g2
  have hH := Fo_h g1
  unfold w_L_run w_X12_run B_X12_run_12
  have no1 : ¬ (¬ x < 1 ∧ ¬ 2000 < x) → post 1 (cm, oo) := by
    intro hno
    refine hpost _ _ ?_
    unfold w_X13_run
    refine r_isIn2 (fun a b => absurd ⟨a, b⟩ hno) (fun _ => ⟨fun z => absurd rfl z, fun _ => ?_⟩)
    unfold B_X13_run_17
    exact ⟨fun y => absurd y th1, fun _ => EX_th rfl (by decide) (hk _ _ _ (SI_t h 1))⟩
  refine ⟨fun q1 => ⟨rfl, no1 (fun z => z.1 q1)⟩, fun q1 => ⟨fun q2 => ?_, fun q2 => ⟨rfl, no1 (fun z => q2 (le_lt.mpr z.2))⟩⟩⟩
  have q3 := le_lt.mp q2
  have q0 : ¬ x < 0 := by
    rw [fa_lt] at q1 ⊢
    have a0 : (0 : Int32).toInt = 0 := rfl
    have a1 : (1 : Int32).toInt = 1 := rfl
    omega
  obtain ⟨m, hm, rfl⟩ := in_of (n := 2000) (by omega) q0 q3
  unfold w_X3_pass
  refine ⟨m + 1, c_pass (n := n) (by omega) (m := m) hm m m 0 cm (mm 1) c o (2000 * q) (Nat.le_refl _) (by omega) (by omega) g2 g1 g3 (fun cm' c' o' m' F' fr hcc => ?_)⟩
  have e7 : gI cm' 382 7 = mnsM T m (mm 1) 3 := (Fo_h F').2.2.2.1
  have e7' : gI cm 382 7 = mm 1 3 := hH.2.2.2.1
  rw [e7, e7']
  refine hpost _ _ ?_
  unfold w_X13_run
  refine r_isIn2 (fun _ _ => ⟨fun _ => ?_, fun z => absurd z (by decide)⟩) (fun z => absurd ⟨q1, q3⟩ z)
  unfold B_X13_run_17
  refine ⟨fun _ => ⟨m + 1, ?_⟩, fun z => absurd th0 z⟩
  rw [cl_3]
  have e3 : (up2 mm 0 0 (b2 false)) 1 3 = mm 1 3 := rfl
  rw [e3]
  have key : ∀ (g j : Nat) (mm1 : MM), j + g = m → KM (up2 mm 0 0 0) mm1 → mm1 1 = mnsM T j (mm 1) → B_X13_run_38 (EX kk v 0 (cm', vp_updL oo (Int32.toNatClampNeg (0 : Int32)) (Int32.toInt64 (mnsM T m (mm 1) 3 - mm 1 3)))) (g + 1) (nI m) (mm 1 3) (nI j) mm1 := by
    intro g
    induction g with
    | zero =>
      intro j mm1 hj km e1
      have ej : j = m := by omega
      subst ej
      unfold B_X13_run_38
      rw [cl_3, e1]
      refine ⟨fun _ => EX_ok km.2.1 (hk _ _ _ ?_), fun z => absurd (nI_le (Nat.le_refl _) (by omega)) z⟩
      refine SI_now (c := c) g3 g4 g5 g6 fr ?_ ?_ km.2.2.1 km.2.2.2.1 km.2.2.2.2 (by rw [e1]; exact F') (by rw [e1]; exact Mid_K m' (by omega)) hcc
      · rw [km.1 2 (by omega) (by omega) (by omega), up2_ne (by omega)]
      · rw [km.1 4 (by omega) (by omega) (by omega), up2_ne (by omega)]
    | succ g ih =>
      intro j mm1 hj km e1
      unfold B_X13_run_38
      refine ⟨fun z => absurd z (nI_ge (by omega) (by omega)), fun _ => ?_⟩
      obtain ⟨c1, o1', hc1, hm1⟩ := mid_mns g2 j (by omega)
      refine r_minute (T := T) (by rw [e1]; exact hm1) (fun mm2 km2 e2 => ?_)
      rw [nI_1]
      refine ih (j + 1) mm2 (by omega) (KM_tr km km2) ?_
      rw [e2, e1]
      rfl
  exact key m 0 (up2 mm 0 0 0) (by omega) KM_rf rfl
end SA
