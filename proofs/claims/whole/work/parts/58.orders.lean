/-! ===== waits, order, ahead, pole ===== -/
theorem SI_now {q : Nat} {cm cm' : CMu} {mm mm' : MM} {n' c c' o' : Nat} {T : Nat → Pg} (g3 : WRA cm T) (tp : TP cm mm) (ft : gI cm 4 7 = mm 0 10) (ki : KI q cm mm c T) (fr : FrC 382 cm cm') (e2 : mm' 2 = mm 2) (e4 : mm' 4 = mm 4) (e3 : mm' 0 3 = mm 0 3) (e6 : mm' 0 6 = mm 0 6) (e10 : mm' 0 10 = mm 0 10) (F' : Fo cm' 382 (mm' 1) T n' c' o') (M' : Mid (mm' 1) T n' c' o' (2000 * (q + 1)) (fun _ => True)) (hc : c ≤ c') : SI (q + 1) cm' mm' := by
  obtain ⟨len, t1, t2, t3, t4⟩ := tp
  obtain ⟨b, k1, k2, k3⟩ := ki
  refine ⟨n', c', o', T, F', M', WRA_fr (Nat.le_refl _) fr g3, ⟨len, ?_, ?_, t3, fun i hi => ?_⟩, ?_, b, ?_, ?_, fun z => ?_⟩
  · rw [fr.1 2 1 (by omega) (by omega)]; exact t1
  · rw [e6]; exact t2
  · rw [fr.1 3 i (by omega) (by omega), e4]; exact t4 i hi
  · rw [fr.1 4 7 (by omega) (by omega), e10]; exact ft
  · rw [fr.1 1 7 (by omega) (by omega)]; exact k1
  · rw [e3]; exact k2
  · obtain ⟨nk, ck, ok, Tk, a1, a2, a3, a4⟩ := k3 z
    obtain ⟨p1, p2, p3⟩ := mid_o a2
    refine ⟨nk, ck, ok, Tk, ?_, ?_, by omega, a4⟩
    · rw [e2]
      exact Fo_fr a1 p1 p2 p3 (fun b j h1 _ => fr.1 b j (by omega) (by omega)) (fun b j h1 _ => fr.2.1 b j (by omega))
    · rw [e2]
      exact Mid_K a2 (by omega)
section SO
variable {q : Nat} {cm : CMu} {mm : MM} {oo : Nat → Int64} {kk : KKt} {v : Int32}
theorem s_waits (h : SI q cm mm) {x1 x2 x3 x4 x5 : Int32} (hk : ∀ cm' mm' oo', SI (q + 1) cm' mm' → kk v cm' mm' oo') {post : Int32 → CMu × (Nat → Int64) → Prop} (hpost : ∀ r u, w_X13_waits (EX kk v r u) x1 x2 x3 x4 x5 mm → post r u) : w_L_waits post x1 x2 x3 x4 x5 cm oo := by
  obtain ⟨n, c, o, T, g1, o1, o2, o3, e1, e5, g2⟩ := SI_rd h
  have r11 : mm 1 (Int32.toNatClampNeg 1) = nI n := by rw [cl_1]; exact e1
  unfold w_L_waits w_X12_waits
  -- the reference
  have ref1 : stO n x1 = false → post 1 (cm, oo) := by
    intro hs
    refine hpost _ _ ?_
    unfold w_X13_waits w_X13_isStation
    rw [r11, nI_1]
    refine r_isIn2 (fun a b => ?_) (fun _ => ⟨fun z => absurd rfl z, fun _ => ?_⟩)
    · exact absurd (show stO n x1 = true from decide_eq_true ⟨a, b⟩) (by rw [hs]; decide)
    · unfold B_X13_waits_69
      exact ⟨fun y => absurd y th1, fun _ => EX_th rfl (by decide) (hk _ _ _ (SI_t h 1))⟩
  have ref2 : stO n x1 = true → ¬ (inN x2 = true ∧ inN x3 = true ∧ inN x4 = true ∧ (¬ x5 < x4 ∧ ¬ 9 < x5)) → post 2 (cm, oo) := by
    intro hs hno
    have z64 : B_X13_waits_64 (EX kk v 2 (cm, oo)) x1 x2 x3 x4 x5 mm := by
      unfold B_X13_waits_64 B_X13_waits_69
      exact ⟨fun y => absurd y th2, fun _ => EX_th rfl (by decide) (hk _ _ _ (SI_t h 2))⟩
    have tr : ∀ {b : Bool}, ¬ b = false → b = true := by
      intro b hb
      cases b
      · exact absurd rfl hb
      · rfl
    refine hpost _ _ ?_
    unfold w_X13_waits w_X13_isStation
    rw [r11, nI_1]
    refine r_isIn2 (fun _ _ => ⟨fun _ => r_inN ⟨fun _ => z64, fun y2 => r_inN ⟨fun _ => z64, fun y3 => r_inN ⟨fun _ => z64, fun y4 => r_isIn2 (fun a b => absurd ⟨tr y2, tr y3, tr y4, a, b⟩ hno) (fun _ => ⟨fun z => absurd rfl z, fun _ => z64⟩)⟩⟩⟩, fun z => absurd z (by decide)⟩) (fun a => absurd (of_decide_eq_true hs) a)
  refine c_station e5 (fun hs => ?_) (fun hs => Or.inl ⟨rfl, ref1 hs⟩)
  have no : ∀ {b : Bool}, b = false → ¬ b = true := by
    intro b h1 h2
    rw [h1] at h2
    exact absurd h2 (by decide)
  refine c_weight (fun y2 => c_weight (fun y3 => c_waterD (fun y4 => c_waterD (fun y5 => ⟨fun hle => ?_, fun hle => Or.inr ⟨rfl, ref2 hs (fun z => hle (le_lt.mpr z.2.2.2.1))⟩⟩) (fun y5 => Or.inr ⟨rfl, ref2 hs (fun z => ?_)⟩)) (fun y4 => Or.inr ⟨rfl, ref2 hs (fun z => no y4 z.2.2.1)⟩)) (fun y3 => Or.inr ⟨rfl, ref2 hs (fun z => no y3 z.2.1)⟩)) (fun y2 => Or.inr ⟨rfl, ref2 hs (fun z => no y2 z.1)⟩)
  · obtain ⟨b, hb, rfl⟩ := stO_of o1 hs
    have z4 := of_decide_eq_true y4
    have z5 := of_decide_eq_true y5
    have n09 : ∀ {x : Int32}, ¬ x < 1 → ¬ 9 < x → ∃ j, 1 ≤ j ∧ j ≤ 9 ∧ x = nI j := by
      intro x h1 h2
      have h0 : ¬ x < 0 := by
        rw [fa_lt] at h1 ⊢
        have a0 : (0 : Int32).toInt = 0 := rfl
        have a1 : (1 : Int32).toInt = 1 := rfl
        omega
      obtain ⟨j, hj, rfl⟩ := in_of (n := 9) (by omega) h0 h2
      refine ⟨j, ?_, hj, rfl⟩
      rw [fa_lit 1, nI_ltI (by omega) (by omega)] at h1
      omega
    obtain ⟨a4, h41, h49, rfl⟩ := n09 z4.1 z4.2
    obtain ⟨a5, h51, h59, rfl⟩ := n09 z5.1 z5.2
    rw [nI_leI (by omega) (by omega)] at hle
    refine c_len g1 o1 (a := 0) hb (Nat.zero_le _) ?_
    rw [Nat.sub_zero]
    have ref : ∀ r, (∀ P : Int32 → MM → Prop, P r (up2 mm 0 0 0) → ∃ n88, B_X13_waits_88 P n88 (nI b) x2 x3 (nI a5) 0 (nI a4) (up2 mm 0 0 0)) → post 0 (cm, vp_updL oo (Int32.toNatClampNeg (0 : Int32)) (Int32.toInt64 r)) := by
      intro r hr
      refine hpost _ _ ?_
      have e0 : ∀ {b : Bool}, b = true → ¬ b = false := by
        intro b h1 h2
        rw [h1] at h2
        exact absurd h2 (by decide)
      unfold w_X13_waits w_X13_isStation
      rw [r11, nI_1]
      refine r_isIn2 (fun _ _ => ⟨fun _ => r_inN ⟨fun z => absurd z (e0 y2), fun _ => r_inN ⟨fun z => absurd z (e0 y3), fun _ => r_inN ⟨fun z => absurd z (e0 y4), fun _ => r_isIn2 (fun _ _ => ⟨fun _ => ?_, fun z => absurd z (by decide)⟩) (fun z => absurd ⟨nI_nlt hle (by omega), z5.2⟩ z)⟩⟩⟩, fun z => absurd z (by decide)⟩) (fun a => absurd (of_decide_eq_true hs) a)
      unfold B_X13_waits_69
      exact ⟨fun _ => hr _ (EX_ok rfl (hk _ _ _ (SI_t h 0))), fun z => absurd th0 z⟩
    have key : ∀ (g w : Nat) (s : Int32), w + g = a5 + 1 → (∀ r, (∀ P : Int32 → MM → Prop, P r (up2 mm 0 0 0) → ∃ n88, B_X13_waits_88 P n88 (nI b) x2 x3 (nI a5) s (nI w) (up2 mm 0 0 0)) → post 0 (cm, vp_updL oo (Int32.toNatClampNeg (0 : Int32)) (Int32.toInt64 r))) →
        B_X12_waits_56 (fun r u => post 0 (u, vp_updL oo (Int32.toNatClampNeg (0 : Int32)) (Int32.toInt64 r))) (fun x u => (x = 1 ∧ post 1 (u, oo)) ∨ (x = 0 ∧ post 2 (u, oo))) (g + 1) x2 x3 (nI a5) (lenS (mm 1) 0 b) s (nI w) cm := by
      intro g
      induction g with
      | zero =>
        intro w s hw hr
        have e : w = a5 + 1 := by omega
        subst e
        unfold B_X12_waits_56
        refine ⟨fun _ => hr s (fun P hP => ⟨1, ?_⟩), fun z => absurd (nI_lt (by omega) (by omega)) z⟩
        unfold B_X13_waits_88
        exact ⟨fun _ => hP, fun z => absurd (nI_lt (by omega) (by omega)) z⟩
      | succ g ih =>
        intro w s hw hr
        unfold B_X12_waits_56 w_X12_minutesFor
        refine ⟨fun z => absurd z (nI_nlt (by omega) (by omega)), fun _ => ?_⟩
        show B_X12_waits_56 _ _ (g + 1) x2 x3 (nI a5) (lenS (mm 1) 0 b) (jmax s (((lenS (mm 1) 0 b * ((x2 + 10) - nI w)) - (lenS (mm 1) 0 b * ((x3 + 10) - nI w))) + 1)) (nI w + 1) cm
        rw [nI_1]
        refine ih (w + 1) _ (by omega) (fun r hr2 => hr r (fun P hP => ?_))
        obtain ⟨m, hm⟩ := hr2 P hP
        refine ⟨m + 1, ?_⟩
        unfold B_X13_waits_88
        refine ⟨fun z => absurd z (nI_nlt (by omega) (by omega)), fun _ => ?_⟩
        refine r_way (mm := up2 mm 0 0 0) (M := mm 1) (by funext i; rfl) (a := 0) (by omega) (Nat.zero_le _) ?_
        refine r_way (mm := up2 mm 0 0 0) (M := mm 1) (by funext i; rfl) (a := 0) (by omega) (Nat.zero_le _) ?_
        rw [Nat.sub_zero]
        unfold B_X13_waits_132
        rw [nI_1]
        unfold jmax at hm
        refine ⟨fun z => ?_, fun z => ?_⟩
        · rw [if_neg (le_lt.mp z)] at hm
          exact hm
        · rw [if_pos (by
            by_cases y : s < ((lenS (mm 1) 0 b * ((x2 + 10) - nI w)) - (lenS (mm 1) 0 b * ((x3 + 10) - nI w))) + 1
            · exact y
            · exact absurd (le_lt.mpr y) z)] at hm
          exact hm
    exact ⟨a5 + 1 - a4 + 1, key (a5 + 1 - a4) a4 0 (by omega) ref⟩
  · have z5 := of_decide_eq_false y5
    have z4 := (of_decide_eq_true z.2.2.1).1
    refine z5 ⟨?_, z.2.2.2.2⟩
    have := z.2.2.2.1
    rw [fa_lt] at this z4 ⊢
    omega
theorem s_order (h : SI q cm mm) {x1 x2 : Int32} (hk : ∀ cm' mm' oo', SI (q + 1) cm' mm' → kk v cm' mm' oo') {post : Int32 → CMu × (Nat → Int64) → Prop} (hpost : ∀ r u, w_X13_order (EX kk v r u) x1 x2 mm → post r u) : w_L_order post x1 x2 cm oo := by
  obtain ⟨n, c, o, T, g1, g2, g3, g4, g5, g6⟩ := id h
  obtain ⟨o1, o2, o3⟩ := mid_o g2
  have hH := Fo_h g1
  have e1 : mm 1 1 = nI n := g2.1.1
  have e5 : gI cm 382 5 = nI n := by rw [hH.2.1, e1]
  have r11 : mm 1 (Int32.toNatClampNeg 1) = nI n := by rw [cl_1]; exact e1
  obtain ⟨s, s1', s2, s3', s4, s5'⟩ := g2.2.2.2.1
  have e9 : gI cm 387 3 = nI s := by rw [← s1']; exact hH.2.2.2.2.2.2.2.2.2
  have r9 : mm 1 (Int32.toNatClampNeg 9) = nI s := by rw [cl_9]; exact s1'
  unfold w_L_order w_X12_order w_X12_demandCamp B_X12_demandCamp_16
  rw [e5]
  -- the reference throws
  have no1 : ¬ (¬ x1 < 1 ∧ ¬ nI n < x1) → post 1 (cm, oo) := by
    intro hno
    refine hpost _ _ ?_
    unfold w_X13_order w_X13_isCamp
    rw [r11]
    refine r_isIn2 (fun a b => absurd ⟨a, b⟩ hno) (fun _ => ⟨fun z => absurd rfl z, fun _ => ?_⟩)
    unfold B_X13_order_44
    exact ⟨fun y => absurd y th1, fun _ => EX_th rfl (by decide) (hk _ _ _ (SI_t h 1))⟩
  refine ⟨fun q1 => Or.inl ⟨rfl, no1 (fun z => z.1 q1)⟩, fun q1 => ⟨fun q2 => ?_, fun q2 => Or.inl ⟨rfl, no1 (fun z => q2 (le_lt.mpr z.2))⟩⟩⟩
  have q3 := le_lt.mp q2
  refine c_weight (fun y2 => ?_) (fun y2 => Or.inr (Or.inl ⟨rfl, hpost _ _ ?_⟩))
  · have q0 : ¬ x1 < 0 := by
      rw [fa_lt] at q1 ⊢
      have a0 : (0 : Int32).toInt = 0 := rfl
      have a1 : (1 : Int32).toInt = 1 := rfl
      omega
    obtain ⟨p, hp, rfl⟩ := in_of (by omega) q0 q3
    have hp1 : 1 ≤ p := by
      rw [fa_lit 1, nI_ltI (by omega) (by omega)] at q1
      omega
    have y2' := of_decide_eq_true y2
    rw [e9]
    refine ⟨fun z => ?_, fun z => Or.inr (Or.inr ⟨rfl, hpost _ _ ?_⟩)⟩
    · rw [fa_lit 12, nI_ltI (by omega) (by omega)] at z
      unfold w_X6_add
      have f1 : gI (uI cm 388 s (nI p)) 387 3 = nI s := by rw [gI_c (by omega)]; exact e9
      have f2 : gI (uI (uI cm 388 s (nI p)) 389 s x2) 387 3 = nI s := by rw [gI_c (by omega), f1]
      rw [e9, nI_clamp (by omega)]
      show (nI s < 12 → (vp_in (nI s) 12) ∧ (vp_in (gI (uI cm 388 s (nI p)) 387 3) 12) ∧ _) ∧ _
      rw [f1, nI_clamp (by omega)]
      refine ⟨fun _ => ⟨vp_in_nI (by omega) (by omega), vp_in_nI (by omega) (by omega), ?_⟩, fun y => absurd (by rw [fa_lit 12, nI_ltI (by omega) (by omega)]; exact z) y⟩
      show post 0 (uI (uI (uI cm 388 s (nI p)) 389 s x2) 387 3 (gI (uI (uI cm 388 s (nI p)) 389 s x2) 387 3 + 1), vp_updL oo (Int32.toNatClampNeg (0 : Int32)) (Int32.toInt64 (gI (uI (uI (uI cm 388 s (nI p)) 389 s x2) 387 3 (gI (uI (uI cm 388 s (nI p)) 389 s x2) 387 3 + 1)) 387 3 - 1)))
      rw [f2, gI_hit, nI_1, nI_pred]
      refine hpost _ _ ?_
      unfold w_X13_order w_X13_isCamp
      rw [r11]
      refine r_isIn2 (fun _ _ => ⟨fun _ => r_isIn2 (fun _ _ => ⟨fun _ => ⟨fun _ => ?_, fun y => ?_⟩, fun y => absurd y (by decide)⟩) (fun y => absurd y2' y), fun y => absurd y (by decide)⟩) (fun y => absurd ⟨q1, q3⟩ y)
      · unfold B_X13_order_44
        rw [cl_9]
        have a9 : (up2 mm 0 0 0) 1 9 = nI s := s1'
        have a94 : (94 + (2 * nI s) : Int32) = nI (94 + 2 * s) := by rw [fa_lit 94, fa_lit 2, nI_mul, nI_add]
        rw [a9, a94, nI_clamp (show 94 + 2 * s < 2 ^ 31 by omega)]
        have b9 : up2 (up2 mm 0 0 0) 1 (94 + 2 * s) (nI p) 1 9 = nI s := by
          rw [up2_miss (by omega)]
          exact s1'
        rw [b9, a94, nI_1, nI_clamp (show 94 + 2 * s + 1 < 2 ^ 31 by omega)]
        have c9 : up2 (up2 (up2 mm 0 0 0) 1 (94 + 2 * s) (nI p)) 1 (94 + 2 * s + 1) x2 1 9 = nI s := by
          rw [up2_miss (by omega)]
          exact b9
        have d9 : up2 (up2 (up2 (up2 mm 0 0 0) 1 (94 + 2 * s) (nI p)) 1 (94 + 2 * s + 1) x2) 1 9 (nI (s + 1)) 1 9 = nI (s + 1) := up2_hit
        rw [c9, nI_1, d9, nI_pred]
        refine ⟨fun _ => ⟨vp_in_nI (by omega) (by omega), vp_in_nI (by omega) (by omega), EX_ok rfl (hk _ _ _ ?_)⟩, fun y => absurd th0 y⟩
        have em1 : up2 (up2 (up2 (up2 mm 0 0 0) 1 (94 + 2 * s) (nI p)) 1 (94 + 2 * s + 1) x2) 1 9 (nI (s + 1)) 1 = upd (upd (upd (mm 1) (94 + 2 * s + 0) (nI p)) (94 + 2 * s + 1) x2) 9 (nI (s + 1)) := by
          rw [up2_row, up2_row, up2_row]
          rfl
        have eo : ∀ x, x ≠ 9 → x ≠ 94 + 2 * s → x ≠ 95 + 2 * s → upd (upd (upd (mm 1) (94 + 2 * s + 0) (nI p)) (94 + 2 * s + 1) x2) 9 (nI (s + 1)) x = mm 1 x := by
          intro x h1 h2 h3
          rw [pk_un (by omega), pk_un (by omega), pk_un (by omega)]
        refine SI_now (c := c) g3 g4 g5 g6 (FrC_tr (FrC_tr (FrC_uI (by omega)) (FrC_uI (by omega))) (FrC_uI (by omega))) ?_ ?_ rfl rfl rfl ?_ ?_ (Nat.le_refl c) (n' := n) (o' := o)
        · rw [up2_ne (by omega), up2_ne (by omega), up2_ne (by omega), up2_ne (by omega)]
        · rw [up2_ne (by omega), up2_ne (by omega), up2_ne (by omega), up2_ne (by omega)]
        · rw [em1]
          obtain ⟨k1, k2, k3, k4⟩ := g1
          have hD := DD_im (n := n) (c := c) (o := o) o1 o2 o3
          refine ⟨?_, fun r hr => ?_, fun i hi => ?_, ?_⟩
          · exact RS_h (f := 382) (RS_q (f := 382) (RS_q (f := 382) k1 hD (i := s) (w := 0) (by omega) (by omega) (nI p)) hD (i := s) (w := 1) (by omega) (by omega) x2) hD 9 (by omega) rfl (nI (s + 1))
          · rw [gI_c (by omega), gI_c (by omega), gI_c (by omega), k2 r hr]
            congr 1
            exact (inR_cong (fun i hi => ⟨eo _ (by omega) (by omega) (by omega), eo _ (by omega) (by omega) (by omega)⟩)).symm
          · rw [gI_c (by omega), gI_c (by omega), gI_c (by omega)]
            exact k3 i hi
          · exact Bts_cong (cm := cm) (f := 382) k4 (fun p' hp' => eo _ (by omega) (by omega) (by omega)) (fun x _ _ => eo x (by omega) (by omega) (by omega)) o1
        · rw [em1]
          have m := Mid_K g2 (K' := 2000 * (q + 1)) (by omega)
          obtain ⟨m1, m2, m3, m4, m5, m6, m7⟩ := m
          refine ⟨DH_cong m1 (fun x hx => eo x (by omega) (by omega) (by omega)) (fun i hi => by unfold isOut; rw [eo _ (by omega) (by omega) (by omega)]), DR_cong m2 (fun x h1 h2 => eo x (by omega) (by omega) (by omega)), fun j hj => ?_, ?_, DV_cong m5 (fun x h1 h2 => eo x (by omega) (by omega) (by omega)), fun j hj => ⟨TxO_cong (m6 j hj).1 (eo _ (by omega) (by omega) (by omega)) (fun x hx => eo x (by omega) (by omega) (by omega)), (m6 j hj).2⟩, m7⟩
          · have ej : ∀ w, w < 8 → upd (upd (upd (mm 1) (94 + 2 * s + 0) (nI p)) (94 + 2 * s + 1) x2) 9 (nI (s + 1)) (330 + 8 * j + w) = mm 1 (330 + 8 * j + w) := fun w hw => eo _ (by omega) (by omega) (by omega)
            exact ⟨ChG_cong (m3 j hj).1 ej, fun z => ChO_cong ((m3 j hj).2 z) ej⟩
          · refine ⟨s + 1, if_pos rfl, by omega, fun i hi => ?_, fun i j hi hj => ?_, fun i hi => ?_⟩
            · by_cases ei : i = s
              · subst ei
                have v0 : upd (upd (upd (mm 1) (94 + 2 * i + 0) (nI p)) (94 + 2 * i + 1) x2) 9 (nI (i + 1)) (94 + 2 * i) = nI p := by
                  rw [pk_un (by omega), pk_un (by omega)]
                  exact if_pos rfl
                have v1 : upd (upd (upd (mm 1) (94 + 2 * i + 0) (nI p)) (94 + 2 * i + 1) x2) 9 (nI (i + 1)) (95 + 2 * i) = x2 := by
                  rw [pk_un (by omega), show 95 + 2 * i = 94 + 2 * i + 1 by omega]
                  exact if_pos rfl
                rw [v0, v1]
                have a1 : (1 : Int32).toInt = 1 := rfl
                have a9 : (9 : Int32).toInt = 9 := rfl
                have y21 := y2'.1
                have y22 := y2'.2
                rw [fa_lt] at y21 y22
                exact ⟨⟨p, rfl, hp1, hp⟩, by omega, by omega⟩
              · rw [eo _ (by omega) (by omega) (by omega), eo _ (by omega) (by omega) (by omega)]
                exact s3' i (by omega)
            · rw [eo _ (by omega) (by omega) (by omega)]
              exact s4 i j hi hj
            · rw [eo _ (by omega) (by omega) (by omega)]
              exact s5' i hi
      · rw [r9, fa_lit 12, nI_eq (by omega) (by omega)] at y
        omega
    · rw [fa_lit 12, nI_ltI (by omega) (by omega)] at z
      have es : s = 12 := by omega
      unfold w_X13_order w_X13_isCamp
      rw [r11]
      refine r_isIn2 (fun _ _ => ⟨fun _ => r_isIn2 (fun _ _ => ⟨fun _ => ⟨fun y => absurd (by rw [r9, es]; rfl) y, fun _ => ?_⟩, fun y => absurd y (by decide)⟩) (fun y => absurd y2' y), fun y => absurd y (by decide)⟩) (fun y => absurd ⟨q1, q3⟩ y)
      unfold B_X13_order_44
      exact ⟨fun y => absurd y th3, fun _ => EX_th rfl (by decide) (hk _ _ _ (SI_t h 3))⟩
  · unfold w_X13_order w_X13_isCamp
    rw [r11]
    refine r_isIn2 (fun _ _ => ⟨fun _ => r_isIn2 (fun a b => absurd (show inN x2 = true from decide_eq_true ⟨a, b⟩) (by rw [y2]; decide)) (fun _ => ⟨fun y => absurd rfl y, fun _ => ?_⟩), fun y => absurd y (by decide)⟩) (fun y => absurd ⟨q1, q3⟩ y)
    unfold B_X13_order_44
    exact ⟨fun y => absurd y th2, fun _ => EX_th rfl (by decide) (hk _ _ _ (SI_t h 2))⟩
end SO
