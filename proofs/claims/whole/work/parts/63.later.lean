/-! ===== later ===== -/
section HI
variable {M : MR} {T : Nat → Pg} {n c o K : Nat} {Z : Nat → Prop}
theorem hi_fold {hh i : Nat} (h1 : 1 ≤ hh) (h2 : hh ≤ 11) : ∀ (px : List PX1) (M : MR), DmA M → (∀ x ∈ px, AcO x.1 x.2.1) → ∀ y, 1530 ≤ y → px.foldl (exM hh i) M y = M y := by
  intro px
  induction px with
  | nil => intro M _ _ y _; rfl
  | cons z r ih =>
    intro M hD hA y hy
    have e : (true = true → DmA (exM hh i M z)) ∧ ∀ y, 1530 ≤ y → exM hh i M z y = M y := exD_DmA (D := true) (h := hh) (i := i) (M := M) (x := z) (fun _ => ⟨h1, h2, hD⟩) (hA z (List.mem_cons_self ..))
    show r.foldl (exM hh i) (exM hh i M z) y = M y
    rw [ih _ (e.1 rfl) (fun x hx => hA x (List.mem_cons_of_mem _ hx)) y hy]
    exact e.2 y hy
theorem hi_co (h : Mid M T n c o K Z) {i p : Nat} (hi : i < c) (hpn : p ≤ n) {y : Nat} (hy : 1530 ≤ y) : coM (T i) M n i p y = M y := by
  have hn : n ≤ 11 := h.1.2.1
  have hc2 : M 2 = nI c := h.1.2.2.1
  have hc : c ≤ 60 := h.1.2.2.2.1
  have ho := mid_oc h
  have c1o : ∀ x, ¬ (330 + 8 * i ≤ x ∧ x < 337 + 8 * i) → co1 M i p x = M x := by
    intro x hx
    unfold co1
    rw [pk_un (by omega), pk_un (by omega), pk_un (by omega)]
  unfold coM
  split
  · rw [h.1.2.2.2.2.1, nI_clamp (by omega), pk_un (by omega), pk_un (by omega), pk_un (by omega), c1o _ (by omega)]
  · split
    · have hD : DmA (upd (co1 M i p) (330 + 8 * i) (if (T i).1 = nI (p + 1) then 3 else 0)) := ⟨c, by rw [pk_un (by omega), c1o _ (by omega), hc2], hc⟩
      show upd _ (336 + 8 * i) _ y = M y
      rw [pk_un (by omega), hi_fold (by omega) (by omega) _ _ hD (fun x hx => ((h.2.2.2.2.2.1 i hi).2.2.2.2 x hx).1) y hy, pk_un (by omega), c1o _ (by omega)]
    · rw [pk_un (by omega), c1o _ (by omega)]
theorem hi_com {y : Nat} (hy : 1530 ≤ y) : ∀ (j : Nat) (M : MR), Mid M T n c o K (fun _ => False) → j ≤ c → comF T n j M y = M y := by
  intro j
  induction j with
  | zero => intro M _ _; rfl
  | succ j ih =>
    intro M h hj
    obtain ⟨c1, o1, h1, h2⟩ := mid_com j M h (by omega)
    have e : comF T n (j + 1) M = if comF T n j M (330 + 8 * j) = 1 ∧ comF T n j M (332 + 8 * j) = 0 then coM (T j) (comF T n j M) n j (comF T n j M (331 + 8 * j)).toNatClampNeg else comF T n j M := rfl
    rw [e]
    by_cases q : comF T n j M (330 + 8 * j) = 1 ∧ comF T n j M (332 + 8 * j) = 0
    · rw [if_pos q]
      obtain ⟨p, a1, a2, a3, a4, a5, a6⟩ := (h2.2.2.1 j (by omega)).1
      have hpn : p ≤ n := by
        rcases a5 with ⟨a5, a7⟩ | ⟨a5, a7, _⟩ | ⟨a5, a7, _⟩ | ⟨a5, a7⟩ | ⟨a5, a7⟩
        · exact a7
        · exact a7
        · exact a7
        · exact a7
        · rw [q.1] at a5
          exact absurd a5 (by decide)
      rw [a1, nI_clamp (by omega), hi_co h2 (by omega) hpn hy]
      exact ih M h (by omega)
    · rw [if_neg q]
      exact ih M h (by omega)
theorem hi_ens {r y : Nat} (hc : c ≤ 60) (hy : 1530 ≤ y) : ∀ (f : Nat) (M : MR), ensM c r f M y = M y := by
  intro f
  induction f with
  | zero => intro M; rfl
  | succ f ih =>
    intro M
    cases hb : nxF M r c with
    | none => rw [ensM_none hb]
    | some i =>
      obtain ⟨h1, h2⟩ := nxF_some hb
      cases hq : roomM M c r with
      | false => rw [ensM_full hb hq]
      | true =>
        rw [ensM_step hb hq, ih]
        obtain ⟨s, _, _, _, _, _, _, e⟩ := enM_i (M := M) (r := r) (i := i)
        exact e y (by omega) (by omega)
theorem hi_ent {y : Nat} (hy : 1530 ≤ y) : ∀ (r : Nat) (M : MR), r ≤ n + 1 → Mid M T n c o K (fun _ => True) → entF r M y = M y := by
  intro r
  induction r with
  | zero => intro M _ _; rfl
  | succ r ih =>
    intro M hr h
    show entF r (ensM (M 2).toNatClampNeg r 60 M) y = M y
    have hc : c ≤ 60 := h.1.2.2.2.1
    rw [h.1.2.2.1, nI_clamp (by omega), ih _ (by omega) (mid_ens (by omega) 60 M h)]
    exact hi_ens hc hy 60 M
theorem hi_min (h : Mid M T n c o K (fun _ => True)) {y : Nat} (hy : 1530 ≤ y) : minM T M y = M y := by
  unfold minM
  by_cases q : frostM M = true
  · rw [if_pos q]
    exact pk_un (by omega)
  · rw [if_neg q]
    have hn : n ≤ 11 := h.1.2.1
    have hc : c ≤ 60 := h.1.2.2.2.1
    rw [h.1.1, h.1.2.2.1, nI_clamp (by omega), nI_clamp (by omega)]
    have hd := Mid_mono (mid_dec h c (Nat.le_refl _)).1 (Z' := fun _ => False) (fun _ _ z => z.elim)
    obtain ⟨c', o', h1, h2⟩ := mid_com c _ hd (Nat.le_refl _)
    show upd _ 4 _ y = M y
    rw [pk_un (by omega), hi_ent hy (n + 1) _ (Nat.le_refl _) (Mid_mono h2 (Z' := fun _ => True) (fun x hx _ => by omega)), hi_com hy c _ hd (Nat.le_refl _)]
    exact (mid_dec h c (Nat.le_refl _)).2 y (fun i hi => by omega)
theorem hi_mns (h : Mid M T n c o K (fun _ => True)) {y : Nat} (hy : 1530 ≤ y) : ∀ k, K + k < 2 ^ 31 - 10 → mnsM T k M y = M y := by
  intro k
  induction k with
  | zero => intro _; rfl
  | succ k ih =>
    intro hk
    obtain ⟨c1, o1, h1, h2⟩ := mid_mns h k (by omega)
    show minM T (mnsM T k M) y = M y
    rw [hi_min h2 hy]
    exact ih (by omega)
end HI
def stC (M : MR) (k c : Nat) : Nat := cntP (fun i => decide (M (330 + 8 * i) = nI k)) c
theorem c_that {cm : CMu} {f n c o : Nat} {M : MR} {T : Nat → Pg} (hF : Fo cm f M T n c o) (hc : c ≤ 60) (h6 : gI cm f 6 = nI c) {k : Nat} {post : Int32 → CMu → Prop} (hp : post (nI (stC M k c)) cm) : w_X4_chipsThat post f (nI k) cm := by
  unfold w_X4_chipsThat
  have key : ∀ (g j : Nat), j + g = c → B_X4_chipsThat_4 post (g + 1) f (nI k) (nI (stC M k j)) (nI j) cm := by
    intro g
    induction g with
    | zero =>
      intro j hj
      have e : j = c := by omega
      subst e
      unfold B_X4_chipsThat_4
      rw [h6]
      exact ⟨fun _ => hp, fun z => absurd (nI_le (Nat.le_refl _) (by omega)) z⟩
    | succ g ih =>
      intro j hj
      have es : stC M k (j + 1) = stC M k j + (if decide (M (330 + 8 * j) = nI k) then 1 else 0) := rfl
      have ih' := ih (j + 1) (by omega)
      have e0 : gI cm (f + 47 + j) 0 = M (330 + 8 * j) := RF_c (w := 0) hF.1 (by omega) (by omega)
      unfold B_X4_chipsThat_4 B_X4_chipsThat_28
      rw [h6, nI_clamp (by omega), e0, nI_1, nI_1]
      refine ⟨fun z => absurd z (nI_ge (by omega) (by omega)), fun _ => ⟨vp_in_nI (by omega) (by omega), fun z => ?_, fun z => ?_⟩⟩
      · rw [es, if_neg (by rw [decide_eq_false z]; decide), Nat.add_zero] at ih'
        exact ih'
      · rw [es, if_pos (decide_eq_true z)] at ih'
        exact ih'
  exact ⟨c + 1, key c 0 (by omega)⟩
/-! the reference's -/
section RL
variable {post : Int32 → MM → Prop}
theorem r_shelf {x1 x2 : Int32} {mm0 : MM} (hp : ∃ n71, B_X13_later_71 post n71 x1 x2 0 (sR 10 mm0 (cpF 1530 (mm0 1) (mm0 10)))) : ∀ (g j : Nat), j + g = 1530 → B_X13_later_44 post (g + 1) x1 x2 (nI j) (sR 10 mm0 (cpF j (mm0 1) (mm0 10))) := by
  intro g
  induction g with
  | zero =>
    intro j hj
    have e : j = 1530 := by omega
    subst e
    unfold B_X13_later_44
    exact ⟨fun _ => hp, fun z => absurd (by decide) z⟩
  | succ g ih =>
    intro j hj
    unfold B_X13_later_44
    rw [fa_lit 1530, nI_clamp (by omega)]
    refine ⟨fun z => absurd z (lit_n (by omega) (by omega)), fun _ => ⟨vp_in_nI (by omega) (by omega), vp_in_nI (by omega) (by omega), ?_⟩⟩
    rw [up2_R, sR_o (show 1 ≠ 10 by omega), cpF_S, nI_1]
    exact ih (j + 1) (by omega)
theorem r_mins {x2 : Int32} {mm0 : MM} {T : Nat → Pg} {n c o K m : Nat} (hM : Mid (mm0 1) T n c o K (fun _ => True)) (hm : m ≤ 2000) (hK : K + m < 2 ^ 31 - 10) (hp : ∀ mm1, KM mm0 mm1 → mm1 1 = mnsM T m (mm0 1) → ∃ n88, B_X13_later_88 post n88 x2 0 mm1) : ∀ (g j : Nat) (mm1 : MM), j + g = m → KM mm0 mm1 → mm1 1 = mnsM T j (mm0 1) → B_X13_later_71 post (g + 1) (nI m) x2 (nI j) mm1 := by
  intro g
  induction g with
  | zero =>
    intro j mm1 hj km e1
    have ej : j = m := by omega
    subst ej
    unfold B_X13_later_71
    exact ⟨fun _ => hp mm1 km e1, fun z => absurd (nI_le (Nat.le_refl _) (by omega)) z⟩
  | succ g ih =>
    intro j mm1 hj km e1
    unfold B_X13_later_71
    refine ⟨fun z => absurd z (nI_ge (by omega) (by omega)), fun _ => ?_⟩
    obtain ⟨c1, o1', hc1, hm1⟩ := mid_mns hM j (by omega)
    refine r_minute (T := T) (by rw [e1]; exact hm1) (fun mm2 km2 e2 => ?_)
    rw [nI_1]
    refine ih (j + 1) mm2 (by omega) (KM_tr km km2) ?_
    rw [e2, e1]
    rfl
theorem r_zero {x2 : Int32} {mm0 : MM} (hp : ∃ n108, B_X13_later_108 post n108 x2 0 (sR 11 mm0 (cpF 5 (fun _ => 0) (mm0 11)))) : ∀ (g j : Nat), j + g = 5 → B_X13_later_88 post (g + 1) x2 (nI j) (sR 11 mm0 (cpF j (fun _ => 0) (mm0 11))) := by
  intro g
  induction g with
  | zero =>
    intro j hj
    have e : j = 5 := by omega
    subst e
    unfold B_X13_later_88
    exact ⟨fun _ => hp, fun z => absurd (by decide) z⟩
  | succ g ih =>
    intro j hj
    unfold B_X13_later_88
    rw [fa_lit 5, nI_clamp (by omega)]
    refine ⟨fun z => absurd z (lit_n (by omega) (by omega)), fun _ => ⟨vp_in_nI (by omega) (by omega), ?_⟩⟩
    rw [up2_R]
    have e := cpF_S (j := j) (A := fun _ => (0 : Int32)) (B := mm0 11)
    rw [e, nI_1]
    exact ih (j + 1) (by omega)
theorem r_cnt {x2 : Int32} {mm0 : MM} {F B : MR} {T : Nat → Pg} {n c o K : Nat} (hM : Mid (mm0 1) T n c o K (fun _ => True)) (hp : ∃ n144, B_X13_later_144 post n144 x2 0 1 (sR 11 mm0 (cpF 5 (fun k => nI (stC (mm0 1) k c)) B))) : ∀ (g j : Nat), j + g = c → B_X13_later_108 post (g + 1) x2 (nI j) (sR 11 mm0 (cpF 5 (fun k => nI (stC (mm0 1) k j)) B)) := by
  have hc : c ≤ 60 := hM.1.2.2.2.1
  have e2 : mm0 1 2 = nI c := hM.1.2.2.1
  intro g
  induction g with
  | zero =>
    intro j hj
    have e : j = c := by omega
    subst e
    unfold B_X13_later_108
    rw [cl_2, sR_o (show 1 ≠ 11 by omega), e2]
    exact ⟨fun _ => hp, fun z => absurd (nI_le (Nat.le_refl _) (by omega)) z⟩
  | succ g ih =>
    intro j hj
    obtain ⟨k, hk, hs⟩ : ∃ k, k ≤ 4 ∧ mm0 1 (330 + 8 * j) = nI k := by
      obtain ⟨p, a1, a2, a3, a4, a5, a6⟩ := (hM.2.2.1 j (by omega)).2 trivial
      rcases a5 with ⟨a5, _⟩ | ⟨a5, _⟩ | ⟨a5, _⟩ | ⟨a5, _⟩ | ⟨a5, _⟩
      · exact ⟨0, by omega, a5⟩
      · exact ⟨1, by omega, a5⟩
      · exact ⟨2, by omega, a5⟩
      · exact ⟨3, by omega, a5⟩
      · exact ⟨4, by omega, a5⟩
    have ih' := ih (j + 1) (by omega)
    unfold B_X13_later_108
    rw [cl_2, sR_o (show 1 ≠ 11 by omega), e2]
    refine ⟨fun z => absurd z (nI_ge (by omega) (by omega)), fun _ => r_chipOf (w := 0) rfl (by omega) (by omega) ?_⟩
    rw [sR_o (show 1 ≠ 11 by omega), show 330 + 8 * j + 0 = 330 + 8 * j by omega, hs, nI_clamp (by omega), sR_r, up2_R, cpF_lt (by omega), nI_1, nI_1]
    refine ⟨vp_in_nI (by omega) (by omega), vp_in_nI (by omega) (by omega), ?_⟩
    have e : upd (cpF 5 (fun k => nI (stC (mm0 1) k j)) B) k (nI (stC (mm0 1) k j + 1)) = cpF 5 (fun k => nI (stC (mm0 1) k (j + 1))) B := by
      funext x
      unfold upd cpF
      have es : stC (mm0 1) x (j + 1) = stC (mm0 1) x j + (if decide (mm0 1 (330 + 8 * j) = nI x) then 1 else 0) := rfl
      by_cases q : x = k
      · subst q
        rw [if_pos rfl, if_pos (by omega)]
        show nI _ = nI (stC (mm0 1) x (j + 1))
        rw [es, if_pos (decide_eq_true hs)]
      · rw [if_neg q]
        by_cases q2 : x < 5
        · rw [if_pos q2, if_pos q2]
          show nI _ = nI (stC (mm0 1) x (j + 1))
          rw [es, if_neg]
          · rfl
          · rw [hs]
            intro y
            have y2 := of_decide_eq_true y
            rw [nI_eq (by omega) (by omega)] at y2
            exact q y2.symm
        · rw [if_neg q2, if_neg q2]
    show B_X13_later_108 post (g + 1) x2 (nI (j + 1)) (sR 11 mm0 (upd (cpF 5 (fun k => nI (stC (mm0 1) k j)) B) k (nI (stC (mm0 1) k j + 1))))
    rw [e]
    exact ih'
theorem r_sent {x2 : Int32} {mm0 : MM} {n : Nat} (hn : n ≤ 11) (e1 : mm0 1 1 = nI n) (hp : ∃ n181, B_X13_later_181 post n181 x2 (sumC (mm0 1) 2 n) 0 mm0) : ∀ (g j : Nat), j + g = n → B_X13_later_144 post (g + 1) x2 (sumC (mm0 1) 2 j) (nI (j + 1)) mm0 := by
  intro g
  induction g with
  | zero =>
    intro j hj
    have e : j = n := by omega
    subst e
    unfold B_X13_later_144
    rw [cl_1, e1]
    exact ⟨fun _ => hp, fun z => absurd (nI_lt (by omega) (by omega)) z⟩
  | succ g ih =>
    intro j hj
    unfold B_X13_later_144
    rw [cl_1, e1]
    refine ⟨fun z => absurd z (nI_nlt (by omega) (by omega)), fun _ => ?_⟩
    have a46 : (46 + (4 * nI (j + 1)) + 2 : Int32) = nI (46 + 4 * (j + 1) + 2) := by rw [fa_lit 46, fa_lit 4, fa_lit 2, nI_mul, nI_add, nI_add]
    rw [a46, nI_clamp (by omega), nI_1]
    exact ⟨vp_in_nI (by omega) (by omega), ih (j + 1) (by omega)⟩
/-- which of the numbers is asked for -/
def lvO (k : Nat) (A : MR) (v : Int32) : Int32 := if k = 0 then A 4 else if k = 1 then A 3 else if k = 2 then A 2 else if k = 3 then v else if k = 4 then A 0 else A 1
theorem r_rest {k : Nat} (hk : k ≤ 5) {v : Int32} {mm0 : MM} (hp : post (lvO k (mm0 11) v) (sR 1 mm0 (cpF 1530 (mm0 10) (mm0 1)))) : ∀ (g j : Nat), j + g = 1530 → B_X13_later_181 post (g + 1) (nI k) v (nI j) (sR 1 mm0 (cpF j (mm0 10) (mm0 1))) := by
  intro g
  induction g with
  | zero =>
    intro j hj
    have e : j = 1530 := by omega
    subst e
    unfold B_X13_later_181 B_X13_later_279
    refine ⟨fun _ => ?_, fun z => absurd (by decide) z⟩
    rw [sR_o (show 11 ≠ 1 by omega), cl_1, cl_0, cl_2, cl_3, cl_4]
    have cs : k = 0 ∨ k = 1 ∨ k = 2 ∨ k = 3 ∨ k = 4 ∨ k = 5 := by omega
    rcases cs with rfl | rfl | rfl | rfl | rfl | rfl
    · exact ⟨fun z => absurd rfl z, fun _ => hp⟩
    · exact ⟨fun _ => ⟨fun z => absurd rfl z, fun _ => hp⟩, fun z => absurd z (by decide)⟩
    · exact ⟨fun _ => ⟨fun _ => ⟨fun z => absurd rfl z, fun _ => hp⟩, fun z => absurd z (by decide)⟩, fun z => absurd z (by decide)⟩
    · exact ⟨fun _ => ⟨fun _ => ⟨fun _ => ⟨fun z => absurd rfl z, fun _ => hp⟩, fun z => absurd z (by decide)⟩, fun z => absurd z (by decide)⟩, fun z => absurd z (by decide)⟩
    · exact ⟨fun _ => ⟨fun _ => ⟨fun _ => ⟨fun _ => ⟨fun z => absurd rfl z, fun _ => hp⟩, fun z => absurd z (by decide)⟩, fun z => absurd z (by decide)⟩, fun z => absurd z (by decide)⟩, fun z => absurd z (by decide)⟩
    · exact ⟨fun _ => ⟨fun _ => ⟨fun _ => ⟨fun _ => ⟨fun _ => hp, fun z => absurd z (by decide)⟩, fun z => absurd z (by decide)⟩, fun z => absurd z (by decide)⟩, fun z => absurd z (by decide)⟩, fun z => absurd z (by decide)⟩
  | succ g ih =>
    intro j hj
    unfold B_X13_later_181
    rw [fa_lit 1530, nI_clamp (by omega)]
    refine ⟨fun z => absurd z (lit_n (by omega) (by omega)), fun _ => ⟨vp_in_nI (by omega) (by omega), vp_in_nI (by omega) (by omega), ?_⟩⟩
    rw [up2_R, sR_o (show 10 ≠ 1 by omega), cpF_S, nI_1]
    exact ih (j + 1) (by omega)
end RL
theorem SI_96 {q : Nat} {cm cm' : CMu} {mm mm' : MM} (h : SI q cm mm) (hI : ∀ b j, b < 596 → b ≠ 10 → gI cm' b j = gI cm b j) (hL : ∀ b j, b < 596 → gL cm' b j = gL cm b j) (hW : cm'.2.2 = cm.2.2) (e1 : mm' 1 = mm 1) (e2 : mm' 2 = mm 2) (e4 : mm' 4 = mm 4) (e3 : mm' 0 3 = mm 0 3) (e6 : mm' 0 6 = mm 0 6) (e10 : mm' 0 10 = mm 0 10) : SI (q + 1) cm' mm' := by
  obtain ⟨n, c, o, T, g1, g2, g3, ⟨len, t1, t2, t3, t4⟩, g5, b, k1, k2, k3⟩ := h
  obtain ⟨o1, o2, o3⟩ := mid_o g2
  refine ⟨n, c, o, T, ?_, ?_, fun i hi ht => WRo_fr2 (g3 i hi ht) (fun b j h1 h2 => hI b j (by omega) (by omega)) (fun b j h1 h2 => gW_eq hW b j), ⟨len, ?_, by rw [e6]; exact t2, t3, fun i hi => ?_⟩, ?_, b, ?_, by rw [e3]; exact k2, fun z => ?_⟩
  · rw [e1]
    exact Fo_fr g1 o1 o2 o3 (fun b j h1 h2 => hI b j (by omega) (by omega)) (fun b j h1 h2 => hL b j (by omega))
  · rw [e1]
    exact Mid_K g2 (by omega)
  · rw [hI 2 1 (by omega) (by omega)]
    exact t1
  · rw [hI 3 i (by omega) (by omega), e4]
    exact t4 i hi
  · rw [hI 4 7 (by omega) (by omega), e10]
    exact g5
  · rw [hI 1 7 (by omega) (by omega)]
    exact k1
  · obtain ⟨nk, ck, ok, Tk, a1, a2, a3, a4⟩ := k3 z
    obtain ⟨p1, p2, p3⟩ := mid_o a2
    refine ⟨nk, ck, ok, Tk, ?_, ?_, a3, a4⟩
    · rw [e2]
      exact Fo_fr a1 p1 p2 p3 (fun b j h1 h2 => hI b j (by omega) (by omega)) (fun b j h1 h2 => hL b j (by omega))
    · rw [e2]
      exact Mid_K a2 (by omega)
section SLA
variable {q : Nat} {cm : CMu} {mm : MM} {oo : Nat → Int64} {kk : KKt} {v : Int32}
theorem s_later (h : SI q cm mm) (hq : q ≤ 1000) {x1 x2 : Int32} (hk : ∀ cm' mm' oo', SI (q + 1) cm' mm' → kk v cm' mm' oo') {post : Int32 → CMu × (Nat → Int64) → Prop} (hpost : ∀ r u, w_X13_later (EX kk v r u) x1 x2 mm → post r u) : w_L_later post x1 x2 cm oo := by
  obtain ⟨n, c, o, T, g1, g2, g3, g4, g5, g6⟩ := id h
  obtain ⟨o1, o2, o3⟩ := mid_o g2
  have hH := Fo_h g1
  have e5 : gI cm 382 5 = nI n := by rw [hH.2.1, g2.1.1]
  have e6 : gI cm 382 6 = nI c := by rw [hH.2.2.1, g2.1.2.2.1]
  have no1 : ¬ (¬ x1 < 0 ∧ ¬ 2000 < x1) → post 1 (cm, oo) := by
    intro hno
    refine hpost _ _ ?_
    unfold w_X13_later
    refine r_isIn2 (fun a b => absurd ⟨a, b⟩ hno) (fun _ => ⟨fun z => absurd rfl z, fun _ => ?_⟩)
    unfold B_X13_later_30
    exact ⟨fun y => absurd y th1, fun _ => EX_th rfl (by decide) (hk _ _ _ (SI_t h 1))⟩
  have no2 : (¬ x1 < 0 ∧ ¬ 2000 < x1) → ¬ (¬ x2 < 0 ∧ ¬ 5 < x2) → post 2 (cm, oo) := by
    intro hy hno
    refine hpost _ _ ?_
    unfold w_X13_later
    refine r_isIn2 (fun _ _ => ⟨fun _ => r_isIn2 (fun a b => absurd ⟨a, b⟩ hno) (fun _ => ⟨fun z => absurd rfl z, fun _ => ?_⟩), fun z => absurd z (by decide)⟩) (fun z => absurd hy z)
    unfold B_X13_later_30
    exact ⟨fun y => absurd y th2, fun _ => EX_th rfl (by decide) (hk _ _ _ (SI_t h 2))⟩
  unfold w_L_later w_X12_later B_X12_later_11 B_X12_later_28
  refine ⟨fun q1 => Or.inl ⟨rfl, no1 (fun z => z.1 q1)⟩, fun q1 => ⟨fun q2 => ?_, fun q2 => Or.inl ⟨rfl, no1 (fun z => q2 (le_lt.mpr z.2))⟩⟩⟩
  have q3 := le_lt.mp q2
  refine ⟨fun q4 => Or.inr ⟨rfl, no2 ⟨q1, q3⟩ (fun z => z.1 q4)⟩, fun q4 => ⟨fun q5 => ?_, fun q5 => Or.inr ⟨rfl, no2 ⟨q1, q3⟩ (fun z => q5 (le_lt.mpr z.2))⟩⟩⟩
  have q6 := le_lt.mp q5
  obtain ⟨m, hm, rfl⟩ := in_of (n := 2000) (by omega) q1 q3
  obtain ⟨k, hk5, rfl⟩ := in_of (n := 5) (by omega) q4 q6
  refine c_copy (Or.inl (by omega)) o1 o2 e5 e6 (fun cm1 hC => ?_)
  have F596 : Fo cm1 596 (mm 1) T n c o := Fo_copy g1 o1 o2 (mid_oc g2) hC
  have W1 : WRA cm1 T := fun i hi ht => WRo_fr2 (g3 i hi ht) (fun b j h1 h2 => hC.1 b j (Or.inl (by omega))) (fun b j h1 h2 => gW_eq hC.2.2.1 b j)
  unfold w_X3_pass
  refine ⟨m + 1, c_pass (n := n) (by omega) (m := m) hm m m 0 cm1 (mm 1) c o (2000 * q) (Nat.le_refl _) (by omega) (by omega) g2 F596 W1 (fun cm' c' o' m' F' fr hcc => ?_)⟩
  have hH' := Fo_h F'
  have f6 : gI cm' 596 6 = nI c' := by rw [hH'.2.2.1, m'.1.2.2.1]
  have f5 : gI cm' 596 5 = nI n := by rw [hH'.2.1, m'.1.1]
  obtain ⟨p1, p2, p3⟩ := mid_o m'
  -- the reference
  have ref : post 0 (cm', vp_updL oo (Int32.toNatClampNeg (0 : Int32)) (Int32.toInt64 (lvO k (fun x => nI (stC (mnsM T m (mm 1)) x c')) (sumC (mnsM T m (mm 1)) 2 n)))) := by
    refine hpost _ _ ?_
    unfold w_X13_later
    refine r_isIn2 (fun _ _ => ⟨fun _ => r_isIn2 (fun _ _ => ⟨fun _ => ?_, fun z => absurd z (by decide)⟩) (fun z => absurd ⟨q4, q6⟩ z), fun z => absurd z (by decide)⟩) (fun z => absurd ⟨q1, q3⟩ z)
    unfold B_X13_later_30
    refine ⟨fun _ => ⟨1531, ?_⟩, fun z => absurd th0 z⟩
    have e0 : up2 mm 0 0 0 = sR 10 (up2 mm 0 0 0) (cpF 0 ((up2 mm 0 0 0) 1) ((up2 mm 0 0 0) 10)) := by
      rw [cpF_0, sR_id]
    rw [e0]
    refine r_shelf ⟨m + 1, ?_⟩ 1530 0 rfl
    refine r_mins (T := T) (n := n) (c := c) (o := o) (K := 2000 * q) (m := m) (by rw [sR_o (by omega)]; exact g2) hm (by omega) (fun mm1 km em1 => ⟨6, ?_⟩) m 0 _ (by omega) KM_rf rfl
    have em1' : mm1 1 = mnsM T m (mm 1) := em1
    have e11 : mm1 = sR 11 mm1 (cpF 0 (fun _ => 0) (mm1 11)) := by
      rw [cpF_0, sR_id]
    rw [e11]
    refine r_zero ⟨c' + 1, ?_⟩ 5 0 rfl
    have M1 : Mid (mm1 1) T n c' o' (2000 * q + m) (fun _ => True) := by
      rw [em1']
      exact m'
    refine r_cnt (F := mm1 11) M1 ⟨n + 1, ?_⟩ c' 0 (by omega)
    refine r_sent (n := n) o1 (by rw [sR_o (by omega)]; exact M1.1.1) ⟨1531, ?_⟩ n 0 (by omega)
    rw [sR_o (show 1 ≠ 11 by omega)]
    have e1r : sR 11 mm1 (cpF 5 (fun k => nI (stC (mm1 1) k c')) (mm1 11)) = sR 1 (sR 11 mm1 (cpF 5 (fun k => nI (stC (mm1 1) k c')) (mm1 11))) (cpF 0 ((sR 11 mm1 (cpF 5 (fun k => nI (stC (mm1 1) k c')) (mm1 11))) 10) ((sR 11 mm1 (cpF 5 (fun k => nI (stC (mm1 1) k c')) (mm1 11))) 1)) := by
      rw [cpF_0, sR_id]
    rw [e1r]
    refine r_rest hk5 ?_ 1530 0 rfl
    rw [sR_r]
    have ev : lvO k (cpF 5 (fun k => nI (stC (mm1 1) k c')) (mm1 11)) (sumC (mm1 1) 2 n) = lvO k (fun x => nI (stC (mnsM T m (mm 1)) x c')) (sumC (mnsM T m (mm 1)) 2 n) := by
      unfold lvO
      rw [cpF_lt (by omega), cpF_lt (by omega), cpF_lt (by omega), cpF_lt (by omega), cpF_lt (by omega), em1']
    rw [ev]
    refine EX_ok ?_ (hk _ _ _ ?_)
    · show mm1 0 0 = 0
      rw [km.2.1]
      rfl
    · refine SI_96 h (fun b j h1 h2 => ?_) (fun b j h1 => ?_) ?_ ?_ ?_ ?_ ?_ ?_ ?_
      · rw [fr.1 b j (Or.inl h1) h2]
        exact hC.1 b j (Or.inl h1)
      · rw [fr.2.1 b j (Or.inl h1)]
        exact hC.2.1 b j (Or.inl h1)
      · rw [fr.2.2]
        exact hC.2.2.1
      · rw [sR_r]
        funext x
        have r10 : (sR 11 mm1 (cpF 5 (fun k => nI (stC (mm1 1) k c')) (mm1 11))) 10 = cpF 1530 (mm 1) (mm 10) := by
          rw [sR_o (by omega), km.1 10 (by omega) (by omega) (by omega), sR_r]
          rfl
        have r1 : (sR 11 mm1 (cpF 5 (fun k => nI (stC (mm1 1) k c')) (mm1 11))) 1 = mnsM T m (mm 1) := by
          rw [sR_o (by omega)]
          exact em1'
        rw [r10, r1]
        by_cases z : x < 1530
        · rw [cpF_lt z, cpF_lt z]
        · show (if x < 1530 then _ else _) = _
          rw [if_neg z]
          exact hi_mns g2 (by omega) m (by omega)
      · rw [sR_o (by omega), sR_o (by omega), km.1 2 (by omega) (by omega) (by omega)]
        rfl
      · rw [sR_o (by omega), sR_o (by omega), km.1 4 (by omega) (by omega) (by omega)]
        rfl
      · show mm1 0 3 = _
        rw [km.2.2.1]
        rfl
      · show mm1 0 6 = _
        rw [km.2.2.2.1]
        rfl
      · show mm1 0 10 = _
        rw [km.2.2.2.2]
        rfl
  have k31 : (nI k).toInt = k := nI_toInt (by omega)
  rw [k31]
  have s7 : gI cm' 596 7 = nI (stC (mnsM T m (mm 1)) 4 c') := by
    rw [hH'.2.2.2.1, m'.1.2.2.2.2.1, m'.1.2.2.2.2.2.1]
    rfl
  refine ⟨fun z => ?_, fun z => ?_, fun z => ?_, fun z => ?_, fun z => ?_, fun z => ?_⟩
  · have : k = 5 := by omega
    subst this
    exact c_that F' p2 f6 (k := 1) ref
  · have : k = 0 := by omega
    subst this
    rw [s7]
    exact ref
  · have : k = 1 := by omega
    subst this
    exact c_that F' p2 f6 (k := 3) ref
  · have : k = 2 := by omega
    subst this
    exact c_that F' p2 f6 (k := 2) ref
  · have : k = 3 := by omega
    subst this
    exact c_allSent F' p1 f5 ref
  · have : k = 4 := by omega
    subst this
    exact c_that F' p2 f6 (k := 0) ref
end SLA
