/-! ===== the reference reads a chip's text ===== -/
def BYx (mm : MM) (b : Nat → Int32) (len : Nat) : Prop := mm 0 8 = nI len ∧ len ≤ 400 ∧ ((mm 0 7 = -1 ∧ ∀ i, i < len → mm 4 i = b i) ∨ ∃ B, mm 0 7 = nI B ∧ 1530 ≤ B ∧ B + 400 ≤ 25530 ∧ ∀ i, i < len → mm 1 (B + i) = b i)
theorem BYx_BY {mm : MM} {b : Nat → Int32} {len : Nat} (h : BYx mm b len) : BY mm b len := by
  obtain ⟨h1, h2, h3⟩ := h
  refine ⟨h1, h2, ?_⟩
  rcases h3 with h3 | ⟨B, h3, h4, h5, h6⟩
  · exact Or.inl h3
  · exact Or.inr ⟨B, h3, h5, h6⟩
theorem adM_hi {c : Nat} {st wt nu sz : Int32} {M : MR} (hc : c < 60) {x : Nat} (hx : 810 ≤ x) : adM c st wt nu sz M x = M x := by
  unfold adM
  rw [if_neg (by omega), if_neg (by omega)]
/-- an act leaves what lies behind the row alone -/
theorem xM_hi {h c : Nat} {w : Fin 32} {n : Int32} {M : MR} (hh : h ≤ 11) (h2 : M 2 = nI c) (hc : c ≤ 60) (hA : AcO w n) {x : Nat} (hx : 1530 ≤ x) : xM h w n M x = M x := by
  rcases hA with ⟨rfl | rfl, _⟩ | rfl | ⟨rfl, j, rfl, hj⟩
  · rw [xM_9, pk_un (by omega), pk_un (by omega)]
  · rw [xM_10, pk_un (by omega), pk_un (by omega)]
  · rw [xM_11]
    by_cases q : M 2 = 60
    · rw [if_pos q]
    · rw [if_neg q, h2, nI_clamp (by omega)]
      have hc2 : c ≠ 60 := fun z => q (by rw [h2, z]; rfl)
      exact adM_hi (by omega) (by omega)
  · rw [xM_12, nI_clamp (by omega)]
    split
    · exact pk_un (by omega)
    · exact pk_un (by omega)
theorem xM_2 {h c : Nat} {w : Fin 32} {n : Int32} {M : MR} (hh : 1 ≤ h) (h2 : M 2 = nI c) (hc : c ≤ 60) (hA : AcO w n) : ∃ c', xM h w n M 2 = nI c' ∧ c' ≤ 60 ∧ c ≤ c' := by
  rcases hA with ⟨rfl | rfl, _⟩ | rfl | ⟨rfl, j, rfl, hj⟩
  · exact ⟨c, by rw [xM_9, pk_un (by omega), pk_un (by omega), h2], hc, Nat.le_refl _⟩
  · exact ⟨c, by rw [xM_10, pk_un (by omega), pk_un (by omega), h2], hc, Nat.le_refl _⟩
  · rw [xM_11]
    by_cases q : M 2 = 60
    · rw [if_pos q]
      exact ⟨c, h2, hc, Nat.le_refl _⟩
    · rw [if_neg q, h2, nI_clamp (by omega)]
      have hc2 : c ≠ 60 := fun z => q (by rw [h2, z]; rfl)
      exact ⟨c + 1, if_pos rfl, by omega, by omega⟩
  · refine ⟨c, ?_, hc, Nat.le_refl _⟩
    rw [xM_12, nI_clamp (by omega)]
    split
    · rw [pk_un (by omega), h2]
    · rw [pk_un (by omega), h2]
theorem exD_DmA {D : Bool} {h i : Nat} {M : MR} {x : PX1} (hD : D = true → 1 ≤ h ∧ h ≤ 11 ∧ DmA M) (hA : AcO x.1 x.2.1) : (D = true → DmA (exD D h i M x)) ∧ ∀ y, 1530 ≤ y → exD D h i M x y = M y := by
  cases D with
  | false => exact ⟨fun z => absurd z (by decide), fun _ _ => rfl⟩
  | true =>
    obtain ⟨h1, h2, c, h3, h4⟩ := hD rfl
    show (true = true → DmA (exM h i M x)) ∧ ∀ y, 1530 ≤ y → exM h i M x y = M y
    unfold exM
    split
    · obtain ⟨c', e1, e2, _⟩ := xM_2 h1 h3 h4 hA
      exact ⟨fun _ => ⟨c', e1, e2⟩, fun y hy => xM_hi h2 h3 h4 hA hy⟩
    · exact ⟨fun _ => ⟨c, h3, h4⟩, fun _ _ => rfl⟩
theorem BYx_ax {mm mm' : MM} {b : Nat → Int32} {len : Nat} {M' : MR} (h : BYx mm b len) (ha : AXr mm mm' M') (hM : ∀ y, 1530 ≤ y → M' y = mm 1 y) : BYx mm' b len := by
  obtain ⟨h1, h2, h3⟩ := h
  obtain ⟨a1, a2⟩ := ha
  refine ⟨by rw [a1 0 (by omega) (by omega)]; exact h1, h2, ?_⟩
  rcases h3 with ⟨h3, h4⟩ | ⟨B, h3, h4, h5, h6⟩
  · exact Or.inl ⟨by rw [a1 0 (by omega) (by omega)]; exact h3, by rw [a1 4 (by omega) (by omega)]; exact h4⟩
  · refine Or.inr ⟨B, by rw [a1 0 (by omega) (by omega)]; exact h3, h4, h5, fun i hi => ?_⟩
    rw [a2, hM _ (by omega)]
    exact h6 i hi
theorem DOK_ax {D : Bool} {mm mm' : MM} {h i : Nat} {M' : MR} (hd : DOK D mm h i) (ha : AXr mm mm' M') (hM : D = true → DmA M') : DOK D mm' h i := by
  obtain ⟨h1, h2⟩ := hd
  obtain ⟨a1, a2⟩ := ha
  have e0 := a1 0 (by omega) (by omega)
  refine ⟨by rw [e0]; exact h1, fun z => ?_⟩
  obtain ⟨b1, b2, b3, b4, b5, b6⟩ := h2 z
  exact ⟨by rw [e0]; exact b1, by rw [e0]; exact b2, b3, b4, b5, by rw [a2]; exact hM z⟩
def NXr (mm mm' : MM) (M' : MR) : Prop := (∀ b, b ≠ 0 → b ≠ 1 → b ≠ 5 → mm' b = mm b) ∧ (∀ j, j ≠ 12 → mm' 0 j = mm 0 j) ∧ mm' 1 = M'
section RN
variable {mm : MM} {b : Nat → Int32} {len : Nat} {k : TK}
theorem fs_act {s : PA} (h : ¬ s.1.1.2.1 = -1) (hl : s.2.length < 8) : (pAct k s).1.1.2.1 = s.1.1.2.1 := by
  unfold pAct
  rw [fs_is h, fs_is h, fs_is h, if_neg (by decide), if_neg (by decide), if_neg (by decide), fs_dem h, pAct0_ap hl]
  show (pIf k (((s.1.1, s.1.2), s.2 ++ _) : PA)).1.1.2.1 = _
  rw [pIf_bad (s := (((s.1.1, s.1.2), s.2 ++ [(11, 0, s.1.2.length)]) : PA)) h]
theorem fs_acts {f : Nat} {s : PA} (h : ¬ s.1.1.2.1 = -1) : pActs k f s = s := by
  cases f with
  | zero => rfl
  | succ f =>
    unfold pActs
    rw [fs_is h, if_neg (by decide)]
theorem fs_end {s : PT} (h : ¬ s.2.1 = -1) : pEnd k s = s := by
  unfold pEnd
  rw [fs_is h, if_neg (by decide), fs_ref h]
  split <;> rfl
/-- the end, with a fault told before -/
theorem r_fin0 (hB : BY mm b len) {e d : Int32} {p : Nat} (hp : p ≤ len + 1000) (he : ¬ e = -1) {post : MM → Prop} (h : ∀ a : Int32, post (stR mm a e d)) : B_X13_notches_139 post (stR mm (nI p) e d) := by
  have hl2 := hB.2.1
  unfold B_X13_notches_139 B_X13_notches_162
  refine r_skip hB (by omega) ⟨fun _ => h _, fun _ => r_wrong ?_⟩
  rw [if_neg he]
  exact h _
theorem r_fin81 (hB : BY mm b len) {e d v : Int32} {p f : Nat} (hp : p ≤ len + 1000) (he : ¬ e = -1) {post : MM → Prop} (h : ∀ a : Int32, post (stR mm a e d)) : B_X13_notches_81 post (f + 1) v (stR mm (nI p) e d) := by
  unfold B_X13_notches_81
  rw [stR_10]
  exact ⟨fun _ => r_fin0 hB hp he h, fun z => absurd z he⟩
/-- the end, without one -/
theorem r_fin1 (hB : BY mm b len) (hT : TKL k (tks b len 0) len) {p t : Nat} {nu : Int32} (hs : Sx k b len p t) (h16 : pIs k 16 (t, -1, nu) = false) {post : MM → Prop} (h1 : (pEnd k (t, -1, nu)).2.1 = -1 → ∀ p', p' ≤ len → post (stR mm (nI p') (-1) 0)) (h0 : ¬ (pEnd k (t, -1, nu)).2.1 = -1 → ∀ p', p' ≤ len → post (stR mm (nI p') (pEnd k (t, -1, nu)).2.1 0)) : B_X13_notches_139 post (stR mm (nI p) (-1) 0) := by
  have hl2 := hB.2.1
  have hl3 := hs.2.1
  have h8 : ∀ a e : Int32, stR mm a e 0 0 8 = nI len := fun a e => by rw [stR_o (by omega)]; exact hB.1
  obtain ⟨s1, s2, s3⟩ := Sx_skp hT hs
  unfold pEnd at h1 h0
  rw [h16, if_neg (by decide)] at h1 h0
  unfold B_X13_notches_139 B_X13_notches_162
  refine r_skip hB (by omega) ?_
  generalize skp b len p = q at *
  have hq := s1.1.2.1
  rw [h8, stR_9]
  refine ⟨fun g => ?_, fun g => ?_⟩
  · rw [nI_leI (by omega) (by omega)] at g
    rw [if_neg (show ¬ t < tN k from fun z => by have := s2.mpr z; omega)] at h1
    exact h1 rfl q hq
  · rw [nI_leI (by omega) (by omega)] at g
    have ht : t < tN k := s2.mp (by omega)
    refine r_wrong ?_
    rw [if_pos rfl]
    have hne := fV_ne hT hl2 hs
    rw [if_pos (show (t, -1, nu).1 < tN k from ht), pRef_f] at h0
    have e4 : nI q = fV k t := s1.2
    have := h0 hne q hq
    rw [← e4] at this
    exact this
theorem r_loop {D : Bool} {h i : Nat} (hT : TKL k (tks b len 0) len) {mm0 : MM} {post : MM → Prop} : ∀ (f j : Nat) (mm : MM) (px : List PX1) (p t : Nat) (nu : Int32), j + f = 8 → BYx mm b len → DOK D mm h i → Sx k b len p t → px.length = j → (pxS px).length ≤ t → (∀ x ∈ px, AcO x.1 x.2.1) → AXr mm0 mm (px.foldl (exD D h i) (mm0 1)) → (D = false → mm 1 = mm0 1) →
    ∀ Z : PA, Z = pActs k f (((t, -1, nu), pxS px), pxA 0 px) →
    (∀ (px' : List PX1) (mm' : MM) (a : Int32), (pEnd k Z.1.1).2.1 = -1 → Z.1.2 = pxS px' → Z.2 = pxA 0 px' → px'.length ≤ 8 → (∀ x ∈ px', AcO x.1 x.2.1) → AXr mm0 mm' (px'.foldl (exD D h i) (mm0 1)) → post (stR mm' a (-1) 0)) →
    (¬ (pEnd k Z.1.1).2.1 = -1 → D = false ∧ ∀ mm' a dd, AXr mm0 mm' (mm0 1) → post (stR mm' a (pEnd k Z.1.1).2.1 dd)) →
    B_X13_notches_81 post (f + 2) (nI j) (stR mm (nI p) (-1) 0) := by
  intro f
  induction f with
  | zero =>
    intro j mm px p t nu hj hBx hD hs hpl hst hpo ha hDf Z hZ hok hbad
    have hB := BYx_BY hBx
    have hl2 := hB.2.1
    have ej : j = 8 := by omega
    unfold B_X13_notches_81
    rw [stR_10]
    have eZ : Z = (((t, -1, nu), pxS px), pxA 0 px) := hZ
    subst eZ
    simp only [] at hok hbad
    refine ⟨fun z => absurd rfl z, fun _ => t_sign (nu := nu) hB hT hs (w := 15) (by omega) rfl rfl (fun q p' hp' hs' => ⟨fun z => absurd z (by decide), fun _ => ?_⟩) (fun q p' y => ⟨fun _ => ?_, fun z => absurd rfl z⟩)⟩
    · have q' : pIs k 16 (t, -1, nu) = true := q
      rw [stR_9, nI_1, stR_u9]
      refine t_skip hB hT hs' (fun p2 y2 => ⟨fun z => absurd (by rw [ej]; rfl) z, fun _ => r_wrong ?_⟩)
      have hne := fV_ne hT hl2 hs'
      have e4 : nI p2 = fV k (t + 1) := y2.2
      have eE : pEnd k (t, -1, nu) = (t + 1, fV k (t + 1), nu) := by
        unfold pEnd
        rw [if_pos q']
        exact pRef_f
      rw [eE] at hbad
      obtain ⟨hd, hb⟩ := hbad hne
      rw [if_pos rfl, stR_9, e4]
      unfold B_X13_notches_133
      have hax : AXr mm0 mm (mm0 1) := ⟨ha.1, hDf hd⟩
      rw [← e4] at hb hne ⊢
      exact r_fin81 hB (by have := y2.1.2.1; omega) hne (fun a => hb mm a 0 hax)
    · refine r_fin1 hB hT y.1 (nu := nu) q (fun z p2 hp2 => ?_) (fun z p2 hp2 => ?_)
      · exact hok px mm _ z rfl rfl (by omega) hpo ha
      · obtain ⟨hd, hb⟩ := hbad z
        exact hb mm _ 0 ⟨ha.1, hDf hd⟩
  | succ f ih =>
    intro j mm px p t nu hj hBx hD hs hpl hst hpo ha hDf Z hZ hok hbad
    have hB := BYx_BY hBx
    have hl2 := hB.2.1
    unfold B_X13_notches_81
    rw [stR_10]
    unfold pActs at hZ
    refine ⟨fun z => absurd rfl z, fun _ => t_sign (nu := nu) hB hT hs (w := 15) (by omega) rfl rfl (fun q p' hp' hs' => ⟨fun z => absurd z (by decide), fun _ => ?_⟩) (fun q p' y => ⟨fun _ => ?_, fun z => absurd rfl z⟩)⟩
    · have q' : pIs k 16 (t, -1, nu) = true := q
      rw [if_pos q'] at hZ
      have en : pAdv ((((t, -1, nu), pxS px), pxA 0 px) : PA) = (((t + 1, -1, nu), pxS px), pxA 0 px) := rfl
      rw [en] at hZ
      rw [stR_9, nI_1, stR_u9]
      refine t_skip hB hT hs' (fun p2 y2 => ⟨fun _ => ?_, fun z => absurd z ?_⟩)
      · have hal : (pxA 0 px).length < 8 := by rw [pxA_len]; omega
        refine r_act hB hT hD y2.1 (by omega) hal (S := pAct k (((t + 1, -1, nu), pxS px), pxA 0 px)) rfl (fun x p3 mm' e1 e2 e3 hA e4 e5 ax => ?_) (fun p3 dd mm' e1 hp3 ax => ?_)
        · unfold B_X13_notches_133
          rw [nI_1]
          have hS : pAct k (((t + 1, -1, nu), pxS px), pxA 0 px) = ((((pAct k (((t + 1, -1, nu), pxS px), pxA 0 px)).1.1.1, -1, (pAct k (((t + 1, -1, nu), pxS px), pxA 0 px)).1.1.2.2), pxS (px ++ [x])), pxA 0 (px ++ [x])) := by
            rw [pxS_snoc, pxA_snoc, Nat.zero_add]
            refine Prod.ext (Prod.ext (Prod.ext rfl (Prod.ext ?_ rfl)) ?_) ?_
            · exact e1
            · exact e2
            · exact e3
          have dd := exD_DmA (D := D) (h := h) (i := i) (M := mm 1) (x := x) (fun z => by obtain ⟨_, h2⟩ := hD; obtain ⟨_, _, b3, b4, _, b6⟩ := h2 z; exact ⟨b3, b4, b6⟩) hA
          rw [hS] at hZ
          refine ih (j + 1) mm' (px ++ [x]) p3 _ _ (by omega) (BYx_ax hBx ax dd.2) (DOK_ax hD ax dd.1) e4 (by rw [List.length_append, List.length_cons, List.length_nil, hpl]) ?_ ?_ ?_ ?_ Z hZ hok hbad
          · rw [pxS_snoc, ← e2]
            exact e5
          · intro y hy
            rcases List.mem_append.mp hy with hy | hy
            · exact hpo y hy
            · rw [List.mem_singleton.mp hy]
              exact hA
          · refine ⟨fun b hb1 hb5 => ?_, ?_⟩
            · rw [ax.1 b hb1 hb5]
              exact ha.1 b hb1 hb5
            · rw [List.foldl_append, ax.2, ha.2]
              rfl
          · intro hd
            rw [ax.2, hd]
            exact hDf hd
        · unfold B_X13_notches_133
          rw [fs_acts e1] at hZ
          subst hZ
          rw [fs_end e1] at hbad
          obtain ⟨hd, hb⟩ := hbad e1
          have hax : AXr mm0 mm' (mm0 1) := ⟨fun b hb1 hb5 => by rw [ax.1 b hb1 hb5]; exact ha.1 b hb1 hb5, by rw [ax.2]; exact hDf hd⟩
          have hB2 : BY mm' b len := BYx_BY (BYx_ax hBx ax (fun _ _ => rfl))
          exact r_fin81 hB2 (by omega) e1 (fun a => hb mm' a dd hax)
      · rw [fa_lit 8, nI_eq (by omega) (by omega)]
        omega
    · have q' : pIs k 16 (t, -1, nu) = false := q
      rw [if_neg (by rw [q']; decide)] at hZ
      subst hZ
      refine r_fin1 hB hT y.1 (nu := nu) q (fun z p2 hp2 => ?_) (fun z p2 hp2 => ?_)
      · exact hok px mm _ z rfl rfl (by omega) hpo ha
      · obtain ⟨hd, hb⟩ := hbad z
        exact hb mm _ 0 ⟨ha.1, hDf hd⟩
theorem NXr_12 {mm mm' : MM} {v : Int32} {M' : MR} (h : AXr (up2 mm 0 12 v) mm' M') : NXr mm mm' M' ∧ mm' 0 12 = v := by
  obtain ⟨h1, h2⟩ := h
  have e0 := h1 0 (by omega) (by omega)
  refine ⟨⟨fun b hb0 hb1 hb5 => ?_, fun j hj => ?_, h2⟩, ?_⟩
  · rw [h1 b hb1 hb5]
    exact up2_ne hb0
  · rw [e0]
    exact up2_miss (fun z => hj z.2)
  · rw [e0]
    exact up2_hit
theorem BYx_12 {v : Int32} (h : BYx mm b len) : BYx (up2 mm 0 12 v) b len := by
  obtain ⟨h1, h2, h3⟩ := h
  refine ⟨(up2_miss (by omega)).trans h1, h2, ?_⟩
  rcases h3 with ⟨h3, h4⟩ | ⟨B, h3, h4, h5, h6⟩
  · exact Or.inl ⟨(up2_miss (by omega)).trans h3, fun i hi => (up2_miss (by omega)).trans (h4 i hi)⟩
  · exact Or.inr ⟨B, (up2_miss (by omega)).trans h3, h4, h5, fun i hi => (up2_miss (by omega)).trans (h6 i hi)⟩
theorem DOK_12 {D : Bool} {h i : Nat} {v : Int32} (hd : DOK D mm h i) : DOK D (up2 mm 0 12 v) h i := by
  obtain ⟨h1, h2⟩ := hd
  exact ⟨(up2_miss (by omega)).trans h1, fun z => by
    obtain ⟨b1, b2, b3, b4, b5, b6⟩ := h2 z
    exact ⟨(up2_miss (by omega)).trans b1, (up2_miss (by omega)).trans b2, b3, b4, b5, b6⟩⟩
theorem r_notches {D : Bool} {h i : Nat} (hT : TKL k (tks b len 0) len) (hBx : BYx mm b len) (hD : DOK D mm h i) {nu a d : Int32} {post : MM → Prop} {R : Int32 × PA} (hR : R = pNot k nu)
    (hok : ∀ (px : List PX1) (mm' : MM) (a : Int32), R.2.1.1.2.1 = -1 → R.2.1.2 = pxS px → R.2.2 = pxA 0 px → px.length ≤ 8 → (∀ x ∈ px, AcO x.1 x.2.1) → NXr mm mm' (px.foldl (exD D h i) (mm 1)) → mm' 0 12 = R.1 → post (stR mm' a (-1) 0))
    (hbad : ¬ R.2.1.1.2.1 = -1 → D = false ∧ ∀ mm' a dd, NXr mm mm' (mm 1) → post (stR mm' a R.2.1.1.2.1 dd)) : w_X13_notches post (stR mm a (-1) d) := by
  have hB := BYx_BY hBx
  have hl2 := hB.2.1
  have hs0 : Sx k b len 0 0 := ⟨At_0, Nat.zero_le _, Nat.zero_le _⟩
  have hR1 : R.1 = (pHead k (0, -1, nu)).1 := by rw [hR]; rfl
  have hR2 : R.2 = ((pEnd k (pActs k 8 (((pHead k (0, -1, nu)).2, []), [])).1.1, (pActs k 8 (((pHead k (0, -1, nu)).2, []), [])).1.2), (pActs k 8 (((pHead k (0, -1, nu)).2, []), [])).2) := by rw [hR]; rfl
  clear hR
  -- behind the head
  have go : ∀ (v : Int32) (p t : Nat) (nu1 : Int32), Sx k b len p t → pHead k (0, -1, nu) = (v, (t, -1, nu1)) → B_X13_notches_79 post (stR (up2 mm 0 12 v) (nI p) (-1) 0) := by
    intro v p t nu1 hs hh
    unfold B_X13_notches_79
    rw [hh] at hR1 hR2
    simp only [] at hR1 hR2
    generalize hZ : pActs k 8 (((t, -1, nu1), []), []) = Z at hR2
    have hu : (up2 mm 0 12 v) 1 = mm 1 := up2_ne (by omega)
    refine ⟨10, r_loop (D := D) (h := h) (i := i) (mm0 := up2 mm 0 12 v) hT 8 0 (up2 mm 0 12 v) [] p t nu1 rfl (BYx_12 hBx) (DOK_12 hD) hs rfl (Nat.zero_le _) (fun x hx => absurd hx (by simp)) ⟨fun _ _ _ => rfl, rfl⟩ (fun _ => rfl) Z hZ.symm ?_ ?_⟩
    · intro px mm' a e1 e2 e3 e4 e5 ax
      rw [hu] at ax
      obtain ⟨n1, n2⟩ := NXr_12 ax
      refine hok px mm' a ?_ ?_ ?_ e4 e5 n1 (by rw [n2, hR1])
      · rw [hR2]; exact e1
      · rw [hR2]; exact e2
      · rw [hR2]; exact e3
    · intro e1
      have e2 : R.2.1.1.2.1 = (pEnd k Z.1.1).2.1 := by rw [hR2]
      rw [e2] at hbad
      obtain ⟨hd, hb⟩ := hbad e1
      refine ⟨hd, fun mm' a dd ax => ?_⟩
      rw [hu] at ax
      exact hb mm' a dd (NXr_12 ax).1
  -- a head that is none
  have bad : ∀ (mm1 : MM) (p t : Nat) (nu1 : Int32), BY mm1 b len → p ≤ len → ¬ fV k t = -1 → (pHead k (0, -1, nu)).2 = (t, fV k t, nu1) → NXr mm mm1 (mm 1) → B_X13_notches_79 post (stR mm1 (nI p) (fV k t) 0) := by
    intro mm1 p t nu1 hB1 hp hne hh hn
    unfold B_X13_notches_79
    rw [hh] at hR2
    have ea : pActs k 8 ((((t, fV k t, nu1), []), []) : PA) = (((t, fV k t, nu1), []), []) := fs_acts hne
    rw [ea] at hR2
    have ee : pEnd k (t, fV k t, nu1) = (t, fV k t, nu1) := fs_end hne
    simp only [ee] at hR2
    have e2 : R.2.1.1.2.1 = fV k t := by rw [hR2]
    rw [e2] at hbad
    obtain ⟨hd, hb⟩ := hbad hne
    exact ⟨1, r_fin81 hB1 (by omega) hne (fun a => hb mm1 a 0 hn)⟩
  have hn0 : ∀ v : Int32, NXr mm (up2 mm 0 12 v) (mm 1) := fun v => ⟨fun b hb0 _ _ => up2_ne hb0, fun j hj => up2_miss (fun z => hj z.2), up2_ne (by omega)⟩
  unfold w_X13_notches
  rw [stR_u9, stR_u11]
  refine t_skip (p := 0) (e := -1) (d := 0) hB hT hs0 (fun p0 y0 => ?_)
  refine t_has (nu := nu) hB hT y0.1 (w := 5) (by omega) rfl (fun q p' hs' => ⟨fun z => absurd z (by decide), fun _ => ?_⟩) (fun q5 p1 y1 => ⟨fun _ => ?_, fun z => absurd rfl z⟩)
  · have q' : pIs k 6 (0, -1, nu) = true := q
    have hh : pHead k (0, -1, nu) = pNum k 1 11 (1, -1, nu) := by
      unfold pHead
      rw [if_pos q']
      rfl
    refine t_fig (nu := nu) hB hT hs' (fun q2 p2 hs2 => ?_) (fun q2 p2 v hp2 => ?_)
    · rw [stR_un (by omega)]
      refine go _ p2 _ nu hs2 ?_
      rw [hh]
      unfold pNum
      rw [if_pos q2]
      rfl
    · have hne := fV_ne hT hl2 hs'
      rw [stR_un (by omega)]
      refine bad _ p2 _ nu (BYx_BY (BYx_12 hBx)) hp2 hne ?_ (hn0 v)
      rw [hh]
      unfold pNum
      rw [if_neg (by rw [q2]; decide)]
      exact pRef_f
  have q5' : pIs k 6 (0, -1, nu) = false := q5
  refine t_has (nu := nu) hB hT y1.1 (w := 6) (by omega) rfl (fun q p' hs' => ⟨fun z => absurd z (by decide), fun _ => ?_⟩) (fun q6 p2 y2 => ⟨fun _ => ?_, fun z => absurd rfl z⟩)
  · have q' : pIs k 7 (0, -1, nu) = true := q
    rw [stR_un (by omega)]
    refine go _ p' 1 nu hs' ?_
    unfold pHead
    rw [if_neg (by rw [q5']; decide), if_pos q']
    rfl
  have q6' : pIs k 7 (0, -1, nu) = false := q6
  refine t_has (nu := nu) hB hT y2.1 (w := 7) (by omega) rfl (fun q p' hs' => ⟨fun z => absurd z (by decide), fun _ => ?_⟩) (fun q7 p3 y3 => ⟨fun _ => ?_, fun z => absurd rfl z⟩)
  · have q' : pIs k 8 (0, -1, nu) = true := q
    rw [stR_un (by omega)]
    refine go _ p' 1 nu hs' ?_
    unfold pHead
    rw [if_neg (by rw [q5']; decide), if_neg (by rw [q6']; decide)]
    unfold pDem
    rw [if_pos q']
    rfl
  · have q7' : pIs k 8 (0, -1, nu) = false := q7
    have hne := fV_ne hT hl2 hs0
    refine r_wrong ?_
    have e4 : nI p3 = fV k 0 := y3.2
    rw [if_pos rfl, stR_9]
    have := bad mm p3 0 nu hB (by have := y3.1.2.1; omega) hne ?_ ⟨fun _ _ _ _ => rfl, fun _ _ => rfl, rfl⟩
    · rw [← e4] at this
      exact this
    · unfold pHead
      rw [if_neg (by rw [q5']; decide), if_neg (by rw [q6']; decide)]
      unfold pDem
      rw [if_neg (by rw [q7']; decide)]
      exact pRef_f
end RN
