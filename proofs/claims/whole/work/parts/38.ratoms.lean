/-! ===== the reference's atoms, by depth ===== -/
section RX
variable {mm : MM} {b : Nat → Int32} {len : Nat} {k : TK}
theorem cmp_fail {t : Nat} {nu : Int32} {st : SL} (hP : pIsP k (t, -1, nu) = false) (hne : ¬ fV k t = -1) : (pCmp k ((t, -1, nu), st)).1.2.1 = fV k t := by
  have e1 : pSum k 400 true ((t, -1, nu), st) = ((t, fV k t, nu), st) := by
    unfold pSum
    rw [if_neg (by rw [hP]; decide)]
    unfold pRef
    rw [if_pos rfl]
    rfl
  have f1 : pIs k 28 (t, fV k t, nu) = false := fs_is hne
  have f2 : pDem k 29 (t, fV k t, nu) = (t, fV k t, nu) := fs_dem hne
  unfold pCmp
  simp only [e1, f1, Bool.false_eq_true, if_false, pAdd_1, f2]
  exact fs_sum _ hne
theorem pEx_0 (s : PS) : pEx k 0 s = pPl k s := by
  show pAtom k id id false s = _
  unfold pAtom pPl
  simp only [Bool.false_eq_true, false_and, if_false]
theorem r_atom0 (hB : BY mm b len) (hT : TKL k (tks b len 0) len) {rs re ra : (Bool → MM → Prop) → MM → Prop} : RC k b len b2 3 0 6 mm (pEx k 0) (wb_X13_atom rs re ra) := by
  intro p t nu st post hs hst hok hbad
  have hl2 := hB.2.1
  have hne := fV_ne hT hl2 hs
  rw [pEx_0] at hok hbad
  unfold wb_X13_atom
  rw [stR_10]
  refine ⟨fun _ => t_skip hB hT hs (fun p0 y0 => ?_), fun z => absurd rfl z⟩
  have e0 : nI p0 = fV k t := y0.2
  have bad : ∀ (w : Fin 32) (p' : Nat), (w = 14 ∨ w = 17) → pIs k w (t, -1, nu) = true → p' ≤ len → post false (stR mm (nI p') (fV k t) 6) := by
    intro w p' hw q hp'
    have z := of_decide_eq_true q
    have hW : tW k t = w := z.2.2
    have hP : pIsP k (t, -1, nu) = false := by
      refine decide_eq_false (fun y => y.2.2 ?_)
      show wP (tW k t) = false
      rw [hW]
      rcases hw with rfl | rfl <;> decide
    have h15 : pIs k 15 (t, -1, nu) = false := by
      refine decide_eq_false (fun y => ?_)
      have y2 : tW k t = 15 := y.2.2
      rw [hW] at y2
      rcases hw with rfl | rfl <;> exact absurd y2 (by decide)
    have e : (pPl k ((t, -1, nu), st)).1.2.1 = fV k t := by
      unfold pPl
      rw [if_neg (by rw [h15]; decide)]
      exact cmp_fail hP hne
    have := hbad false p' 6 (by rw [e]; exact hne) (by omega)
    rw [e] at this
    exact this
  refine t_has (nu := nu) hB hT y0.1 (w := 13) (by omega) rfl (fun q p1 hs1 => ⟨fun _ => ?_, fun z => absurd z (by decide)⟩) (fun q p1 y1 => ⟨fun z => absurd rfl z, fun _ => ?_⟩)
  · unfold B_X13_atom_44
    rw [stR_11]
    refine ⟨fun z => absurd rfl z, fun _ => r_wrong ?_⟩
    rw [if_pos rfl, stR_9, e0]
    exact bad 14 p1 (Or.inl rfl) q hs1.2.1
  · refine t_sign (nu := nu) hB hT y1.1 (w := 16) (by omega) rfl rfl (fun q p2 hp2 hs2 => ⟨fun _ => ?_, fun z => absurd z (by decide)⟩) (fun q p2 y2 => ⟨fun z => absurd rfl z, fun _ => ?_⟩)
    · unfold B_X13_atom_44
      rw [stR_11]
      refine ⟨fun z => absurd rfl z, fun _ => r_wrong ?_⟩
      rw [if_pos rfl, stR_9, e0]
      exact bad 17 p2 (Or.inr rfl) q (by omega)
    · exact r_plain hB hT p2 t nu st post y2.1 hst hok hbad
theorem r_atomS (hB : BY mm b len) (hT : TKL k (tks b len 0) len) {dn r m B : Nat} (hd : dn < 6) {rs re ra : (Bool → MM → Prop) → MM → Prop} (hQ : RC k b len b2 (m + 2) B (nI (dn + 1)) mm (pQue k (pEx k r)) rs) (hA : RC k b len b2 m B (nI (dn + 1)) mm (pEx k r) ra) (hm : 3 ≤ m + 2) : RC k b len b2 (m + 2) (B + 1) (nI dn) mm (pEx k (r + 1)) (wb_X13_atom rs re ra) := by
  intro p t nu st post hs hst hok hbad
  have hl2 := hB.2.1
  have h400 := TKL_400 hT hl2
  have hne := fV_ne hT hl2 hs
  have hd6 : ¬ nI dn = 6 := by
    rw [fa_lit 6, nI_eq (by omega) (by omega)]
    omega
  unfold wb_X13_atom
  rw [stR_10]
  refine ⟨fun _ => t_skip hB hT hs (fun p0 y0 => ?_), fun z => absurd rfl z⟩
  refine t_has (nu := nu) hB hT y0.1 (w := 13) (by omega) rfl (fun q p1 hs1 => ⟨fun _ => ?_, fun z => absurd z (by decide)⟩) (fun q0 p1 y1 => ⟨fun z => absurd rfl z, fun _ => ?_⟩)
  · have q' : pIs k 14 (t, -1, nu) = true := q
    have hG : pEx k (r + 1) ((t, -1, nu), st) = pAdd 14 0 (pEx k r ((t + 1, -1, nu), st)) := by
      show pAtom k (pQue k (pEx k r)) (pEx k r) true _ = _
      unfold pAtom
      rw [if_pos ⟨rfl, q'⟩]
      rfl
    rw [hG] at hok hbad
    unfold B_X13_atom_44
    rw [stR_11]
    refine ⟨fun _ => ⟨fun z => absurd z (by decide), fun _ => ?_⟩, fun z => absurd z hd6⟩
    rw [nI_1, stR_u11]
    have h1 := hA p1 (t + 1) nu st
    generalize hY : pEx k r ((t + 1, -1, nu), st) = Y at hok hbad h1
    refine h1 _ hs1 (by omega) (fun v p3 l he hs3 hP hg => ?_) (fun v p3 dd he hp3 => ?_)
    · have hy1 : Y.2.length < 400 := by
        have a := hP.2
        have c := hs3.2.2
        simp only [] at a
        omega
      have ea : pAdd 14 0 Y = (Y.1, Y.2 ++ [(14, 0)]) := by
        unfold pAdd
        rw [if_pos hy1]
      rw [ea] at hok
      have hgn := Good_not (n := 0) hg
      rw [b2_not] at hgn
      have fin : post (!v) (stR mm (nI p3) (-1) (nI dn)) := by
        refine hok (!v) p3 (l ++ [(14, 0)]) he hs3 ⟨?_, ?_⟩ (Good_mono hgn (by omega))
        · have a1 := hP.1
          simp only [] at a1
          simp only []
          rw [a1, List.append_assoc]
        · have a := hP.2
          simp only [] at a ⊢
          rw [List.length_append, List.length_cons, List.length_nil]
          omega
      unfold B_X13_atom_88 B_X13_atom_142
      rw [stR_11, nI_pred, stR_u11]
      cases v with
      | false => exact ⟨fun z => absurd rfl z, fun _ => fin⟩
      | true => exact ⟨fun _ => fin, fun z => absurd z (by decide)⟩
    · rw [pAdd_1] at hbad
      unfold B_X13_atom_88 B_X13_atom_142
      rw [stR_u11]
      exact ⟨fun _ => hbad _ p3 _ he (by omega), fun _ => hbad _ p3 _ he (by omega)⟩
  · have q0' : pIs k 14 (t, -1, nu) = false := q0
    refine t_sign (nu := nu) hB hT y1.1 (w := 16) (by omega) rfl rfl (fun q p2 hp2 hs2 => ⟨fun _ => ?_, fun z => absurd z (by decide)⟩) (fun q p2 y2 => ⟨fun z => absurd rfl z, fun _ => ?_⟩)
    · have q' : pIs k 17 (t, -1, nu) = true := q
      have hG : pEx k (r + 1) ((t, -1, nu), st) = (pDem k 18 (pQue k (pEx k r) ((t + 1, -1, nu), st)).1, (pQue k (pEx k r) ((t + 1, -1, nu), st)).2) := by
        show pAtom k (pQue k (pEx k r)) (pEx k r) true _ = _
        unfold pAtom
        rw [if_neg (by rw [q0']; exact fun z => absurd z.2 (by decide)), if_pos ⟨rfl, q'⟩]
        rfl
      rw [hG] at hok hbad
      unfold B_X13_atom_44
      rw [stR_11]
      refine ⟨fun _ => ⟨fun _ => ?_, fun z => absurd rfl z⟩, fun z => absurd z hd6⟩
      rw [nI_1, stR_u11, stR_9, nI_1, stR_u9]
      have h1 := hQ (p2 + 1) (t + 1) nu st
      generalize hY : pQue k (pEx k r) ((t + 1, -1, nu), st) = Y at hok hbad h1
      obtain ⟨⟨t1, e1, nu1⟩, st1⟩ := Y
      simp only [] at hok hbad
      refine h1 _ hs2 (by omega) (fun v p3 l he hs3 hP hg => ?_) (fun v p3 dd he hp3 => ?_)
      · simp only [] at he hs3
        subst he
        rw [stR_10]
        refine ⟨fun z => absurd rfl z, fun _ => ?_⟩
        refine t_sign (nu := nu1) hB hT hs3 (w := 17) (by omega) rfl rfl (fun q2 p4 hp4 hs4 => ⟨fun _ => ?_, fun z => absurd z (by decide)⟩) (fun q2 p4 y4 => ⟨fun z => absurd rfl z, fun _ => ?_⟩)
        · have q2' : pIs k 18 (t1, -1, nu1) = true := q2
          have ed : pDem k 18 (t1, -1, nu1) = (t1 + 1, -1, nu1) := by
            unfold pDem
            rw [if_pos q2']
            rfl
          rw [ed] at hok
          unfold B_X13_atom_132 B_X13_atom_142
          rw [stR_9, nI_1, stR_u9, stR_11, nI_pred, stR_u11]
          refine hok v (p4 + 1) l rfl hs4 ⟨hP.1, ?_⟩ hg
          have a := hP.2
          simp only [] at a ⊢
          omega
        · have q2' : pIs k 18 (t1, -1, nu1) = false := q2
          have hne1 := fV_ne hT hl2 hs3
          have ed : pDem k 18 (t1, -1, nu1) = (t1, fV k t1, nu1) := by
            unfold pDem
            rw [if_neg (by rw [q2']; decide)]
            unfold pRef
            rw [if_pos rfl]
            rfl
          rw [ed] at hbad
          refine r_wrong ?_
          have e4 : nI p4 = fV k t1 := y4.2
          rw [if_pos rfl, stR_9]
          unfold B_X13_atom_132 B_X13_atom_142
          rw [stR_9, nI_1, stR_u9, stR_u11]
          have hp4 := y4.1.2.1
          have := hbad v (p4 + 1) (stR mm (nI (p4 + 1)) (nI p4) (nI (dn + 1)) 0 11 - 1) hne1 (by omega)
          rw [← e4] at this
          exact this
      · have hne1 : ¬ e1 = -1 := he
        have ed : pDem k 18 (t1, e1, nu1) = (t1, e1, nu1) := fs_dem hne1
        rw [ed] at hbad
        rw [stR_10]
        refine ⟨fun _ => ?_, fun z => absurd z hne1⟩
        unfold B_X13_atom_132 B_X13_atom_142
        rw [stR_9, nI_1, stR_u9, stR_u11]
        exact hbad v (p3 + 1) _ hne1 (by omega)
    · have q' : pIs k 17 (t, -1, nu) = false := q
      have hG : pEx k (r + 1) ((t, -1, nu), st) = pPl k ((t, -1, nu), st) := by
        show pAtom k (pQue k (pEx k r)) (pEx k r) true _ = _
        unfold pAtom
        rw [if_neg (by rw [q0']; exact fun z => absurd z.2 (by decide)), if_neg (by rw [q']; exact fun z => absurd z.2 (by decide))]
        rfl
      rw [hG] at hok hbad
      exact r_plain hB hT p2 t nu st post y2.1 hst (fun v p' l h1 h2 h3 h4 => hok v p' l h1 h2 h3 (Good_mono h4 hm)) (fun v p' dd h1 h2 => hbad v p' dd h1 (by omega))
theorem r_ex (hB : BY mm b len) (hT : TKL k (tks b len 0) len) : ∀ (r dn D : Nat), dn + r = 6 → 3 * r + 1 ≤ D → RC k b len b2 (3 + 2 * r) r (nI dn) mm (pEx k r) (WG_some D).2.2 := by
  intro r
  induction r with
  | zero =>
    intro dn D hd hD
    obtain ⟨D, rfl⟩ : ∃ D', D = D' + 1 := ⟨D - 1, by omega⟩
    have e : dn = 6 := by omega
    subst e
    exact r_atom0 hB hT
  | succ r ih =>
    intro dn D hd hD
    obtain ⟨D, rfl⟩ : ∃ D', D = D' + 3 := ⟨D - 3, by omega⟩
    exact r_atomS hB hT (m := 3 + 2 * r) (by omega) (r_some hB hT (r_every hB hT (ih (dn + 1) D (by omega) (by omega)) (fs_ex r)) (fs_all (fs_ex r))) (ih (dn + 1) (D + 2) (by omega) (by omega)) (by omega)
theorem r_que (hB : BY mm b len) (hT : TKL k (tks b len 0) len) : RC k b len b2 17 6 0 mm (pQue k (pEx k 6)) w_X13_some := by
  have h := r_some (rs := (WG_some 29).1) (re := (WG_some 29).2.1) (ra := (WG_some 29).2.2) hB hT (r_every (rs := (WG_some 28).1) (re := (WG_some 28).2.1) (ra := (WG_some 28).2.2) hB hT (r_ex (mm := mm) hB hT 6 0 28 rfl (by omega)) (fs_ex 6)) (fs_all (fs_ex 6))
  exact h
end RX
