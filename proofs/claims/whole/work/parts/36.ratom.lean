/-! ===== the reference's atoms and what joins them ===== -/
section RA
variable {mm : MM} {b : Nat → Int32} {len : Nat} {k : TK}
def pPl (k : TK) (s : PS) : PS := if pIs k 15 s.1 then pAdd 15 0 (pNx s.1, s.2) else pCmp k s
theorem fs_pl : FS (pPl k) := by
  intro s h
  unfold pPl
  rw [fs_is h, if_neg (by decide)]
  exact fs_cmp s h
theorem stR_1 {a e d : Int32} : stR mm a e d 1 = mm 1 := by
  funext i
  exact stR_o (by omega)
theorem r_plain (hB : BY mm b len) (hT : TKL k (tks b len 0) len) {d : Int32} : RC k b len b2 3 0 d mm (pPl k) w_X13_plain := by
  intro p t nu st post hs hst hok hbad
  have hl2 := hB.2.1
  have h400 := TKL_400 hT hl2
  unfold w_X13_plain
  refine t_has (nu := nu) hB hT hs (w := 14) (by omega) rfl (fun q p' hs' => ⟨fun z => absurd z (by decide), fun _ => r_frost ?_⟩) (fun q p0 y0 => ⟨fun _ => ?_, fun z => absurd rfl z⟩)
  · have q' : pIs k 15 (t, -1, nu) = true := q
    have hlt : t < tN k := (of_decide_eq_true q').2.1
    have e : pPl k ((t, -1, nu), st) = ((t + 1, -1, nu), st ++ [(15, 0)]) := by
      unfold pPl
      rw [if_pos q']
      unfold pAdd
      rw [if_pos (by show st.length < 400; omega)]
      rfl
    rw [e] at hok
    rw [stR_1]
    refine hok _ p' [(15, 0)] rfl hs' ⟨rfl, by simp; omega⟩ ?_
    have g := Good_val (ev := evR mm) (x := (15, 0)) (by decide) (by decide)
    have e2 : pv (evR mm) (15, 0) = b2 (frostM (mm 1)) := by
      unfold pv evR
      rw [if_neg (by decide), if_neg (by decide)]
    rw [e2] at g
    exact Good_mono g (by omega)
  · have q' : pIs k 15 (t, -1, nu) = false := q
    have hG : pPl k ((t, -1, nu), st) = pCmp k ((t, -1, nu), st) := by
      unfold pPl
      rw [if_neg (by rw [q']; decide)]
    rw [hG] at hok hbad
    clear hG
    unfold pCmp at hok hbad
    have h1 := r_sum (d := d) hB hT p0 t nu st
    generalize hX : pSum k 400 true ((t, -1, nu), st) = X at hok hbad h1
    obtain ⟨⟨t1, e1, nu1⟩, st1⟩ := X
    simp only [] at hok hbad
    refine h1 _ y0.1 hst (fun v p1 l he hs1 hP hg => ?_) (fun v p1 dd he hp1 => ?_)
    · simp only [] at he hs1
      subst he
      rw [stR_10]
      refine ⟨fun _ => ?_, fun z => absurd rfl z⟩
      -- the second sum
      have snd : ∀ (le : Bool) (p2 : Nat), p2 < len → Sx k b len (p2 + 1) (t1 + 1) → t1 < tN k → ∀ op : Fin 32, op ≠ 14 → wJ op = true → (op = if le then 28 else 29) →
          (∀ v p' l, (pAdd op 0 (pSum k 400 true ((t1 + 1, -1, nu1), st1))).1.2.1 = -1 → Sx k b len p' (pAdd op 0 (pSum k 400 true ((t1 + 1, -1, nu1), st1))).1.1 → PSok ((t, -1, nu), st) (pAdd op 0 (pSum k 400 true ((t1 + 1, -1, nu1), st1))) l → Good (evR mm) l (b2 v) 3 → post v (stR mm (nI p') (-1) d)) →
          (∀ v p' dd, ¬ (pAdd op 0 (pSum k 400 true ((t1 + 1, -1, nu1), st1))).1.2.1 = -1 → p' ≤ len + 0 → post v (stR mm (nI p') (pAdd op 0 (pSum k 400 true ((t1 + 1, -1, nu1), st1))).1.2.1 dd)) →
          B_X13_plain_59 post v le (stR mm (nI p2) (-1) d) := by
        intro le p2 hp2 hs2 hlt op ho1 ho2 ho3 hok2 hbad2
        unfold B_X13_plain_59 B_X13_plain_101
        rw [stR_9, nI_1, stR_u9]
        have hlen1 : st1.length ≤ t1 := by
          have := hP.2
          simp only [] at this
          omega
        have h2 := r_sum (d := d) hB hT (p2 + 1) (t1 + 1) nu1 st1
        generalize hY : pSum k 400 true ((t1 + 1, -1, nu1), st1) = Y at hok2 hbad2 h2
        refine h2 _ hs2 (by omega) (fun w p3 l2 he3 hs3 hP3 hg3 => ?_) (fun w p3 dd he3 hp3 => ?_)
        · have hy1 : Y.2.length < 400 := by
            have a := hP3.2
            have c := hs3.2.2
            simp only [] at a
            omega
          have ea : pAdd op 0 Y = (Y.1, Y.2 ++ [(op, 0)]) := by
            unfold pAdd
            rw [if_pos hy1]
          rw [ea] at hok2
          have hj := Good_join hg hg3 (x := (op, 0)) ho1 ho2
          have hl3 : Y.2 ++ [(op, 0)] = st ++ (l ++ l2 ++ [(op, 0)]) := by
            have a1 := hP3.1
            have a2 := hP.1
            simp only [] at a1 a2
            rw [a1, a2, List.append_assoc, List.append_assoc, List.append_assoc]
          have fin : ∀ v2 : Bool, joi op v w = b2 v2 → post v2 (stR mm (nI p3) (-1) d) := by
            intro v2 hv2
            refine hok2 v2 p3 (l ++ l2 ++ [(op, 0)]) he3 hs3 ⟨hl3, ?_⟩ ?_
            · have a := hP3.2
              have c := hP.2
              simp only [] at a c ⊢
              rw [List.length_append, List.length_cons, List.length_nil]
              omega
            · have hj2 : Good (evR mm) (l ++ l2 ++ [(op, 0)]) (joi op v w) (max 2 (2 + 1)) := hj
              rw [hv2] at hj2
              exact hj2
          cases le with
          | false =>
            have ho : op = 29 := ho3
            subst ho
            refine ⟨fun _ => ⟨fun g => fin false ?_, fun g => fin true ?_⟩, fun z => absurd rfl z⟩
            · show (if w < v then (1 : Int32) else 0) = _
              rw [fa_le] at g
              rw [if_neg (by rw [fa_lt]; omega)]
              rfl
            · show (if w < v then (1 : Int32) else 0) = _
              rw [fa_le] at g
              rw [if_pos (by rw [fa_lt]; omega)]
              rfl
          | true =>
            have ho : op = 28 := ho3
            subst ho
            refine ⟨fun z => absurd z (by decide), fun _ => ⟨fun g => fin false ?_, fun g => fin true ?_⟩⟩
            · show (if v < w then (1 : Int32) else 0) = _
              rw [fa_le] at g
              rw [if_neg (by rw [fa_lt]; omega)]
              rfl
            · show (if v < w then (1 : Int32) else 0) = _
              rw [fa_le] at g
              rw [if_pos (by rw [fa_lt]; omega)]
              rfl
        · rw [pAdd_1] at hbad2
          have all : ∀ v2 : Bool, post v2 (stR mm (nI p3) Y.1.2.1 dd) := fun v2 => hbad2 v2 p3 dd he3 hp3
          cases le with
          | false => exact ⟨fun _ => ⟨fun _ => all _, fun _ => all _⟩, fun z => absurd rfl z⟩
          | true => exact ⟨fun z => absurd z (by decide), fun _ => ⟨fun _ => all _, fun _ => all _⟩⟩
      refine t_sign (nu := nu1) hB hT hs1 (w := 27) (by omega) rfl rfl (fun q2 p2 hp2 hs2 => ⟨fun _ => ?_, fun z => absurd z (by decide)⟩) (fun q2 p2 y2 => ⟨fun z => absurd rfl z, fun _ => ?_⟩)
      · have q2' : pIs k 28 (t1, -1, nu1) = true := q2
        simp only [q2', if_true] at hok hbad
        exact snd true p2 hp2 hs2 (of_decide_eq_true q2').2.1 28 (by decide) (by decide) rfl hok hbad
      · have q2' : pIs k 28 (t1, -1, nu1) = false := q2
        simp only [q2', Bool.false_eq_true, if_false] at hok hbad
        refine t_sign (nu := nu1) hB hT y2.1 (w := 28) (by omega) rfl rfl (fun q3 p3 hp3 hs3 => ⟨fun _ => ?_, fun z => absurd z (by decide)⟩) (fun q3 p3 y3 => ⟨fun z => absurd rfl z, fun _ => ?_⟩)
        · have q3' : pIs k 29 (t1, -1, nu1) = true := q3
          unfold pDem at hok hbad
          simp only [q3', if_true] at hok hbad
          exact snd false p3 hp3 hs3 (of_decide_eq_true q3').2.1 29 (by decide) (by decide) rfl hok hbad
        · have q3' : pIs k 29 (t1, -1, nu1) = false := q3
          unfold pDem at hok hbad
          simp only [q3', Bool.false_eq_true, if_false] at hbad
          have hne := fV_ne hT hl2 hs1
          have er : pRef k (t1, -1, nu1) = (t1, fV k t1, nu1) := by
            unfold pRef
            rw [if_pos rfl]
            rfl
          rw [er, pAdd_1] at hbad
          have e5 : (pSum k 400 true ((t1, fV k t1, nu1), st1)).1.2.1 = fV k t1 := fs_sum _ hne
          rw [e5] at hbad
          rw [stR_9]
          refine r_wrong ?_
          rw [if_pos rfl]
          have e6 : nI p3 = fV k t1 := y3.2
          have := hbad false p3 d hne y3.1.2.1
          rw [← e6] at this
          exact this
    · rw [stR_10]
      refine ⟨fun z => absurd z he, fun _ => ?_⟩
      have hne : ¬ e1 = -1 := he
      have f1 : pIs k 28 (t1, e1, nu1) = false := fs_is hne
      simp only [f1, Bool.false_eq_true, if_false, pAdd_1] at hbad
      have f2 : pDem k 29 (t1, e1, nu1) = (t1, e1, nu1) := fs_dem hne
      rw [f2] at hbad
      have f3 : (pSum k 400 true ((t1, e1, nu1), st1)).1.2.1 = e1 := fs_sum _ hne
      rw [f3] at hbad
      exact hbad false p1 dd hne hp1
end RA
