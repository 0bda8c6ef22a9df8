/-! ===== the reference's atoms, every, some ===== -/
section RG
variable {mm : MM} {b : Nat → Int32} {len : Nat} {k : TK}
theorem b2_at (v : Bool) : (v = false ∨ v = true) := by cases v <;> simp
theorem r_every (hB : BY mm b len) (hT : TKL k (tks b len 0) len) {d : Int32} {m B : Nat} {A : PS → PS} {rs re ra : (Bool → MM → Prop) → MM → Prop} (hA : RC k b len b2 m B d mm A ra) (hF : FS A) : RC k b len b2 (m + 1) B d mm (pAll k A) (wb_X13_every rs re ra) := by
  intro p t nu st post hs hst hok hbad
  have hl2 := hB.2.1
  have h400 := TKL_400 hT hl2
  unfold wb_X13_every
  unfold pAll at hok hbad
  have h1 := hA p t nu st
  generalize hX : A ((t, -1, nu), st) = X at hok hbad h1
  have loop : ∀ (f : Nat) (Y : PS) (l : SL) (v : Bool) (p : Nat), Y.1.2.1 = -1 → Sx k b len p Y.1.1 → PSok ((t, -1, nu), st) Y l → Good (evR mm) l (b2 v) (m + 1) → tN k ≤ f + Y.1.1 → pLoop k 26 A 400 X = pLoop k 26 A f Y → B_X13_every_5 rs re ra post (f + 1) v (stR mm (nI p) (-1) d) := by
    intro f
    induction f with
    | zero =>
      intro Y l v p he hs hP hg hf heq
      obtain ⟨⟨t1, e1, nu1⟩, st1⟩ := Y
      simp only [] at he hs hf
      subst he
      unfold B_X13_every_5 B_X13_every_44
      rw [stR_10]
      refine ⟨fun z => absurd rfl z, fun _ => t_has (nu := nu1) hB hT hs (w := 25) (by omega) rfl (fun q p' hs' => ?_) (fun q p' y => ⟨fun _ => ?_, fun z => absurd rfl z⟩)⟩
      · have z : t1 < tN k := (of_decide_eq_true q).2.1
        omega
      · rw [heq] at hok
        exact hok v p' l rfl y.1 hP hg
    | succ f ih =>
      intro Y l v p he hs hP hg hf heq
      obtain ⟨⟨t1, e1, nu1⟩, st1⟩ := Y
      simp only [] at he hs hf
      subst he
      unfold B_X13_every_5 B_X13_every_44
      rw [stR_10]
      unfold pLoop at heq
      have hpl : ∀ Z : PS, pLoop k 26 A 400 X = Z → (if pIs k 26 X.1 = true then pLoop k 26 A 399 (pAdd 26 0 (A (pNx X.1, X.2))) else X) = Z := fun Z h => h
      have heq2 : pLoop k 26 A 400 X = (if pIs k 26 (t1, -1, nu1) = true then pLoop k 26 A f (pAdd 26 0 (A (pNx (t1, -1, nu1), st1))) else ((t1, -1, nu1), st1)) := heq
      clear heq hpl
      refine ⟨fun z => absurd rfl z, fun _ => t_has (nu := nu1) hB hT hs (w := 25) (by omega) rfl (fun q p' hs' => ⟨fun z => absurd z (by decide), fun _ => ?_⟩) (fun q p' y => ⟨fun _ => ?_, fun z => absurd rfl z⟩)⟩
      · have q' : pIs k 26 (t1, -1, nu1) = true := q
        rw [if_pos q'] at heq2
        have hlen1 : st1.length ≤ t1 := by
          have := hP.2
          simp only [] at this
          omega
        have h2 := hA p' (t1 + 1) nu1 st1
        have en : (pNx (t1, -1, nu1), st1) = (((t1 + 1, -1, nu1), st1) : PS) := rfl
        rw [en] at heq2
        generalize hY : A ((t1 + 1, -1, nu1), st1) = Y at heq2 h2
        refine h2 _ hs' (by omega) (fun w p3 l2 he3 hs3 hP3 hg3 => ?_) (fun w p3 dd he3 hp3 => ?_)
        · have hy1 : Y.2.length < 400 := by
            have a := hP3.2
            have c := hs3.2.2
            simp only [] at a
            omega
          have ea : pAdd 26 0 Y = (Y.1, Y.2 ++ [(26, 0)]) := by
            unfold pAdd
            rw [if_pos hy1]
          rw [ea] at heq2
          have hj := Good_join hg hg3 (x := (26, 0)) (by decide) (by decide)
          have hj2 : Good (evR mm) (l ++ l2 ++ [(26, 0)]) (joi 26 (b2 v) (b2 w)) (max (m + 1) (m + 1)) := hj
          rw [b2_and, Nat.max_self] at hj2
          have hl3 : Y.2 ++ [(26, 0)] = st ++ (l ++ l2 ++ [(26, 0)]) := by
            have a1 := hP3.1
            have a2 := hP.1
            simp only [] at a1 a2
            rw [a1, a2, List.append_assoc, List.append_assoc, List.append_assoc]
          have nxt : B_X13_every_5 rs re ra post (f + 1) (v && w) (stR mm (nI p3) (-1) d) := by
            refine ih (Y.1, Y.2 ++ [(26, 0)]) _ (v && w) p3 he3 hs3 ⟨hl3, ?_⟩ hj2 ?_ heq2
            · have a := hP3.2
              have c := hP.2
              simp only [] at a c ⊢
              rw [List.length_append, List.length_cons, List.length_nil]
              omega
            · have a := hP3.2
              have a1 := congrArg List.length hP3.1
              simp only [List.length_append] at a a1 ⊢
              omega
          unfold B_X13_every_39 B_X13_every_40
          cases v with
          | false => exact ⟨fun _ => nxt, fun z => absurd rfl z⟩
          | true =>
            refine ⟨fun z => absurd z (by decide), fun _ => ?_⟩
            cases w with
            | false => exact ⟨fun _ => nxt, fun z => absurd rfl z⟩
            | true => exact ⟨fun z => absurd z (by decide), fun _ => nxt⟩
        · have e5 : (pLoop k 26 A f (pAdd 26 0 Y)).1.2.1 = Y.1.2.1 := by
            rw [fs_loop _ (by rw [pAdd_1]; exact he3), pAdd_1]
          rw [heq2, e5] at hbad
          have all : ∀ v2 : Bool, B_X13_every_5 rs re ra post (f + 1) v2 (stR mm (nI p3) Y.1.2.1 dd) := by
            intro v2
            unfold B_X13_every_5 B_X13_every_44
            rw [stR_10]
            exact ⟨fun _ => hbad v2 p3 dd he3 hp3, fun z => absurd z he3⟩
          unfold B_X13_every_39 B_X13_every_40
          cases v with
          | false => exact ⟨fun _ => all _, fun z => absurd rfl z⟩
          | true =>
            refine ⟨fun z => absurd z (by decide), fun _ => ?_⟩
            cases w with
            | false => exact ⟨fun _ => all _, fun z => absurd rfl z⟩
            | true => exact ⟨fun z => absurd z (by decide), fun _ => all _⟩
      · have q' : pIs k 26 (t1, -1, nu1) = false := q
        rw [if_neg (by rw [q']; decide)] at heq2
        rw [heq2] at hok
        exact hok v p' l rfl y.1 hP hg
  refine h1 _ hs hst (fun v p1 l he hs1 hP hg => ⟨401, loop 400 X l v p1 he hs1 hP (Good_mono hg (by omega)) (by omega) rfl⟩) (fun v p1 dd he hp1 => ⟨1, ?_⟩)
  unfold B_X13_every_5 B_X13_every_44
  rw [stR_10]
  refine ⟨fun _ => ?_, fun z => absurd z he⟩
  rw [fs_loop _ he] at hbad
  exact hbad v p1 dd he hp1
theorem r_some (hB : BY mm b len) (hT : TKL k (tks b len 0) len) {d : Int32} {m B : Nat} {A : PS → PS} {rs re ra : (Bool → MM → Prop) → MM → Prop} (hA : RC k b len b2 m B d mm (pAll k A) re) (hF : FS (pAll k A)) : RC k b len b2 (m + 1) B d mm (pQue k A) (wb_X13_some rs re ra) := by
  intro p t nu st post hs hst hok hbad
  have hl2 := hB.2.1
  have h400 := TKL_400 hT hl2
  unfold wb_X13_some
  unfold pQue at hok hbad
  generalize pAll k A = A at hA hF hok hbad
  have h1 := hA p t nu st
  generalize hX : A ((t, -1, nu), st) = X at hok hbad h1
  have loop : ∀ (f : Nat) (Y : PS) (l : SL) (v : Bool) (p : Nat), Y.1.2.1 = -1 → Sx k b len p Y.1.1 → PSok ((t, -1, nu), st) Y l → Good (evR mm) l (b2 v) (m + 1) → tN k ≤ f + Y.1.1 → pLoop k 25 A 400 X = pLoop k 25 A f Y → B_X13_some_5 rs re ra post (f + 1) v (stR mm (nI p) (-1) d) := by
    intro f
    induction f with
    | zero =>
      intro Y l v p he hs hP hg hf heq
      obtain ⟨⟨t1, e1, nu1⟩, st1⟩ := Y
      simp only [] at he hs hf
      subst he
      unfold B_X13_some_5 B_X13_some_44
      rw [stR_10]
      refine ⟨fun z => absurd rfl z, fun _ => t_has (nu := nu1) hB hT hs (w := 24) (by omega) rfl (fun q p' hs' => ?_) (fun q p' y => ⟨fun _ => ?_, fun z => absurd rfl z⟩)⟩
      · have z : t1 < tN k := (of_decide_eq_true q).2.1
        omega
      · rw [heq] at hok
        exact hok v p' l rfl y.1 hP hg
    | succ f ih =>
      intro Y l v p he hs hP hg hf heq
      obtain ⟨⟨t1, e1, nu1⟩, st1⟩ := Y
      simp only [] at he hs hf
      subst he
      unfold B_X13_some_5 B_X13_some_44
      rw [stR_10]
      have heq2 : pLoop k 25 A 400 X = (if pIs k 25 (t1, -1, nu1) = true then pLoop k 25 A f (pAdd 25 0 (A (pNx (t1, -1, nu1), st1))) else ((t1, -1, nu1), st1)) := heq
      clear heq
      refine ⟨fun z => absurd rfl z, fun _ => t_has (nu := nu1) hB hT hs (w := 24) (by omega) rfl (fun q p' hs' => ⟨fun z => absurd z (by decide), fun _ => ?_⟩) (fun q p' y => ⟨fun _ => ?_, fun z => absurd rfl z⟩)⟩
      · have q' : pIs k 25 (t1, -1, nu1) = true := q
        rw [if_pos q'] at heq2
        have hlen1 : st1.length ≤ t1 := by
          have := hP.2
          simp only [] at this
          omega
        have h2 := hA p' (t1 + 1) nu1 st1
        have en : (pNx (t1, -1, nu1), st1) = (((t1 + 1, -1, nu1), st1) : PS) := rfl
        rw [en] at heq2
        generalize hY : A ((t1 + 1, -1, nu1), st1) = Y at heq2 h2
        refine h2 _ hs' (by omega) (fun w p3 l2 he3 hs3 hP3 hg3 => ?_) (fun w p3 dd he3 hp3 => ?_)
        · have hy1 : Y.2.length < 400 := by
            have a := hP3.2
            have c := hs3.2.2
            simp only [] at a
            omega
          have ea : pAdd 25 0 Y = (Y.1, Y.2 ++ [(25, 0)]) := by
            unfold pAdd
            rw [if_pos hy1]
          rw [ea] at heq2
          have hj := Good_join hg hg3 (x := (25, 0)) (by decide) (by decide)
          have hj2 : Good (evR mm) (l ++ l2 ++ [(25, 0)]) (joi 25 (b2 v) (b2 w)) (max (m + 1) (m + 1)) := hj
          rw [b2_or, Nat.max_self] at hj2
          have hl3 : Y.2 ++ [(25, 0)] = st ++ (l ++ l2 ++ [(25, 0)]) := by
            have a1 := hP3.1
            have a2 := hP.1
            simp only [] at a1 a2
            rw [a1, a2, List.append_assoc, List.append_assoc, List.append_assoc]
          have nxt : B_X13_some_5 rs re ra post (f + 1) (v || w) (stR mm (nI p3) (-1) d) := by
            refine ih (Y.1, Y.2 ++ [(25, 0)]) _ (v || w) p3 he3 hs3 ⟨hl3, ?_⟩ hj2 ?_ heq2
            · have a := hP3.2
              have c := hP.2
              simp only [] at a c ⊢
              rw [List.length_append, List.length_cons, List.length_nil]
              omega
            · have a := hP3.2
              have a1 := congrArg List.length hP3.1
              simp only [List.length_append] at a a1 ⊢
              omega
          unfold B_X13_some_35 B_X13_some_40
          cases v with
          | true => exact ⟨fun _ => nxt, fun z => absurd z (by decide)⟩
          | false =>
            refine ⟨fun z => absurd rfl z, fun _ => ?_⟩
            cases w with
            | false => exact ⟨fun _ => nxt, fun z => absurd rfl z⟩
            | true => exact ⟨fun z => absurd z (by decide), fun _ => nxt⟩
        · have e5 : (pLoop k 25 A f (pAdd 25 0 Y)).1.2.1 = Y.1.2.1 := by
            rw [fs_loop _ (by rw [pAdd_1]; exact he3), pAdd_1]
          rw [heq2, e5] at hbad
          have all : ∀ v2 : Bool, B_X13_some_5 rs re ra post (f + 1) v2 (stR mm (nI p3) Y.1.2.1 dd) := by
            intro v2
            unfold B_X13_some_5 B_X13_some_44
            rw [stR_10]
            exact ⟨fun _ => hbad v2 p3 dd he3 hp3, fun z => absurd z he3⟩
          unfold B_X13_some_35 B_X13_some_40
          cases v with
          | true => exact ⟨fun _ => all _, fun z => absurd z (by decide)⟩
          | false =>
            refine ⟨fun z => absurd rfl z, fun _ => ?_⟩
            cases w with
            | false => exact ⟨fun _ => all _, fun z => absurd rfl z⟩
            | true => exact ⟨fun z => absurd z (by decide), fun _ => all _⟩
      · have q' : pIs k 25 (t1, -1, nu1) = false := q
        rw [if_neg (by rw [q']; decide)] at heq2
        rw [heq2] at hok
        exact hok v p' l rfl y.1 hP hg
  refine h1 _ hs hst (fun v p1 l he hs1 hP hg => ⟨401, loop 400 X l v p1 he hs1 hP (Good_mono hg (by omega)) (by omega) rfl⟩) (fun v p1 dd he hp1 => ⟨1, ?_⟩)
  unfold B_X13_some_5 B_X13_some_44
  rw [stR_10]
  refine ⟨fun _ => ?_, fun z => absurd z he⟩
  rw [fs_loop _ he] at hbad
  exact hbad v p1 dd he hp1
end RG
