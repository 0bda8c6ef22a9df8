/-! ===== what a text's steps are, without the reference ===== -/
def isBv (v : Int32) : Prop := ∃ x : Bool, v = b2 x
def SGd (k : TK) (VP : Int32 → Prop) (m : Nat) (G : PS → PS) : Prop :=
  ∀ (t : Nat) (nu : Int32) (st : SL), st.length ≤ t → t ≤ tN k → (G ((t, -1, nu), st)).1.2.1 = -1 → (G ((t, -1, nu), st)).1.1 ≤ tN k ∧ ∃ l, PSok ((t, -1, nu), st) (G ((t, -1, nu), st)) l ∧ ∀ ev, isBv (ev 15) → ∃ v, VP v ∧ Good ev l v m
theorem tkF_pos {b : Nat → Int32} {len : Nat} : ∀ f p, ∀ x ∈ tkF b len f p, x.1 < len := by
  intro f
  induction f with
  | zero => intro p x hx; unfold tkF at hx; exact absurd hx (by simp)
  | succ f ih =>
    intro p x hx
    unfold tkF at hx
    by_cases c : p < len
    · rw [if_pos c] at hx
      have e1 : (tok1 b p (bhd b len p)).1 = p := by
        unfold tok1
        split
        · split <;> rfl
        · rfl
      by_cases c2 : b p = 32
      · rw [if_pos c2] at hx
        exact ih _ x hx
      · rw [if_neg c2] at hx
        rcases List.mem_cons.mp hx with h | h
        · rw [h, e1]; exact c
        · exact ih _ x h
    · rw [if_neg c] at hx
      exact absurd hx (by simp)
theorem fV_all {b : Nat → Int32} {len : Nat} {k : TK} (hT : TKL k (tks b len 0) len) (hl : len ≤ 400) : ∀ t, ¬ fV k t = -1 := by
  intro t
  unfold fV
  by_cases c : t < tN k
  · rw [if_pos c]
    have hlt : t < (tks b len 0).length := by rw [← hT.1]; exact c
    have h0 : (tks b len 0)[t]? = some (tks b len 0)[t] := List.getElem?_eq_getElem hlt
    rw [(hT.2.2 t _ h0).2.1]
    have := tkF_pos (len - 0) 0 _ (List.getElem_mem hlt)
    exact nI_m1 (by omega)
  · rw [if_neg c, hT.2.1]
    exact nI_m1 (by omega)
section SG
variable {k : TK}
theorem pRef_f {t : Nat} {nu : Int32} : pRef k (t, -1, nu) = (t, fV k t, nu) := by
  unfold pRef
  rw [if_pos rfl]
  rfl
theorem g_sum (h400 : tN k ≤ 400) (hF : ∀ t, ¬ fV k t = -1) : SGd k (fun _ => True) 2 (pSum k 400 true) := by
  intro t nu st hst ht hfr
  generalize hX : pSum k 400 true ((t, -1, nu), st) = X at hfr
  have loop : ∀ (f t2 : Nat) (nu2 : Int32) (l : SL), t2 ≤ tN k → (st ++ l).length + t ≤ st.length + t2 → (∀ ev, isBv (ev 15) → ∃ v, True ∧ Good ev l v 2) → tN k ≤ f + t2 →
      (X = (if f ≠ 0 ∧ pIs k 27 (t2, -1, nu2) = true then pSum k f false ((t2 + 1, -1, nu2), st ++ l) else ((t2, -1, nu2), st ++ l))) → X.1.1 ≤ tN k ∧ ∃ l, PSok ((t, -1, nu), st) X l ∧ ∀ ev, isBv (ev 15) → ∃ v, True ∧ Good ev l v 2 := by
    intro f
    induction f with
    | zero =>
      intro t2 nu2 l ht2 hlen hg hf he
      rw [if_neg (fun z => z.1 rfl)] at he
      rw [he]
      exact ⟨ht2, l, ⟨rfl, hlen⟩, hg⟩
    | succ f ih =>
      intro t2 nu2 l ht2 hlen hg hf he
      by_cases q : pIs k 27 (t2, -1, nu2) = true
      · rw [if_pos ⟨by omega, q⟩] at he
        have hlt : t2 < tN k := (of_decide_eq_true q).2.1
        unfold pSum at he
        by_cases q2 : pIsP k (t2 + 1, -1, nu2) = true
        · have z := of_decide_eq_true q2
          have hv := wP_val _ z.2.2
          have hlt2 : t2 + 1 < tN k := z.2.1
          rw [if_pos q2] at he
          have l1 : (st ++ l).length < 400 := by omega
          have a1 : pAdd (tW k (t2 + 1)) (tV k (t2 + 1)) ((t2 + 1 + 1, -1, tV k (t2 + 1)), st ++ l) = ((t2 + 1 + 1, -1, tV k (t2 + 1)), st ++ (l ++ [(tW k (t2 + 1), tV k (t2 + 1))])) := by
            unfold pAdd
            rw [if_pos l1, List.append_assoc]
          have l2 : (st ++ (l ++ [(tW k (t2 + 1), tV k (t2 + 1))])).length < 400 := by
            simp only [List.length_append, List.length_cons, List.length_nil] at l1 hlen ⊢
            omega
          have a2 : pAdd 27 0 ((t2 + 1 + 1, -1, tV k (t2 + 1)), st ++ (l ++ [(tW k (t2 + 1), tV k (t2 + 1))])) = ((t2 + 1 + 1, -1, tV k (t2 + 1)), st ++ (l ++ [(tW k (t2 + 1), tV k (t2 + 1))] ++ [(27, 0)])) := by
            unfold pAdd
            rw [if_pos l2, List.append_assoc]
          simp only [a1, a2, Bool.false_eq_true, if_false] at he
          refine ih (t2 + 1 + 1) (tV k (t2 + 1)) _ (by omega) (by simp only [List.length_append, List.length_cons, List.length_nil] at hlen ⊢; omega) (fun ev h15 => ?_) (by omega) he
          obtain ⟨v, _, g⟩ := hg ev h15
          exact ⟨_, trivial, Good_join g (Good_val (ev := ev) (x := (tW k (t2 + 1), tV k (t2 + 1))) hv.1 hv.2) (x := (27, 0)) (by decide) (by decide)⟩
        · rw [if_neg q2] at he
          simp only [pRef_f] at he
          rw [he] at hfr
          exact absurd hfr (hF _)
      · rw [if_neg (fun z => q z.2)] at he
        rw [he]
        exact ⟨ht2, l, ⟨rfl, hlen⟩, hg⟩
  by_cases q : pIsP k (t, -1, nu) = true
  · have z := of_decide_eq_true q
    have hlt : t < tN k := z.2.1
    have hv := wP_val _ z.2.2
    refine loop 399 (t + 1) (tV k t) [(tW k t, tV k t)] (by omega) (by simp; omega) (fun ev _ => ⟨_, trivial, Good_mono (Good_val (ev := ev) hv.1 hv.2) (by omega)⟩) (by omega) ?_
    rw [← hX]
    conv => lhs; unfold pSum
    rw [if_pos q]
    have a1 : pAdd (tW k t) (tV k t) ((t + 1, -1, tV k t), st) = ((t + 1, -1, tV k t), st ++ [(tW k t, tV k t)]) := by
      unfold pAdd
      rw [if_pos (by show st.length < 400; omega)]
    simp only [a1, if_true]
    rfl
  · exfalso
    have he : X = ((t, fV k t, nu), st) := by
      rw [← hX]
      unfold pSum
      rw [if_neg q]
      simp only [pRef_f]
    rw [he] at hfr
    exact hF _ hfr
theorem g_pl (h400 : tN k ≤ 400) (hF : ∀ t, ¬ fV k t = -1) : SGd k isBv 3 (pPl k) := by
  intro t nu st hst ht hfr
  unfold pPl at hfr ⊢
  by_cases q : pIs k 15 (t, -1, nu) = true
  · rw [if_pos q] at hfr ⊢
    have hlt : t < tN k := (of_decide_eq_true q).2.1
    have e : pAdd 15 0 (pNx (t, -1, nu), st) = ((t + 1, -1, nu), st ++ [(15, 0)]) := by
      unfold pAdd
      rw [if_pos (by show st.length < 400; omega)]
      rfl
    show (pAdd 15 0 (pNx (t, -1, nu), st)).1.1 ≤ tN k ∧ ∃ l, PSok ((t, -1, nu), st) (pAdd 15 0 (pNx (t, -1, nu), st)) l ∧ _
    rw [e]
    refine ⟨hlt, [(15, 0)], ⟨rfl, by simp; omega⟩, fun ev h15 => ?_⟩
    have g := Good_val (ev := ev) (x := (15, 0)) (by decide) (by decide)
    have e2 : pv ev (15, 0) = ev 15 := by
      unfold pv
      rw [if_neg (by decide)]
    rw [e2] at g
    exact ⟨_, h15, Good_mono g (by omega)⟩
  · rw [if_neg q] at hfr ⊢
    have h1 := g_sum h400 hF t nu st hst ht
    unfold pCmp at hfr ⊢
    generalize hX : pSum k 400 true ((t, -1, nu), st) = X at hfr h1 ⊢
    obtain ⟨⟨t1, e1, nu1⟩, st1⟩ := X
    simp only [] at hfr h1 ⊢
    by_cases he : e1 = -1
    · subst he
      obtain ⟨ht1, l, hP, hg⟩ := h1 rfl
      have hlen1 : st1.length ≤ t1 := by
        have := hP.2
        simp only [] at this
        omega
      have fin : ∀ (op : Fin 32), op ≠ 14 → wJ op = true → (∀ x y, isBv (joi op x y)) → t1 < tN k → (pAdd op 0 (pSum k 400 true ((t1 + 1, -1, nu1), st1))).1.2.1 = -1 →
          (pAdd op 0 (pSum k 400 true ((t1 + 1, -1, nu1), st1))).1.1 ≤ tN k ∧ ∃ l, PSok ((t, -1, nu), st) (pAdd op 0 (pSum k 400 true ((t1 + 1, -1, nu1), st1))) l ∧ ∀ ev, isBv (ev 15) → ∃ v, isBv v ∧ Good ev l v 3 := by
        intro op ho1 ho2 ho3 hlt hf2
        have h2 := g_sum h400 hF (t1 + 1) nu1 st1 (by omega) (by omega)
        generalize hY : pSum k 400 true ((t1 + 1, -1, nu1), st1) = Y at hf2 h2 ⊢
        rw [pAdd_1] at hf2 ⊢
        obtain ⟨ht2, l2, hP2, hg2⟩ := h2 hf2
        have hy1 : Y.2.length < 400 := by
          have a := hP2.2
          simp only [] at a
          omega
        have ea : pAdd op 0 Y = (Y.1, Y.2 ++ [(op, 0)]) := by
          unfold pAdd
          rw [if_pos hy1]
        rw [ea]
        refine ⟨ht2, l ++ l2 ++ [(op, 0)], ⟨?_, ?_⟩, fun ev h15 => ?_⟩
        · have a1 := hP2.1
          have a2 := hP.1
          simp only [] at a1 a2 ⊢
          rw [a1, a2, List.append_assoc, List.append_assoc, List.append_assoc]
        · have a := hP2.2
          have c := hP.2
          simp only [] at a c ⊢
          rw [List.length_append, List.length_cons, List.length_nil]
          omega
        · obtain ⟨v1, _, g1⟩ := hg ev h15
          obtain ⟨v2, _, g2⟩ := hg2 ev h15
          exact ⟨_, ho3 _ _, Good_join g1 g2 (x := (op, 0)) ho1 ho2⟩
      have b28 : ∀ x y, isBv (joi 28 x y) := by
        intro x y
        show isBv (if x < y then 1 else 0)
        by_cases c : x < y
        · rw [if_pos c]; exact ⟨true, rfl⟩
        · rw [if_neg c]; exact ⟨false, rfl⟩
      have b29 : ∀ x y, isBv (joi 29 x y) := by
        intro x y
        show isBv (if y < x then 1 else 0)
        by_cases c : y < x
        · rw [if_pos c]; exact ⟨true, rfl⟩
        · rw [if_neg c]; exact ⟨false, rfl⟩
      by_cases q2 : pIs k 28 (t1, -1, nu1) = true
      · simp only [q2, if_true] at hfr ⊢
        exact fin 28 (by decide) (by decide) b28 (of_decide_eq_true q2).2.1 hfr
      · have q2' : pIs k 28 (t1, -1, nu1) = false := by
          cases c : pIs k 28 (t1, -1, nu1)
          · rfl
          · exact absurd c q2
        simp only [q2', Bool.false_eq_true, if_false] at hfr ⊢
        unfold pDem at hfr ⊢
        by_cases q3 : pIs k 29 (t1, -1, nu1) = true
        · simp only [q3, if_true] at hfr ⊢
          exact fin 29 (by decide) (by decide) b29 (of_decide_eq_true q3).2.1 hfr
        · rw [if_neg q3] at hfr
          rw [pRef_f, pAdd_1] at hfr
          have e5 : (pSum k 400 true ((t1, fV k t1, nu1), st1)).1.2.1 = fV k t1 := fs_sum _ (hF _)
          rw [e5] at hfr
          exact absurd hfr (hF _)
    · exfalso
      have f1 : pIs k 28 (t1, e1, nu1) = false := fs_is he
      have f2 : pDem k 29 (t1, e1, nu1) = (t1, e1, nu1) := fs_dem he
      have f3 : (pSum k 400 true ((t1, e1, nu1), st1)).1.2.1 = e1 := fs_sum _ he
      simp only [f1, Bool.false_eq_true, if_false, pAdd_1, f2, f3] at hfr
      exact he hfr
theorem g_loop (h400 : tN k ≤ 400) {w : Fin 32} (hw1 : w ≠ 14) (hw2 : wJ w = true) (hw3 : ∀ x y : Bool, isBv (joi w (b2 x) (b2 y))) {m : Nat} {A : PS → PS} (hA : SGd k isBv m A) (hFS : FS A) : SGd k isBv (m + 1) (fun s => pLoop k w A 400 (A s)) := by
  intro t nu st hst ht hfr
  simp only [] at hfr ⊢
  have h1 := hA t nu st hst ht
  generalize hX : A ((t, -1, nu), st) = X at hfr h1 ⊢
  have loop : ∀ (f : Nat) (Y : PS), Y.1.2.1 = -1 → Y.1.1 ≤ tN k → (∃ l, PSok ((t, -1, nu), st) Y l ∧ ∀ ev, isBv (ev 15) → ∃ v, isBv v ∧ Good ev l v (m + 1)) → (pLoop k w A f Y).1.2.1 = -1 →
      (pLoop k w A f Y).1.1 ≤ tN k ∧ ∃ l, PSok ((t, -1, nu), st) (pLoop k w A f Y) l ∧ ∀ ev, isBv (ev 15) → ∃ v, isBv v ∧ Good ev l v (m + 1) := by
    intro f
    induction f with
    | zero => intro Y _ ht hg _; exact ⟨ht, hg⟩
    | succ f ih =>
      intro Y hY htY hg hf
      obtain ⟨⟨t1, e1, nu1⟩, st1⟩ := Y
      simp only [] at hY htY
      subst hY
      unfold pLoop at hf ⊢
      by_cases q : pIs k w (t1, -1, nu1) = true
      · simp only [q, if_true] at hf ⊢
        have hlt : t1 < tN k := (of_decide_eq_true q).2.1
        obtain ⟨l, hP, hg⟩ := hg
        have hlen1 : st1.length ≤ t1 := by
          have := hP.2
          simp only [] at this
          omega
        have h2 := hA (t1 + 1) nu1 st1 (by omega) (by omega)
        have en : (pNx (t1, -1, nu1), st1) = (((t1 + 1, -1, nu1), st1) : PS) := rfl
        rw [en] at hf ⊢
        generalize hY2 : A ((t1 + 1, -1, nu1), st1) = Y at hf h2 ⊢
        by_cases hy : Y.1.2.1 = -1
        · obtain ⟨ht2, l2, hP2, hg2⟩ := h2 hy
          have hy1 : Y.2.length < 400 := by
            have a := hP2.2
            simp only [] at a
            omega
          have ea : pAdd w 0 Y = (Y.1, Y.2 ++ [(w, 0)]) := by
            unfold pAdd
            rw [if_pos hy1]
          rw [ea] at hf ⊢
          refine ih _ hy ht2 ⟨l ++ l2 ++ [(w, 0)], ⟨?_, ?_⟩, fun ev h15 => ?_⟩ hf
          · have a1 := hP2.1
            have a2 := hP.1
            simp only [] at a1 a2 ⊢
            rw [a1, a2, List.append_assoc, List.append_assoc, List.append_assoc]
          · have a := hP2.2
            have c := hP.2
            simp only [] at a c ⊢
            rw [List.length_append, List.length_cons, List.length_nil]
            omega
          · obtain ⟨v1, ⟨x, rfl⟩, g1⟩ := hg ev h15
            obtain ⟨v2, ⟨y, rfl⟩, g2⟩ := hg2 ev h15
            exact ⟨_, hw3 x y, Good_mono (Good_join g1 g2 (x := (w, 0)) hw1 hw2) (by omega)⟩
        · exfalso
          have e5 : (pLoop k w A f (pAdd w 0 Y)).1.2.1 = Y.1.2.1 := by
            rw [fs_loop _ (by rw [pAdd_1]; exact hy), pAdd_1]
          rw [e5] at hf
          exact hy hf
      · rw [if_neg q]
        exact ⟨htY, hg⟩
  by_cases hx : X.1.2.1 = -1
  · obtain ⟨ht1, l, hP, hg⟩ := h1 hx
    exact loop 400 X hx ht1 ⟨l, hP, fun ev h15 => by obtain ⟨v, hv, g⟩ := hg ev h15; exact ⟨v, hv, Good_mono g (by omega)⟩⟩ hfr
  · rw [fs_loop _ hx] at hfr
    exact absurd hfr hx
theorem isBv_and (x y : Bool) : isBv (joi 26 (b2 x) (b2 y)) := ⟨_, b2_and x y⟩
theorem isBv_or (x y : Bool) : isBv (joi 25 (b2 x) (b2 y)) := ⟨_, b2_or x y⟩
theorem g_all (h400 : tN k ≤ 400) {m : Nat} {A : PS → PS} (hA : SGd k isBv m A) (hFS : FS A) : SGd k isBv (m + 1) (pAll k A) := g_loop h400 (by decide) (by decide) isBv_and hA hFS
theorem g_qu (h400 : tN k ≤ 400) {m : Nat} {A : PS → PS} (hA : SGd k isBv m A) (hFS : FS A) : SGd k isBv (m + 2) (pQue k A) := g_loop h400 (by decide) (by decide) isBv_or (g_all h400 hA hFS) (fs_all hFS)
theorem g_ex (h400 : tN k ≤ 400) (hF : ∀ t, ¬ fV k t = -1) : ∀ r, SGd k isBv (3 + 2 * r) (pEx k r) := by
  intro r
  induction r with
  | zero =>
    intro t nu st hst ht hfr
    rw [pEx_0] at hfr ⊢
    exact g_pl h400 hF t nu st hst ht hfr
  | succ r ih =>
    intro t nu st hst ht
    show (pAtom k (pQue k (pEx k r)) (pEx k r) true ((t, -1, nu), st)).1.2.1 = -1 → (pAtom k (pQue k (pEx k r)) (pEx k r) true ((t, -1, nu), st)).1.1 ≤ tN k ∧ ∃ l, PSok ((t, -1, nu), st) (pAtom k (pQue k (pEx k r)) (pEx k r) true ((t, -1, nu), st)) l ∧ ∀ ev, isBv (ev 15) → ∃ v, isBv v ∧ Good ev l v (3 + 2 * (r + 1))
    unfold pAtom
    simp only [true_and]
    by_cases q : pIs k 14 (t, -1, nu) = true
    · rw [if_pos q]
      have hlt : t < tN k := (of_decide_eq_true q).2.1
      have h2 := ih (t + 1) nu st (by omega) (by omega)
      have en : (pNx (t, -1, nu), st) = (((t + 1, -1, nu), st) : PS) := rfl
      rw [en]
      generalize pEx k r ((t + 1, -1, nu), st) = Y at h2 ⊢
      rw [pAdd_1]
      intro hy
      obtain ⟨ht2, l, hP, hg⟩ := h2 hy
      have hy1 : Y.2.length < 400 := by
        have a := hP.2
        simp only [] at a
        omega
      have ea : pAdd 14 0 Y = (Y.1, Y.2 ++ [(14, 0)]) := by
        unfold pAdd
        rw [if_pos hy1]
      rw [ea]
      refine ⟨ht2, l ++ [(14, 0)], ⟨?_, ?_⟩, fun ev h15 => ?_⟩
      · have a1 := hP.1
        simp only [] at a1 ⊢
        rw [a1, List.append_assoc]
      · have a := hP.2
        simp only [] at a ⊢
        rw [List.length_append, List.length_cons, List.length_nil]
        omega
      · obtain ⟨v1, ⟨x, rfl⟩, g1⟩ := hg ev h15
        have g2 := Good_not (n := 0) g1
        rw [b2_not] at g2
        exact ⟨_, ⟨!x, rfl⟩, Good_mono g2 (by omega)⟩
    · rw [if_neg q]
      by_cases q1 : pIs k 17 (t, -1, nu) = true
      · rw [if_pos q1]
        have hlt : t < tN k := (of_decide_eq_true q1).2.1
        have h2 := g_qu h400 ih (fs_ex r) (t + 1) nu st (by omega) (by omega)
        have en : (pNx (t, -1, nu), st) = (((t + 1, -1, nu), st) : PS) := rfl
        rw [en]
        generalize pQue k (pEx k r) ((t + 1, -1, nu), st) = Y at h2 ⊢
        obtain ⟨⟨t1, e1, nu1⟩, st1⟩ := Y
        simp only [] at h2 ⊢
        intro hy
        by_cases he : e1 = -1
        · subst he
          obtain ⟨ht2, l, hP, hg⟩ := h2 rfl
          unfold pDem at hy ⊢
          by_cases q2 : pIs k 18 (t1, -1, nu1) = true
          · rw [if_pos q2]
            have hlt2 : t1 < tN k := (of_decide_eq_true q2).2.1
            refine ⟨hlt2, l, ⟨hP.1, ?_⟩, fun ev h15 => ?_⟩
            · have a := hP.2
              show st1.length + t ≤ st.length + (t1 + 1)
              simp only [] at a
              omega
            · obtain ⟨v, hv, g⟩ := hg ev h15
              exact ⟨v, hv, Good_mono g (by omega)⟩
          · rw [if_neg q2, pRef_f] at hy
            exact absurd hy (hF _)
        · rw [fs_dem he] at hy
          exact absurd hy he
      · rw [if_neg q1]
        intro hy
        obtain ⟨ht2, l, hP, hg⟩ := g_pl h400 hF t nu st hst ht hy
        exact ⟨ht2, l, hP, fun ev h15 => by obtain ⟨v, hv, g⟩ := hg ev h15; exact ⟨v, hv, Good_mono g (by omega)⟩⟩
theorem g_que (h400 : tN k ≤ 400) (hF : ∀ t, ¬ fV k t = -1) : SGd k isBv 17 (pQue k (pEx k 6)) := g_qu h400 (g_ex h400 hF 6) (fs_ex 6)
end SG
