/-! ===== the class's open writes the tokens ===== -/
abbrev TL : Type := List (Nat × Fin 32 × Int32)
def putK (cm : CMu) (l : TL) : CMu :=
  (fun b j => if b = 4 ∧ j = 3 then nI l.length else if b = 6 then ((l[j]?).map (fun z => nI z.1)).getD (cm.1 b j) else if b = 7 then ((l[j]?).map (fun z => z.2.2)).getD (cm.1 b j) else cm.1 b j, cm.2.1,
   fun b j => if b = 5 then ((l[j]?).map (fun z => z.2.1)).getD (cm.2.2 b j) else cm.2.2 b j)
theorem putK_add {cm : CMu} {l : TL} {i : Nat} {w : Fin 32} {v : Int32} : uI (uI (uW (uI (putK cm l) 6 l.length (nI i)) 5 l.length w) 7 l.length v) 4 3 (nI (l.length + 1)) = putK cm (l ++ [(i, w, v)]) := by
  refine Prod.ext ?_ (Prod.ext rfl ?_)
  · funext b j
    show up2 (up2 (up2 _ 6 l.length (nI i)) 7 l.length v) 4 3 (nI (l.length + 1)) b j = _
    unfold up2 putK
    by_cases h1 : b = 4 ∧ j = 3
    · obtain ⟨rfl, rfl⟩ := h1
      simp
    · simp only [if_neg h1, List.length_append, List.length_cons, List.length_nil]
      by_cases h2 : b = 7
      · subst h2
        simp only [true_and, show (7 : Nat) = 6 ↔ False by decide, show (7 : Nat) = 4 ↔ False by decide, false_and, if_false, if_true]
        rw [← row_add l (i, w, v) (fun z => z.2.2)]
      · by_cases h3 : b = 6
        · subst h3
          simp only [true_and, show (6 : Nat) = 7 ↔ False by decide, show (6 : Nat) = 4 ↔ False by decide, false_and, if_false, if_true]
          rw [← row_add l (i, w, v) (fun z => nI z.1)]
        · simp only [h2, h3, false_and, if_false, h1]
  · funext b j
    show up2 _ 5 l.length w b j = _
    unfold up2 putK
    by_cases h2 : b = 5
    · subst h2
      simp only [true_and, if_true]
      rw [← row_add l (i, w, v) (fun z => z.2.1)]
      rfl
    · simp only [h2, false_and, if_false]
      show (if b = 5 then _ else cm.2.2 b j) = _
      rw [if_neg h2]
theorem putK_3 {cm : CMu} {l : TL} : gI (putK cm l) 4 3 = nI l.length := rfl
theorem putK_5 {cm : CMu} {l : TL} : gI (putK cm l) 4 5 = gI cm 4 5 := rfl
theorem putK_b {cm : CMu} {l : TL} : gI (putK cm l) 3 = gI cm 3 := rfl
section CO
variable {cm : CMu} {len : Nat}
theorem c_add {post : CMu → Prop} {l : TL} {i j : Nat} (hi : i < j) (hj : j ≤ 400) (hll : l.length < 400) (h : post (putK cm (l ++ [tok1 (gI cm 3) i j]))) : w_X10_add post (nI i) (nI j) (putK cm l) := by
  unfold w_X10_add
  rw [putK_3, fa_lit 400]
  refine ⟨fun _ => ?_, fun q => absurd (nI_lt hll (by omega)) q⟩
  have hl : vp_in (nI l.length) 400 := vp_in_nI hll (by omega)
  rw [nI_clamp (by omega), nI_clamp (by omega)]
  have eb : ∀ (a : Int32), gI (uI (putK cm l) 6 l.length a) 3 = gI cm 3 := by
    intro a
    funext t
    rw [gI_c (by omega)]
    rfl
  have e3 : ∀ (a : Int32), gI (uI (putK cm l) 6 l.length a) 4 3 = nI l.length := by
    intro a
    rw [gI_c (by omega)]
    rfl
  refine ⟨hl, vp_in_nI (by omega) (by omega), ?_⟩
  rw [eb]
  unfold tok1 at h
  refine c_isD ⟨fun q => ?_, fun q => ?_⟩
  · rw [if_neg (by rw [q]; decide)] at h
    refine c_of hi hj ?_
    rw [eb]
    have e4 : ∀ (a : Int32) (w : Fin 32), gI (uW (uI (putK cm l) 6 l.length a) 5 l.length w) 4 3 = nI l.length := fun a w => e3 a
    rw [e3, nI_clamp (by omega), e4, nI_clamp (by omega)]
    refine ⟨hl, wOf_ne 31 0 rfl, hl, ?_⟩
    unfold B_X10_add_119
    rw [gI_c (by omega), e4, nI_1, putK_add]
    exact h
  · have hD : isD (gI cm 3 i) = true := by revert q; cases isD (gI cm 3 i) <;> simp
    rw [if_pos hD] at h
    rw [nI_sub (by omega)]
    have key : ∀ (bo : Bool), post (putK cm (l ++ [(i, (if bo then 30 else 31), if bo then vlF (gI cm 3) (j - i) i 0 else 0)])) → B_X10_add_42 post (nI i) (nI j) bo (uI (putK cm l) 6 l.length (nI i)) := by
      intro bo hp
      unfold B_X10_add_42 B_X10_add_66 B_X10_add_90 B_X10_add_119
      rw [e3, nI_clamp (by omega)]
      have e4 : ∀ (w : Fin 32), gI (uW (uI (putK cm l) 6 l.length (nI i)) 5 l.length w) 4 3 = nI l.length := fun w => e3 (nI i)
      have e5 : ∀ (w : Fin 32) (v : Int32), gI (uI (uW (uI (putK cm l) 6 l.length (nI i)) 5 l.length w) 7 l.length v) 4 3 = nI l.length := by
        intro w v
        rw [gI_c (by omega)]
        exact e4 w
      cases bo
      · refine ⟨fun _ => ⟨hl, by decide, fun _ => ?_, fun z => absurd rfl z⟩, fun z => absurd rfl z⟩
        rw [e4, nI_clamp (by omega), e5, nI_1, putK_add]
        exact ⟨hl, hp⟩
      · refine ⟨fun z => absurd z (by decide), fun _ => ⟨hl, by decide, fun z => absurd z (by decide), fun _ => ?_⟩⟩
        rw [e4, nI_clamp (by omega)]
        refine c_val (by omega) hj ⟨hl, ?_⟩
        have eb2 : gI (uW (uI (putK cm l) 6 l.length (nI i)) 5 l.length 30) 3 = gI cm 3 := eb (nI i)
        rw [eb2, e5, nI_1, putK_add]
        exact hp
    refine ⟨fun q2 => ?_, fun q2 => ?_⟩
    · rw [fa_lit 3, nI_ltI (by omega) (by omega)] at q2
      rw [if_neg (by omega)] at h
      exact key false h
    · rw [fa_lit 3, nI_ltI (by omega) (by omega)] at q2
      rw [if_pos (by omega)] at h
      exact key true h
theorem c_open {post : CMu → Prop} (hl : len ≤ 400) (h : post (putK (uI (uI (uI cm 4 5 (nI len)) 4 4 0) 4 7 (-1)) (tkF (gI cm 3) len 400 0))) : w_X10_open post (nI len) cm := by
  unfold w_X10_open
  have ej : jmin (nI len) 400 = nI len := by
    unfold jmin
    rw [fa_lit 400, if_neg (nI_nlt (by omega) (by omega))]
  rw [ej]
  have e0 : uI (uI (uI (uI cm 4 5 (nI len)) 4 3 0) 4 4 0) 4 7 (-1) = putK (uI (uI (uI cm 4 5 (nI len)) 4 4 0) 4 7 (-1)) [] := by
    refine Prod.ext ?_ (Prod.ext rfl ?_)
    · funext b j
      show up2 (up2 (up2 (up2 cm.1 4 5 (nI len)) 4 3 0) 4 4 0) 4 7 (-1) b j = _
      have e : (putK (uI (uI (uI cm 4 5 (nI len)) 4 4 0) 4 7 (-1)) []).1 b j = (if b = 4 ∧ j = 3 then nI 0 else (uI (uI (uI cm 4 5 (nI len)) 4 4 0) 4 7 (-1)).1 b j) := by
        unfold putK
        simp only [List.getElem?_nil, Option.map_none, Option.getD_none, List.length_nil, ite_self]
      rw [e]
      show _ = (if b = 4 ∧ j = 3 then nI 0 else up2 (up2 (up2 cm.1 4 5 (nI len)) 4 4 0) 4 7 (-1) b j)
      unfold up2
      by_cases q : b = 4 ∧ j = 3
      · obtain ⟨rfl, rfl⟩ := q
        simp
        rfl
      · rw [if_neg q, if_neg q]
    · funext b j
      unfold putK
      show cm.2.2 b j = (if b = 5 then (((([] : TL)[j]?).map (fun z => z.2.1)).getD _) else _)
      simp only [List.getElem?_nil, Option.map_none, Option.getD_none, ite_self]
      rfl
  rw [e0]
  have h5 : gI (uI (uI (uI cm 4 5 (nI len)) 4 4 0) 4 7 (-1)) 4 5 = nI len := by rw [gI_f (by omega), gI_f (by omega), gI_hit]
  have h3 : gI (uI (uI (uI cm 4 5 (nI len)) 4 4 0) 4 7 (-1)) 3 = gI cm 3 := by
    funext t
    rw [gI_c (by omega), gI_c (by omega), gI_c (by omega)]
  rw [← h3] at h
  generalize uI (uI (uI cm 4 5 (nI len)) 4 4 0) 4 7 (-1) = c2 at *
  have key : ∀ (f v i : Nat) (l : TL), v + f = 400 → i ≤ len → v ≤ i → l.length ≤ i → post (putK c2 (l ++ tkF (gI c2 3) len f i)) → B_X10_open_30 post (f + 1) (nI i) (nI v) (putK c2 l) := by
    intro f
    induction f with
    | zero =>
      intro v i l hv hi hvi hli hp
      unfold B_X10_open_30 B_X10_open_79
      unfold tkF at hp
      rw [List.append_nil] at hp
      rw [fa_lit 400]
      exact ⟨fun _ => hp, fun q => absurd (nI_le (by omega) (by omega)) q⟩
    | succ f ih =>
      intro v i l hv hi hvi hli hp
      unfold B_X10_open_30 B_X10_open_79
      unfold tkF at hp
      rw [fa_lit 400, putK_5, h5]
      refine ⟨fun q => absurd q (nI_ge (by omega) (by omega)), fun _ => ⟨fun q => ?_, fun q => ?_⟩⟩
      · rw [nI_leI (by omega) (by omega)] at q
        rw [if_neg (by omega), List.append_nil] at hp
        exact hp
      · rw [nI_leI (by omega) (by omega)] at q
        rw [if_pos (by omega)] at hp
        have hb := bhd_le (b := gI c2 3) (len := len) (i := i) (by omega)
        refine c_bhd (by rw [putK_5]; exact h5) hl (by omega) ?_
        rw [putK_b, nI_clamp (by omega)]
        refine ⟨vp_in_nI (by omega) (by omega), fun q2 => ?_, fun q2 => ?_⟩
        · rw [if_pos q2] at hp
          unfold B_X10_open_70
          rw [nI_1]
          exact ih (v + 1) _ l (by omega) hb.2 (by omega) (by omega) hp
        · rw [if_neg q2] at hp
          refine c_add hb.1 (by omega) (by omega) ?_
          unfold B_X10_open_70
          rw [nI_1]
          refine ih (v + 1) _ _ (by omega) hb.2 (by omega) (by simp; omega) ?_
          rw [List.append_assoc]
          exact hp
  exact ⟨_, key 400 0 0 [] rfl (by omega) (by omega) (Nat.le_refl _) h⟩
end CO
