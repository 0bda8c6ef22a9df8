/-! ===== what is refused stays so ===== -/
def FS (G : PS → PS) : Prop := ∀ s : PS, ¬ s.1.2.1 = -1 → (G s).1.2.1 = s.1.2.1
section FS
variable {k : TK}
theorem fs_ref {s : PT} (h : ¬ s.2.1 = -1) : pRef k s = s := by
  unfold pRef
  rw [if_neg h]
theorem fs_is {s : PT} {w : Fin 32} (h : ¬ s.2.1 = -1) : pIs k w s = false := decide_eq_false (fun z => h z.1)
theorem fs_isP {s : PT} (h : ¬ s.2.1 = -1) : pIsP k s = false := decide_eq_false (fun z => h z.1)
theorem fs_isN {s : PT} {lo hi : Int32} (h : ¬ s.2.1 = -1) : pIsN k lo hi s = false := decide_eq_false (fun z => h z.1)
theorem fs_num {s : PT} {lo hi : Int32} (h : ¬ s.2.1 = -1) : (pNum k lo hi s).2 = s := by
  unfold pNum
  rw [fs_isN h, if_neg (by decide)]
  exact fs_ref h
theorem fs_dem {s : PT} {w : Fin 32} (h : ¬ s.2.1 = -1) : pDem k w s = s := by
  unfold pDem
  rw [fs_is h, if_neg (by decide), fs_ref h]
theorem pAdd_1 {w : Fin 32} {n : Int32} {s : PS} : (pAdd w n s).1 = s.1 := by
  unfold pAdd
  split <;> rfl
theorem fs_sum {f : Nat} {fi : Bool} : FS (pSum k f fi) := by
  intro s h
  cases f with
  | zero => rfl
  | succ f =>
    unfold pSum
    rw [fs_isP h, if_neg (by decide)]
    show (pRef k s.1).2.1 = _
    rw [fs_ref h]
theorem fs_loop {w : Fin 32} {A : PS → PS} {f : Nat} : FS (pLoop k w A f) := by
  intro s h
  cases f with
  | zero => rfl
  | succ f =>
    unfold pLoop
    rw [fs_is h, if_neg (by decide)]
theorem fs_all {A : PS → PS} (hA : FS A) : FS (pAll k A) := by
  intro s h
  unfold pAll
  have := hA s h
  rw [fs_loop _ (by rw [this]; exact h), this]
theorem fs_que {A : PS → PS} (hA : FS A) : FS (pQue k A) := by
  intro s h
  unfold pQue
  have := fs_all (k := k) hA s h
  rw [fs_loop _ (by rw [this]; exact h), this]
theorem fs_cmp : FS (pCmp k) := by
  intro s h
  unfold pCmp
  have e1 : (pSum k 400 true s).1.2.1 = s.1.2.1 := fs_sum s h
  simp only []
  rw [fs_is (by rw [e1]; exact h), fs_dem (by rw [e1]; exact h)]
  simp only [Bool.false_eq_true, if_false, pAdd_1]
  have e2 := fs_sum (k := k) (f := 400) (fi := true) (pSum k 400 true s) (by rw [e1]; exact h)
  rw [show ((pSum k 400 true s).1, (pSum k 400 true s).2) = pSum k 400 true s from rfl, e2, e1]
theorem fs_atom {Q A : PS → PS} {may : Bool} : FS (pAtom k Q A may) := by
  intro s h
  unfold pAtom
  rw [fs_is h, fs_is h, fs_is h]
  simp only [Bool.false_eq_true, and_false, if_false]
  exact fs_cmp s h
theorem fs_ex : ∀ r, FS (pEx k r) := by
  intro r
  cases r with
  | zero => exact fs_atom
  | succ r => exact fs_atom
end FS
/-! ===== the reference's questions ===== -/
def RC {α : Type} (k : TK) (b : Nat → Int32) (len : Nat) (val : α → Int32) (m B : Nat) (d : Int32) (mm : MM) (G : PS → PS) (F : (α → MM → Prop) → MM → Prop) : Prop :=
  ∀ (p t : Nat) (nu : Int32) (st : SL) (post : α → MM → Prop), Sx k b len p t → st.length ≤ t →
    (∀ v p' l, (G ((t, -1, nu), st)).1.2.1 = -1 → Sx k b len p' (G ((t, -1, nu), st)).1.1 → PSok ((t, -1, nu), st) (G ((t, -1, nu), st)) l → Good (evR mm) l (val v) m → post v (stR mm (nI p') (-1) d)) →
    (∀ v p' dd, ¬ (G ((t, -1, nu), st)).1.2.1 = -1 → p' ≤ len + B → post v (stR mm (nI p') (G ((t, -1, nu), st)).1.2.1 dd)) →
    F post (stR mm (nI p) (-1) d)
theorem tkF_len {b : Nat → Int32} {len : Nat} : ∀ f p, (tkF b len f p).length ≤ f := by
  intro f
  induction f with
  | zero => intro p; exact Nat.le_refl _
  | succ f ih =>
    intro p
    unfold tkF
    split
    · split
      · have := ih (bhd b len p)
        omega
      · rw [List.length_cons]
        have := ih (bhd b len p)
        omega
    · show 0 ≤ _
      omega
theorem TKL_400 {k : TK} {b : Nat → Int32} {len : Nat} (hT : TKL k (tks b len 0) len) (h : len ≤ 400) : tN k ≤ 400 := by
  rw [hT.1]
  have := tkF_len (b := b) (len := len) (len - 0) 0
  unfold tks
  omega
section RQ
variable {mm : MM} {b : Nat → Int32} {len : Nat} {d : Int32} {k : TK}
theorem fV_ne (hT : TKL k (tks b len 0) len) (hl : len ≤ 400) {p t : Nat} (h : Sx k b len p t) : ¬ fV k t = -1 := by
  have s1 := (Sx_skp hT h).1
  have : nI (skp b len p) = fV k t := s1.2
  rw [← this]
  have := s1.1.2.1
  exact nI_m1 (by omega)
theorem r_sum (hB : BY mm b len) (hT : TKL k (tks b len 0) len) : RC k b len id 2 0 d mm (pSum k 400 true) w_X13_sum := by
  intro p t nu st post hs hst hok hbad
  have hl2 := hB.2.1
  have h400 := TKL_400 hT hl2
  unfold w_X13_sum
  generalize hX : pSum k 400 true ((t, -1, nu), st) = X at hok hbad
  have loop : ∀ (f t2 : Nat) (nu2 : Int32) (l : SL) (v : Int32) (p : Nat), Sx k b len p t2 → (st ++ l).length + t ≤ st.length + t2 → Good (evR mm) l v 2 → tN k ≤ f + t2 →
      (X = (if f ≠ 0 ∧ pIs k 27 (t2, -1, nu2) = true then pSum k f false ((t2 + 1, -1, nu2), st ++ l) else ((t2, -1, nu2), st ++ l))) → B_X13_sum_5 post (f + 1) v (stR mm (nI p) (-1) d) := by
    intro f
    induction f with
    | zero =>
      intro t2 nu2 l v p hs hlen hg hf he
      unfold B_X13_sum_5 B_X13_sum_42
      rw [if_neg (fun z => z.1 rfl)] at he
      rw [he] at hok
      rw [stR_10]
      refine ⟨fun z => absurd rfl z, fun _ => t_sign (nu := nu2) hB hT hs (w := 26) (by omega) rfl rfl (fun q p' _ _ => ?_) (fun q p' y => ⟨fun _ => ?_, fun z => absurd rfl z⟩)⟩
      · have := (of_decide_eq_true q).2.1
        have z : t2 < tN k := this
        omega
      · exact hok v p' l rfl y.1 ⟨rfl, hlen⟩ hg
    | succ f ih =>
      intro t2 nu2 l v p hs hlen hg hf he
      unfold B_X13_sum_5 B_X13_sum_42
      rw [stR_10]
      refine ⟨fun z => absurd rfl z, fun _ => t_sign (nu := nu2) hB hT hs (w := 26) (by omega) rfl rfl (fun q p' hp' hs' => ⟨fun z => absurd z (by decide), fun _ => ?_⟩) (fun q p' y => ⟨fun _ => ?_, fun z => absurd rfl z⟩)⟩
      · rw [stR_9, nI_1, stR_u9]
        rw [if_pos ⟨by omega, q⟩] at he
        have hlt : t2 < tN k := (of_decide_eq_true q).2.1
        refine r_part (nu := nu2) hB hT hs' (fun q2 p2 hs2 => ?_) (fun q2 p2 v2 hp2 => ?_)
        · have z := of_decide_eq_true q2
          have hv := wP_val _ z.2.2
          have hlt2 : t2 + 1 < tN k := z.2.1
          unfold pSum at he
          rw [if_pos q2] at he
          have l1 : (st ++ l).length < 400 := by omega
          have a1 : pAdd (tW k (t2 + 1)) (tV k (t2 + 1)) ((t2 + 1 + 1, -1, tV k (t2 + 1)), st ++ l) = ((t2 + 1 + 1, -1, tV k (t2 + 1)), st ++ (l ++ [(tW k (t2 + 1), tV k (t2 + 1))])) := by
            unfold pAdd
            rw [if_pos l1, List.append_assoc]
          have l2 : (st ++ (l ++ [(tW k (t2 + 1), tV k (t2 + 1))])).length < 400 := by
            simp only [List.length_append, List.length_cons, List.length_nil] at l1 hlen ⊢
            omega
          have a2 : pAdd 27 0 ((t2 + 1 + 1, -1, tV k (t2 + 1)), st ++ (l ++ [(tW k (t2 + 1), tV k (t2 + 1))])) = ((t2 + 1 + 1, -1, tV k (t2 + 1)), st ++ (l ++ [(tW k (t2 + 1), tV k (t2 + 1))] ++ [(27, 0)])) := by
            unfold pAdd
            rw [if_pos l2, List.append_assoc]
          simp only [a1, a2, Bool.false_eq_true, if_false] at he
          have g2 := Good_join hg (Good_val (ev := evR mm) (x := (tW k (t2 + 1), tV k (t2 + 1))) hv.1 hv.2) (x := (27, 0)) (by decide) (by decide)
          exact ih (t2 + 1 + 1) (tV k (t2 + 1)) _ _ p2 hs2 (by simp only [List.length_append, List.length_cons, List.length_nil] at hlen ⊢; omega) g2 (by omega) he
        · unfold pSum at he
          rw [if_neg (by rw [q2]; decide)] at he
          have hne := fV_ne hT hl2 hs'
          have e2 : pRef k (t2 + 1, -1, nu2) = (t2 + 1, fV k (t2 + 1), nu2) := by
            unfold pRef
            rw [if_pos rfl]
            rfl
          simp only [e2] at he
          have hb := hbad (v + v2) p2 d (by rw [he]; exact hne) (by omega)
          rw [he] at hb
          cases f with
          | zero =>
            unfold B_X13_sum_5 B_X13_sum_42
            rw [stR_10]
            exact ⟨fun _ => hb, fun z => absurd z hne⟩
          | succ f =>
            unfold B_X13_sum_5 B_X13_sum_42
            rw [stR_10]
            exact ⟨fun _ => hb, fun z => absurd z hne⟩
      · have q' : pIs k 27 (t2, -1, nu2) = false := q
        rw [if_neg (fun z => by rw [q'] at z; exact absurd z.2 (by decide))] at he
        rw [he] at hok
        exact hok v p' l rfl y.1 ⟨rfl, hlen⟩ hg
  refine r_part (nu := nu) hB hT hs (fun q p' hs' => ⟨400, ?_⟩) (fun q p' v hp' => ⟨1, ?_⟩)
  · have z := of_decide_eq_true q
    have hlt : t < tN k := z.2.1
    have hv := wP_val _ z.2.2
    refine loop 399 (t + 1) (tV k t) [(tW k t, tV k t)] _ p' hs' (by simp; omega) (Good_mono (Good_val hv.1 hv.2) (by omega)) (by omega) ?_
    rw [← hX]
    conv => lhs; unfold pSum
    rw [if_pos q]
    have a1 : pAdd (tW k t) (tV k t) ((t + 1, -1, tV k t), st) = ((t + 1, -1, tV k t), st ++ [(tW k t, tV k t)]) := by
      unfold pAdd
      rw [if_pos (by show st.length < 400; omega)]
    simp only [a1, if_true]
    rfl
  · have hne := fV_ne hT hl2 hs
    have he : X = ((t, fV k t, nu), st) := by
      rw [← hX]
      unfold pSum
      rw [if_neg (by rw [q]; decide)]
      unfold pRef
      rw [if_pos rfl]
      rfl
    have hb := hbad v p' d (by rw [he]; exact hne) (by omega)
    rw [he] at hb
    unfold B_X13_sum_5 B_X13_sum_42
    rw [stR_10]
    exact ⟨fun _ => hb, fun z => absurd z hne⟩
end RQ
