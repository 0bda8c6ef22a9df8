/-! ===== fits: sorting, trying ===== -/
def cT (td : Nat → Nat) (l : Nat) (w : Nat) : Nat := cntP (fun k => decide (td k = w)) l
theorem smF_add {c c' : Nat → Nat} {v : Nat} (h : ∀ z, c' z = c z + (if z = v then 1 else 0)) (h1 : 1 ≤ v) (h9 : v ≤ 9) : smF c' 9 1 = smF c 9 1 + 1 := by
  have e : dcr c' v = c := by
    funext z
    unfold dcr
    rw [h z]
    by_cases q : z = v
    · rw [if_pos q, if_pos q]; omega
    · rw [if_neg q, if_neg q]; rfl
  have := smF_dcr (c := c') (v := v) (by rw [h v, if_pos rfl]; omega) 9 1 h1 (by omega)
  rw [e] at this
  exact this.symm
theorem cT_S {td : Nat → Nat} {l z : Nat} : cT td (l + 1) z = cT td l z + (if z = td l then 1 else 0) := by
  unfold cT
  rw [cntP_S]
  congr 1
  by_cases q : z = td l
  · rw [if_pos q, if_pos (decide_eq_true q.symm)]
  · rw [if_neg q, if_neg (by rw [decide_eq_false (fun y => q y.symm)]; decide)]
theorem cT_ok {td : Nat → Nat} : ∀ (l : Nat), (∀ k, k < l → 1 ≤ td k ∧ td k ≤ 9) → OKc (cT td l) l := by
  intro l
  induction l with
  | zero => intro _; exact ⟨fun _ _ => rfl, rfl⟩
  | succ l ih =>
    intro h
    have i := ih (fun k hk => h k (by omega))
    have hl := h l (by omega)
    refine ⟨fun v hv => ?_, ?_⟩
    · rw [cT_S, i.1 v hv, if_neg (by omega)]
    · rw [smF_add (fun z => cT_S) hl.1 hl.2, i.2]
def SO (cm0 cm : CMu) (td : Nat → Nat) (l : Nat) : Prop :=
  (∀ b j, (b < 377 ∨ 381 < b) → gI cm b j = gI cm0 b j) ∧ cm.2 = cm0.2 ∧ gI cm 377 4 = nI l ∧ gI cm 377 5 = 0 ∧ ∀ i, i < l → gI cm 378 i = nI (td i)
section FD
variable {cm0 : CMu} {td : Nat → Nat} {l : Nat} {fs : NL}
theorem SO_9 {cm : CMu} (h : SO cm0 cm td l) {j : Nat} {v : Int32} : SO cm0 (uI cm 379 j v) td l := by
  obtain ⟨h1, h2, h3, h4, h5⟩ := h
  exact ⟨fun b i hb => by rw [gI_c (by omega)]; exact h1 b i hb, h2, by rw [gI_c (by omega)]; exact h3, by rw [gI_c (by omega)]; exact h4, fun i hi => by rw [gI_c (by omega)]; exact h5 i hi⟩
theorem c_ins (hl : l ≤ 6) {i : Nat} (hi : i < l) {x : Nat} (hx : x = td i) (hx9 : x ≤ 9) {post : CMu → Prop} {k2 : Int32 → CMu → Prop} {s : NL} (hs : s.Pairwise (fun a b => a ≤ b)) (hs9 : ∀ z ∈ s, z ≤ 9)
    (hk : ∀ cm' s', SO cm0 cm' td l → s'.length = i + 1 → s'.Pairwise (fun a b => a ≤ b) → (∀ v, cn s' v = cn s v + (if v = x then 1 else 0)) → (∀ z ∈ s', z = x ∨ z ∈ s) → (∀ k, k < i + 1 → gI cm' 379 k = nI (gD s' k)) → k2 (nI (i + 1)) cm') :
    ∀ (t : Nat) (s1 s2 : NL) (cm : CMu), s = s1 ++ s2 → s1.length = t → s1.length + s2.length = i → SO cm0 cm td l → (∀ k, k < t → gI cm 379 k = nI (gD s1 k)) → (∀ k, k < s2.length → gI cm 379 (t + 1 + k) = nI (gD s2 k)) → (∀ z ∈ s2, x < z) → B_X8_sortTold_12 post k2 (t + 1) (nI i) (nI t) cm := by
  have put : ∀ (t : Nat) (s1 s2 : NL) (cm : CMu), s = s1 ++ s2 → s1.length = t → s1.length + s2.length = i → SO cm0 cm td l → (∀ k, k < t → gI cm 379 k = nI (gD s1 k)) → (∀ k, k < s2.length → gI cm 379 (t + 1 + k) = nI (gD s2 k)) → (∀ z ∈ s2, x < z) → (∀ z ∈ s1, z ≤ x) → B_X8_sortTold_53 post k2 (nI i) (nI t) cm := by
    intro t s1 s2 cm es h1 hl2 h c1 c2 hb ha
    unfold B_X8_sortTold_53
    rw [nI_clamp (by omega), nI_clamp (by omega), h.2.2.2.2 i hi, ← hx, nI_1]
    refine ⟨vp_in_nI (by omega) (by omega), vp_in_nI (by omega) (by omega), ?_⟩
    subst es
    obtain ⟨p1, p2, p3⟩ := List.pairwise_append.mp hs
    refine hk _ (s1 ++ x :: s2) (SO_9 h) (by simp; omega) (List.pairwise_append.mpr ⟨p1, List.pairwise_cons.mpr ⟨fun z hz => Nat.le_of_lt (hb z hz), p2⟩, fun a hm b hm2 => ?_⟩) (fun v => ?_) (fun z hm => ?_) (fun k hk2 => ?_)
    · rcases List.mem_cons.mp hm2 with e | e
      · rw [e]; exact ha a hm
      · exact p3 a hm b e
    · have e1 : cn (s1 ++ x :: s2) v = cn s1 v + cn (x :: s2) v := List.count_append
      have e2 : cn (s1 ++ s2) v = cn s1 v + cn s2 v := List.count_append
      rw [e1, e2, cn_cons]
      omega
    · simp at hm ⊢
      rcases hm with e | e | e
      · exact Or.inr (Or.inl e)
      · exact Or.inl e
      · exact Or.inr (Or.inr e)
    · by_cases q : k = t
      · subst q
        rw [gI_hit, ← h1, gD_at]
      · rw [gI_f q]
        by_cases q2 : k < t
        · rw [c1 k q2, gD_l (by omega)]
        · obtain ⟨j, rfl⟩ : ∃ j, k = t + 1 + j := ⟨k - t - 1, by omega⟩
          rw [c2 j (by omega), gD_r (by omega), show t + 1 + j - s1.length = j + 1 by omega, gD_s]
  intro t
  induction t with
  | zero =>
    intro s1 s2 cm es h1 hl2 h c1 c2 hb
    unfold B_X8_sortTold_12
    refine ⟨fun _ => put 0 s1 s2 cm es h1 hl2 h c1 c2 hb (fun z hm => ?_), fun z => absurd (show nI 0 ≤ 0 by decide) z⟩
    have : s1 = [] := List.length_eq_zero_iff.mp h1
    subst this
    exact absurd hm (by simp)
  | succ t ih =>
    intro s1 s2 cm es h1 hl2 h c1 c2 hb
    obtain ⟨s1', z, rfl⟩ := snoc_of s1 (by intro e; subst e; simp at h1)
    have h1' : s1'.length = t := by simp at h1; exact h1
    have hz9 : z ≤ 9 := hs9 z (by rw [es]; simp)
    have cz : gI cm 379 t = nI z := by
      rw [c1 t (by omega), ← h1', gD_at]
    unfold B_X8_sortTold_12
    rw [nI_pred, nI_clamp (by omega), nI_clamp (by omega), nI_clamp (by omega), cz, h.2.2.2.2 i hi, ← hx, nI_leI (by omega) (by omega)]
    have n0 : ¬ nI (t + 1) ≤ 0 := by
      rw [fa_lit 0, nI_leI (by omega) (by omega)]
      omega
    refine ⟨fun y => absurd y n0, fun _ => ⟨vp_in_nI (by omega) (by omega), vp_in_nI (by omega) (by omega), fun y => ?_, fun y => ⟨vp_in_nI (by omega) (by omega), vp_in_nI (by omega) (by omega), ?_⟩⟩⟩
    · refine put (t + 1) (s1' ++ [z]) s2 cm es h1 hl2 h c1 c2 hb (fun w hm => ?_)
      rw [es] at hs
      have p1 := (List.pairwise_append.mp hs).1
      have p3 := (List.pairwise_append.mp p1).2.2
      rcases List.mem_append.mp hm with e | e
      · have := p3 w e z (by simp)
        omega
      · rw [List.mem_singleton.mp e]
        exact y
    · have e3 : nI (t + 1) + (-1) = nI t := by rw [m1_add, nI_pred]
      rw [e3]
      refine ih s1' (z :: s2) _ (by rw [es]; simp) h1' (by simp at hl2 ⊢; omega) (SO_9 h) (fun k hk2 => ?_) (fun k hk2 => ?_) (fun w hm => ?_)
      · rw [gI_f (by omega), c1 k (by omega), gD_l (by omega)]
      · cases k with
        | zero =>
          show gI _ 379 (t + 1) = _
          rw [gI_hit]
          rfl
        | succ k =>
          rw [gI_f (by omega), gD_s, show t + 1 + (k + 1) = t + 1 + 1 + k by omega]
          exact c2 k (by simp at hk2; omega)
      · rcases List.mem_cons.mp hm with e | e
        · rw [e]; omega
        · exact hb w e
theorem c_sort (hl : l ≤ 6) (hz : ∀ k, k < l → 1 ≤ td k ∧ td k ≤ 9) {post : CMu → Prop} (hp : ∀ cm', CS cm0 cm' td l (ascF l (cT td l)) 0 fs → post cm') {cm : CMu} (h : SO cm0 cm td l) : w_X8_sortTold post cm := by
  unfold w_X8_sortTold
  have key : ∀ (g i : Nat) (s : NL) (cm : CMu), i + g = l → SO cm0 cm td l → s.length = i → s.Pairwise (fun a b => a ≤ b) → (∀ v, cn s v = cT td i v) → (∀ z ∈ s, 1 ≤ z ∧ z ≤ 9) → (∀ k, k < i → gI cm 379 k = nI (gD s k)) → B_X8_sortTold_2 post (g + 1) (nI i) cm := by
    intro g
    induction g with
    | zero =>
      intro i s cm hi h hs hp1 hc hr hcell
      have e : i = l := by omega
      subst e
      unfold B_X8_sortTold_2
      rw [h.2.2.1]
      refine ⟨fun _ => hp cm ?_, fun z => absurd (nI_le (Nat.le_refl _) (by omega)) z⟩
      have es : ascF i (cT td i) = s := by
        have := asc_up s hp1 hr
        rw [hs] at this
        have ec : cn s = cT td i := funext hc
        rw [ec] at this
        exact this
      rw [es]
      exact ⟨h.1, h.2.1, h.2.2.1, h.2.2.2.1, h.2.2.2.2, hcell, fun z => absurd z (by omega)⟩
    | succ g ih =>
      intro i s cm hi h hs hp1 hc hr hcell
      unfold B_X8_sortTold_2
      rw [h.2.2.1]
      refine ⟨fun z => absurd z (nI_ge (by omega) (by omega)), fun _ => ⟨i + 1, ?_⟩⟩
      have hti := hz i (by omega)
      refine c_ins hl (by omega) rfl hti.2 hp1 (fun z hm => (hr z hm).2) (fun cm' s' h' hs' hp' hc' hm' hcell' => ?_) i s [] cm (by simp) hs (by simp; exact hs) h hcell (fun k hk => absurd hk (by simp)) (fun z hm => absurd hm (by simp))
      refine ih (i + 1) s' cm' (by omega) h' hs' hp' (fun v => by rw [hc' v, hc v, cT_S]) (fun z hm => ?_) hcell'
      rcases hm' z hm with e | e
      · rw [e]; exact hti
      · exact hr z e
  exact ⟨l + 1, key l 0 [] cm (by omega) h rfl List.Pairwise.nil (fun v => rfl) (fun z hm => absurd hm (by simp)) (fun k hk => absurd hk (by omega))⟩
end FD
/-! whether it comes as told -/
def atF (L wa : Int32) (a : NL) (k : Nat) : Int32 := nI k + (L * ((nI (gD a k) + 10) - wa))
def bsF (A : Nat → Int32) (m : Int32) : Nat → Option Nat
  | 0 => none
  | j + 1 => if bt m j then bsF A m j else match bsF A m j with
    | none => some j
    | some b => if A b ≤ A j then some b else some j
def csF (A : Nat → Int32) (td : Nat → Nat) (a : NL) (l : Nat) : Nat → Nat → Int32 → Bool
  | 0, _, _ => true
  | f + 1, v, m => match bsF A m l with
    | none => false
    | some b => if gD a b = td v then csF A td a l f (v + 1) (m ||| ((1 : Int32) <<< (nI b &&& 31))) else false
def PFT (L wa : Int32) (td : Nat → Nat) (l : Nat) (a : NL) : Bool := csF (atF L wa a) td a l l 0 0
def oN : Option Nat → Int32
  | none => -1
  | some b => nI b
theorem bsF_lt {A : Nat → Int32} {m : Int32} : ∀ {j b : Nat}, bsF A m j = some b → b < j := by
  intro j
  induction j with
  | zero => intro b h; exact absurd h (by unfold bsF; simp)
  | succ j ih =>
    intro b h
    unfold bsF at h
    by_cases q : bt m j = true
    · rw [if_pos q] at h
      have := ih h
      omega
    · rw [if_neg q] at h
      cases e : bsF A m j with
      | none =>
        rw [e] at h
        have := Option.some.inj h
        omega
      | some b' =>
        rw [e] at h
        simp only [] at h
        have := ih e
        split at h
        · have := Option.some.inj h
          omega
        · have := Option.some.inj h
          omega
theorem and_bit {m : Int32} {k : Nat} (hk : k < 32) : m &&& ((1 : Int32) <<< (nI k &&& 31)) = 0 ↔ bt m k = false := by
  constructor
  · intro e
    have e2 := congrArg (fun y => bt y k) e
    simp only [b_and] at e2
    rw [b_shl k hk 1 hk, decide_eq_true (Nat.le_refl k), Nat.sub_self, bt_1 0 (by omega), b_0] at e2
    simpa using e2
  · intro e
    apply b_ext
    intro i hi
    rw [b_and, b_shl k hk 1 hi, b_0]
    by_cases q : k ≤ i
    · rw [decide_eq_true q, Bool.true_and, bt_1 _ (by omega)]
      by_cases q2 : i = k
      · rw [q2, e, Bool.false_and]
      · rw [decide_eq_false (show ¬ i - k = 0 by omega), Bool.and_false]
    · rw [decide_eq_false q, Bool.false_and, Bool.and_false]
section FE2
variable {cm0 : CMu} {td : Nat → Nat} {l cnt : Nat} {fs a : NL}
theorem CS_0 {cm : CMu} (h : CS cm0 cm td l a cnt fs) {j : Nat} {v : Int32} : CS cm0 (uI cm 380 j v) td l a cnt fs := by
  obtain ⟨h1, h3, h4, h5, h6, h7, h8⟩ := h
  exact ⟨fun b i hb => by rw [gI_c (by omega)]; exact h1 b i hb, h3, by rw [gI_c (by omega)]; exact h4, by rw [gI_c (by omega)]; exact h5, fun i hi => by rw [gI_c (by omega)]; exact h6 i hi, fun i hi => by rw [gI_c (by omega)]; exact h7 i hi, fun z i hi => by rw [gI_c (by omega)]; exact h8 z i hi⟩
theorem c_best {cm : CMu} {A : Nat → Int32} (hl : l ≤ 6) (h : CS cm0 cm td l a cnt fs) (hA : ∀ k, k < l → gI cm 380 k = A k) (ha9 : ∀ k, k < l → gD a k ≤ 9) (ht9 : ∀ k, k < l → td k ≤ 9) {m : Int32} {v : Nat} (hv : v < l) {post : Bool → CMu → Prop} {k40 : Int32 → Int32 → CMu → Prop}
    (h0 : bsF A m l = none → post false cm) (h1 : ∀ b, bsF A m l = some b → gD a b = td v → k40 (m ||| ((1 : Int32) <<< (nI b &&& 31))) (nI (v + 1)) cm) (h2 : ∀ b, bsF A m l = some b → ¬ gD a b = td v → post false cm) :
    ∀ (g j : Nat), j + g = l → B_X8_comesAsTold_55 post k40 (g + 1) m (nI v) (oN (bsF A m j)) (nI j) cm := by
  intro g
  induction g with
  | zero =>
    intro j hj
    have e : j = l := by omega
    subst e
    unfold B_X8_comesAsTold_55 B_X8_comesAsTold_129
    rw [h.2.2.1]
    refine ⟨fun _ => ?_, fun z => absurd (nI_le (Nat.le_refl _) (by omega)) z⟩
    cases e : bsF A m j with
    | none => exact ⟨fun _ => h0 e, fun z => absurd rfl z⟩
    | some b =>
      have hb := bsF_lt e
      show (nI b = -1 → _) ∧ (¬ nI b = -1 → (vp_in (nI b) 6) ∧ (vp_in (nI v) 6) ∧ (gI cm 379 (Int32.toNatClampNeg (nI b)) = gI cm 378 (Int32.toNatClampNeg (nI v)) → k40 (m ||| (1 <<< (nI b &&& 31))) (nI v + 1) cm) ∧ (¬ gI cm 379 (Int32.toNatClampNeg (nI b)) = gI cm 378 (Int32.toNatClampNeg (nI v)) → post false cm))
      rw [nI_clamp (by omega), nI_clamp (by omega), h.2.2.2.2.2.1 b hb, h.2.2.2.2.1 v hv, nI_eq (by have := ha9 b hb; omega) (by have := ht9 v hv; omega), nI_1]
      exact ⟨fun z => absurd z (nI_m1 (by omega)), fun _ => ⟨vp_in_nI (by omega) (by omega), vp_in_nI (by omega) (by omega), fun z => h1 b e z, fun z => h2 b e z⟩⟩
  | succ g ih =>
    intro j hj
    have ih' := ih (j + 1) (by omega)
    have es : bsF A m (j + 1) = if bt m j then bsF A m j else match bsF A m j with | none => some j | some b => if A b ≤ A j then some b else some j := rfl
    rw [es, ← nI_1] at ih'
    unfold B_X8_comesAsTold_55 B_X8_comesAsTold_96 B_X8_comesAsTold_100
    rw [h.2.2.1, and_bit (by omega)]
    refine ⟨fun z => absurd z (nI_ge (by omega) (by omega)), fun _ => ⟨fun z => ?_, fun z => ?_⟩⟩
    · have zt : bt m j = true := by
        cases e : bt m j
        · exact absurd e z
        · rfl
      rw [if_pos zt] at ih'
      exact ih'
    · rw [if_neg (by rw [z]; decide)] at ih'
      cases e : bsF A m j with
      | none =>
        rw [e] at ih'
        exact ⟨fun _ => ih', fun y => absurd rfl y⟩
      | some b =>
        have hb := bsF_lt e
        rw [e] at ih'
        show (nI b = -1 → _) ∧ (¬ nI b = -1 → (vp_in (nI j) 6) ∧ (vp_in (nI b) 6) ∧ (gI cm 380 (Int32.toNatClampNeg (nI b)) ≤ gI cm 380 (Int32.toNatClampNeg (nI j)) → B_X8_comesAsTold_55 post k40 (g + 1) m (nI v) (nI b) (nI j + 1) cm) ∧ (¬ gI cm 380 (Int32.toNatClampNeg (nI b)) ≤ gI cm 380 (Int32.toNatClampNeg (nI j)) → B_X8_comesAsTold_55 post k40 (g + 1) m (nI v) (nI j) (nI j + 1) cm))
        rw [nI_clamp (by omega), nI_clamp (by omega), hA b (by omega), hA j (by omega)]
        refine ⟨fun y => absurd y (nI_m1 (by omega)), fun _ => ⟨vp_in_nI (by omega) (by omega), vp_in_nI (by omega) (by omega), fun y => ?_, fun y => ?_⟩⟩
        · simp only [if_pos y] at ih'
          exact ih'
        · simp only [if_neg y] at ih'
          exact ih'
theorem c_told {cm : CMu} {L wa : Int32} (hl : l ≤ 6) (h : CS cm0 cm td l a cnt fs) (ha9 : ∀ k, k < l → gD a k ≤ 9) (ht9 : ∀ k, k < l → td k ≤ 9) {post : Bool → CMu → Prop} (hp : ∀ cm', CS cm0 cm' td l a cnt fs → post (PFT L wa td l a) cm') : w_X8_comesAsTold post L wa cm := by
  unfold w_X8_comesAsTold
  have steps : ∀ (cm : CMu), CS cm0 cm td l a cnt fs → (∀ k, k < l → gI cm 380 k = atF L wa a k) → ∀ (f v : Nat) (m : Int32), v + f = l → (csF (atF L wa a) td a l f v m = PFT L wa td l a) → B_X8_comesAsTold_40 post (f + 1) m (nI v) cm := by
    intro cm h hA f
    induction f with
    | zero =>
      intro v m hv hc
      have e : v = l := by omega
      subst e
      unfold B_X8_comesAsTold_40
      rw [h.2.2.1]
      refine ⟨fun _ => ?_, fun z => absurd (nI_le (Nat.le_refl _) (by omega)) z⟩
      have := hp cm h
      rw [← hc] at this
      exact this
    | succ f ih =>
      intro v m hv hc
      unfold B_X8_comesAsTold_40
      rw [h.2.2.1]
      refine ⟨fun z => absurd z (nI_ge (by omega) (by omega)), fun _ => ⟨l + 1, ?_⟩⟩
      have ec : csF (atF L wa a) td a l (f + 1) v m = match bsF (atF L wa a) m l with | none => false | some b => if gD a b = td v then csF (atF L wa a) td a l f (v + 1) (m ||| ((1 : Int32) <<< (nI b &&& 31))) else false := rfl
      rw [ec] at hc
      refine c_best hl h hA ha9 ht9 (by omega) (fun e => ?_) (fun b e y => ?_) (fun b e y => ?_) l 0 (by omega)
      · rw [e] at hc
        have := hp cm h
        rw [← hc] at this
        exact this
      · rw [e] at hc
        simp only [if_pos y] at hc
        exact ih (v + 1) _ (by omega) hc
      · rw [e] at hc
        simp only [if_neg y] at hc
        have := hp cm h
        rw [← hc] at this
        exact this
  have key : ∀ (g j : Nat) (cm : CMu), j + g = l → CS cm0 cm td l a cnt fs → (∀ k, k < j → gI cm 380 k = atF L wa a k) → B_X8_comesAsTold_2 post (g + 1) L wa (nI j) cm := by
    intro g
    induction g with
    | zero =>
      intro j cm hj h hA
      have e : j = l := by omega
      subst e
      unfold B_X8_comesAsTold_2
      rw [h.2.2.1]
      exact ⟨fun _ => ⟨j + 1, steps cm h hA j 0 0 (by omega) rfl⟩, fun z => absurd (nI_le (Nat.le_refl _) (by omega)) z⟩
    | succ g ih =>
      intro j cm hj h hA
      unfold B_X8_comesAsTold_2 w_X12_minutesFor
      rw [h.2.2.1, nI_clamp (by omega), h.2.2.2.2.2.1 j (by omega), nI_1]
      refine ⟨fun z => absurd z (nI_ge (by omega) (by omega)), fun _ => ⟨vp_in_nI (by omega) (by omega), vp_in_nI (by omega) (by omega), ?_⟩⟩
      refine ih (j + 1) _ (by omega) (CS_0 h) (fun k hk => ?_)
      by_cases q : k = j
      · subst q
        rw [gI_hit]
        rfl
      · rw [gI_f q]
        exact hA k (by omega)
  exact ⟨l + 1, key l 0 cm (by omega) h (fun k hk => absurd hk (by omega))⟩
/-! all of them -/
def upT (P : NL → Bool) (st : Nat × NL) (a : NL) : Nat × NL := if P a then (st.1 + 1, if st.1 = 0 then a else st.2) else st
theorem c_all (hl : l ≤ 6) (hl1 : 1 ≤ l) (ht9 : ∀ k, k < l → td k ≤ 9) {L wa : Int32} {post : CMu → Prop} : ∀ (rest : List NL) (a : NL) (k : Nat) (st : Nat × NL) (cm : CMu), CS cm0 cm td l a st.1 st.2 → ChL (a :: rest) none → k + (rest.length + 1) ≤ 720 → st.1 ≤ k → a.length = l → (∀ z ∈ a, 1 ≤ z ∧ z ≤ 9) →
    (∀ cm' b, CS cm0 cm' td l b (List.foldl (upT (PFT L wa td l)) st (a :: rest)).1 (List.foldl (upT (PFT L wa td l)) st (a :: rest)).2 → post cm') → B_X8_tryAll_14 post (rest.length + 2) L wa 1 (nI k) cm := by
  intro rest
  induction rest with
  | nil =>
    intro a k st cm h hch hk hst hlen hz hp
    have ha9 : ∀ k, k < l → gD a k ≤ 9 := fun k hk => (hz _ (gD_mem (by omega))).2
    have n720 : ¬ (720 : Int32) ≤ nI k := by
      rw [fa_lit 720, nI_leI (by omega) (by omega)]
      simp at hk
      omega
    have hn : nxt a = none := hch
    have fin : ∀ cm', CS cm0 cm' td l a (upT (PFT L wa td l) st a).1 (upT (PFT L wa td l) st a).2 → B_X8_tryAll_69 post (B_X8_tryAll_14 post 1) L wa (nI k) cm' := by
      intro cm' h'
      unfold B_X8_tryAll_69
      refine c_goN hl hlen hz hl1 h' (fun b cm'' e _ _ _ => absurd e (by rw [hn]; simp)) (fun _ => ?_)
      unfold B_X8_tryAll_14 B_X8_tryAll_80
      exact ⟨fun _ => hp cm' a h', fun _ => ⟨fun _ => hp cm' a h', fun z => absurd rfl z⟩⟩
    unfold B_X8_tryAll_14
    refine ⟨fun z => absurd z n720, fun _ => ⟨fun z => absurd z (by decide), fun _ => c_told hl h ha9 ht9 (fun cm' h' => ⟨fun z => ?_, fun z => ?_⟩)⟩⟩
    · refine fin cm' ?_
      unfold upT
      rw [if_neg (by rw [z]; decide)]
      exact h'
    · have zt : PFT L wa td l a = true := by
        cases e : PFT L wa td l a
        · exact absurd e z
        · rfl
      have eu : upT (PFT L wa td l) st a = (st.1 + 1, if st.1 = 0 then a else st.2) := by
        unfold upT
        rw [if_pos zt]
      rw [eu] at fin
      obtain ⟨g1, g2, g3, g4, g5, g6, g7⟩ := h'
      unfold B_X8_tryAll_59
      refine ⟨fun y => fin _ ?_, fun y => ⟨?_, ?_, fin _ ?_⟩⟩
      · rw [g4, fa_lit 0, nI_eq (by omega) (by omega)] at y
        rw [if_neg y]
        refine ⟨fun b j hb => by rw [gI_c (by omega)]; exact g1 b j hb, g2, by rw [gI_f (by omega)]; exact g3, by rw [gI_hit, g4, nI_1], fun i hi => by rw [gI_c (by omega)]; exact g5 i hi, fun i hi => by rw [gI_c (by omega)]; exact g6 i hi, fun _ i hi => by rw [gI_c (by omega)]; exact g7 (by omega) i hi⟩
      · rw [g3]
        exact nI_pos (by omega)
      · rw [g3, nI_clamp (by omega)]
        exact hl
      · rw [g4, fa_lit 0, nI_eq (by omega) (by omega)] at y
        rw [if_pos y, g3, nI_clamp (show l < 2 ^ 31 by omega)]
        have o : ∀ b j, b ≠ 381 → gI (cpI cm' 381 379 (Int32.toNatClampNeg (0 : Int32)) (Int32.toNatClampNeg (0 : Int32)) l) b j = gI cm' b j := by
          intro b j hb
          show (if b = 381 then va_cpy (cm'.1 379) (cm'.1 381) _ _ l j else cm'.1 b j) = _
          rw [if_neg hb]
          rfl
        refine ⟨fun b j hb => by rw [gI_c (by omega), o b j (by omega)]; exact g1 b j hb, g2, by rw [gI_f (by omega), o _ _ (by omega)]; exact g3, by rw [gI_hit, o _ _ (by omega), g4, nI_1], fun i hi => by rw [gI_c (by omega), o _ _ (by omega)]; exact g5 i hi, fun i hi => by rw [gI_c (by omega), o _ _ (by omega)]; exact g6 i hi, fun _ i hi => ?_⟩
        rw [gI_c (by omega), ← g6 i hi]
        show va_cpy (cm'.1 379) (cm'.1 381) 0 0 l i = _
        unfold va_cpy
        rw [if_pos (by omega)]
        rw [show 0 + (i - 0) = i by omega]
        rfl
  | cons b rest ih =>
    intro a k st cm h hch hk hst hlen hz hp
    have ha9 : ∀ k, k < l → gD a k ≤ 9 := fun k hk => (hz _ (gD_mem (by omega))).2
    have n720 : ¬ (720 : Int32) ≤ nI k := by
      rw [fa_lit 720, nI_leI (by omega) (by omega)]
      simp at hk
      omega
    obtain ⟨hn, hch2⟩ := hch
    have fin : ∀ cm', CS cm0 cm' td l a (upT (PFT L wa td l) st a).1 (upT (PFT L wa td l) st a).2 → B_X8_tryAll_69 post (B_X8_tryAll_14 post (rest.length + 2)) L wa (nI k) cm' := by
      intro cm' h'
      unfold B_X8_tryAll_69
      refine c_goN hl hlen hz hl1 h' (fun b' cm'' e h'' hb1 hb2 => ?_) (fun e => absurd e (by rw [hn]; simp))
      have eb : b = b' := by
        rw [hn] at e
        exact Option.some.inj e
      subst eb
      rw [nI_1]
      refine ih b (k + 1) _ cm'' h'' hch2 (by simp at hk; omega) ?_ hb1 hb2 hp
      unfold upT
      split
      · show st.1 + 1 ≤ k + 1
        omega
      · omega
    unfold B_X8_tryAll_14
    refine ⟨fun z => absurd z n720, fun _ => ⟨fun z => absurd z (by decide), fun _ => c_told hl h ha9 ht9 (fun cm' h' => ⟨fun z => ?_, fun z => ?_⟩)⟩⟩
    · refine fin cm' ?_
      unfold upT
      rw [if_neg (by rw [z]; decide)]
      exact h'
    · have zt : PFT L wa td l a = true := by
        cases e : PFT L wa td l a
        · exact absurd e z
        · rfl
      have eu : upT (PFT L wa td l) st a = (st.1 + 1, if st.1 = 0 then a else st.2) := by
        unfold upT
        rw [if_pos zt]
      rw [eu] at fin
      obtain ⟨g1, g2, g3, g4, g5, g6, g7⟩ := h'
      unfold B_X8_tryAll_59
      refine ⟨fun y => fin _ ?_, fun y => ⟨?_, ?_, fin _ ?_⟩⟩
      · rw [g4, fa_lit 0, nI_eq (by omega) (by omega)] at y
        rw [if_neg y]
        refine ⟨fun b j hb => by rw [gI_c (by omega)]; exact g1 b j hb, g2, by rw [gI_f (by omega)]; exact g3, by rw [gI_hit, g4, nI_1], fun i hi => by rw [gI_c (by omega)]; exact g5 i hi, fun i hi => by rw [gI_c (by omega)]; exact g6 i hi, fun _ i hi => by rw [gI_c (by omega)]; exact g7 (by omega) i hi⟩
      · rw [g3]
        exact nI_pos (by omega)
      · rw [g3, nI_clamp (by omega)]
        exact hl
      · rw [g4, fa_lit 0, nI_eq (by omega) (by omega)] at y
        rw [if_pos y, g3, nI_clamp (show l < 2 ^ 31 by omega)]
        have o : ∀ b j, b ≠ 381 → gI (cpI cm' 381 379 (Int32.toNatClampNeg (0 : Int32)) (Int32.toNatClampNeg (0 : Int32)) l) b j = gI cm' b j := by
          intro b j hb
          show (if b = 381 then va_cpy (cm'.1 379) (cm'.1 381) _ _ l j else cm'.1 b j) = _
          rw [if_neg hb]
          rfl
        refine ⟨fun b j hb => by rw [gI_c (by omega), o b j (by omega)]; exact g1 b j hb, g2, by rw [gI_f (by omega), o _ _ (by omega)]; exact g3, by rw [gI_hit, o _ _ (by omega), g4, nI_1], fun i hi => by rw [gI_c (by omega), o _ _ (by omega)]; exact g5 i hi, fun i hi => by rw [gI_c (by omega), o _ _ (by omega)]; exact g6 i hi, fun _ i hi => ?_⟩
        rw [gI_c (by omega), ← g6 i hi]
        show va_cpy (cm'.1 379) (cm'.1 381) 0 0 l i = _
        unfold va_cpy
        rw [if_pos (by omega)]
        rw [show 0 + (i - 0) = i by omega]
        rfl
end FE2
