/-! ===== fits: the class's ===== -/
def gD (a : NL) (k : Nat) : Nat := (a[k]?).getD 0
theorem gD_l {u v : NL} {k : Nat} (h : k < u.length) : gD (u ++ v) k = gD u k := by
  unfold gD
  rw [List.getElem?_append_left h]
theorem gD_r {u v : NL} {k : Nat} (h : u.length ≤ k) : gD (u ++ v) k = gD v (k - u.length) := by
  unfold gD
  rw [List.getElem?_append_right h]
theorem gD_c {x : Nat} {v : NL} : gD (x :: v) 0 = x := rfl
theorem gD_s {x k : Nat} {v : NL} : gD (x :: v) (k + 1) = gD v k := rfl
theorem gD_at {u v : NL} {x : Nat} : gD (u ++ x :: v) u.length = x := by
  rw [gD_r (Nat.le_refl _), Nat.sub_self]
  rfl
theorem gD_ne {u v : NL} {x y k : Nat} (h : k ≠ u.length) : gD (u ++ x :: v) k = gD (u ++ y :: v) k := by
  by_cases q : k < u.length
  · rw [gD_l q, gD_l q]
  · rw [gD_r (by omega), gD_r (by omega)]
    obtain ⟨j, hj⟩ : ∃ j, k - u.length = j + 1 := ⟨k - u.length - 1, by omega⟩
    rw [hj]
    rfl
theorem gD_mem {a : NL} {k : Nat} (h : k < a.length) : gD a k ∈ a := by
  unfold gD
  rw [List.getElem?_eq_getElem h]
  exact List.getElem_mem h
theorem gD_of {a : NL} {z : Nat} (h : z ∈ a) : ∃ k, k < a.length ∧ gD a k = z := by
  obtain ⟨k, hk, e⟩ := List.getElem_of_mem h
  refine ⟨k, hk, ?_⟩
  unfold gD
  rw [List.getElem?_eq_getElem hk]
  exact e
theorem snoc_of : ∀ (l : NL), l ≠ [] → ∃ L b, l = L ++ [b] := by
  intro l
  induction l with
  | nil => intro h; exact absurd rfl h
  | cons x r ih =>
    intro _
    by_cases q : r = []
    · subst q
      exact ⟨[], x, rfl⟩
    · obtain ⟨L, b, e⟩ := ih q
      exact ⟨x :: L, b, by rw [e]; rfl⟩
theorem split_at : ∀ (r : NL) (t : Nat), t < r.length → ∃ r1 r2, r = r1 ++ gD r t :: r2 ∧ r1.length = t := by
  intro r
  induction r with
  | nil => intro t h; exact absurd h (Nat.not_lt_zero _)
  | cons x r ih =>
    intro t h
    cases t with
    | zero => exact ⟨[], r, rfl, rfl⟩
    | succ t =>
      obtain ⟨r1, r2, e, el⟩ := ih t (by simp at h; omega)
      refine ⟨x :: r1, r2, ?_, by rw [List.length_cons, el]⟩
      show x :: r = x :: (r1 ++ gD r t :: r2)
      rw [← e]
def CS (cm0 cm : CMu) (td : Nat → Nat) (l : Nat) (a : NL) (cnt : Nat) (fs : NL) : Prop :=
  (∀ b j, (b < 377 ∨ 381 < b) → gI cm b j = gI cm0 b j) ∧ cm.2 = cm0.2 ∧ gI cm 377 4 = nI l ∧ gI cm 377 5 = nI cnt ∧ (∀ i, i < l → gI cm 378 i = nI (td i)) ∧ (∀ i, i < l → gI cm 379 i = nI (gD a i)) ∧ (0 < cnt → ∀ i, i < l → gI cm 381 i = nI (gD fs i))
theorem m1_add (x : Int32) : x + (-1) = x - 1 := (Int32.sub_eq_add_neg x 1).symm
section FC
variable {cm0 : CMu} {td : Nat → Nat} {l cnt : Nat} {fs : NL}
theorem CS_9 {cm cm' : CMu} {a a' : NL} (h : CS cm0 cm td l a cnt fs) (hI : ∀ b j, b ≠ 379 → gI cm' b j = gI cm b j) (h2 : cm'.2 = cm.2) (ha : ∀ i, i < l → gI cm' 379 i = nI (gD a' i)) : CS cm0 cm' td l a' cnt fs := by
  obtain ⟨h1, h3, h4, h5, h6, h7, h8⟩ := h
  exact ⟨fun b j hb => by rw [hI b j (by omega)]; exact h1 b j hb, by rw [h2]; exact h3, by rw [hI _ _ (by omega)]; exact h4, by rw [hI _ _ (by omega)]; exact h5, fun i hi => by rw [hI _ _ (by omega)]; exact h6 i hi, ha, fun z i hi => by rw [hI _ _ (by omega)]; exact h8 z i hi⟩
theorem c_swap {cm : CMu} {u v w : NL} {x y : Nat} (hl : l ≤ 6) (h : CS cm0 cm td l (u ++ x :: (v ++ y :: w)) cnt fs) (hlen : (u ++ x :: (v ++ y :: w)).length = l) {post : CMu → Prop} (hp : ∀ cm', CS cm0 cm' td l (u ++ y :: (v ++ x :: w)) cnt fs → post cm') : w_X8_swap post (nI u.length) (nI (u.length + 1 + v.length)) cm := by
  have hll : u.length + (v.length + (w.length + 1) + 1) = l := by
    rw [← hlen]
    simp
  have h9 := h.2.2.2.2.2.1
  have ei : gD (u ++ x :: (v ++ y :: w)) u.length = x := gD_at
  have ea : ∀ (x y : Nat), u ++ x :: (v ++ y :: w) = (u ++ x :: v) ++ y :: w := by
    intro x y
    simp
  have el : ∀ x : Nat, (u ++ x :: v).length = u.length + 1 + v.length := by
    intro x
    simp
    omega
  have ej : gD (u ++ x :: (v ++ y :: w)) (u.length + 1 + v.length) = y := by
    rw [ea, ← el x]
    exact gD_at
  unfold w_X8_swap
  rw [nI_clamp (by omega), nI_clamp (by omega), h9 _ (by omega), h9 _ (by omega), ei, ej]
  have vi : vp_in (nI u.length) 6 := vp_in_nI (by omega) (by omega)
  have vj : vp_in (nI (u.length + 1 + v.length)) 6 := vp_in_nI (by omega) (by omega)
  refine ⟨vi, vj, vi, vj, hp _ (CS_9 h (fun b j hb => by rw [gI_c hb, gI_c hb]) rfl (fun k hk => ?_))⟩
  by_cases q1 : k = u.length + 1 + v.length
  · subst q1
    rw [gI_hit, ea, ← el y, gD_at]
  · rw [gI_f q1]
    by_cases q2 : k = u.length
    · subst q2
      rw [gI_hit, gD_at]
    · rw [gI_f q2, h9 k hk]
      congr 1
      rw [ea y x, gD_ne (u := u ++ y :: v) (x := x) (y := y) (by rw [el]; exact q1), ← ea y y, gD_ne (u := u) (x := x) (y := y) q2]
theorem c_rev (hl : l ≤ 6) {post : Bool → CMu → Prop} : ∀ (f : Nat) (m P w : NL) (cm : CMu), m.length ≤ f → 1 ≤ P.length → (P ++ (m ++ w)).length = l → CS cm0 cm td l (P ++ (m ++ w)) cnt fs → (∀ cm', CS cm0 cm' td l (P ++ (m.reverse ++ w)) cnt fs → post true cm') → B_X8_goToNext_93 post (f + 1) (nI P.length) (nI (P.length + m.length) - 1) cm := by
  intro f
  induction f with
  | zero =>
    intro m P w cm hm hP hlen h hp
    have e : m = [] := List.length_eq_zero_iff.mp (by omega)
    subst e
    have hll : P.length ≤ 6 := by
      rw [List.length_append] at hlen
      omega
    unfold B_X8_goToNext_93
    refine ⟨fun _ => hp cm h, fun z => absurd ?_ z⟩
    obtain ⟨s, hs⟩ : ∃ s, P.length = s + 1 := ⟨P.length - 1, by omega⟩
    rw [hs]
    show nI (s + 1 + 0) - 1 ≤ nI (s + 1)
    rw [Nat.add_zero, nI_pred, nI_leI (by omega) (by omega)]
    omega
  | succ f ih =>
    intro m P w cm hm hP hlen h hp
    have hll : P.length + m.length + w.length = l := by
      rw [← hlen]
      simp
      omega
    obtain ⟨s, hs⟩ : ∃ s, P.length + m.length = s + 1 := ⟨P.length + m.length - 1, by omega⟩
    unfold B_X8_goToNext_93
    rw [hs, nI_pred, nI_leI (by omega) (by omega)]
    refine ⟨fun z => ?_, fun z => ?_⟩
    · have e : m.reverse = m := by
        cases m with
        | nil => rfl
        | cons x r =>
          have : r = [] := List.length_eq_zero_iff.mp (by simp at hs; omega)
          subst this
          rfl
      rw [e] at hp
      exact hp cm h
    · cases m with
      | nil => simp at hs; omega
      | cons x r =>
        have hr : r ≠ [] := by
          intro e
          subst e
          simp at hs
          omega
        obtain ⟨m', y, rfl⟩ := snoc_of r hr
        have ea : P ++ (x :: (m' ++ [y]) ++ w) = P ++ x :: (m' ++ y :: w) := by simp
        have es : s = P.length + 1 + m'.length := by
          simp at hs
          omega
        rw [ea] at h hlen
        rw [es]
        refine c_swap hl h hlen (fun cm' h' => ?_)
        have e1 : P ++ y :: (m' ++ x :: w) = (P ++ [y]) ++ (m' ++ (x :: w)) := by simp
        rw [e1] at h'
        have e2 : nI P.length + 1 = nI (P ++ [y]).length := by
          rw [nI_1]
          congr 1
          simp
        have e3 : nI (P.length + 1 + m'.length) + (-1) = nI ((P ++ [y]).length + m'.length) - 1 := by
          have : (P ++ [y]).length = P.length + 1 := by simp
          rw [m1_add, this]
        rw [e2, e3]
        refine ih m' (P ++ [y]) (x :: w) cm' (by simp at hm; omega) (by simp) ?_ h' (fun cm'' h'' => hp cm'' ?_)
        · rw [← e1]
          rw [← hlen]
          simp
        · have e4 : (P ++ [y]) ++ (m'.reverse ++ (x :: w)) = P ++ ((x :: (m' ++ [y])).reverse ++ w) := by simp
          rw [e4] at h''
          exact h''
theorem c_pick (hl : l ≤ 6) {p r : NL} {x : Nat} (hlen : (p ++ x :: r).length = l) (hz : ∀ z ∈ p ++ x :: r, 1 ≤ z ∧ z ≤ 9) (hd : r.Pairwise (fun a b => b ≤ a)) (hr : 0 < r.length) (hx : x < gD r 0) {cm : CMu} (h : CS cm0 cm td l (p ++ x :: r) cnt fs) {post : Bool → CMu → Prop} (hp : ∀ b cm', nxt (p ++ x :: r) = some b → CS cm0 cm' td l b cnt fs → b.length = l → (∀ z ∈ b, 1 ≤ z ∧ z ≤ 9) → post true cm') :
    ∀ (t : Nat), t < r.length → (∀ k, t < k → k < r.length → gD r k ≤ x) → B_X8_goToNext_47 post (t + 1) (nI p.length) (nI (p.length + 1 + t)) cm := by
  have hll : p.length + r.length + 1 = l := by
    rw [← hlen]
    simp
    omega
  have stop : ∀ t, t < r.length → (∀ k, t < k → k < r.length → gD r k ≤ x) → x < gD r t → B_X8_goToNext_75 post (nI p.length) (nI (p.length + 1 + t)) cm := by
    intro t ht hk hxt
    obtain ⟨r1, r2, er, el⟩ := split_at r t ht
    generalize hy : gD r t = y at er hxt
    have h2 : ∀ z ∈ r2, z ≤ x := by
      intro z hzm
      obtain ⟨i, hi, e⟩ := gD_of hzm
      have hlr : r.length = r1.length + (r2.length + 1) := by
        rw [er]
        simp
      have := hk (t + 1 + i) (by omega) (by omega)
      rw [er, gD_r (by omega), show t + 1 + i - r1.length = i + 1 by omega, gD_s, e] at this
      exact this
    rw [er] at h hlen hz hd hp
    have hzr : ∀ z ∈ x :: (r1 ++ y :: r2), 1 ≤ z ∧ z ≤ 9 := fun z hm => hz z (List.mem_append_right _ hm)
    have hn := nxt_app (nxt_step hd hxt h2 hzr) p
    unfold B_X8_goToNext_75
    rw [← el]
    refine c_swap hl h hlen (fun cm' h' => ?_)
    have e1 : p ++ y :: (r1 ++ x :: r2) = (p ++ [y]) ++ ((r1 ++ x :: r2) ++ []) := by simp
    have e2 : nI p.length + 1 = nI (p ++ [y]).length := by
      rw [nI_1]
      congr 1
      simp
    have e3 : nI l = nI ((p ++ [y]).length + (r1 ++ x :: r2).length) := by
      congr 1
      rw [← hlen]
      simp
      omega
    refine ⟨(r1 ++ x :: r2).length + 1, ?_⟩
    rw [h'.2.2.1, e2, e3]
    rw [e1] at h'
    refine c_rev hl _ (r1 ++ x :: r2) (p ++ [y]) [] cm' (Nat.le_refl _) (by simp) ?_ h' (fun cm'' h'' => ?_)
    · rw [← hlen]
      simp
    · have e4 : (p ++ [y]) ++ ((r1 ++ x :: r2).reverse ++ []) = p ++ y :: (r1 ++ x :: r2).reverse := by simp
      rw [e4] at h''
      refine hp _ cm'' hn h'' ?_ (fun z hm => hz z ?_)
      · rw [← hlen]
        simp
        omega
      · simp at hm ⊢
        rcases hm with e | e | e | e | e
        · exact Or.inl e
        · exact Or.inr (Or.inr (Or.inr (Or.inl e)))
        · exact Or.inr (Or.inr (Or.inr (Or.inr e)))
        · exact Or.inr (Or.inl e)
        · exact Or.inr (Or.inr (Or.inl e))
  have h9 := h.2.2.2.2.2.1
  have cell : ∀ t, t < r.length → gI cm 379 (p.length + 1 + t) = nI (gD r t) := by
    intro t ht
    rw [h9 _ (by omega), gD_r (by omega), show p.length + 1 + t - p.length = t + 1 by omega, gD_s]
  have cx : gI cm 379 p.length = nI x := by
    rw [h9 _ (by omega), gD_at]
  have hr9 : ∀ t, t < r.length → gD r t ≤ 9 := fun t ht => (hz _ (List.mem_append_right _ (List.mem_cons_of_mem _ (gD_mem ht)))).2
  have hx9 : x ≤ 9 := (hz x (by simp)).2
  intro t
  induction t with
  | zero =>
    intro ht hk
    unfold B_X8_goToNext_47
    refine ⟨fun _ => stop 0 ht hk hx, fun z => absurd ?_ z⟩
    rw [nI_1]
    exact nI_le (Nat.le_refl _) (by omega)
  | succ t ih =>
    intro ht hk
    unfold B_X8_goToNext_47
    rw [nI_1, nI_leI (by omega) (by omega), nI_clamp (by omega), nI_clamp (by omega), cell _ ht, cx, nI_ltI (by omega) (by have := hr9 _ ht; omega)]
    refine ⟨fun z => absurd z (by omega), fun _ => ⟨vp_in_nI (by omega) (by omega), vp_in_nI (by omega) (by omega), fun z => stop (t + 1) ht hk z, fun z => ?_⟩⟩
    have e : nI (p.length + 1 + (t + 1)) + (-1) = nI (p.length + 1 + t) := by rw [m1_add]; exact nI_pred _
    rw [e]
    refine ih (by omega) (fun k h1 h2 => ?_)
    by_cases q : k = t + 1
    · subst q
      omega
    · exact hk k (by omega) h2
theorem c_goN (hl : l ≤ 6) {a : NL} (hlen : a.length = l) (hz : ∀ z ∈ a, 1 ≤ z ∧ z ≤ 9) (h1 : 1 ≤ l) {cm : CMu} (h : CS cm0 cm td l a cnt fs) {post : Bool → CMu → Prop} (hp : ∀ b cm', nxt a = some b → CS cm0 cm' td l b cnt fs → b.length = l → (∀ z ∈ b, 1 ≤ z ∧ z ≤ 9) → post true cm') (h0 : nxt a = none → post false cm) : w_X8_goToNext post cm := by
  unfold w_X8_goToNext
  have h9 := h.2.2.2.2.2.1
  have key : ∀ (s : Nat) (p r : NL), p.length = s → a = p ++ r → 0 < r.length → r.Pairwise (fun a b => b ≤ a) → B_X8_goToNext_7 post (s + 1) (nI s - 1) cm := by
    intro s
    induction s with
    | zero =>
      intro p r hp0 ea hr hd
      have e : p = [] := List.length_eq_zero_iff.mp hp0
      subst e
      have e1 : nI 0 - 1 = (-1 : Int32) := by decide
      unfold B_X8_goToNext_7 B_X8_goToNext_34
      rw [e1]
      refine ⟨fun _ => ⟨fun z => absurd z (by decide), fun _ => h0 ?_⟩, fun z => absurd (by decide) z⟩
      rw [ea]
      exact nxt_down _ hd
    | succ s ih =>
      intro p r hps ea hr hd
      obtain ⟨p', x, rfl⟩ := snoc_of p (by intro e; subst e; simp at hps)
      have hp' : p'.length = s := by simp at hps; exact hps
      have ea2 : a = p' ++ x :: r := by rw [ea]; simp
      have hll : s + r.length + 1 = l := by
        rw [← hlen, ea2]
        simp
        omega
      have cx : gI cm 379 s = nI x := by
        rw [h9 _ (by omega), ea2, ← hp', gD_at]
      have c0 : gI cm 379 (s + 1) = nI (gD r 0) := by
        rw [h9 _ (by omega), ea2, gD_r (by omega), show s + 1 - p'.length = 0 + 1 by omega, gD_s]
      have hx9 : x ≤ 9 := (hz x (by rw [ea2]; simp)).2
      have hr9 : gD r 0 ≤ 9 := (hz _ (by rw [ea2]; exact List.mem_append_right _ (List.mem_cons_of_mem _ (gD_mem hr)))).2
      unfold B_X8_goToNext_7 B_X8_goToNext_34
      rw [nI_pred, nI_1, nI_clamp (by omega), nI_clamp (by omega), cx, c0, nI_ltI (by omega) (by omega)]
      refine ⟨fun z => absurd z (nI_pos (by omega)), fun _ => ⟨vp_in_nI (by omega) (by omega), vp_in_nI (by omega) (by omega), fun z => ⟨fun _ => ⟨r.length, ?_⟩, fun y => absurd (nI_pos' (by omega)) y⟩, fun z => ?_⟩⟩
      · obtain ⟨t, ht⟩ : ∃ t, r.length = t + 1 := ⟨r.length - 1, by omega⟩
        have e2 : nI l - 1 = nI (p'.length + 1 + t) := by
          rw [show l = p'.length + 1 + t + 1 by omega, nI_pred]
        rw [h.2.2.1, e2, ht, ← hp']
        rw [ea2] at h hz hlen hp
        exact c_pick hl hlen hz hd hr z h hp t (by omega) (fun k h3 h4 => absurd h4 (by omega))
      · have e3 : nI s + (-1) = nI s - 1 := m1_add _
        rw [e3]
        refine ih p' (x :: r) hp' ea2 (by simp) (List.pairwise_cons.mpr ⟨fun b hb => ?_, hd⟩)
        obtain ⟨k, hk, e⟩ := gD_of hb
        by_cases q : k = 0
        · subst q
          omega
        · obtain ⟨x0, r', rfl⟩ : ∃ x0 r', r = x0 :: r' := by
            cases r with
            | nil => exact absurd hr (Nat.lt_irrefl 0)
            | cons x0 r' => exact ⟨x0, r', rfl⟩
          have := (List.pairwise_cons.mp hd).1
          obtain ⟨k', rfl⟩ : ∃ k', k = k' + 1 := ⟨k - 1, by omega⟩
          rw [gD_s] at e
          have hm : b ∈ r' := by
            rw [← e]
            exact gD_mem (by simp at hk; omega)
          have := this b hm
          rw [gD_c] at z
          omega
  obtain ⟨p, x, ep⟩ := snoc_of a (by intro e; subst e; simp at hlen; omega)
  have hp1 : p.length + 1 = l := by
    rw [← hlen, ep]
    simp
  have e2 : nI l - 2 = nI p.length - 1 := by
    have k : ∀ s, s < 6 → nI (s + 1) - 2 = nI s - 1 := by decide
    rw [← hp1]
    exact k p.length (by omega)
  rw [h.2.2.1, e2]
  exact ⟨p.length + 1, key p.length p [x] rfl ep (by simp) (by simp)⟩
end FC
