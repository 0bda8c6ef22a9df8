/-! ===== those that enter; the reference's minute ===== -/
theorem cntP_pos {p : Nat → Bool} : ∀ {n i : Nat}, i < n → p i = true → 0 < cntP p n := by
  intro n
  induction n with
  | zero => intro i h; omega
  | succ n ih =>
    intro i h q
    unfold cntP
    by_cases e : i = n
    · subst e
      rw [if_pos q]
      omega
    · have := ih (i := i) (by omega) q
      omega
theorem nxF_some {M : MR} {s : Nat} : ∀ {c i : Nat}, nxF M s c = some i → i < c ∧ isWt M s i = true := by
  intro c
  induction c with
  | zero => intro i h; exact absurd h (by simp [nxF])
  | succ c ih =>
    intro i h
    unfold nxF at h
    cases hb : nxF M s c with
    | none =>
      rw [hb] at h
      simp only [] at h
      by_cases q : isWt M s c = true
      · rw [if_pos q] at h
        injection h with h
        subst h
        exact ⟨by omega, q⟩
      · rw [if_neg q] at h
        exact absurd h (by simp)
    | some b =>
      rw [hb] at h
      simp only [] at h
      by_cases q : isWt M s c = true ∧ M (334 + 8 * c) < M (334 + 8 * b)
      · rw [if_pos q] at h
        injection h with h
        subst h
        exact ⟨by omega, q.1⟩
      · rw [if_neg q] at h
        injection h with h
        subst h
        obtain ⟨h1, h2⟩ := ih hb
        exact ⟨by omega, h2⟩
theorem nxF_0 {M : MR} {s c : Nat} (h : cntP (isWt M s) c = 0) : nxF M s c = none := by
  cases hb : nxF M s c with
  | none => rfl
  | some i =>
    obtain ⟨h1, h2⟩ := nxF_some hb
    have := cntP_pos h1 h2
    omega
theorem mul_bd {a b : Int} (h1 : 1 ≤ a) (h2 : a ≤ 20) (h3 : 2 ≤ b) (h4 : b ≤ 18) : 2 ≤ a * b ∧ a * b ≤ 360 := by
  constructor
  · have := Int.mul_le_mul h1 h3 (by omega) (by omega)
    omega
  · have := Int.mul_le_mul h2 h4 (by omega) (by omega)
    omega
theorem gt_ti {a b w : Int32} (h1 : 1 ≤ a.toInt) (h2 : a.toInt ≤ 20) (h3 : 1 ≤ b.toInt) (h4 : b.toInt ≤ 9) (h5 : 1 ≤ w.toInt) (h6 : w.toInt ≤ 9) : (a * ((b + 10) - w)).toInt = a.toInt * (b.toInt + 10 - w.toInt) ∧ 2 ≤ a.toInt * (b.toInt + 10 - w.toInt) ∧ a.toInt * (b.toInt + 10 - w.toInt) ≤ 360 := by
  have e10 : (10 : Int32).toInt = 10 := rfl
  have s1 : (b + 10).toInt = b.toInt + 10 := by rw [ti_add (by rw [e10]; omega), e10]
  have s2 : ((b + 10) - w).toInt = b.toInt + 10 - w.toInt := by rw [ti_sub (by rw [s1]; omega), s1]
  have m := mul_bd (a := a.toInt) (b := b.toInt + 10 - w.toInt) h1 h2 (by omega) (by omega)
  exact ⟨by rw [ti_mul (by rw [s2]; omega), s2], m⟩
section EN
variable {M : MR} {T : Nat → Pg} {n c o K : Nat}
theorem en0_o {r i x : Nat} (h : ¬ (330 + 8 * i ≤ x ∧ x < 337 + 8 * i)) : en0 M r i x = M x := by
  unfold en0
  rw [pk_un (by omega), pk_un (by omega), pk_un (by omega)]
theorem en0_i {r i : Nat} : en0 M r i (330 + 8 * i) = 1 ∧ en0 M r i (331 + 8 * i) = M (331 + 8 * i) ∧ en0 M r i (332 + 8 * i) = gtM M r i ∧ en0 M r i (333 + 8 * i) = M (333 + 8 * i) ∧ en0 M r i (334 + 8 * i) = M 4 ∧ en0 M r i (335 + 8 * i) = M (335 + 8 * i) ∧ en0 M r i (336 + 8 * i) = M (336 + 8 * i) := by
  unfold en0
  refine ⟨?_, ?_, ?_, ?_, ?_, ?_, ?_⟩
  · rw [pk_un (by omega), pk_un (by omega)]; exact if_pos rfl
  · rw [pk_un (by omega), pk_un (by omega), pk_un (by omega)]
  · exact if_pos rfl
  · rw [pk_un (by omega), pk_un (by omega), pk_un (by omega)]
  · rw [pk_un (by omega)]; exact if_pos rfl
  · rw [pk_un (by omega), pk_un (by omega), pk_un (by omega)]
  · rw [pk_un (by omega), pk_un (by omega), pk_un (by omega)]
/-- what one that enters is -/
theorem enM_i {r i : Nat} : ∃ s : Int32, (s = 1 ∨ s = 2) ∧ enM M r i (330 + 8 * i) = s ∧ enM M r i (331 + 8 * i) = M (331 + 8 * i) ∧ enM M r i (332 + 8 * i) = gtM M r i ∧ enM M r i (333 + 8 * i) = M (333 + 8 * i) ∧ enM M r i (336 + 8 * i) = M (336 + 8 * i) ∧ ∀ x, x ≠ 8 → ¬ (330 + 8 * i ≤ x ∧ x < 337 + 8 * i) → enM M r i x = M x := by
  obtain ⟨a0, a1, a2, a3, a4, a5, a6⟩ := @en0_i M r i
  unfold enM
  by_cases q : M (11 + 3 * r) ≤ 0
  · rw [if_pos q]
    exact ⟨1, Or.inl rfl, a0, a1, a2, a3, a6, fun x _ hx => en0_o hx⟩
  · rw [if_neg q]
    by_cases q2 : M (11 + 3 * r) ≤ dr (sdN (M 8))
    · rw [if_pos q2]
      refine ⟨1, Or.inl rfl, ?_, ?_, ?_, ?_, ?_, fun x h8 hx => by rw [pk_un h8]; exact en0_o hx⟩
      · rw [pk_un (by omega), a0]
      · rw [pk_un (by omega), a1]
      · rw [pk_un (by omega), a2]
      · rw [pk_un (by omega), a3]
      · rw [pk_un (by omega), a6]
    · rw [if_neg q2]
      refine ⟨2, Or.inr rfl, if_pos rfl, ?_, ?_, ?_, ?_, fun x h8 hx => by rw [pk_un (by omega), pk_un h8]; exact en0_o hx⟩
      · rw [pk_un (by omega), pk_un (by omega), a1]
      · rw [pk_un (by omega), pk_un (by omega), a2]
      · rw [pk_un (by omega), pk_un (by omega), a3]
      · rw [pk_un (by omega), pk_un (by omega), a6]
theorem mid_en (h : Mid M T n c o K (fun _ => True)) {r i : Nat} (hi : i < c) (hw : isWt M r i = true) (hr : r ≤ n) : Mid (enM M r i) T n c o K (fun _ => True) ∧ cntP (isWt (enM M r i) r) c + 1 = cntP (isWt M r) c := by
  have hn : n ≤ 11 := h.1.2.1
  have hw2 := of_decide_eq_true hw
  obtain ⟨p, a1, a2, a3, a4, a5, a6⟩ := (h.2.2.1 i hi).1
  have ep : p = r := by
    rw [hw2.2, nI_eq (by omega) (by omega)] at a1
    exact a1.symm
  subst ep
  obtain ⟨s, hs, b0, b1, b2, b3, b6, bo⟩ := @enM_i M p i
  obtain ⟨r1, r2, _⟩ := h.2.1 p hr
  have g := gt_ti r1 r2 a3 a4 h.1.2.2.2.2.2.2.2.1 h.1.2.2.2.2.2.2.2.2.1
  have hgt : 1 ≤ (gtM M p i).toInt := by
    unfold gtM
    rw [g.1]
    omega
  have nC : ChO (enM M p i) n i := by
    refine ⟨p, by rw [b1, hw2.2], a2, by rw [b3]; exact a3, by rw [b3]; exact a4, ?_, by rw [b6]; exact a6⟩
    rcases hs with rfl | rfl
    · exact Or.inr (Or.inl ⟨b0, hr, by rw [b2]; exact hgt⟩)
    · exact Or.inr (Or.inr (Or.inl ⟨b0, hr, by rw [b2]; exact hgt⟩))
  refine ⟨Mid_chip (i := i) h hi (fun x h8 hx => bo x h8 hx) (ChO_G nC) (fun _ => nC) ?_ (fun _ _ z => z), ?_⟩
  · unfold isOut
    rw [b0, hw2.1]
    rcases hs with rfl | rfl <;> decide
  · have := cntP_set (p := isWt M p) (q := isWt (enM M p i) p) hi (fun j hj => by
      unfold isWt
      rw [bo _ (by omega) (by omega), bo _ (by omega) (by omega)])
    have y1 : isWt (enM M p i) p i = false := by
      unfold isWt
      rw [b0]
      refine decide_eq_false (fun z => ?_)
      rcases hs with rfl | rfl
      · exact absurd z.1 (by decide)
      · exact absurd z.1 (by decide)
    rw [hw, y1, if_pos rfl, if_neg (by decide)] at this
    omega
theorem ensM_none {r f : Nat} (h : nxF M r c = none) : ensM c r f M = M := by
  cases f with
  | zero => rfl
  | succ f =>
    unfold ensM
    rw [h]
theorem ensM_full {r f i : Nat} (h : nxF M r c = some i) (hr : roomM M c r = false) : ensM c r f M = M := by
  cases f with
  | zero => rfl
  | succ f =>
    unfold ensM
    rw [h]
    simp only [hr, Bool.false_eq_true, if_false]
theorem ensM_step {r f i : Nat} (h : nxF M r c = some i) (hr : roomM M c r = true) : ensM c r (f + 1) M = ensM c r f (enM M r i) := by
  conv => lhs; unfold ensM
  rw [h]
  simp only [hr, if_true]
theorem mid_ens {r : Nat} (hr : r ≤ n) : ∀ (f : Nat) (M : MR), Mid M T n c o K (fun _ => True) → Mid (ensM c r f M) T n c o K (fun _ => True) := by
  intro f
  induction f with
  | zero => intro M h; exact h
  | succ f ih =>
    intro M h
    cases hb : nxF M r c with
    | none => rw [ensM_none hb]; exact h
    | some i =>
      obtain ⟨h1, h2⟩ := nxF_some hb
      cases hq : roomM M c r with
      | false => rw [ensM_full hb hq]; exact h
      | true =>
        rw [ensM_step hb hq]
        exact ih _ (mid_en h h1 h2 hr).1
theorem mid_ent : ∀ (r : Nat) (M : MR), r ≤ n + 1 → Mid M T n c o K (fun _ => True) → Mid (entF r M) T n c o K (fun _ => True) := by
  intro r
  induction r with
  | zero => intro M _ h; exact h
  | succ r ih =>
    intro M hr h
    show Mid (entF r (ensM (M 2).toNatClampNeg r 60 M)) T n c o K _
    rw [h.1.2.2.1, nI_clamp (by have := h.1.2.2.2.1; omega)]
    exact ih _ (by omega) (mid_ens (by omega) 60 M h)
/-- the chips come, one by one -/
theorem mid_com : ∀ (j : Nat) (M : MR), Mid M T n c o K (fun _ => False) → j ≤ c → ∃ c' o', c ≤ c' ∧ Mid (comF T n j M) T n c' o' K (fun x => x < j ∨ c ≤ x) := by
  intro j
  induction j with
  | zero => intro M h _; exact ⟨c, o, Nat.le_refl _, Mid_mono h (fun x hx z => by omega)⟩
  | succ j ih =>
    intro M h hj
    obtain ⟨c1, o1, h1, h2⟩ := ih M h (by omega)
    have e : comF T n (j + 1) M = if comF T n j M (330 + 8 * j) = 1 ∧ comF T n j M (332 + 8 * j) = 0 then coM (T j) (comF T n j M) n j (comF T n j M (331 + 8 * j)).toNatClampNeg else comF T n j M := rfl
    rw [e]
    by_cases q : comF T n j M (330 + 8 * j) = 1 ∧ comF T n j M (332 + 8 * j) = 0
    · rw [if_pos q]
      obtain ⟨p, a1, a2, a3, a4, a5, a6⟩ := (h2.2.2.1 j (by omega)).1
      have hpn : p ≤ n := by
        rcases a5 with ⟨a5, a7⟩ | ⟨a5, a7, _⟩ | ⟨a5, a7, _⟩ | ⟨a5, a7⟩ | ⟨a5, a7⟩
        · exact a7
        · exact a7
        · exact a7
        · exact a7
        · rw [q.1] at a5
          exact absurd a5 (by decide)
      rw [a1, nI_clamp (by omega)]
      obtain ⟨c2, o2, h3, h4⟩ := mid_co h2 (i := j) (p := p) (by omega) q.1 a1 hpn
      refine ⟨c2, o2, by omega, Mid_mono h4 (fun x hx z => ?_)⟩
      by_cases ex : x = j
      · exact Or.inr (Or.inl ex)
      · rcases z with z | z
        · exact Or.inl (Or.inl (by omega))
        · exact Or.inl (Or.inr z)
    · rw [if_neg q]
      refine ⟨c1, o1, h1, ?_⟩
      obtain ⟨g1, g2, g3, g4⟩ := h2
      refine ⟨g1, g2, fun x hx => ⟨(g3 x hx).1, fun z => ?_⟩, g4⟩
      by_cases ex : x = j
      · subst ex
        exact ChG_O (g3 x hx).1 q
      · refine (g3 x hx).2 ?_
        rcases z with z | z
        · exact Or.inl (by omega)
        · exact Or.inr z
theorem mid_clock (h : Mid M T n c o K (fun _ => True)) (hK : K < 2 ^ 31 - 10) : Mid (upd M 4 (M 4 + 1)) T n c o (K + 1) (fun _ => True) := by
  have e : ∀ x, x ≠ 4 → upd M 4 (M 4 + 1) x = M x := fun x hx => pk_un hx
  obtain ⟨h1, h2, h3, h4, h5, h6, h7⟩ := h
  refine ⟨?_, DR_cong h2 (fun x a b => e x (by omega)), fun j hj => ?_, DO_cong h4 (e 9 (by omega)) (fun x a b => e x (by omega)), DV_cong h5 (fun x a b => e x (by omega)), fun j hj => ⟨TxO_cong (h6 j hj).1 (e _ (by omega)) (fun x hx => e x (by omega)), (h6 j hj).2⟩, h7⟩
  · obtain ⟨g1, g2, g3, g4, g5, g6, g7, g8, g9, k, g10, g11⟩ := h1
    refine ⟨by rw [e 1 (by omega), g1], g2, by rw [e 2 (by omega), g3], g4, by rw [e 3 (by omega), g5], ?_, by rw [e 0 (by omega)]; exact g7, by rw [e 5 (by omega)]; exact g8, by rw [e 5 (by omega)]; exact g9, k + 1, ?_, by omega⟩
    · rw [g6]
      refine cntP_cong (fun j _ => ?_)
      unfold isOut
      rw [e _ (by omega)]
    · rw [g10, nI_1]
      exact if_pos rfl
  · have ew : ∀ w, w < 8 → upd M 4 (M 4 + 1) (330 + 8 * j + w) = M (330 + 8 * j + w) := fun w hw => e _ (by omega)
    exact ⟨ChG_cong (h3 j hj).1 ew, fun z => ChO_cong ((h3 j hj).2 z) ew⟩
theorem mid_min (h : Mid M T n c o K (fun _ => True)) (hK : K < 2 ^ 31 - 10) : ∃ c' o', c ≤ c' ∧ Mid (minM T M) T n c' o' (K + 1) (fun _ => True) := by
  unfold minM
  by_cases q : frostM M = true
  · rw [if_pos q]
    exact ⟨c, o, Nat.le_refl _, mid_clock h hK⟩
  · rw [if_neg q]
    have hn : n ≤ 11 := h.1.2.1
    have hc : c ≤ 60 := h.1.2.2.2.1
    rw [h.1.1, h.1.2.2.1, nI_clamp (by omega), nI_clamp (by omega)]
    obtain ⟨c', o', h1, h2⟩ := mid_com c _ (Mid_mono (mid_dec h c (Nat.le_refl _)).1 (fun _ _ z => z.elim)) (Nat.le_refl _)
    have h3 := mid_ent (n + 1) _ (Nat.le_refl _) (Mid_mono h2 (Z' := fun _ => True) (fun x hx _ => by omega))
    exact ⟨c', o', h1, mid_clock h3 hK⟩
end EN
def oI : Option Nat → Int32
  | none => -1
  | some i => nI i
section RM
variable {mm : MM} {T : Nat → Pg} {n c o K : Nat}
theorem r_inReach {post : Int32 → MM → Prop} {r : Nat} (h2 : mm 1 2 = nI c) (hc : c ≤ 60) (h : post (nI (inR (mm 1) c r)) mm) : w_X13_inReach post (nI r) mm := by
  unfold w_X13_inReach
  have key : ∀ (f j : Nat), j + f = c → B_X13_inReach_4 post (f + 1) (nI r) (nI (cntP (isIn (mm 1) r) j)) (nI j) mm := by
    intro f
    induction f with
    | zero =>
      intro j hj
      have e : j = c := by omega
      subst e
      unfold B_X13_inReach_4
      rw [cl_2, h2]
      exact ⟨fun _ => h, fun q => absurd (nI_le (Nat.le_refl _) (by omega)) q⟩
    | succ f ih =>
      intro j hj
      unfold B_X13_inReach_4
      rw [cl_2, h2]
      refine ⟨fun q => absurd q (nI_ge (by omega) (by omega)), fun _ => ?_⟩
      have st : ∀ b : Bool, isIn (mm 1) r j = b → B_X13_inReach_4 post (f + 1) (nI r) (nI (cntP (isIn (mm 1) r) j) + b2 b) (nI j + 1) mm := by
        intro b hb
        have e : nI (cntP (isIn (mm 1) r) j) + b2 b = nI (cntP (isIn (mm 1) r) (j + 1)) := by
          show _ = nI (cntP (isIn (mm 1) r) j + (if isIn (mm 1) r j = true then 1 else 0))
          rw [hb]
          cases b
          · show nI _ + 0 = _
            rw [fa_lit 0, nI_add]
            rfl
          · show nI _ + 1 = _
            rw [nI_1]
            rfl
        rw [e, nI_1]
        exact ih (j + 1) (by omega)
      have s35 : (mm 1 (330 + 8 * j) = 1 ∨ mm 1 (330 + 8 * j) = 2) → B_X13_inReach_35 post (B_X13_inReach_4 post (f + 1)) (nI r) (nI j) (nI (cntP (isIn (mm 1) r) j)) mm := by
        intro hs
        unfold B_X13_inReach_35
        refine r_chipOf (w := 1) rfl (by omega) (by omega) ⟨fun q => ?_, fun q => ?_⟩
        · unfold B_X13_inReach_49 B_X13_inReach_50
          exact st false (decide_eq_false (fun z => q (by rw [← z.2]; congr 1; omega)))
        · unfold B_X13_inReach_50
          exact st true (decide_eq_true ⟨hs, by rw [← q]; congr 1; omega⟩)
      refine r_chipOf (w := 0) rfl (by omega) (by omega) ⟨fun q => s35 (Or.inl q), fun q => ?_⟩
      refine r_chipOf (w := 0) rfl (by omega) (by omega) ⟨fun q2 => ?_, fun q2 => s35 (Or.inr q2)⟩
      unfold B_X13_inReach_49 B_X13_inReach_50
      exact st false (decide_eq_false (fun z => z.1.elim (fun y => q y) (fun y => q2 y)))
  exact ⟨c + 1, key c 0 (by omega)⟩
theorem r_nextAt {post : Int32 → MM → Prop} {s : Nat} (h2 : mm 1 2 = nI c) (hc : c ≤ 60) (h : post (oI (nxF (mm 1) s c)) mm) : w_X13_nextAt post (nI s) mm := by
  unfold w_X13_nextAt
  have key : ∀ (f j : Nat), j + f = c → B_X13_nextAt_4 post (f + 1) (nI s) (oI (nxF (mm 1) s j)) (nI j) mm := by
    intro f
    induction f with
    | zero =>
      intro j hj
      have e : j = c := by omega
      subst e
      unfold B_X13_nextAt_4
      rw [cl_2, h2]
      exact ⟨fun _ => h, fun q => absurd (nI_le (Nat.le_refl _) (by omega)) q⟩
    | succ f ih =>
      intro j hj
      unfold B_X13_nextAt_4
      rw [cl_2, h2]
      refine ⟨fun q => absurd q (nI_ge (by omega) (by omega)), fun _ => ?_⟩
      have nx : ∀ x : Option Nat, nxF (mm 1) s (j + 1) = x → B_X13_nextAt_4 post (f + 1) (nI s) (oI x) (nI j + 1) mm := by
        intro x hx
        rw [← hx, nI_1]
        exact ih (j + 1) (by omega)
      have same : ¬ isWt (mm 1) s j = true → B_X13_nextAt_58 post (B_X13_nextAt_4 post (f + 1)) (nI s) (oI (nxF (mm 1) s j)) (nI j) mm := by
        intro hw
        unfold B_X13_nextAt_58
        refine nx _ ?_
        conv => lhs; unfold nxF
        cases hb : nxF (mm 1) s j with
        | none =>
          simp only []
          rw [if_neg hw]
        | some b =>
          simp only []
          rw [if_neg (fun z => hw z.1)]
      refine r_chipOf (w := 0) rfl (by omega) (by omega) ⟨fun q => same (fun z => q (of_decide_eq_true z).1), fun q => ?_⟩
      refine r_chipOf (w := 1) rfl (by omega) (by omega) ⟨fun q2 => ?_, fun q2 => same (fun z => q2 (by rw [← (of_decide_eq_true z).2]; congr 1; omega))⟩
      have hw : isWt (mm 1) s j = true := decide_eq_true ⟨q, by rw [← q2]; congr 1; omega⟩
      have s56 : nxF (mm 1) s (j + 1) = some j → B_X13_nextAt_56 post (B_X13_nextAt_4 post (f + 1)) (nI s) (nI j) mm := by
        intro hx
        unfold B_X13_nextAt_56 B_X13_nextAt_58
        exact nx (some j) hx
      cases hb : nxF (mm 1) s j with
      | none =>
        refine ⟨fun _ => s56 ?_, fun z => absurd rfl z⟩
        conv => lhs; unfold nxF
        rw [hb]
        simp only []
        rw [if_pos hw]
      | some b =>
        have hb2 := (nxF_some hb).1
        refine ⟨fun z => absurd z (nI_m1 (by omega)), fun _ => ?_⟩
        show w_X13_chipOf _ (nI j) 4 mm
        refine r_chipOf (w := 4) rfl (by omega) (by omega) ?_
        show w_X13_chipOf _ (nI b) 4 mm
        refine r_chipOf (w := 4) rfl (by omega) (by omega) ⟨fun q3 => ?_, fun q3 => s56 ?_⟩
        · unfold B_X13_nextAt_58
          refine nx (some b) ?_
          conv => lhs; unfold nxF
          rw [hb]
          simp only []
          have hz : ¬ (isWt (mm 1) s j = true ∧ mm 1 (334 + 8 * j) < mm 1 (334 + 8 * b)) := by
            intro z
            have z2 := z.2
            have f1 : 330 + 8 * b + 4 = 334 + 8 * b := by omega
            have f2 : 330 + 8 * j + 4 = 334 + 8 * j := by omega
            rw [f1, f2, fa_le] at q3
            rw [fa_lt] at z2
            omega
          rw [if_neg hz]
        · conv => lhs; unfold nxF
          rw [hb]
          simp only []
          have hz : mm 1 (334 + 8 * j) < mm 1 (334 + 8 * b) := by
            have f1 : 330 + 8 * b + 4 = 334 + 8 * b := by omega
            have f2 : 330 + 8 * j + 4 = 334 + 8 * j := by omega
            rw [f1, f2, fa_le] at q3
            rw [fa_lt]
            omega
          rw [if_pos ⟨hw, hz⟩]
  exact ⟨c + 1, key c 0 (by omega)⟩
theorem r_enter1 {post : MM → Prop} {k6 : Int32 → Int32 → MM → Prop} {r i : Nat} (hr : r ≤ 11) (hi : i < 60) (h : B_X13_enters_143 post k6 (nI r) (s1 mm (enM (mm 1) r i))) : B_X13_enters_34 post k6 (nI r) (nI i) mm := by
  unfold B_X13_enters_34
  refine r_sets (w := 0) rfl (by omega) (by omega) ?_
  rw [cl_4, s1_1]
  refine r_sets (w := 4) rfl (by omega) (by omega) ?_
  rw [s1_s1, s1_1]
  refine r_reachOf (w := 0) rfl (by omega) (by omega) ?_
  refine r_chipOf (w := 3) rfl (by omega) (by omega) ?_
  unfold w_X13_timeOf
  rw [cl_5]
  refine r_sets (w := 2) rfl (by omega) (by omega) ?_
  rw [s1_s1, s1_1]
  have e0 : upd (upd (upd (mm 1) (330 + 8 * i + 0) 1) (330 + 8 * i + 4) (upd (mm 1) (330 + 8 * i + 0) 1 4)) (330 + 8 * i + 2) ((upd (upd (mm 1) (330 + 8 * i + 0) 1) (330 + 8 * i + 4) (upd (mm 1) (330 + 8 * i + 0) 1 4) (10 + 3 * r + 0)) * (((upd (upd (mm 1) (330 + 8 * i + 0) 1) (330 + 8 * i + 4) (upd (mm 1) (330 + 8 * i + 0) 1 4) (330 + 8 * i + 3)) + 10) - (upd (upd (mm 1) (330 + 8 * i + 0) 1) (330 + 8 * i + 4) (upd (mm 1) (330 + 8 * i + 0) 1 4) 5))) = en0 (mm 1) r i := by
    have a1 : upd (mm 1) (330 + 8 * i + 0) 1 4 = mm 1 4 := pk_un (by omega)
    rw [a1, pk_un (show 10 + 3 * r + 0 ≠ _ by omega), pk_un (show 10 + 3 * r + 0 ≠ _ by omega), pk_un (show 330 + 8 * i + 3 ≠ 330 + 8 * i + 4 by omega), pk_un (show 330 + 8 * i + 3 ≠ 330 + 8 * i + 0 by omega), pk_un (show 5 ≠ 330 + 8 * i + 4 by omega), pk_un (show 5 ≠ 330 + 8 * i + 0 by omega)]
    unfold en0 gtM
    rw [show 330 + 8 * i + 0 = 330 + 8 * i by omega, show 330 + 8 * i + 4 = 334 + 8 * i by omega, show 330 + 8 * i + 2 = 332 + 8 * i by omega, show 10 + 3 * r + 0 = 10 + 3 * r by omega, show 330 + 8 * i + 3 = 333 + 8 * i by omega]
  rw [e0]
  have e11 : en0 (mm 1) r i (10 + 3 * r + 1) = mm 1 (11 + 3 * r) := by
    rw [en0_o (by omega)]
    congr 1
    omega
  have e8 : en0 (mm 1) r i 8 = mm 1 8 := en0_o (by omega)
  refine r_reachOf (w := 1) rfl (by omega) (by omega) ?_
  rw [s1_1, e11]
  unfold enM at h
  refine ⟨fun q => ?_, fun q => ?_⟩
  · rw [if_pos q] at h
    exact h
  · rw [if_neg q] at h
    rw [cl_8, up2_1, s1_1, s1_s1, e8]
    have es : (1103515245 : Int32) * mm 1 8 + 12345 = sdN (mm 1 8) := rfl
    rw [es]
    refine r_reachOf (w := 1) rfl (by omega) (by omega) ?_
    have e8b : upd (en0 (mm 1) r i) 8 (sdN (mm 1 8)) 8 = sdN (mm 1 8) := by
      unfold upd
      rw [if_pos rfl]
    have e11b : upd (en0 (mm 1) r i) 8 (sdN (mm 1 8)) (10 + 3 * r + 1) = mm 1 (11 + 3 * r) := by
      rw [pk_un (by omega), e11]
    simp only [s1_1]
    rw [e8b, e11b]
    refine ⟨fun q2 => ?_, fun q2 => ?_⟩
    · have q3 : mm 1 (11 + 3 * r) ≤ dr (sdN (mm 1 8)) := q2
      rw [if_pos q3] at h
      exact h
    · have q3 : ¬ mm 1 (11 + 3 * r) ≤ dr (sdN (mm 1 8)) := q2
      rw [if_neg q3] at h
      refine r_sets (w := 0) rfl (by omega) (by omega) ?_
      rw [s1_s1, s1_1]
      exact h
theorem r_enters {post : MM → Prop} {r : Nat} (hr : r ≤ n) (hM : Mid (mm 1) T n c o K (fun _ => True)) (h : post (s1 mm (ensM c r 60 (mm 1)))) : w_X13_enters post (nI r) mm := by
  have hn : n ≤ 11 := hM.1.2.1
  have hc : c ≤ 60 := hM.1.2.2.2.1
  have key : ∀ (f : Nat) (M : MR), Mid M T n c o K (fun _ => True) → cntP (isWt M r) c ≤ f → post (s1 mm (ensM c r f M)) → B_X13_enters_6 post (f + 1) (nI r) (oI (nxF M r c)) (s1 mm M) := by
    intro f
    induction f with
    | zero =>
      intro M hM hf hp
      unfold B_X13_enters_6 B_X13_enters_152
      have hb := nxF_0 (M := M) (s := r) (c := c) (by omega)
      rw [hb]
      exact ⟨fun _ => hp, fun z => absurd rfl z⟩
    | succ f ih =>
      intro M hM hf hp
      cases hb : nxF M r c with
      | none =>
        rw [ensM_none hb] at hp
        unfold B_X13_enters_6 B_X13_enters_152
        exact ⟨fun _ => hp, fun z => absurd rfl z⟩
      | some i =>
        obtain ⟨h1, h2⟩ := nxF_some hb
        unfold B_X13_enters_6 B_X13_enters_152
        refine ⟨fun z => absurd z (nI_m1 (by omega)), fun _ => r_reachOf (w := 2) rfl (by omega) (by omega) ?_⟩
        have e12 : s1 mm M 1 (10 + 3 * r + 2) = M (12 + 3 * r) := by
          rw [s1_1]
          congr 1
          omega
        rw [e12]
        have go : roomM M c r = true → B_X13_enters_34 post (B_X13_enters_6 post (f + 1)) (nI r) (oI (some i)) (s1 mm M) := by
          intro hroom
          rw [ensM_step hb hroom] at hp
          refine r_enter1 (mm := s1 mm M) (by omega) (by omega) ?_
          rw [s1_s1, s1_1]
          obtain ⟨m1, m2⟩ := mid_en hM h1 h2 hr
          unfold B_X13_enters_143
          refine r_nextAt (c := c) ?_ hc ?_
          · rw [s1_1]
            exact m1.1.2.2.1
          · rw [s1_1]
            exact ih _ m1 (by omega) hp
        refine ⟨fun q => go (decide_eq_true (Or.inl q)), fun q => ?_⟩
        refine r_inReach (c := c) (by rw [s1_1]; exact hM.1.2.2.1) hc ?_
        refine r_reachOf (w := 2) rfl (by omega) (by omega) ?_
        rw [e12, s1_1]
        refine ⟨fun q2 => ?_, fun q2 => go (decide_eq_true (Or.inr ?_))⟩
        · have hroom : roomM M c r = false := by
            refine decide_eq_false (fun z => ?_)
            rcases z with z | z
            · exact q z
            · rw [fa_lt] at z
              rw [fa_le] at q2
              omega
          rw [ensM_full hb hroom] at hp
          exact hp
        · rw [fa_lt]
          rw [fa_le] at q2
          omega
  unfold w_X13_enters
  refine r_nextAt (c := c) hM.1.2.2.1 hc ⟨61, ?_⟩
  have := key 60 (mm 1) hM (by have := cntP_le (isWt (mm 1) r) c; omega) h
  rw [s1_id] at this
  exact this
end RM
