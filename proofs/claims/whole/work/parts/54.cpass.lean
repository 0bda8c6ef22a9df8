/-! ===== what waits is held; minutes that are passed over ===== -/
def Hld (M : MR) (c r : Nat) : Prop := nxF M r c = none ∨ roomM M c r = false
theorem nxF_cong {M M' : MR} {s : Nat} : ∀ {c : Nat}, (∀ j, j < c → isWt M' s j = isWt M s j ∧ (isWt M s j = true → M' (334 + 8 * j) = M (334 + 8 * j))) → nxF M' s c = nxF M s c := by
  intro c
  induction c with
  | zero => intro _; rfl
  | succ c ih =>
    intro h
    have e := ih (fun j hj => h j (by omega))
    unfold nxF
    rw [e]
    cases hb : nxF M s c with
    | none =>
      simp only []
      rw [(h c (by omega)).1]
    | some b =>
      simp only []
      obtain ⟨b1, b2⟩ := nxF_some hb
      rw [(h b (by omega)).2 b2, (h c (by omega)).1]
      by_cases q : isWt M s c = true
      · rw [(h c (by omega)).2 q]
      · rw [if_neg (fun z => q z.1), if_neg (fun z => q z.1)]
theorem roomM_cong {M M' : MR} {c r : Nat} (e : M' (12 + 3 * r) = M (12 + 3 * r)) (h : inR M' c r = inR M c r) : roomM M' c r = roomM M c r := by
  unfold roomM
  rw [e, h]
section HE
variable {M : MR} {T : Nat → Pg} {n c o K : Nat}
theorem en_other {r r' i : Nat} (hr : r ≤ 11) (hr' : r' ≤ 11) (hne : r ≠ r') (hi : isWt M r' i = true) : nxF (enM M r' i) r c = nxF M r c ∧ roomM (enM M r' i) c r = roomM M c r := by
  obtain ⟨s, hs, b0, b1, b2, b3, b6, bo⟩ := @enM_i M r' i
  have hw := of_decide_eq_true hi
  have hnr : ¬ nI r' = nI r := fun e => hne (nI_inj e (by omega) (by omega)).symm
  constructor
  · refine nxF_cong (fun j hj => ?_)
    by_cases q : j = i
    · subst q
      have w0 : isWt M r j = false := decide_eq_false (fun z => hnr (by rw [← hw.2, z.2]))
      have w1 : isWt (enM M r' j) r j = false := by
        unfold isWt
        rw [b1]
        exact decide_eq_false (fun z => hnr (by rw [← hw.2, z.2]))
      rw [w0, w1]
      exact ⟨rfl, fun z => absurd z (by decide)⟩
    · have ej : ∀ w, w < 8 → enM M r' i (330 + 8 * j + w) = M (330 + 8 * j + w) := fun w hw => bo _ (by omega) (by omega)
      have e0 := ej 0 (by omega)
      have e1 := ej 1 (by omega)
      have e4 := ej 4 (by omega)
      rw [show 330 + 8 * j + 0 = 330 + 8 * j by omega] at e0
      rw [show 330 + 8 * j + 1 = 331 + 8 * j by omega] at e1
      rw [show 330 + 8 * j + 4 = 334 + 8 * j by omega] at e4
      unfold isWt
      rw [e0, e1, e4]
      exact ⟨rfl, fun _ => rfl⟩
  · refine roomM_cong (bo _ (by omega) (by omega)) ?_
    refine cntP_cong (fun j hj => ?_)
    by_cases q : j = i
    · subst q
      unfold isIn
      rw [b1]
      rw [decide_eq_false (fun z => hnr (by rw [← hw.2, z.2])), decide_eq_false (fun z => hnr (by rw [← hw.2, z.2]))]
    · unfold isIn
      rw [bo _ (by omega) (by omega), bo _ (by omega) (by omega)]
theorem ens_other {r r' : Nat} (hr : r ≤ 11) (hr' : r' ≤ 11) (hne : r ≠ r') : ∀ (f : Nat) (M : MR), nxF (ensM c r' f M) r c = nxF M r c ∧ roomM (ensM c r' f M) c r = roomM M c r := by
  intro f
  induction f with
  | zero => intro M; exact ⟨rfl, rfl⟩
  | succ f ih =>
    intro M
    cases hb : nxF M r' c with
    | none => rw [ensM_none hb]; exact ⟨rfl, rfl⟩
    | some i =>
      cases hq : roomM M c r' with
      | false => rw [ensM_full hb hq]; exact ⟨rfl, rfl⟩
      | true =>
        rw [ensM_step hb hq]
        obtain ⟨a1, a2⟩ := ih (enM M r' i)
        obtain ⟨b1, b2⟩ := en_other (M := M) (c := c) hr hr' hne (nxF_some hb).2
        exact ⟨by rw [a1, b1], by rw [a2, b2]⟩
theorem ens_held {r : Nat} (hr : r ≤ n) : ∀ (f : Nat) (M : MR), Mid M T n c o K (fun _ => True) → cntP (isWt M r) c ≤ f → Hld (ensM c r f M) c r := by
  intro f
  induction f with
  | zero =>
    intro M _ h
    show Hld M c r
    exact Or.inl (nxF_0 (by omega))
  | succ f ih =>
    intro M hM h
    cases hb : nxF M r c with
    | none => rw [ensM_none hb]; exact Or.inl hb
    | some i =>
      cases hq : roomM M c r with
      | false => rw [ensM_full hb hq]; exact Or.inr hq
      | true =>
        rw [ensM_step hb hq]
        obtain ⟨m1, m2⟩ := mid_en hM (nxF_some hb).1 (nxF_some hb).2 hr
        exact ih _ m1 (by omega)
theorem ent_held : ∀ (r : Nat) (M : MR), Mid M T n c o K (fun _ => True) → r ≤ n + 1 → (∀ q, r ≤ q → q ≤ n → Hld M c q) → ∀ q, q ≤ n → Hld (entF r M) c q := by
  intro r
  induction r with
  | zero => intro M _ _ h q hq; exact h q (Nat.zero_le _) hq
  | succ r ih =>
    intro M hM hr h
    have hn : n ≤ 11 := hM.1.2.1
    have e : entF (r + 1) M = entF r (ensM c r 60 M) := by
      show entF r (ensM (M 2).toNatClampNeg r 60 M) = _
      rw [hM.1.2.2.1, nI_clamp (by have := hM.1.2.2.2.1; omega)]
    rw [e]
    refine ih _ (mid_ens (by omega) 60 M hM) (by omega) (fun q h1 h2 => ?_)
    by_cases eq : q = r
    · subst eq
      exact ens_held (by omega) 60 M hM (by have := cntP_le (isWt M q) c; have := hM.1.2.2.2.1; omega)
    · obtain ⟨a1, a2⟩ := ens_other (c := c) (r := q) (r' := r) (by omega) (by omega) eq 60 M
      unfold Hld
      rw [a1, a2]
      exact h q (by omega) h2
/-! so many minutes less to go -/
def skG (s : Int32) : Nat → MR → MR
  | 0, M => M
  | j + 1, M => if skG s j M (330 + 8 * j) = 1 then upd (skG s j M) (332 + 8 * j) (skG s j M (332 + 8 * j) - s) else skG s j M
def goC (M : MR) (c x : Nat) : Bool := decide (332 ≤ x ∧ (x - 332) % 8 = 0 ∧ (x - 332) / 8 < c ∧ M (x - 2) = 1)
theorem skG_dec : ∀ (j : Nat) (M : MR), decF j M = skG 1 j M := by
  intro j
  induction j with
  | zero => intro M; rfl
  | succ j ih =>
    intro M
    unfold decF skG
    rw [ih]
theorem skG_x {s : Int32} {M : MR} : ∀ j, skG s j M = fun x => if goC M j x then M x - s else M x := by
  intro j
  induction j with
  | zero =>
    funext x
    have : goC M 0 x = false := decide_eq_false (fun z => by omega)
    rw [this]
    rfl
  | succ j ih =>
    have g0 : goC M j (330 + 8 * j) = false := decide_eq_false (fun z => by omega)
    have g2 : goC M j (332 + 8 * j) = false := decide_eq_false (fun z => by omega)
    unfold skG
    rw [ih]
    simp only [g0, g2, Bool.false_eq_true, if_false]
    funext x
    by_cases q : M (330 + 8 * j) = 1
    · rw [if_pos q]
      unfold upd
      by_cases c2 : x = 332 + 8 * j
      · have : goC M (j + 1) x = true := decide_eq_true ⟨by omega, by omega, by omega, by rw [show x - 2 = 330 + 8 * j by omega]; exact q⟩
        rw [if_pos c2, this, if_pos rfl, c2]
      · rw [if_neg c2]
        have : goC M (j + 1) x = goC M j x := by
          unfold goC
          congr 1
          apply propext
          constructor
          · intro ⟨a, b, d, e⟩
            exact ⟨a, b, by omega, e⟩
          · intro ⟨a, b, d, e⟩
            exact ⟨a, b, by omega, e⟩
        rw [this]
    · rw [if_neg q]
      have : goC M (j + 1) x = goC M j x := by
        unfold goC
        congr 1
        apply propext
        constructor
        · intro ⟨a, b, d, e⟩
          refine ⟨a, b, ?_, e⟩
          by_cases c3 : (x - 332) / 8 = j
          · rw [show x - 2 = 330 + 8 * j by omega] at e
            exact absurd e q
          · omega
        · intro ⟨a, b, d, e⟩
          exact ⟨a, b, by omega, e⟩
      rw [this]
theorem skG_o {s : Int32} {j x : Nat} (h : x < 332 ∨ ¬ (x - 332) % 8 = 0) : skG s j M x = M x := by
  rw [skG_x]
  have : goC M j x = false := decide_eq_false (fun z => by omega)
  simp only [this]
  rfl
theorem skG_w {s : Int32} {j i w : Nat} (hw : w < 8) (h2 : w ≠ 2) : skG s j M (330 + 8 * i + w) = M (330 + 8 * i + w) := by
  rw [skG_x]
  have : goC M j (330 + 8 * i + w) = false := decide_eq_false (fun z => by omega)
  simp only [this]
  rfl
theorem hour_nI {k : Nat} (h4 : M 4 = nI k) (hk : k < 2 ^ 31) : hourM M = nI (k / 60 % 24) := by
  unfold hourM
  rw [h4, fa_lit 60, fa_lit 24, pk_div hk (by omega) (by omega), pk_rem (by omega) (by omega) (by omega)]
theorem frost_same {M' : MR} {k s : Nat} (h4 : M 4 = nI k) (h4' : M' 4 = nI (k + s)) (h6 : M' 6 = M 6) (h7 : M' 7 = M 7) (hk : k + s < 2 ^ 31) (hs : k % 60 + s < 60) : frostM M' = frostM M := by
  unfold frostM
  rw [hour_nI h4 (by omega), hour_nI h4' hk, h6, h7, show (k + s) / 60 = k / 60 by omega]
/-- a minute in which nothing comes and nothing enters -/
theorem min_still (hM : Mid M T n c o K (fun _ => True)) (hH : ∀ r, r ≤ n → Hld M c r) (hg : ∀ i, i < c → M (330 + 8 * i) = 1 → 2 ≤ (M (332 + 8 * i)).toInt) : minN T M = upd (skG 1 c M) 4 (M 4 + 1) := by
  have hn : n ≤ 11 := hM.1.2.1
  have hc : c ≤ 60 := hM.1.2.2.2.1
  unfold minN
  rw [hM.1.1, hM.1.2.2.1, nI_clamp (by omega), nI_clamp (by omega), skG_dec]
  have hcom : ∀ j, j ≤ c → comF T n j (skG 1 c M) = skG 1 c M := by
    intro j
    induction j with
    | zero => intro _; rfl
    | succ j ih =>
      intro hj
      have e := ih (by omega)
      have es : comF T n (j + 1) (skG 1 c M) = if comF T n j (skG 1 c M) (330 + 8 * j) = 1 ∧ comF T n j (skG 1 c M) (332 + 8 * j) = 0 then coM (T j) (comF T n j (skG 1 c M)) n j (comF T n j (skG 1 c M) (331 + 8 * j)).toNatClampNeg else comF T n j (skG 1 c M) := rfl
      rw [es, e]
      rw [if_neg]
      intro ⟨z1, z2⟩
      have z1' : M (330 + 8 * j) = 1 := by
        have := skG_w (M := M) (s := 1) (j := c) (i := j) (w := 0) (by omega) (by omega)
        rw [show 330 + 8 * j + 0 = 330 + 8 * j by omega] at this
        rw [← this]
        exact z1
      have hgo : goC M c (332 + 8 * j) = true := decide_eq_true ⟨by omega, by omega, by omega, by rw [show 332 + 8 * j - 2 = 330 + 8 * j by omega]; exact z1'⟩
      rw [skG_x] at z2
      simp only [hgo, if_true] at z2
      have h2 := hg j (by omega) z1'
      have e1 : (1 : Int32).toInt = 1 := rfl
      have hb := Int32.toInt_lt (M (332 + 8 * j))
      have : (M (332 + 8 * j) - 1).toInt = (M (332 + 8 * j)).toInt - 1 := by rw [ti_sub (by rw [e1]; omega), e1]
      rw [z2] at this
      have e0 : (0 : Int32).toInt = 0 := rfl
      omega
  rw [hcom c (Nat.le_refl _)]
  have h2 : skG 1 c M 2 = nI c := by rw [skG_o (by omega)]; exact hM.1.2.2.1
  have hnx : ∀ r, nxF (skG 1 c M) r c = nxF M r c := by
    intro r
    refine nxF_cong (fun j hj => ?_)
    have e0 := skG_w (M := M) (s := 1) (j := c) (i := j) (w := 0) (by omega) (by omega)
    have e1 := skG_w (M := M) (s := 1) (j := c) (i := j) (w := 1) (by omega) (by omega)
    have e4 := skG_w (M := M) (s := 1) (j := c) (i := j) (w := 4) (by omega) (by omega)
    rw [show 330 + 8 * j + 0 = 330 + 8 * j by omega] at e0
    rw [show 330 + 8 * j + 1 = 331 + 8 * j by omega] at e1
    rw [show 330 + 8 * j + 4 = 334 + 8 * j by omega] at e4
    unfold isWt
    rw [e0, e1, e4]
    exact ⟨rfl, fun _ => rfl⟩
  have hrm : ∀ r, r ≤ n → roomM (skG 1 c M) c r = roomM M c r := by
    intro r hr
    refine roomM_cong (skG_o (by omega)) (inR_cong (fun j hj => ?_))
    have e0 := skG_w (M := M) (s := 1) (j := c) (i := j) (w := 0) (by omega) (by omega)
    have e1 := skG_w (M := M) (s := 1) (j := c) (i := j) (w := 1) (by omega) (by omega)
    rw [show 330 + 8 * j + 0 = 330 + 8 * j by omega] at e0
    rw [show 330 + 8 * j + 1 = 331 + 8 * j by omega] at e1
    exact ⟨e0, e1⟩
  have hent : ∀ r, r ≤ n + 1 → entF r (skG 1 c M) = skG 1 c M := by
    intro r
    induction r with
    | zero => intro _; rfl
    | succ r ih =>
      intro hr
      have e : entF (r + 1) (skG 1 c M) = entF r (ensM c r 60 (skG 1 c M)) := by
        show entF r (ensM (skG 1 c M 2).toNatClampNeg r 60 _) = _
        rw [h2, nI_clamp (by omega)]
      have e2 : ensM c r 60 (skG 1 c M) = skG 1 c M := by
        rcases hH r (by omega) with g | g
        · exact ensM_none (by rw [hnx]; exact g)
        · cases hb : nxF M r c with
          | none => exact ensM_none (by rw [hnx]; exact hb)
          | some i => exact ensM_full (by rw [hnx]; exact hb) (by rw [hrm r (by omega)]; exact g)
      rw [e, e2]
      exact ih (by omega)
  rw [hent (n + 1) (Nat.le_refl _)]
  have e4 : skG 1 c M 4 = M 4 := skG_o (by omega)
  simp only []
  rw [e4]
theorem mns_still (hM : Mid M T n c o K (fun _ => True)) {k : Nat} (h4 : M 4 = nI k) (hf : frostM M = false) (hH : ∀ r, r ≤ n → Hld M c r) : ∀ s, k + s < 2 ^ 31 - 10 → K + s < 2 ^ 31 - 10 → k % 60 + s ≤ 60 → (∀ i, i < c → M (330 + 8 * i) = 1 → (s : Int) + 1 ≤ (M (332 + 8 * i)).toInt) → mnsM T s M = upd (skG (nI s) c M) 4 (nI (k + s)) := by
  intro s
  induction s with
  | zero =>
    intro _ _ _ _
    show M = _
    funext x
    unfold upd
    by_cases q : x = 4
    · rw [if_pos q, q, h4]
      rfl
    · rw [if_neg q, skG_x]
      simp only []
      split
      · show M x = M x - 0
        rw [Int32.sub_zero]
      · rfl
  | succ s ih =>
    intro hk hK hs hg
    have hn : n ≤ 11 := hM.1.2.1
    have hc : c ≤ 60 := hM.1.2.2.2.1
    have e := ih (by omega) (by omega) (by omega) (fun i hi q => by have := hg i hi q; omega)
    show minM T (mnsM T s M) = _
    obtain ⟨c1, o1, hcc, hmid⟩ := mid_mns hM s (by omega)
    rw [e] at hmid ⊢
    have m2 : upd (skG (nI s) c M) 4 (nI (k + s)) 2 = nI c := by rw [pk_un (by omega), skG_o (by omega)]; exact hM.1.2.2.1
    have ec : c1 = c := nI_inj (by rw [← hmid.1.2.2.1, m2]) (by have := hmid.1.2.2.2.1; omega) (by omega)
    subst ec
    have o4 : ∀ x, x ≠ 4 → upd (skG (nI s) c1 M) 4 (nI (k + s)) x = skG (nI s) c1 M x := fun x hx => pk_un hx
    have e44 : upd (skG (nI s) c1 M) 4 (nI (k + s)) 4 = nI (k + s) := if_pos rfl
    generalize upd (skG (nI s) c1 M) 4 (nI (k + s)) = U at *
    have fz : frostM U = false := by
      rw [frost_same (M := M) (k := k) (s := s) h4 e44 (by rw [o4 _ (by omega), skG_o (by omega)]) (by rw [o4 _ (by omega), skG_o (by omega)]) (by omega) (by omega)]
      exact hf
    rw [minM_eq, fz, if_neg (by decide)]
    have cw : ∀ i w, w < 8 → w ≠ 2 → U (330 + 8 * i + w) = M (330 + 8 * i + w) := fun i w h1 h2 => by rw [o4 _ (by omega), skG_w h1 h2]
    have c0 : ∀ i, U (330 + 8 * i) = M (330 + 8 * i) := fun i => cw i 0 (by omega) (by omega)
    have c1' : ∀ i, U (331 + 8 * i) = M (331 + 8 * i) := fun i => by
      have := cw i 1 (by omega) (by omega)
      rw [show 330 + 8 * i + 1 = 331 + 8 * i by omega] at this
      exact this
    have c4' : ∀ i, U (334 + 8 * i) = M (334 + 8 * i) := fun i => by
      have := cw i 4 (by omega) (by omega)
      rw [show 330 + 8 * i + 4 = 334 + 8 * i by omega] at this
      exact this
    have eg : (nI s).toInt = s := nI_toInt (by omega)
    have c2' : ∀ i, i < c1 → M (330 + 8 * i) = 1 → U (332 + 8 * i) = M (332 + 8 * i) - nI s := by
      intro i hi q
      have hgo : goC M c1 (332 + 8 * i) = true := decide_eq_true ⟨by omega, by omega, by omega, by rw [show 332 + 8 * i - 2 = 330 + 8 * i by omega]; exact q⟩
      rw [o4 _ (by omega), skG_x]
      simp only [hgo, if_true]
    have st := min_still hmid (fun r hr => ?_) (fun i hi q => ?_)
    · rw [st, e44, nI_1]
      funext x
      unfold upd
      by_cases q : x = 4
      · rw [if_pos q, if_pos q]
        rfl
      · rw [if_neg q, if_neg q, skG_x, skG_x]
        have hgoe : goC U c1 x = goC M c1 x := by
          unfold goC
          congr 1
          apply propext
          constructor
          · intro ⟨a, b, d, e5⟩
            refine ⟨a, b, d, ?_⟩
            rw [o4 _ (by omega), skG_o (by omega)] at e5
            exact e5
          · intro ⟨a, b, d, e5⟩
            refine ⟨a, b, d, ?_⟩
            rw [o4 _ (by omega), skG_o (by omega)]
            exact e5
        simp only [hgoe]
        by_cases qg : goC M c1 x = true
        · rw [if_pos qg, if_pos qg]
          have z := of_decide_eq_true qg
          obtain ⟨i, rfl⟩ : ∃ i, x = 332 + 8 * i := ⟨(x - 332) / 8, by omega⟩
          have hi : i < c1 := by omega
          have hst : M (330 + 8 * i) = 1 := by
            have := z.2.2.2
            rw [show 332 + 8 * i - 2 = 330 + 8 * i by omega] at this
            exact this
          rw [c2' i hi hst]
          have hb := Int32.toInt_lt (M (332 + 8 * i))
          have h3 := hg i hi hst
          have e1 : (1 : Int32).toInt = 1 := rfl
          have eg1 : (nI (s + 1)).toInt = ((s + 1 : Nat) : Int) := nI_toInt (by omega)
          have a1 : (M (332 + 8 * i) - nI s).toInt = (M (332 + 8 * i)).toInt - s := by rw [ti_sub (by rw [eg]; omega), eg]
          rw [fa_eq, ti_sub (by rw [a1, e1]; omega), a1, e1, ti_sub (by rw [eg1]; omega), eg1]
          omega
        · rw [if_neg qg, if_neg qg, o4 x q, skG_x]
          simp only []
          rw [if_neg qg]
    · unfold Hld
      have hnx : nxF U r c1 = nxF M r c1 := nxF_cong (fun j hj => by
        unfold isWt
        rw [c0, c1', c4']
        exact ⟨rfl, fun _ => rfl⟩)
      have hrm : roomM U c1 r = roomM M c1 r := roomM_cong (by rw [o4 _ (by omega), skG_o (by omega)]) (inR_cong (fun j hj => ⟨c0 j, c1' j⟩))
      rw [hnx, hrm]
      exact hH r hr
    · rw [c0] at q
      rw [c2' i hi q]
      have h3 := hg i hi q
      have hb := Int32.toInt_lt (M (332 + 8 * i))
      rw [ti_sub (by rw [eg]; omega), eg]
      omega
theorem mns_frost {k : Nat} (h4 : M 4 = nI k) (hf : frostM M = true) : ∀ s, k + s < 2 ^ 31 - 10 → k % 60 + s ≤ 60 → mnsM T s M = upd M 4 (nI (k + s)) := by
  intro s
  induction s with
  | zero =>
    intro _ _
    show M = _
    funext x
    unfold upd
    by_cases q : x = 4
    · rw [if_pos q, q, h4]
      rfl
    · rw [if_neg q]
  | succ s ih =>
    intro hk hs
    show minM T (mnsM T s M) = _
    rw [ih (by omega) (by omega)]
    have fz : frostM (upd M 4 (nI (k + s))) = true := by
      rw [frost_same (M := M) (k := k) (s := s) h4 (if_pos rfl) (pk_un (by omega)) (pk_un (by omega)) (by omega) (by omega)]
      exact hf
    rw [minM_eq, fz, if_pos rfl]
    have e44 : upd M 4 (nI (k + s)) 4 = nI (k + s) := if_pos rfl
    rw [e44, nI_1]
    funext x
    unfold upd
    by_cases q : x = 4
    · rw [if_pos q, if_pos q]
      rfl
    · rw [if_neg q, if_neg q, if_neg q]
theorem mns_add : ∀ (b a : Nat) (M : MR), mnsM T (a + b) M = mnsM T b (mnsM T a M) := by
  intro b
  induction b with
  | zero => intro a M; rfl
  | succ b ih =>
    intro a M
    show minM T (mnsM T (a + b) M) = minM T (mnsM T b (mnsM T a M))
    rw [ih]
end HE
section CPA
variable {cm : CMu} {f : Nat} {M : MR} {T : Nat → Pg} {n c o K : Nat}
theorem jmin_nI {a b : Nat} (ha : a < 2 ^ 31) (hb : b < 2 ^ 31) : jmin (nI a) (nI b) = nI (min a b) := by
  unfold jmin
  by_cases q : b < a
  · rw [if_pos (nI_lt q ha), Nat.min_eq_right (by omega)]
  · rw [if_neg (fun z => q ((nI_ltI hb ha).mp z)), Nat.min_eq_left (by omega)]
theorem c_still (hf : 382 ≤ f) (hM : Mid M T n c o K (fun _ => True)) (hF : Fo cm f M T n c o) (hH : frostM M = false → ∀ r, r ≤ n → Hld M c r) {l : Nat} (hl : l ≤ 2000) (hK : K < 2 ^ 31 - 3000) {post : Int32 → CMu → Prop} (hp : ∀ s cm', s ≤ l → (frostM M = true → 0 < l → 0 < s) → Mid (mnsM T s M) T n c o (K + s) (fun _ => True) → Fo cm' f (mnsM T s M) T n c o → FrC f cm cm' → post (nI s) cm') : w_X3_passStill post f (nI l) cm := by
  have hn : n ≤ 11 := hM.1.2.1
  have hc : c ≤ 60 := hM.1.2.2.2.1
  have ho : o ≤ 60 := by
    rw [hM.1.2.2.2.2.2.1]
    have := cntP_le (isOut M) c
    omega
  obtain ⟨k, h4, hkK⟩ := hM.1.2.2.2.2.2.2.2.2.2
  have e12 : gI cm f 12 = nI k := by rw [(Fo_h hF).2.2.2.2.1, h4]
  have ek : (60 - (nI k - nI k / 60 * 60) : Int32) = nI (60 - k % 60) := by
    rw [fa_lit 60, pk_rem (by omega) (by omega) (by omega), nI_sub (by omega)]
  unfold w_X3_passStill
  refine c_frost hF ?_
  rw [e12, ek, jmin_nI (by omega) (by omega)]
  have tie : ∀ s, s ≤ 2000 → mnsM T s M 2 = M 2 → mnsM T s M 3 = M 3 → Mid (mnsM T s M) T n c o (K + s) (fun _ => True) := by
    intro s hs e2 e3
    obtain ⟨c3, o3, hc3, hm3⟩ := mid_mns hM s (by omega)
    have a1 : c3 = c := nI_inj (by rw [← hm3.1.2.2.1, e2, hM.1.2.2.1]) (by have := hm3.1.2.2.2.1; omega) (by omega)
    subst a1
    have ho3 : o3 ≤ 60 := by
      rw [hm3.1.2.2.2.2.2.1]
      have := cntP_le (isOut (mnsM T s M)) c3
      omega
    have a2 : o3 = o := nI_inj (by rw [← hm3.1.2.2.2.2.1, e3, hM.1.2.2.2.2.1]) (by omega) (by omega)
    subst a2
    exact hm3
  cases hfr : frostM M with
  | true =>
    refine ⟨fun _ => ?_, fun z => absurd z (by decide)⟩
    unfold B_X3_passStill_119
    rw [e12, nI_add]
    have em := mns_frost (T := T) h4 hfr (min l (60 - k % 60)) (by omega) (by omega)
    refine hp _ _ (Nat.min_le_left _ _) (fun _ h0 => by omega) (tie _ (by omega) (by rw [em, pk_un (by omega)]) (by rw [em, pk_un (by omega)])) ?_ (FrC_uI (by omega))
    rw [em]
    exact Fo_seed hF hn hc ho (x := 4) (j := 12) (by omega) rfl _
  | false =>
    have hH := hH hfr
    refine ⟨fun z => absurd rfl z, fun _ => ?_⟩
    have go : ∀ i, i < c → M (330 + 8 * i) = 1 → 1 ≤ (M (332 + 8 * i)).toInt := by
      intro i hi q
      obtain ⟨p, a1, a2, a3, a4, a5, a6⟩ := (hM.2.2.1 i hi).2 trivial
      rcases a5 with ⟨a5, _⟩ | ⟨a5, _, a8⟩ | ⟨a5, _⟩ | ⟨a5, _⟩ | ⟨a5, _⟩
      · rw [q] at a5; exact absurd a5 (by decide)
      · exact a8
      · rw [q] at a5; exact absurd a5 (by decide)
      · rw [q] at a5; exact absurd a5 (by decide)
      · rw [q] at a5; exact absurd a5 (by decide)
    have h6 : gI cm f 6 = nI c := by rw [(Fo_h hF).2.2.1, hM.1.2.2.1]
    -- they go on
    have run : ∀ (s : Nat), s ≤ l → k % 60 + s ≤ 60 → (∀ i, i < c → M (330 + 8 * i) = 1 → (s : Int) + 1 ≤ (M (332 + 8 * i)).toInt) → ∀ (g j : Nat) (cm1 : CMu), j + g = c → FrC f cm cm1 → Fo cm1 f (skG (nI s) j M) T n c o → B_X3_passStill_74 post (g + 1) f (nI s) (nI j) cm1 := by
      intro s hs1 hs2 hs3 g
      induction g with
      | zero =>
        intro j cm1 hj fr hF1
        have ej : j = c := by omega
        subst ej
        have h61 : gI cm1 f 6 = nI j := by rw [(Fo_h hF1).2.2.1, skG_o (by omega), hM.1.2.2.1]
        have h121 : gI cm1 f 12 = nI k := by rw [(Fo_h hF1).2.2.2.2.1, skG_o (by omega), h4]
        unfold B_X3_passStill_74 B_X3_passStill_119
        rw [h61, h121, nI_add]
        refine ⟨fun _ => ?_, fun z => absurd (nI_le (Nat.le_refl _) (by omega)) z⟩
        have em := mns_still hM h4 hfr hH s (by omega) (by omega) hs2 hs3
        refine hp _ _ hs1 (fun z => by rw [hfr] at z; exact absurd z (by decide)) (tie _ (by omega) (by rw [em, pk_un (by omega), skG_o (by omega)]) (by rw [em, pk_un (by omega), skG_o (by omega)])) ?_ (FrC_tr fr (FrC_uI (by omega)))
        rw [em]
        exact Fo_seed hF1 hn hc ho (x := 4) (j := 12) (by omega) rfl _
      | succ g ih =>
        intro j cm1 hj fr hF1
        have h61 : gI cm1 f 6 = nI c := by rw [(Fo_h hF1).2.2.1, skG_o (by omega), hM.1.2.2.1]
        have es : skG (nI s) (j + 1) M = if skG (nI s) j M (330 + 8 * j) = 1 then upd (skG (nI s) j M) (332 + 8 * j) (skG (nI s) j M (332 + 8 * j) - nI s) else skG (nI s) j M := rfl
        have b0 : gI cm1 (f + 47 + j) 0 = skG (nI s) j M (330 + 8 * j) := RF_c hF1.1 (by omega) (by omega)
        have b2' : gI cm1 (f + 47 + j) 2 = skG (nI s) j M (332 + 8 * j) := by
          rw [RF_c hF1.1 (by omega) (by omega)]
          congr 1
          omega
        unfold B_X3_passStill_74
        rw [h61, nI_clamp (by omega), b0, b2']
        refine ⟨fun z => absurd z (nI_ge (by omega) (by omega)), fun _ => ⟨vp_in_nI (by omega) (by omega), fun q => ?_, fun q => ⟨vp_in_nI (by omega) (by omega), ?_⟩⟩⟩
        · rw [if_neg q] at es
          unfold B_X3_passStill_113
          rw [nI_1]
          exact ih (j + 1) cm1 (by omega) fr (by rw [es]; exact hF1)
        · rw [if_pos q] at es
          unfold B_X3_passStill_113
          rw [nI_1]
          exact ih (j + 1) _ (by omega) (FrC_tr fr (FrC_uI (by omega))) (by rw [es]; exact Fo_go hF1 hn hc ho (by omega) _)
    -- how long
    have least : ∀ (g j s : Nat), j + g = c → s ≤ l → k % 60 + s ≤ 60 → (∀ i, i < j → M (330 + 8 * i) = 1 → (s : Int) + 1 ≤ (M (332 + 8 * i)).toInt) → B_X3_passStill_25 post (g + 1) f (nI s) (nI j) cm := by
      intro g
      induction g with
      | zero =>
        intro j s hj hs1 hs2 hs3
        have ej : j = c := by omega
        subst ej
        unfold B_X3_passStill_25
        rw [h6]
        exact ⟨fun _ => ⟨j + 1, run s hs1 hs2 hs3 j 0 cm (by omega) FrC_rf hF⟩, fun z => absurd (nI_le (Nat.le_refl _) (by omega)) z⟩
      | succ g ih =>
        intro j s hj hs1 hs2 hs3
        have b0 : gI cm (f + 47 + j) 0 = M (330 + 8 * j) := RF_c hF.1 (by omega) (by omega)
        have b2' : gI cm (f + 47 + j) 2 = M (332 + 8 * j) := by
          rw [RF_c hF.1 (by omega) (by omega)]
          congr 1
          omega
        unfold B_X3_passStill_25
        rw [h6, nI_clamp (by omega), b0, b2']
        refine ⟨fun z => absurd z (nI_ge (by omega) (by omega)), fun _ => ⟨vp_in_nI (by omega) (by omega), fun q => ?_, fun q => ⟨vp_in_nI (by omega) (by omega), ?_⟩⟩⟩
        · unfold B_X3_passStill_65
          rw [nI_1]
          refine ih (j + 1) s (by omega) hs1 hs2 (fun i hi qi => ?_)
          by_cases ei : i = j
          · rw [ei] at qi
            exact absurd qi q
          · exact hs3 i (by omega) qi
        · have h1 := go j (by omega) q
          obtain ⟨g0, hg0, eg⟩ := nI_of (x := M (332 + 8 * j)) (by rw [fa_lt]; have e0 : (0 : Int32).toInt = 0 := rfl; omega)
          have hgt : (M (332 + 8 * j)).toInt = g0 := by rw [eg, nI_toInt hg0]
          obtain ⟨g1, rfl⟩ : ∃ g1, g0 = g1 + 1 := ⟨g0 - 1, by omega⟩
          unfold B_X3_passStill_65
          rw [eg, nI_pred, jmin_nI (by omega) (by omega), nI_1]
          refine ih (j + 1) (min s g1) (by omega) (by omega) (by omega) (fun i hi qi => ?_)
          by_cases ei : i = j
          · subst ei
            omega
          · have := hs3 i (by omega) qi
            omega
    exact ⟨c + 1, least c 0 _ (by omega) (Nat.min_le_left _ _) (by omega) (fun i hi => by omega)⟩
theorem c_pass (hf : 382 ≤ f) {m : Nat} (hm : m ≤ 2000) {post : CMu → Prop} : ∀ (g l t : Nat) (cm : CMu) (M : MR) (c o K : Nat), l ≤ g → t + l ≤ m → K + l < 2 ^ 31 - 4000 → Mid M T n c o K (fun _ => True) → Fo cm f M T n c o → WRA cm T →
    (∀ cm' c' o', Mid (mnsM T l M) T n c' o' (K + l) (fun _ => True) → Fo cm' f (mnsM T l M) T n c' o' → FrC f cm cm' → c ≤ c' → post cm') → B_X3_pass_5 post (g + 1) f (nI m) (nI l) (nI t) cm := by
  intro g
  induction g with
  | zero =>
    intro l t cm M c o K hl ht hK hM hF hW hp
    have e : l = 0 := by omega
    subst e
    unfold B_X3_pass_5 B_X3_pass_45
    have fin := hp cm c o hM hF FrC_rf (Nat.le_refl _)
    exact ⟨fun _ => fin, fun _ => ⟨fun _ => fin, fun z => absurd (show nI 0 ≤ 0 by decide) z⟩⟩
  | succ g ih =>
    intro l t cm M c o K hl ht hK hM hF hW hp
    by_cases hl0 : l = 0
    · subst hl0
      unfold B_X3_pass_5 B_X3_pass_45
      have fin := hp cm c o hM hF FrC_rf (Nat.le_refl _)
      exact ⟨fun _ => fin, fun _ => ⟨fun _ => fin, fun z => absurd (show nI 0 ≤ 0 by decide) z⟩⟩
    · unfold B_X3_pass_5
      refine ⟨fun q => ?_, fun _ => ⟨fun q => ?_, fun _ => c_frost hF ?_⟩⟩
      · rw [nI_leI (by omega) (by omega)] at q
        omega
      · exact absurd q (nI_nle (by omega) (by omega))
      -- behind a step: so many are left
      have next : ∀ (cm1 : CMu) (M1 : MR) (c1 o1 a : Nat), a ≤ l → Mid M1 T n c1 o1 (K + (l - a)) (fun _ => True) → Fo cm1 f M1 T n c1 o1 → FrC f cm cm1 → c ≤ c1 → (frostM M1 = false → ∀ r, r ≤ n → Hld M1 c1 r) → mnsM T l M = mnsM T a M1 → (a < l ∨ frostM M1 = true) → B_X3_pass_30 post (B_X3_pass_5 post (g + 1)) f (nI m) (nI a) (nI t) cm1 := by
        intro cm1 M1 c1 o1 a ha hM1 hF1 fr1 hcc hH1 he hlt
        unfold B_X3_pass_30
        refine c_still hf hM1 hF1 hH1 (by omega) (by omega) (fun s cm2 hs1 hs2 hm3 F2 fr2 => ?_)
        rw [nI_sub hs1, nI_1]
        have hs3 : a < l ∨ 0 < s := by
          rcases hlt with h | h
          · exact Or.inl h
          · by_cases ha0 : 0 < a
            · exact Or.inr (hs2 h ha0)
            · exact Or.inl (by omega)
        refine ih (a - s) (t + 1) cm2 _ c1 o1 (K + (l - a) + s) (by omega) (by omega) (by omega) hm3 F2 (WRA_fr hf (FrC_tr fr1 fr2) hW) (fun cm3 c4 o4 m4 F4 fr4 hc4 => ?_)
        have ee : mnsM T (a - s) (mnsM T s M1) = mnsM T l M := by
          rw [← mns_add, he, show s + (a - s) = a by omega]
        rw [ee] at m4 F4
        rw [show K + (l - a) + s + (a - s) = K + l by omega] at m4
        exact hp cm3 c4 o4 m4 F4 (FrC_tr (FrC_tr fr1 fr2) fr4) (by omega)
      cases hfr : frostM M with
      | true =>
        exact ⟨fun _ => next cm M c o l (Nat.le_refl _) (by rw [Nat.sub_self]; exact hM) hF FrC_rf (Nat.le_refl _) (fun z => by rw [hfr] at z; exact absurd z (by decide)) rfl (Or.inr hfr), fun z => absurd z (by decide)⟩
      | false =>
        refine ⟨fun z => absurd rfl z, fun _ => c_minute hf hM hF hW (fun cm1 c1 o1 mE F1 fr1 hcc => ?_)⟩
        obtain ⟨l, rfl⟩ : ∃ l', l = l' + 1 := ⟨l - 1, by omega⟩
        rw [← Int32.sub_eq_add_neg, nI_pred]
        have hn : n ≤ 11 := hM.1.2.1
        have hc : c ≤ 60 := hM.1.2.2.2.1
        have eN : minN T M = upd (entF (n + 1) (comF T n c (decF c M))) 4 (entF (n + 1) (comF T n c (decF c M)) 4 + 1) := by
          unfold minN
          rw [hM.1.1, hM.1.2.2.1, nI_clamp (by omega), nI_clamp (by omega)]
        have mN : Mid (minN T M) T n c1 o1 (K + 1) (fun _ => True) := by
          rw [eN]
          exact mid_clock mE (by omega)
        refine next cm1 (minN T M) c1 o1 l (by omega) (by rw [show K + (l + 1 - l) = K + 1 by omega]; exact mN) F1 fr1 hcc (fun _ r hr => ?_) ?_ (Or.inl (by omega))
        · have hd := mid_dec hM c (Nat.le_refl _)
          obtain ⟨c2, o2, k1, k2⟩ := mid_com c _ (Mid_mono hd.1 (Z' := fun _ => False) (fun _ _ z => z.elim)) (Nat.le_refl _)
          have k3 := Mid_mono k2 (Z' := fun _ => True) (fun x hx _ => by omega)
          have k4 := mid_ent (n + 1) _ (Nat.le_refl _) k3
          have ec : c2 = c1 := nI_inj (by rw [← k4.1.2.2.1, mE.1.2.2.1]) (by have := k4.1.2.2.2.1; omega) (by have := mE.1.2.2.2.1; omega)
          subst ec
          have hh := ent_held (n + 1) _ k3 (Nat.le_refl _) (fun q h1 h2 => by omega) r hr
          rw [eN]
          generalize entF (n + 1) (comF T n c (decF c M)) = M3 at hh
          have hnx : nxF (upd M3 4 (M3 4 + 1)) r c2 = nxF M3 r c2 := nxF_cong (fun j hj => by
            unfold isWt
            rw [pk_un (by omega), pk_un (by omega), pk_un (by omega)]
            exact ⟨rfl, fun _ => rfl⟩)
          have hrm : roomM (upd M3 4 (M3 4 + 1)) c2 r = roomM M3 c2 r := roomM_cong (pk_un (by omega)) (inR_cong (fun j hj => ⟨pk_un (by omega), pk_un (by omega)⟩))
          unfold Hld
          rw [hnx, hrm]
          exact hh
        · have e1 : mnsM T 1 M = minN T M := by
            show minM T M = _
            rw [minM_eq, hfr, if_neg (by decide)]
          rw [show l + 1 = 1 + l by omega, mns_add, e1]
end CPA
