/-! ===== the text from a place on ===== -/
def isB (x : Int32) : Bool := decide (x = 32)
def skp (b : Nat → Int32) (len p : Nat) : Nat := rE isB b len (len - p) p
def tks (b : Nat → Int32) (len p : Nat) : TL := tkF b len (len - p) p
theorem tkF_fuel {b : Nat → Int32} {len : Nat} : ∀ (m p f : Nat), len - p ≤ m → len - p ≤ f → tkF b len f p = tkF b len (len - p) p := by
  intro m
  induction m with
  | zero =>
    intro p f h1 h2
    have h0 : len - p = 0 := by omega
    rw [h0]
    cases f with
    | zero => rfl
    | succ f =>
      unfold tkF
      rw [if_neg (by omega)]
  | succ m ih =>
    intro p f h1 h2
    by_cases hp : p < len
    · obtain ⟨f, rfl⟩ : ∃ f', f = f' + 1 := ⟨f - 1, by omega⟩
      obtain ⟨g, hg⟩ : ∃ g, len - p = g + 1 := ⟨len - p - 1, by omega⟩
      rw [hg]
      unfold tkF
      rw [if_pos hp, if_pos hp]
      have hb := bhd_le (b := b) (len := len) (i := p) hp
      rw [ih (bhd b len p) f (by omega) (by omega), ih (bhd b len p) g (by omega) (by omega)]
    · have h0 : len - p = 0 := by omega
      rw [h0]
      cases f with
      | zero => rfl
      | succ f =>
        unfold tkF
        rw [if_neg hp]
theorem tks_end {b : Nat → Int32} {len p : Nat} (h : len ≤ p) : tks b len p = [] := by
  unfold tks
  rw [show len - p = 0 by omega]
  rfl
theorem tks_at {b : Nat → Int32} {len p : Nat} (h : p < len) : tks b len p = if b p = 32 then tks b len (bhd b len p) else tok1 b p (bhd b len p) :: tks b len (bhd b len p) := by
  have hb := bhd_le (b := b) (len := len) (i := p) h
  unfold tks
  obtain ⟨g, hg⟩ : ∃ g, len - p = g + 1 := ⟨len - p - 1, by omega⟩
  rw [hg]
  conv => lhs; unfold tkF
  rw [if_pos h, tkF_fuel (len - bhd b len p) (bhd b len p) g (by omega) (by omega)]
theorem isL_32 : isL 32 = false := by decide
theorem isD_32 : isD 32 = false := by decide
theorem bhd_blank {b : Nat → Int32} {len p : Nat} (h : b p = 32) : bhd b len p = p + 1 := by
  unfold bhd
  rw [h, isL_32, isD_32]
  rfl
theorem skp_le {b : Nat → Int32} {len p : Nat} (h : p ≤ len) : p ≤ skp b len p ∧ skp b len p ≤ len := rE_le h
theorem skp_ge {b : Nat → Int32} {len p : Nat} (h : len ≤ p) : skp b len p = p := by
  unfold skp
  rw [show len - p = 0 by omega]
  rfl
theorem rE_end {q : Int32 → Bool} {b : Nat → Int32} {len : Nat} : ∀ {f i : Nat}, len - i ≤ f → rE q b len f i < len → q (b (rE q b len f i)) = false := by
  intro f
  induction f with
  | zero =>
    intro i h1 h2
    unfold rE at h2
    omega
  | succ f ih =>
    intro i h1 h2
    unfold rE at h2 ⊢
    by_cases c : i < len ∧ q (b i) = true
    · rw [if_pos c] at h2 ⊢
      exact ih (by omega) h2
    · rw [if_neg c] at h2 ⊢
      cases e : q (b i)
      · rfl
      · exact absurd ⟨h2, e⟩ c
theorem skp_nb {b : Nat → Int32} {len p : Nat} (h : skp b len p < len) : ¬ b (skp b len p) = 32 := by
  have : isB (b (skp b len p)) = false := rE_end (Nat.le_refl _) h
  unfold isB at this
  exact of_decide_eq_false this
theorem skp_tks {b : Nat → Int32} {len : Nat} : ∀ (f p : Nat), len - p = f → tks b len (rE isB b len f p) = tks b len p := by
  intro f
  induction f with
  | zero => intro p _; rfl
  | succ f ih =>
    intro p h
    unfold rE
    by_cases c : p < len ∧ isB (b p) = true
    · rw [if_pos c, ih (p + 1) (by omega)]
      have hb : b p = 32 := of_decide_eq_true c.2
      rw [tks_at c.1, if_pos hb, bhd_blank hb]
    · rw [if_neg c]
theorem tks_skp {b : Nat → Int32} {len p : Nat} : tks b len (skp b len p) = tks b len p := skp_tks _ _ rfl
/-- place p of the text stands at token t -/
def At (b : Nat → Int32) (len : Nat) (p t : Nat) : Prop := tks b len p = (tks b len 0).drop t
section AT
variable {b : Nat → Int32} {len p t : Nat} {k : TK}
theorem At_skp (h : At b len p t) : At b len (skp b len p) t := by
  unfold At
  rw [tks_skp]
  exact h
theorem At_0 : At b len 0 0 := rfl
theorem At_in (h : At b len p t) (hT : TKL k (tks b len 0) len) (hp : p < len) (hb : ¬ b p = 32) :
    t < tN k ∧ tW k t = (tok1 b p (bhd b len p)).2.1 ∧ tB k t = nI p ∧ tV k t = (tok1 b p (bhd b len p)).2.2 ∧ At b len (bhd b len p) (t + 1) := by
  unfold At at h
  rw [tks_at hp, if_neg hb] at h
  have h0 : (tks b len 0)[t]? = some (tok1 b p (bhd b len p)) := by
    have := congrArg (fun l => l[0]?) h
    simp only [List.getElem?_cons_zero, List.getElem?_drop, Nat.add_zero] at this
    exact this.symm
  have hlt : t < (tks b len 0).length := (List.getElem?_eq_some_iff.mp h0).1
  have hx := hT.2.2 t _ h0
  have e1 : (tok1 b p (bhd b len p)).1 = p := by
    unfold tok1
    split
    · split <;> rfl
    · rfl
  refine ⟨by rw [hT.1]; exact hlt, hx.1, by rw [hx.2.1, e1], hx.2.2, ?_⟩
  unfold At
  have := congrArg List.tail h
  rw [List.tail_cons] at this
  rw [this, ← List.drop_drop, List.drop_one]
theorem At_end (h : At b len p t) (hT : TKL k (tks b len 0) len) (hp : len ≤ p) : tN k ≤ t := by
  unfold At at h
  rw [tks_end hp] at h
  rw [hT.1]
  have := congrArg List.length h
  rw [List.length_drop, List.length_nil] at this
  omega
end AT
/-! what a token is, by its letters -/
theorem isL_D {x : Int32} (h : isL x = true) : isD x = false := by
  have h1 := of_decide_eq_true h
  unfold isD
  refine decide_eq_false (fun z => ?_)
  rw [fa_lt, fa_lt] at h1 z
  have e1 : (97 : Int32).toInt = 97 := rfl
  have e2 : (57 : Int32).toInt = 57 := rfl
  omega
theorem wAt_inj {w v : Nat} (hw : w < 31) (hv : v < 31) (h : wAt w = wAt v) : w = v := by
  have := congrArg Fin.val h
  rw [wAt_val hw, wAt_val hv] at this
  omega
theorem sp_dif : ∀ w, w < 29 → ∀ v, v < 29 → w ≠ v → ¬ (sbyt.getD (wsp w) [] = sbyt.getD (wsp v) []) := by decide +kernel
theorem sl_sb : ∀ w, w < 31 → slen.getD (wsp w) 0 = (sbyt.getD (wsp w) []).length := by decide +kernel
theorem sl_pos : ∀ w, w < 29 → 0 < slen.getD (wsp w) 0 := by decide +kernel
theorem sl_0 : ∀ w, w < 31 → 29 ≤ w → slen.getD (wsp w) 0 = 0 := by decide +kernel
theorem spl_uni {b : Nat → Int32} {w v i j : Nat} (hw : w < 31) (hv : v < 31) (hij : i < j) (h1 : spl b w i j = true) (h2 : spl b v i j = true) : w = v := by
  have g1 := of_decide_eq_true h1
  have g2 := of_decide_eq_true h2
  have hw2 : w < 29 := by
    by_cases q : w < 29
    · exact q
    · have := sl_0 w hw (by omega)
      omega
  have hv2 : v < 29 := by
    by_cases q : v < 29
    · exact q
    · have := sl_0 v hv (by omega)
      omega
  by_cases e : w = v
  · exact e
  · exfalso
    refine sp_dif w hw2 v hv2 e ?_
    apply List.ext_getElem?
    intro t
    have l1 := sl_sb w hw
    have l2 := sl_sb v hv
    by_cases ht : t < slen.getD (wsp w) 0
    · have a1 := g1.2 t ht
      have a2 := g2.2 t (by omega)
      have q1 : t < (sbyt.getD (wsp w) []).length := by omega
      have q2 : t < (sbyt.getD (wsp v) []).length := by omega
      rw [List.getD_eq_getElem?_getD (l := sbyt.getD (wsp w) []), List.getElem?_eq_getElem q1, Option.getD_some] at a1
      rw [List.getD_eq_getElem?_getD (l := sbyt.getD (wsp v) []), List.getElem?_eq_getElem q2, Option.getD_some] at a2
      rw [List.getElem?_eq_getElem q1, List.getElem?_eq_getElem q2, ← a1, ← a2]
    · rw [List.getElem?_eq_none (by omega), List.getElem?_eq_none (by omega)]
theorem wOf_spl {b : Nat → Int32} {i j w : Nat} (hw : w < 29) (hij : i < j) : ∀ f v, v + f = 31 → (∀ u, u < v → spl b u i j = false) → (wOf b i j f v = wAt w ↔ spl b w i j = true) := by
  intro f
  induction f with
  | zero =>
    intro v hv hu
    unfold wOf
    constructor
    · intro h
      have : wAt 30 = wAt w := h
      have := wAt_inj (by omega) (by omega) this
      omega
    · intro h
      have := hu w (by omega)
      rw [h] at this
      exact absurd this (by decide)
  | succ f ih =>
    intro v hv hu
    unfold wOf
    by_cases c : spl b v i j = true
    · rw [if_pos c]
      constructor
      · intro h
        rw [← wAt_inj (by omega) (by omega) h]
        exact c
      · intro h
        rw [spl_uni (by omega) (by omega) hij c h]
    · rw [if_neg c]
      refine ih (v + 1) (by omega) (fun u hu2 => ?_)
      by_cases e : u = v
      · rw [e]
        cases q : spl b v i j
        · rfl
        · exact absurd q c
      · exact hu u (by omega)
theorem wOf_iff {b : Nat → Int32} {i j w : Nat} (hw : w < 29) (hij : i < j) : wOf b i j 31 0 = wAt w ↔ spl b w i j = true := wOf_spl hw hij 31 0 rfl (fun u hu => by omega)
/-- the words of letters -/
def ltW (w : Nat) : Bool := decide (w < 15 ∨ (18 ≤ w ∧ w < 26))
theorem lt_all : ∀ w, w < 29 → ltW w = true → ∀ t, t < slen.getD (wsp w) 0 → isL ((sbyt.getD (wsp w) []).getD t 0) = true := by decide +kernel
theorem sg_all : ∀ w, w < 29 → ltW w = false → slen.getD (wsp w) 0 = 1 ∧ isL ((sbyt.getD (wsp w) []).getD 0 0) = false ∧ isD ((sbyt.getD (wsp w) []).getD 0 0) = false ∧ ¬ (sbyt.getD (wsp w) []).getD 0 0 = 32 := by decide +kernel
theorem tok_D {b : Nat → Int32} {p j : Nat} (h : isD (b p) = true) : (tok1 b p j).2.1 = 30 ∨ (tok1 b p j).2.1 = 31 := by
  unfold tok1
  rw [if_pos h]
  split
  · exact Or.inl rfl
  · exact Or.inr rfl
theorem tok_n {b : Nat → Int32} {p j : Nat} (h : isD (b p) = false) : (tok1 b p j).2.1 = wOf b p j 31 0 := by
  unfold tok1
  rw [if_neg (by rw [h]; decide)]
/-- a word of letters stands at p just if the run of letters there spells it -/
theorem tok_word {b : Nat → Int32} {len p w : Nat} (hp : p < len) (hw : w < 29) (hl : ltW w = true) : ((tok1 b p (bhd b len p)).2.1 = wAt w ↔ (isL (b p) = true ∧ spl b w p (bhd b len p) = true)) := by
  have hb := bhd_le (b := b) (len := len) (i := p) hp
  constructor
  · intro h
    cases hd : isD (b p)
    · rw [tok_n hd, wOf_iff hw hb.1] at h
      refine ⟨?_, h⟩
      have g := of_decide_eq_true h
      have h0 := g.2 0 (sl_pos w hw)
      have := lt_all w hw hl 0 (sl_pos w hw)
      rw [← h0] at this
      exact this
    · rcases tok_D (j := bhd b len p) hd with e | e
      · rw [e] at h
        have : wAt 29 = wAt w := h
        have := wAt_inj (by omega) (by omega) this
        omega
      · rw [e] at h
        have : wAt 30 = wAt w := h
        have := wAt_inj (by omega) (by omega) this
        omega
  · intro ⟨h1, h2⟩
    rw [tok_n (isL_D h1), wOf_iff hw hb.1]
    exact h2
/-- a sign stands at p just if its letter does -/
theorem tok_sign {b : Nat → Int32} {len p w : Nat} (hp : p < len) (hw : w < 29) (hl : ltW w = false) : ((tok1 b p (bhd b len p)).2.1 = wAt w ↔ b p = (sbyt.getD (wsp w) []).getD 0 0) := by
  have hb := bhd_le (b := b) (len := len) (i := p) hp
  obtain ⟨s1, s2, s3, s4⟩ := sg_all w hw hl
  constructor
  · intro h
    cases hd : isD (b p)
    · rw [tok_n hd, wOf_iff hw hb.1] at h
      have g := of_decide_eq_true h
      exact g.2 0 (by omega)
    · rcases tok_D (j := bhd b len p) hd with e | e
      · rw [e] at h
        have : wAt 29 = wAt w := h
        have := wAt_inj (by omega) (by omega) this
        omega
      · rw [e] at h
        have : wAt 30 = wAt w := h
        have := wAt_inj (by omega) (by omega) this
        omega
  · intro h
    have hd : isD (b p) = false := by rw [h]; exact s3
    have hbb : bhd b len p = p + 1 := by
      unfold bhd
      rw [h, s2, s3]
      rfl
    rw [tok_n hd, wOf_iff hw hb.1, hbb]
    refine decide_eq_true ⟨by omega, fun t ht => ?_⟩
    rw [show t = 0 by omega]
    exact h
