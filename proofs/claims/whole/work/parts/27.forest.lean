/-! ===== a whole forest, and what holds of the reference's row ===== -/
def bit64 (x : Int64) (p : Nat) : Bool := x.toBitVec.getLsbD p
def bit32 (x : Int32) (p : Nat) : Bool := x.toBitVec.getLsbD p
/-- head, acts with their steps -/
abbrev Pg : Type := Int32 × List (Fin 32 × Int32 × SL)
def cntP (p : Nat → Bool) : Nat → Nat
  | 0 => 0
  | n + 1 => cntP p n + (if p n then 1 else 0)
def isIn (M : Nat → Int32) (r : Nat) (i : Nat) : Bool := decide ((M (330 + 8 * i) = 1 ∨ M (330 + 8 * i) = 2) ∧ M (331 + 8 * i) = nI r)
def inR (M : Nat → Int32) (c r : Nat) : Nat := cntP (isIn M r) c
def isOut (M : Nat → Int32) (i : Nat) : Bool := decide (M (330 + 8 * i) = 4)
def DH (M : Nat → Int32) (n c o K : Nat) : Prop :=
  M 1 = nI n ∧ n ≤ 11 ∧ M 2 = nI c ∧ c ≤ 60 ∧ M 3 = nI o ∧ o = cntP (isOut M) c ∧ (∃ t, M 0 = nI t ∧ t ≤ 10) ∧ 1 ≤ (M 5).toInt ∧ (M 5).toInt ≤ 9 ∧ ∃ k, M 4 = nI k ∧ k ≤ K
def RcO (M : Nat → Int32) (r : Nat) : Prop := 1 ≤ (M (10 + 3 * r)).toInt ∧ (M (10 + 3 * r)).toInt ≤ 20 ∧ 0 ≤ (M (11 + 3 * r)).toInt ∧ (M (11 + 3 * r)).toInt ≤ 99 ∧ 0 ≤ (M (12 + 3 * r)).toInt ∧ (M (12 + 3 * r)).toInt ≤ 9
def DR (M : Nat → Int32) (n : Nat) : Prop := ∀ r, r ≤ n → RcO M r
def ChO (M : Nat → Int32) (n i : Nat) : Prop := ∃ p, M (331 + 8 * i) = nI p ∧ p ≤ 12 ∧ 1 ≤ (M (333 + 8 * i)).toInt ∧ (M (333 + 8 * i)).toInt ≤ 9 ∧
  ((M (330 + 8 * i) = 0 ∧ p ≤ n) ∨ (M (330 + 8 * i) = 1 ∧ p ≤ n ∧ 1 ≤ (M (332 + 8 * i)).toInt) ∨ (M (330 + 8 * i) = 2 ∧ p ≤ n ∧ 1 ≤ (M (332 + 8 * i)).toInt) ∨ (M (330 + 8 * i) = 3 ∧ p ≤ n) ∨ (M (330 + 8 * i) = 4 ∧ p = n + 1)) ∧
  ∀ s, 1 ≤ s → s ≤ 11 → bit32 (M (336 + 8 * i)) s = true → s ≤ p
def DC (M : Nat → Int32) (n c : Nat) : Prop := ∀ i, i < c → ChO M n i
def DO (M : Nat → Int32) (n : Nat) : Prop := ∃ q, M 9 = nI q ∧ q ≤ 12 ∧ (∀ i, i < q → (∃ p, M (94 + 2 * i) = nI p ∧ 1 ≤ p ∧ p ≤ n) ∧ 1 ≤ (M (95 + 2 * i)).toInt ∧ (M (95 + 2 * i)).toInt ≤ 9) ∧
  (∀ i j, i < 12 → j < 12 → 0 ≤ (M (118 + 12 * i + j)).toInt ∧ (M (118 + 12 * i + j)).toInt ≤ 999) ∧ ∀ i, i < 12 → M (118 + 12 * i + i) = 0
def DV (M : Nat → Int32) (n : Nat) : Prop := ∀ i p, n < i → i ≤ 11 → p < 60 → M (810 + 60 * i + p) = 0
def Dom (M : Nat → Int32) (n c o K : Nat) : Prop := DH M n c o K ∧ DR M n ∧ DC M n c ∧ DO M n ∧ DV M n
def Bts (cm : CMu) (f : Nat) (M : Nat → Int32) (n c : Nat) : Prop := ∀ i p, 1 ≤ i → i ≤ n → p < 60 →
  bit64 (gL cm (f + 23 + 2 * i) 5) p = (decide (p < c) && bit32 (M (336 + 8 * p)) i) ∧
  (bit64 (gL cm (f + 23 + 2 * i) 5) p = false → bit64 (gL cm (f + 23 + 2 * i) 4) p = decide (M (810 + 60 * i + p) = 1))
def Fo (cm : CMu) (f : Nat) (M : Nat → Int32) (T : Nat → Pg) (n c o : Nat) : Prop :=
  RFI cm f M (DD n c o) ∧ (∀ r, r ≤ n → gI cm (f + 24 + 2 * r) 3 = nI (inR M c r)) ∧ (∀ i, i < c → gI cm (f + 47 + i) 6 = (T i).1) ∧ Bts cm f M n c
theorem cntP_cong {p q : Nat → Bool} : ∀ {n : Nat}, (∀ i, i < n → p i = q i) → cntP p n = cntP q n := by
  intro n
  induction n with
  | zero => intro _; rfl
  | succ n ih =>
    intro h
    unfold cntP
    rw [ih (fun i hi => h i (by omega)), h n (by omega)]
theorem cntP_le (p : Nat → Bool) : ∀ n, cntP p n ≤ n := by
  intro n
  induction n with
  | zero => exact Nat.le_refl 0
  | succ n ih =>
    unfold cntP
    split <;> omega
theorem cntP_lt {p : Nat → Bool} : ∀ {n i : Nat}, i < n → p i = false → cntP p n < n := by
  intro n
  induction n with
  | zero => intro i h; omega
  | succ n ih =>
    intro i h q
    unfold cntP
    by_cases e : i = n
    · subst e
      rw [if_neg (by rw [q]; decide)]
      have := cntP_le p i
      omega
    · have := ih (i := i) (by omega) q
      split <;> omega
/-- one value changes -/
theorem cntP_set {p q : Nat → Bool} {i : Nat} : ∀ {n : Nat}, i < n → (∀ j, j ≠ i → q j = p j) → cntP q n + (if p i then 1 else 0) = cntP p n + (if q i then 1 else 0) := by
  intro n
  induction n with
  | zero => intro h; omega
  | succ n ih =>
    intro h hj
    unfold cntP
    by_cases e : i = n
    · subst e
      rw [cntP_cong (p := q) (q := p) (fun j hj2 => hj j (by omega))]
      omega
    · have := ih (by omega) hj
      rw [hj n (by omega)]
      omega
theorem DR_cong {M M' : Nat → Int32} {n : Nat} (h : DR M n) (e : ∀ x, 10 ≤ x → x < 13 + 3 * n → M' x = M x) : DR M' n := by
  intro r hr
  unfold RcO
  rw [e _ (by omega) (by omega), e _ (by omega) (by omega), e _ (by omega) (by omega)]
  exact h r hr
theorem ChO_cong {M M' : Nat → Int32} {n i : Nat} (h : ChO M n i) (e : ∀ w, w < 8 → M' (330 + 8 * i + w) = M (330 + 8 * i + w)) : ChO M' n i := by
  have e0 := e 0 (by omega)
  have e1 := e 1 (by omega)
  have e2 := e 2 (by omega)
  have e3 := e 3 (by omega)
  have e6 := e 6 (by omega)
  rw [show 330 + 8 * i + 0 = 330 + 8 * i by omega] at e0
  rw [show 330 + 8 * i + 1 = 331 + 8 * i by omega] at e1
  rw [show 330 + 8 * i + 2 = 332 + 8 * i by omega] at e2
  rw [show 330 + 8 * i + 3 = 333 + 8 * i by omega] at e3
  rw [show 330 + 8 * i + 6 = 336 + 8 * i by omega] at e6
  unfold ChO
  rw [e0, e1, e2, e3, e6]
  exact h
theorem DC_cong {M M' : Nat → Int32} {n c : Nat} (h : DC M n c) (e : ∀ x, 330 ≤ x → x < 330 + 8 * c → M' x = M x) : DC M' n c :=
  fun i hi => ChO_cong (h i hi) (fun w hw => e _ (by omega) (by omega))
theorem DO_cong {M M' : Nat → Int32} {n : Nat} (h : DO M n) (e9 : M' 9 = M 9) (e : ∀ x, 94 ≤ x → x < 262 → M' x = M x) : DO M' n := by
  obtain ⟨q, h1, h2, h3, h4, h5⟩ := h
  refine ⟨q, by rw [e9, h1], h2, fun i hi => ?_, fun i j hi hj => ?_, fun i hi => ?_⟩
  · rw [e _ (by omega) (by omega), e _ (by omega) (by omega)]
    exact h3 i hi
  · rw [e _ (by omega) (by omega)]
    exact h4 i j hi hj
  · rw [e _ (by omega) (by omega)]
    exact h5 i hi
theorem DO_mono {M : Nat → Int32} {n n' : Nat} (h : DO M n) (hn : n ≤ n') : DO M n' := by
  obtain ⟨q, h1, h2, h3, h4, h5⟩ := h
  exact ⟨q, h1, h2, fun i hi => ⟨by obtain ⟨⟨p, a, b, c⟩, _⟩ := h3 i hi; exact ⟨p, a, b, by omega⟩, (h3 i hi).2⟩, h4, h5⟩
theorem DV_cong {M M' : Nat → Int32} {n : Nat} (h : DV M n) (e : ∀ x, 810 ≤ x → x < 1530 → M' x = M x) : DV M' n := by
  intro i p h1 h2 h3
  rw [e _ (by omega) (by omega)]
  exact h i p h1 h2 h3
theorem Bts_cong {cm : CMu} {f : Nat} {M M' : Nat → Int32} {n c : Nat} (h : Bts cm f M n c) (e1 : ∀ p, p < c → M' (336 + 8 * p) = M (336 + 8 * p)) (e2 : ∀ x, 810 ≤ x → x < 1530 → M' x = M x) (hn : n ≤ 11) : Bts cm f M' n c := by
  intro i p h1 h2 h3
  rw [e2 (810 + 60 * i + p) (by omega) (by omega)]
  by_cases q : p < c
  · rw [e1 p q]
    exact h i p h1 h2 h3
  · have := h i p h1 h2 h3
    simp only [decide_eq_false q, Bool.false_and] at this ⊢
    exact this
theorem inR_cong {M M' : Nat → Int32} {c r : Nat} (e : ∀ i, i < c → M' (330 + 8 * i) = M (330 + 8 * i) ∧ M' (331 + 8 * i) = M (331 + 8 * i)) : inR M' c r = inR M c r := by
  refine cntP_cong (fun i hi => ?_)
  unfold isIn
  rw [(e i hi).1, (e i hi).2]
theorem Fo_fr {cm cm' : CMu} {f : Nat} {M : Nat → Int32} {T : Nat → Pg} {n c o : Nat} (h : Fo cm f M T n c o) (hn : n ≤ 11) (hc : c ≤ 60) (ho : o ≤ 60) (hI : ∀ b j, f ≤ b → b < f + 107 → gI cm' b j = gI cm b j) (hL : ∀ b j, f ≤ b → b < f + 107 → gL cm' b j = gL cm b j) : Fo cm' f M T n c o := by
  obtain ⟨h1, h2, h3, h4⟩ := h
  refine ⟨RFI_fr h1 (DD_im hn hc ho) hI, fun r hr => ?_, fun i hi => ?_, fun i p h5 h6 h7 => ?_⟩
  · rw [hI _ _ (by omega) (by omega)]
    exact h2 r hr
  · rw [hI _ _ (by omega) (by omega)]
    exact h3 i hi
  · rw [hL _ _ (by omega) (by omega), hL _ _ (by omega) (by omega)]
    exact h4 i p h5 h6 h7
