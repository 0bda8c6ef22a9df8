/-! ===== a minute, as plain functions of the row; what holds within it ===== -/
def isWt (M : MR) (s i : Nat) : Bool := decide (M (330 + 8 * i) = 0 ∧ M (331 + 8 * i) = nI s)
/-- who is next at station s, of the first chips -/
def nxF (M : MR) (s : Nat) : Nat → Option Nat
  | 0 => none
  | c + 1 => match nxF M s c with
    | none => if isWt M s c then some c else none
    | some b => if isWt M s c = true ∧ M (334 + 8 * c) < M (334 + 8 * b) then some c else some b
def dr (x : Int32) : Int32 := (UInt32.toInt32 (Int32.toUInt32 x >>> (Int32.toUInt32 16 &&& Int32.toUInt32 31)) &&& 32767) - (UInt32.toInt32 (Int32.toUInt32 x >>> (Int32.toUInt32 16 &&& Int32.toUInt32 31)) &&& 32767) / 100 * 100
def sdN (x : Int32) : Int32 := 1103515245 * x + 12345
def gtM (M : MR) (r i : Nat) : Int32 := M (10 + 3 * r) * ((M (333 + 8 * i) + 10) - M 5)
def en0 (M : MR) (r i : Nat) : MR := upd (upd (upd M (330 + 8 * i) 1) (334 + 8 * i) (M 4)) (332 + 8 * i) (gtM M r i)
def enM (M : MR) (r i : Nat) : MR := if M (11 + 3 * r) ≤ 0 then en0 M r i else if M (11 + 3 * r) ≤ dr (sdN (M 8)) then upd (en0 M r i) 8 (sdN (M 8)) else upd (upd (en0 M r i) 8 (sdN (M 8))) (330 + 8 * i) 2
def roomM (M : MR) (c r : Nat) : Bool := decide (M (12 + 3 * r) = 0 ∨ nI (inR M c r) < M (12 + 3 * r))
def ensM (c r : Nat) : Nat → MR → MR
  | 0, M => M
  | f + 1, M => match nxF M r c with
    | none => M
    | some i => if roomM M c r then ensM c r f (enM M r i) else M
def co1 (M : MR) (i p : Nat) : MR := upd (upd (upd M (331 + 8 * i) (nI (p + 1))) (334 + 8 * i) (M 4)) (332 + 8 * i) 0
def coM (T : Pg) (M : MR) (n i p : Nat) : MR :=
  if p = n then upd (upd (upd (co1 M i p) (330 + 8 * i) 4) (262 + (M 3).toNatClampNeg) (nI i)) 3 (M 3 + 1)
  else if (T.1 = 0 ∨ T.1 = nI (p + 1)) ∧ ¬ M (810 + 60 * (p + 1) + i) = 1 then
    let M3 := T.2.foldl (exM (p + 1) i) (upd (co1 M i p) (330 + 8 * i) (if T.1 = nI (p + 1) then 3 else 0))
    upd M3 (336 + 8 * i) (M3 (336 + 8 * i) ||| ((1 : Int32) <<< (nI (p + 1) &&& 31)))
  else upd (co1 M i p) (330 + 8 * i) (if T.1 = nI (p + 1) then 3 else 0)
def comF (T : Nat → Pg) (n : Nat) : Nat → MR → MR
  | 0, M => M
  | j + 1, M => if comF T n j M (330 + 8 * j) = 1 ∧ comF T n j M (332 + 8 * j) = 0 then coM (T j) (comF T n j M) n j (comF T n j M (331 + 8 * j)).toNatClampNeg else comF T n j M
def decF : Nat → MR → MR
  | 0, M => M
  | j + 1, M => if decF j M (330 + 8 * j) = 1 then upd (decF j M) (332 + 8 * j) (decF j M (332 + 8 * j) - 1) else decF j M
def entF : Nat → MR → MR
  | 0, M => M
  | r + 1, M => entF r (ensM (M 2).toNatClampNeg r 60 M)
def minM (T : Nat → Pg) (M : MR) : MR :=
  if frostM M then upd M 4 (M 4 + 1)
  else
    let M3 := entF ((M 1).toNatClampNeg + 1) (comF T (M 1).toNatClampNeg (M 2).toNatClampNeg (decF (M 2).toNatClampNeg M))
    upd M3 4 (M3 4 + 1)
/-! the invariant within a minute -/
def ChG (M : MR) (n i : Nat) : Prop := ∃ p, M (331 + 8 * i) = nI p ∧ p ≤ 12 ∧ 1 ≤ (M (333 + 8 * i)).toInt ∧ (M (333 + 8 * i)).toInt ≤ 9 ∧
  ((M (330 + 8 * i) = 0 ∧ p ≤ n) ∨ (M (330 + 8 * i) = 1 ∧ p ≤ n ∧ 0 ≤ (M (332 + 8 * i)).toInt) ∨ (M (330 + 8 * i) = 2 ∧ p ≤ n ∧ 1 ≤ (M (332 + 8 * i)).toInt) ∨ (M (330 + 8 * i) = 3 ∧ p ≤ n) ∨ (M (330 + 8 * i) = 4 ∧ p = n + 1)) ∧
  ∀ s, 1 ≤ s → s ≤ 11 → bit32 (M (336 + 8 * i)) s = true → s ≤ p
theorem ChO_G {M : MR} {n i : Nat} (h : ChO M n i) : ChG M n i := by
  obtain ⟨p, h1, h2, h3, h4, h5, h6⟩ := h
  refine ⟨p, h1, h2, h3, h4, ?_, h6⟩
  rcases h5 with h5 | ⟨h5, h7, h8⟩ | h5 | h5 | h5
  · exact Or.inl h5
  · exact Or.inr (Or.inl ⟨h5, h7, by omega⟩)
  · exact Or.inr (Or.inr (Or.inl h5))
  · exact Or.inr (Or.inr (Or.inr (Or.inl h5)))
  · exact Or.inr (Or.inr (Or.inr (Or.inr h5)))
theorem ChG_O {M : MR} {n i : Nat} (h : ChG M n i) (hz : ¬ (M (330 + 8 * i) = 1 ∧ M (332 + 8 * i) = 0)) : ChO M n i := by
  obtain ⟨p, h1, h2, h3, h4, h5, h6⟩ := h
  refine ⟨p, h1, h2, h3, h4, ?_, h6⟩
  rcases h5 with h5 | ⟨h5, h7, h8⟩ | h5 | h5 | h5
  · exact Or.inl h5
  · refine Or.inr (Or.inl ⟨h5, h7, ?_⟩)
    have : ¬ (M (332 + 8 * i)).toInt = 0 := by
      intro e
      refine hz ⟨h5, ?_⟩
      rw [fa_eq, e]
      rfl
    omega
  · exact Or.inr (Or.inr (Or.inl h5))
  · exact Or.inr (Or.inr (Or.inr (Or.inl h5)))
  · exact Or.inr (Or.inr (Or.inr (Or.inr h5)))
theorem ChG_cong {M M' : MR} {n i : Nat} (h : ChG M n i) (e : ∀ w, w < 8 → M' (330 + 8 * i + w) = M (330 + 8 * i + w)) : ChG M' n i := by
  have e0 := e 0 (by omega)
  have e1 := e 1 (by omega)
  have e2 := e 2 (by omega)
  have e3 := e 3 (by omega)
  have e6 := e 6 (by omega)
  rw [show 330 + 8 * i + 0 = 330 + 8 * i by omega] at e0
  rw [show 330 + 8 * i + 1 = 331 + 8 * i by omega] at e1
  rw [show 330 + 8 * i + 2 = 332 + 8 * i by omega] at e2
  rw [show 330 + 8 * i + 3 = 333 + 8 * i by omega] at e3
  rw [show 330 + 8 * i + 6 = 336 + 8 * i by omega] at e6
  unfold ChG
  rw [e0, e1, e2, e3, e6]
  exact h
theorem TxO_cong {M M' : MR} {i : Nat} {T : Pg} (h : TxO M i T) (e7 : M' (337 + 8 * i) = M (337 + 8 * i)) (e : ∀ x, 1530 ≤ x → M' x = M x) : TxO M' i T := by
  unfold TxO
  rw [e7]
  rcases h with h | ⟨len, k, nu, h1, h2, h3, h4, h5⟩
  · exact Or.inl h
  · refine Or.inr ⟨len, k, nu, h1, h2, h3, ?_, h5⟩
    have : (fun j => M' (1530 + 400 * i + j)) = (fun j => M (1530 + 400 * i + j)) := by
      funext j
      exact e _ (by omega)
    rw [this]
    exact h4
theorem PgO_0 : PgO (-1, []) := ⟨Or.inl rfl, by show 0 ≤ 8; omega, by show 0 ≤ 400; omega, fun x hx => absurd hx (by simp)⟩
def Mid (M : MR) (T : Nat → Pg) (n c o K : Nat) (Z : Nat → Prop) : Prop :=
  DH M n c o K ∧ DR M n ∧ (∀ j, j < c → ChG M n j ∧ (Z j → ChO M n j)) ∧ DO M n ∧ DV M n ∧ (∀ j, j < c → TxO M j (T j) ∧ PgO (T j)) ∧ (∀ j, c ≤ j → T j = (-1, []))
theorem Mid_of {M M' : MR} {T : Nat → Pg} {n c o K c' o' : Nat} {Z Z' : Nat → Prop} (h : Mid M T n c o K Z) (hH : DH M' n c' o' K) (e1 : ∀ x, 10 ≤ x → x < 13 + 3 * n → M' x = M x) (hC : ∀ j, j < c' → ChG M' n j ∧ (Z' j → ChO M' n j)) (e9 : M' 9 = M 9) (eO : ∀ x, 94 ≤ x → x < 262 → M' x = M x) (eV : DV M' n) (eT : ∀ j, j < c' → (j < c ∧ M' (337 + 8 * j) = M (337 + 8 * j)) ∨ (c ≤ j ∧ M' (337 + 8 * j) = 0)) (e15 : ∀ x, 1530 ≤ x → M' x = M x) (hcc : c ≤ c') : Mid M' T n c' o' K Z' := by
  obtain ⟨h1, h2, h3, h4, h5, h6, h7⟩ := h
  refine ⟨hH, DR_cong h2 e1, hC, DO_cong h4 e9 eO, eV, fun j hj => ?_, fun j hj => h7 j (by omega)⟩
  rcases eT j hj with ⟨a, b⟩ | ⟨a, b⟩
  · exact ⟨TxO_cong (h6 j a).1 b e15, (h6 j a).2⟩
  · rw [h7 j a]
    exact ⟨Or.inl ⟨b, rfl⟩, PgO_0⟩
theorem Mid_mono {M : MR} {T : Nat → Pg} {n c o K : Nat} {Z Z' : Nat → Prop} (h : Mid M T n c o K Z) (hz : ∀ j, j < c → Z' j → Z j) : Mid M T n c o K Z' := by
  obtain ⟨h1, h2, h3, h4⟩ := h
  exact ⟨h1, h2, fun j hj => ⟨(h3 j hj).1, fun z => (h3 j hj).2 (hz j hj z)⟩, h4⟩
theorem DH_cong {M M' : MR} {n c o K : Nat} (h : DH M n c o K) (e : ∀ x, x < 6 → M' x = M x) (eo : ∀ i, i < c → isOut M' i = isOut M i) : DH M' n c o K := by
  obtain ⟨h1, h2, h3, h4, h5, h6, h7, h8, h9, h10⟩ := h
  refine ⟨by rw [e 1 (by omega), h1], h2, by rw [e 2 (by omega), h3], h4, by rw [e 3 (by omega), h5], by rw [cntP_cong eo, h6], ?_, ?_, ?_, ?_⟩
  · rw [e 0 (by omega)]; exact h7
  · rw [e 5 (by omega)]; exact h8
  · rw [e 5 (by omega)]; exact h9
  · rw [e 4 (by omega)]; exact h10
/-- only the chip i changes, and the seed -/
theorem Mid_chip {M M' : MR} {T : Nat → Pg} {n c o K i : Nat} {Z Z' : Nat → Prop} (h : Mid M T n c o K Z) (hi : i < c) (e : ∀ x, x ≠ 8 → ¬ (330 + 8 * i ≤ x ∧ x < 337 + 8 * i) → M' x = M x) (hg : ChG M' n i) (ho : Z' i → ChO M' n i) (hout : isOut M' i = isOut M i) (hz : ∀ j, j ≠ i → Z' j → Z j) : Mid M' T n c o K Z' := by
  have hc : c ≤ 60 := h.1.2.2.2.1
  refine Mid_of h (DH_cong h.1 (fun x hx => e x (by omega) (by omega)) (fun j hj => ?_)) (fun x h1 h2 => e x (by omega) (by have := h.1.2.1; omega)) (fun j hj => ?_) (e 9 (by omega) (by omega)) (fun x h1 h2 => e x (by omega) (by omega)) (DV_cong h.2.2.2.2.1 (fun x h1 h2 => e x (by omega) (by omega))) (fun j hj => Or.inl ⟨hj, ?_⟩) (fun x hx => e x (by omega) (by omega)) (Nat.le_refl _)
  · by_cases q : j = i
    · rw [q]; exact hout
    · unfold isOut
      rw [e _ (by omega) (by omega)]
  · by_cases q : j = i
    · rw [q]; exact ⟨hg, ho⟩
    · have ej : ∀ w, w < 8 → M' (330 + 8 * j + w) = M (330 + 8 * j + w) := fun w hw => e _ (by omega) (by omega)
      exact ⟨ChG_cong (h.2.2.1 j hj).1 ej, fun z => ChO_cong ((h.2.2.1 j hj).2 (hz j q z)) ej⟩
  · exact e _ (by omega) (by omega)
theorem bit_set (x : Int32) {s t : Nat} (hs : s < 32) (ht : t < 32) : bit32 (x ||| ((1 : Int32) <<< (nI s &&& 31))) t = (bit32 x t || decide (t = s)) := by
  have e := b_or x ((1 : Int32) <<< (nI s &&& 31)) t
  have e2 := b_shl s hs 1 ht
  show bt _ t = (bt x t || decide (t = s))
  rw [e, e2]
  by_cases q : s ≤ t
  · rw [decide_eq_true q, Bool.true_and, bt_1 (t - s) (by omega)]
    by_cases q2 : t = s
    · rw [decide_eq_true q2, decide_eq_true (by omega)]
    · rw [decide_eq_false q2, decide_eq_false (by omega)]
  · rw [decide_eq_false q, Bool.false_and, decide_eq_false (by omega)]
section MID
variable {M : MR} {T : Nat → Pg} {n c o K : Nat} {Z : Nat → Prop}
/-- one minute less to go -/
theorem mid_dec (h : Mid M T n c o K (fun _ => True)) : ∀ j, j ≤ c → Mid (decF j M) T n c o K (fun x => j ≤ x) ∧ (∀ x, (∀ i, i < j → x ≠ 332 + 8 * i) → decF j M x = M x) := by
  intro j
  induction j with
  | zero => intro _; exact ⟨Mid_mono h (fun _ _ _ => trivial), fun _ _ => rfl⟩
  | succ j ih =>
    intro hj
    obtain ⟨i1, i2⟩ := ih (by omega)
    have e : decF (j + 1) M = if decF j M (330 + 8 * j) = 1 then upd (decF j M) (332 + 8 * j) (decF j M (332 + 8 * j) - 1) else decF j M := rfl
    rw [e]
    by_cases q : decF j M (330 + 8 * j) = 1
    · rw [if_pos q]
      refine ⟨Mid_chip (i := j) i1 (by omega) (fun x _ hx => pk_un (by omega)) ?_ (fun z => absurd z (by omega)) ?_ (fun x hx z => by omega), fun x hx => ?_⟩
      · obtain ⟨p, h1, h2, h3, h4, h5, h6⟩ := (i1.2.2.1 j (by omega)).2 (Nat.le_refl _)
        refine ⟨p, by rw [pk_un (by omega), h1], h2, by rw [pk_un (by omega)]; exact h3, by rw [pk_un (by omega)]; exact h4, ?_, by rw [pk_un (by omega)]; exact h6⟩
        rcases h5 with ⟨h5, _⟩ | ⟨h5, h7, h8⟩ | ⟨h5, _⟩ | ⟨h5, _⟩ | ⟨h5, _⟩
        · rw [q] at h5; exact absurd h5 (by decide)
        · refine Or.inr (Or.inl ⟨by rw [pk_un (by omega)]; exact h5, h7, ?_⟩)
          unfold upd
          rw [if_pos rfl]
          have e1 : (1 : Int32).toInt = 1 := rfl
          have hb := Int32.toInt_lt (decF j M (332 + 8 * j))
          rw [ti_sub (by rw [e1]; omega), e1]
          omega
        · rw [q] at h5; exact absurd h5 (by decide)
        · rw [q] at h5; exact absurd h5 (by decide)
        · rw [q] at h5; exact absurd h5 (by decide)
      · unfold isOut
        rw [pk_un (by omega)]
      · rw [pk_un (hx j (by omega))]
        exact i2 x (fun i hi => hx i (by omega))
    · rw [if_neg q]
      exact ⟨Mid_mono i1 (fun x _ z => by omega), fun x hx => i2 x (fun i hi => hx i (by omega))⟩
/-- an act keeps it -/
theorem mid_xM (h : Mid M T n c o K Z) {hh : Nat} (h1 : 1 ≤ hh) (h2 : hh ≤ n) {w : Fin 32} {a : Int32} (hA : AcO w a) : ∃ c', c ≤ c' ∧ Mid (xM hh w a M) T n c' o K (fun x => Z x ∨ c ≤ x) ∧ ∀ x, 330 ≤ x → x < 330 + 8 * c → xM hh w a M x = M x := by
  have hn : n ≤ 11 := h.1.2.1
  have hc2 : M 2 = nI c := h.1.2.2.1
  have hc : c ≤ 60 := h.1.2.2.2.1
  have same : ∀ M' : MR, (∀ x, ¬ (50 ≤ x ∧ x < 94) → ¬ (810 ≤ x ∧ x < 1530) → M' x = M x) → DV M' n → Mid M' T n c o K (fun x => Z x ∨ c ≤ x) ∧ ∀ x, 330 ≤ x → x < 330 + 8 * c → M' x = M x := by
    intro M' e eV
    refine ⟨Mid_of h (DH_cong h.1 (fun x hx => e x (by omega) (by omega)) (fun j hj => ?_)) (fun x h1 h2 => e x (by omega) (by omega)) (fun j hj => ?_) (e 9 (by omega) (by omega)) (fun x h1 h2 => e x (by omega) (by omega)) eV (fun j hj => Or.inl ⟨hj, e _ (by omega) (by omega)⟩) (fun x hx => e x (by omega) (by omega)) (Nat.le_refl _), fun x h3 h4 => e x (by omega) (by omega)⟩
    · unfold isOut
      rw [e _ (by omega) (by omega)]
    · have ej : ∀ w, w < 8 → M' (330 + 8 * j + w) = M (330 + 8 * j + w) := fun w hw => e _ (by omega) (by omega)
      refine ⟨ChG_cong (h.2.2.1 j hj).1 ej, fun z => ChO_cong ((h.2.2.1 j hj).2 ?_) ej⟩
      rcases z with z | z
      · exact z
      · omega
  have sameC : ∀ M' : MR, (∀ x, ¬ (50 ≤ x ∧ x < 94) → M' x = M x) → Mid M' T n c o K (fun x => Z x ∨ c ≤ x) ∧ ∀ x, 330 ≤ x → x < 330 + 8 * c → M' x = M x :=
    fun M' e => same M' (fun x h3 _ => e x h3) (DV_cong h.2.2.2.2.1 (fun x h3 h4 => e x (by omega)))
  rcases hA with ⟨rfl | rfl, _⟩ | rfl | ⟨rfl, j, rfl, hj⟩
  · rw [xM_9]
    exact ⟨c, Nat.le_refl _, sameC _ (fun x hx => by rw [pk_un (by omega), pk_un (by omega)])⟩
  · rw [xM_10]
    exact ⟨c, Nat.le_refl _, sameC _ (fun x hx => by rw [pk_un (by omega), pk_un (by omega)])⟩
  · rw [xM_11]
    by_cases q : M 2 = 60
    · rw [if_pos q]
      exact ⟨c, Nat.le_refl _, Mid_mono h (fun x hx z => by rcases z with z | z; exact z; omega), fun _ _ _ => rfl⟩
    · rw [if_neg q, hc2, nI_clamp (by omega)]
      have hc3 : c < 60 := by
        have : c ≠ 60 := fun e => q (by rw [hc2, e]; rfl)
        omega
      have eo : ∀ x, x ≠ 2 → ¬ (330 + 8 * c ≤ x ∧ x < 338 + 8 * c) → adM c (nI hh) 1 (M (47 + 4 * hh)) 0 M x = M x := by
        intro x hx hx2
        unfold adM
        rw [if_neg hx, if_neg hx2]
      have ei : ∀ w, w < 8 → adM c (nI hh) 1 (M (47 + 4 * hh)) 0 M (330 + 8 * c + w) = (if w = 1 then nI hh else if w = 3 then 1 else if w = 4 then M 4 else if w = 5 then M (47 + 4 * hh) else 0) := by
        intro w hw
        unfold adM
        rw [if_neg (by omega), if_pos (by omega)]
        have cs : w = 0 ∨ w = 1 ∨ w = 2 ∨ w = 3 ∨ w = 4 ∨ w = 5 ∨ w = 6 ∨ w = 7 := by omega
        rcases cs with rfl | rfl | rfl | rfl | rfl | rfl | rfl | rfl
        · rw [if_neg (by omega), if_neg (by omega), if_neg (by omega), if_neg (by omega), if_neg (by omega)]; rfl
        · rw [if_pos (by omega)]; rfl
        · rw [if_neg (by omega), if_neg (by omega), if_neg (by omega), if_neg (by omega), if_neg (by omega)]; rfl
        · rw [if_neg (by omega), if_pos (by omega)]; rfl
        · rw [if_neg (by omega), if_neg (by omega), if_pos (by omega)]; rfl
        · rw [if_neg (by omega), if_neg (by omega), if_neg (by omega), if_pos (by omega)]; rfl
        · rw [if_neg (by omega), if_neg (by omega), if_neg (by omega), if_neg (by omega), if_neg (by omega)]; rfl
        · rw [if_neg (by omega), if_neg (by omega), if_neg (by omega), if_neg (by omega), if_pos (by omega)]; rfl
      have nC : ChO (adM c (nI hh) 1 (M (47 + 4 * hh)) 0 M) n c := by
        have i0 := ei 0 (by omega)
        have i1 := ei 1 (by omega)
        have i3 := ei 3 (by omega)
        have i6 := ei 6 (by omega)
        rw [show 330 + 8 * c + 0 = 330 + 8 * c by omega] at i0
        rw [show 330 + 8 * c + 1 = 331 + 8 * c by omega] at i1
        rw [show 330 + 8 * c + 3 = 333 + 8 * c by omega] at i3
        rw [show 330 + 8 * c + 6 = 336 + 8 * c by omega] at i6
        refine ⟨hh, by rw [i1]; rfl, by omega, by rw [i3]; exact (show (1 : Int) ≤ (1 : Int32).toInt by decide), by rw [i3]; exact (show (1 : Int32).toInt ≤ 9 by decide), Or.inl ⟨by rw [i0]; rfl, h2⟩, fun s _ hs hb => ?_⟩
        rw [i6] at hb
        have : bt 0 s = true := hb
        rw [b_0] at this
        exact absurd this (by decide)
      refine ⟨c + 1, by omega, Mid_of h ?_ (fun x h3 h4 => eo x (by omega) (by omega)) (fun j hj => ?_) (eo 9 (by omega) (by omega)) (fun x h3 h4 => eo x (by omega) (by omega)) (DV_cong h.2.2.2.2.1 (fun x h3 h4 => eo x (by omega) (by omega))) (fun j hj => ?_) (fun x hx => eo x (by omega) (by omega)) (by omega), fun x h3 h4 => eo x (by omega) (by omega)⟩
      · obtain ⟨g1, g2, g3, g4, g5, g6, g7, g8, g9, g10⟩ := h.1
        refine ⟨by rw [eo 1 (by omega) (by omega), g1], g2, if_pos rfl, by omega, by rw [eo 3 (by omega) (by omega), g5], ?_, by rw [eo 0 (by omega) (by omega)]; exact g7, by rw [eo 5 (by omega) (by omega)]; exact g8, by rw [eo 5 (by omega) (by omega)]; exact g9, by rw [eo 4 (by omega) (by omega)]; exact g10⟩
        show o = cntP (isOut (adM c (nI hh) 1 (M (47 + 4 * hh)) 0 M)) c + (if isOut (adM c (nI hh) 1 (M (47 + 4 * hh)) 0 M) c = true then 1 else 0)
        have i0 := ei 0 (by omega)
        rw [show 330 + 8 * c + 0 = 330 + 8 * c by omega] at i0
        have n0 : isOut (adM c (nI hh) 1 (M (47 + 4 * hh)) 0 M) c = false := by
          unfold isOut
          rw [i0]
          rfl
        rw [n0, if_neg (by decide), cntP_cong (q := isOut M) (fun j hj => by unfold isOut; rw [eo _ (by omega) (by omega)]), g6]
        rfl
      · by_cases ej : j = c
        · subst ej
          exact ⟨ChO_G nC, fun _ => nC⟩
        · have ew : ∀ w, w < 8 → adM c (nI hh) 1 (M (47 + 4 * hh)) 0 M (330 + 8 * j + w) = M (330 + 8 * j + w) := fun w hw => eo _ (by omega) (by omega)
          refine ⟨ChG_cong (h.2.2.1 j (by omega)).1 ew, fun z => ChO_cong ((h.2.2.1 j (by omega)).2 ?_) ew⟩
          rcases z with z | z
          · exact z
          · omega
      · by_cases ej : j = c
        · subst ej
          refine Or.inr ⟨Nat.le_refl _, ?_⟩
          have i7 := ei 7 (by omega)
          rw [show 330 + 8 * j + 7 = 337 + 8 * j by omega] at i7
          rw [i7]
          rfl
        · exact Or.inl ⟨by omega, eo _ (by omega) (by omega)⟩
  · rw [xM_12, nI_clamp (by omega)]
    split
    · exact ⟨c, Nat.le_refl _, sameC _ (fun x hx => pk_un (by omega))⟩
    · refine ⟨c, Nat.le_refl _, same _ (fun x h3 h4 => pk_un (by omega)) (fun i p a1 a2 a3 => ?_)⟩
      rw [pk_un (by omega)]
      exact h.2.2.2.2.1 i p a1 a2 a3
theorem mid_fold {hh i : Nat} (h1 : 1 ≤ hh) (h2 : hh ≤ n) : ∀ (px : List PX1) (M : MR) (c : Nat) (Z : Nat → Prop), Mid M T n c o K Z → (∀ x ∈ px, AcO x.1 x.2.1) → ∃ c', c ≤ c' ∧ Mid (px.foldl (exM hh i) M) T n c' o K (fun x => Z x ∨ c ≤ x) ∧ ∀ x, 330 ≤ x → x < 330 + 8 * c → px.foldl (exM hh i) M x = M x := by
  intro px
  induction px with
  | nil => intro M c Z h _; exact ⟨c, Nat.le_refl _, Mid_mono h (fun x hx z => by rcases z with z | z; exact z; omega), fun _ _ _ => rfl⟩
  | cons y r ih =>
    intro M c Z h hA
    have step : ∃ c', c ≤ c' ∧ Mid (exM hh i M y) T n c' o K (fun x => Z x ∨ c ≤ x) ∧ ∀ x, 330 ≤ x → x < 330 + 8 * c → exM hh i M y x = M x := by
      unfold exM
      split
      · exact mid_xM h h1 h2 (hA y (List.mem_cons_self ..))
      · exact ⟨c, Nat.le_refl _, Mid_mono h (fun x hx z => by rcases z with z | z; exact z; omega), fun _ _ _ => rfl⟩
    obtain ⟨c1, g1, g2, g3⟩ := step
    obtain ⟨c2, g4, g5, g6⟩ := ih _ c1 _ g2 (fun x hx => hA x (List.mem_cons_of_mem _ hx))
    refine ⟨c2, by omega, Mid_mono g5 (fun x hx z => ?_), fun x h3 h4 => ?_⟩
    · rcases z with z | z
      · exact Or.inl (Or.inl z)
      · exact Or.inl (Or.inr z)
    · show r.foldl (exM hh i) (exM hh i M y) x = M x
      rw [g6 x h3 (by omega), g3 x h3 h4]
/-- one that comes -/
theorem mid_co (h : Mid M T n c o K Z) {i p : Nat} (hi : i < c) (hs : M (330 + 8 * i) = 1) (hp : M (331 + 8 * i) = nI p) (hpn : p ≤ n) : ∃ c' o', c ≤ c' ∧ Mid (coM (T i) M n i p) T n c' o' K (fun x => Z x ∨ x = i ∨ c ≤ x) := by
  have hn : n ≤ 11 := h.1.2.1
  have hc2 : M 2 = nI c := h.1.2.2.1
  have hc : c ≤ 60 := h.1.2.2.2.1
  obtain ⟨p0, a1, a2, a3, a4, a5, a6⟩ := (h.2.2.1 i hi).1
  have ep : p0 = p := by
    rw [hp, nI_eq (by omega) (by omega)] at a1
    exact a1.symm
  subst ep
  have no1 : isOut M i = false := by
    unfold isOut
    rw [hs]
    decide
  have c1o : ∀ x, ¬ (330 + 8 * i ≤ x ∧ x < 337 + 8 * i) → co1 M i p0 x = M x := by
    intro x hx
    unfold co1
    rw [pk_un (by omega), pk_un (by omega), pk_un (by omega)]
  have c11 : co1 M i p0 (331 + 8 * i) = nI (p0 + 1) := by
    unfold co1
    rw [pk_un (by omega), pk_un (by omega)]
    exact if_pos rfl
  have c13 : co1 M i p0 (333 + 8 * i) = M (333 + 8 * i) := by
    unfold co1
    rw [pk_un (by omega), pk_un (by omega), pk_un (by omega)]
  have c16 : co1 M i p0 (336 + 8 * i) = M (336 + 8 * i) := by
    unfold co1
    rw [pk_un (by omega), pk_un (by omega), pk_un (by omega)]
  unfold coM
  by_cases q : p0 = n
  · rw [if_pos q]
    subst q
    obtain ⟨g1, g2, g3, g4, g5, g6, g7, g8, g9, g10⟩ := h.1
    have ho : o < c := by
      rw [g6]
      exact cntP_lt hi no1
    rw [g5, nI_clamp (by omega), nI_1]
    have eo : ∀ x, x ≠ 3 → x ≠ 262 + o → ¬ (330 + 8 * i ≤ x ∧ x < 337 + 8 * i) → upd (upd (upd (co1 M i p0) (330 + 8 * i) 4) (262 + o) (nI i)) 3 (nI (o + 1)) x = M x := by
      intro x h1 h2 h3
      rw [pk_un h1, pk_un h2, pk_un (by omega), c1o x h3]
    have i0 : upd (upd (upd (co1 M i p0) (330 + 8 * i) 4) (262 + o) (nI i)) 3 (nI (o + 1)) (330 + 8 * i) = 4 := by
      rw [pk_un (by omega), pk_un (by omega)]
      exact if_pos rfl
    have nC : ChO (upd (upd (upd (co1 M i p0) (330 + 8 * i) 4) (262 + o) (nI i)) 3 (nI (o + 1))) p0 i := by
      refine ⟨p0 + 1, by rw [pk_un (by omega), pk_un (by omega), pk_un (by omega), c11], by omega, ?_, ?_, Or.inr (Or.inr (Or.inr (Or.inr ⟨i0, rfl⟩))), fun s h1 h2 hb => ?_⟩
      · rw [pk_un (by omega), pk_un (by omega), pk_un (by omega), c13]; exact a3
      · rw [pk_un (by omega), pk_un (by omega), pk_un (by omega), c13]; exact a4
      · rw [pk_un (by omega), pk_un (by omega), pk_un (by omega), c16] at hb
        have := a6 s h1 h2 hb
        omega
    have isO : ∀ j, j ≠ i → isOut (upd (upd (upd (co1 M i p0) (330 + 8 * i) 4) (262 + o) (nI i)) 3 (nI (o + 1))) j = isOut M j := by
      intro j hj
      unfold isOut
      rw [eo _ (by omega) (by omega) (by omega)]
    refine ⟨c, o + 1, Nat.le_refl _, Mid_of h ?_ (fun x h3 h4 => eo x (by omega) (by omega) (by omega)) (fun j hj => ?_) (eo 9 (by omega) (by omega) (by omega)) (fun x h3 h4 => eo x (by omega) (by omega) (by omega)) (DV_cong h.2.2.2.2.1 (fun x h3 h4 => eo x (by omega) (by omega) (by omega))) (fun j hj => Or.inl ⟨hj, eo _ (by omega) (by omega) (by omega)⟩) (fun x hx => eo x (by omega) (by omega) (by omega)) (Nat.le_refl _)⟩
    · refine ⟨by rw [eo 1 (by omega) (by omega) (by omega), g1], g2, by rw [eo 2 (by omega) (by omega) (by omega), g3], g4, if_pos rfl, ?_, by rw [eo 0 (by omega) (by omega) (by omega)]; exact g7, by rw [eo 5 (by omega) (by omega) (by omega)]; exact g8, by rw [eo 5 (by omega) (by omega) (by omega)]; exact g9, by rw [eo 4 (by omega) (by omega) (by omega)]; exact g10⟩
      have := cntP_set (p := isOut M) (q := isOut (upd (upd (upd (co1 M i p0) (330 + 8 * i) 4) (262 + o) (nI i)) 3 (nI (o + 1)))) hi isO
      have y1 : isOut (upd (upd (upd (co1 M i p0) (330 + 8 * i) 4) (262 + o) (nI i)) 3 (nI (o + 1))) i = true := by
        unfold isOut
        rw [i0]
        rfl
      rw [no1, y1, if_neg (by decide), if_pos rfl] at this
      omega
    · by_cases ej : j = i
      · subst ej
        exact ⟨ChO_G nC, fun _ => nC⟩
      · have ew : ∀ w, w < 8 → upd (upd (upd (co1 M i p0) (330 + 8 * i) 4) (262 + o) (nI i)) 3 (nI (o + 1)) (330 + 8 * j + w) = M (330 + 8 * j + w) := fun w hw => eo _ (by omega) (by omega) (by omega)
        refine ⟨ChG_cong (h.2.2.1 j hj).1 ew, fun z => ChO_cong ((h.2.2.1 j hj).2 ?_) ew⟩
        rcases z with z | z | z
        · exact z
        · exact absurd z ej
        · omega
  · rw [if_neg q]
    have hA : ∀ v : Int32, (v = 3 ∨ v = 0) → Mid (upd (co1 M i p0) (330 + 8 * i) v) T n c o K (fun x => Z x ∨ x = i) := by
      intro v hv
      have i0 : upd (co1 M i p0) (330 + 8 * i) v (330 + 8 * i) = v := if_pos rfl
      have nC : ChO (upd (co1 M i p0) (330 + 8 * i) v) n i := by
        refine ⟨p0 + 1, by rw [pk_un (by omega), c11], by omega, ?_, ?_, ?_, fun s h1 h2 hb => ?_⟩
        · rw [pk_un (by omega), c13]; exact a3
        · rw [pk_un (by omega), c13]; exact a4
        · rcases hv with rfl | rfl
          · exact Or.inr (Or.inr (Or.inr (Or.inl ⟨i0, by omega⟩)))
          · exact Or.inl ⟨i0, by omega⟩
        · rw [pk_un (by omega), c16] at hb
          have := a6 s h1 h2 hb
          omega
      refine Mid_chip (i := i) h hi (fun x _ hx => by rw [pk_un (by omega), c1o x hx]) (ChO_G nC) (fun _ => nC) ?_ (fun j hj z => ?_)
      · rw [no1]
        unfold isOut
        rw [i0]
        rcases hv with rfl | rfl <;> decide
      · rcases z with z | z
        · exact z
        · exact absurd z hj
    have hv : ∀ v : Int32, (if v = nI (p0 + 1) then (3 : Int32) else 0) = 3 ∨ (if v = nI (p0 + 1) then (3 : Int32) else 0) = 0 := by
      intro v
      split
      · exact Or.inl rfl
      · exact Or.inr rfl
    have hB := hA _ (hv (T i).1)
    split
    · obtain ⟨c', d1, d2, d3⟩ := mid_fold (i := i) (hh := p0 + 1) (by omega) (by omega) (T i).2 _ c _ hB (fun x hx => ((h.2.2.2.2.2.1 i hi).2.2.2.2 x hx).1)
      simp only []
      generalize hM3 : (T i).2.foldl (exM (p0 + 1) i) (upd (co1 M i p0) (330 + 8 * i) (if (T i).1 = nI (p0 + 1) then 3 else 0)) = M3 at d2 d3 ⊢
      have m1 : M3 (331 + 8 * i) = nI (p0 + 1) := by rw [d3 _ (by omega) (by omega), pk_un (by omega), c11]
      obtain ⟨p2, b1, b2, b3, b4, b5, b6⟩ := (d2.2.2.1 i (by omega)).2 (Or.inl (Or.inr rfl))
      have ep2 : p2 = p0 + 1 := by
        rw [m1, nI_eq (by omega) (by omega)] at b1
        exact b1.symm
      subst ep2
      have nC : ChO (upd M3 (336 + 8 * i) (M3 (336 + 8 * i) ||| ((1 : Int32) <<< (nI (p0 + 1) &&& 31)))) n i := by
        refine ⟨p0 + 1, by rw [pk_un (by omega), m1], b2, by rw [pk_un (by omega)]; exact b3, by rw [pk_un (by omega)]; exact b4, ?_, fun s h1 h2 hb => ?_⟩
        · rw [pk_un (by omega), pk_un (by omega)]
          exact b5
        · have e6 : upd M3 (336 + 8 * i) (M3 (336 + 8 * i) ||| ((1 : Int32) <<< (nI (p0 + 1) &&& 31))) (336 + 8 * i) = M3 (336 + 8 * i) ||| ((1 : Int32) <<< (nI (p0 + 1) &&& 31)) := if_pos rfl
          rw [e6, bit_set _ (by omega) (by omega)] at hb
          cases hb1 : bit32 (M3 (336 + 8 * i)) s
          · rw [hb1, Bool.false_or] at hb
            have := of_decide_eq_true hb
            omega
          · exact b6 s h1 h2 hb1
      refine ⟨c', o, d1, Mid_chip (i := i) d2 (by omega) (fun x _ hx => pk_un (by omega)) (ChO_G nC) (fun _ => nC) ?_ (fun j hj z => ?_)⟩
      · unfold isOut
        rw [pk_un (by omega)]
      · rcases z with z | z | z
        · exact Or.inl (Or.inl z)
        · exact absurd z hj
        · exact Or.inr z
    · refine ⟨c, o, Nat.le_refl _, Mid_mono hB (fun x hx z => ?_)⟩
      rcases z with z | z | z
      · exact Or.inl z
      · exact Or.inr z
      · omega
end MID
