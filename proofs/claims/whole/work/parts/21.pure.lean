/-! ===== tokens and the parser, as plain functions ===== -/
/-- words, begins, numbers, how many, the text's length -/
abbrev TK : Type := (Nat → Fin 32) × (Nat → Int32) × (Nat → Int32) × Nat × Int32
def tW (k : TK) (t : Nat) : Fin 32 := k.1 t
def tB (k : TK) (t : Nat) : Int32 := k.2.1 t
def tV (k : TK) (t : Nat) : Int32 := k.2.2.1 t
def tN (k : TK) : Nat := k.2.2.2.1
def tL (k : TK) : Int32 := k.2.2.2.2
/-- place, fault, the number taken last -/
abbrev PT : Type := Nat × Int32 × Int32
def pRef (k : TK) (s : PT) : PT := if s.2.1 = -1 then (s.1, (if s.1 < tN k then tB k s.1 else tL k), s.2.2) else s
def pIs (k : TK) (w : Fin 32) (s : PT) : Bool := decide (s.2.1 = -1 ∧ s.1 < tN k ∧ tW k s.1 = w)
def pNx (s : PT) : PT := (s.1 + 1, s.2)
def pDem (k : TK) (w : Fin 32) (s : PT) : PT := if pIs k w s then pNx s else pRef k s
def pIsN (k : TK) (lo hi : Int32) (s : PT) : Bool := decide (s.2.1 = -1 ∧ s.1 < tN k ∧ tW k s.1 = 30 ∧ ¬ tV k s.1 < lo ∧ ¬ hi < tV k s.1)
def pNum (k : TK) (lo hi : Int32) (s : PT) : Int32 × PT := if pIsN k lo hi s then (tV k s.1, pNx s) else (lo, pRef k s)
def pIsP (k : TK) (s : PT) : Bool := decide (s.2.1 = -1 ∧ s.1 < tN k ∧ ¬ wP (tW k s.1) = false)
/-- with the steps written so far -/
abbrev SL : Type := List (Fin 32 × Int32)
abbrev PS : Type := PT × SL
def pAdd (w : Fin 32) (n : Int32) (s : PS) : PS := if s.2.length < 400 then (s.1, s.2 ++ [(w, n)]) else s
def pSum (k : TK) : Nat → Bool → PS → PS
  | 0, _, s => s
  | f + 1, fi, s =>
    if pIsP k s.1 then
      let s1 := pAdd (tW k s.1.1) (tV k s.1.1) ((s.1.1 + 1, s.1.2.1, tV k s.1.1), s.2)
      let s2 := if fi then s1 else pAdd 27 0 s1
      if f ≠ 0 ∧ pIs k 27 s2.1 then pSum k f false (pNx s2.1, s2.2) else s2
    else (pRef k s.1, s.2)
def pLoop (k : TK) (w : Fin 32) (body : PS → PS) : Nat → PS → PS
  | 0, s => s
  | f + 1, s => if pIs k w s.1 then pLoop k w body f (pAdd w 0 (body (pNx s.1, s.2))) else s
def pAll (k : TK) (A : PS → PS) (s : PS) : PS := pLoop k 26 A 400 (A s)
def pQue (k : TK) (A : PS → PS) (s : PS) : PS := pLoop k 25 (pAll k A) 400 (pAll k A s)
def pCmp (k : TK) (s : PS) : PS :=
  let s1 := pSum k 400 true s
  let le := pIs k 28 s1.1
  let s2 : PS := if le then (pNx s1.1, s1.2) else (pDem k 29 s1.1, s1.2)
  pAdd (if le then 28 else 29) 0 (pSum k 400 true s2)
def pAtom (k : TK) (Q A : PS → PS) (may : Bool) (s : PS) : PS :=
  if may ∧ pIs k 14 s.1 then pAdd 14 0 (A (pNx s.1, s.2))
  else if may ∧ pIs k 17 s.1 then (pDem k 18 (Q (pNx s.1, s.2)).1, (Q (pNx s.1, s.2)).2)
  else if pIs k 15 s.1 then pAdd 15 0 (pNx s.1, s.2)
  else pCmp k s
/-- an atom that may go r levels deeper -/
def pEx (k : TK) : Nat → PS → PS
  | 0 => pAtom k id id false
  | r + 1 => pAtom k (pQue k (pEx k r)) (pEx k r) true
/-- with the acts: kind, amount, where its question begins -/
abbrev AL : Type := List (Fin 32 × Int32 × Nat)
abbrev PA : Type := PS × AL
def pAct0 (w : Fin 32) (n : Int32) (s : PA) : PA := if s.2.length < 8 then (s.1, s.2 ++ [(w, n, s.1.2.length)]) else s
def pIf (k : TK) (s : PA) : PA := if pIs k 13 s.1.1 then (pQue k (pEx k 6) (pNx s.1.1, s.1.2), s.2) else s
def pActN (k : TK) (w : Fin 32) (lo hi : Int32) (s : PA) : PA :=
  pAct0 w (pNum k lo hi s.1.1).1 (((pNum k lo hi s.1.1).2, s.1.2), s.2)
def pAdv (s : PA) : PA := ((pNx s.1.1, s.1.2), s.2)
def pAct (k : TK) (s : PA) : PA :=
  if pIs k 12 s.1.1 then pActN k 12 0 59 (pAdv s)
  else if pIs k 9 s.1.1 then pIf k (pActN k 9 1 999 (pAdv s))
  else if pIs k 10 s.1.1 then pIf k (pActN k 10 1 999 (pAdv s))
  else pIf k (pAct0 11 0 ((pDem k 11 s.1.1, s.1.2), s.2))
def pActs (k : TK) : Nat → PA → PA
  | 0, s => s
  | f + 1, s => if pIs k 16 s.1.1 then pActs k f (pAct k (pAdv s)) else s
/-- whether a text of the parts that were taken is done here -/
def pEnd (k : TK) (s : PT) : PT :=
  if pIs k 16 s then pRef k (pNx s) else if s.1 < tN k then pRef k s else s
def pHead (k : TK) (s : PT) : Int32 × PT :=
  if pIs k 6 s then pNum k 1 11 (pNx s)
  else if pIs k 7 s then (0, pNx s)
  else (-1, pDem k 8 s)
/-- a chip's text: the head, and what the acts are -/
def pNot (k : TK) (nu : Int32) : Int32 × PA :=
  let h := pHead k (0, -1, nu)
  let a := pActs k 8 ((h.2, []), [])
  (h.1, ((pEnd k a.1.1, a.1.2), a.2))
/-! the class's parser, on its cells -/
def TOK (cm : CMu) (k : TK) : Prop := cm.2.2 5 = k.1 ∧ cm.1 6 = k.2.1 ∧ cm.1 7 = k.2.2.1 ∧ cm.1 4 3 = nI (tN k) ∧ cm.1 4 5 = tL k ∧ tN k ≤ 400 ∧ ∀ t, t < tN k → tW k t ≠ 0
def putT (cm : CMu) (s : PT) : CMu := (fun b j => if b = 4 ∧ j = 4 then nI s.1 else if b = 4 ∧ j = 7 then s.2.1 else if b = 4 ∧ j = 6 then s.2.2 else cm.1 b j, cm.2)
theorem putT_4 {cm : CMu} {s : PT} : gI (putT cm s) 4 4 = nI s.1 := rfl
theorem putT_7 {cm : CMu} {s : PT} : gI (putT cm s) 4 7 = s.2.1 := rfl
theorem putT_6 {cm : CMu} {s : PT} : gI (putT cm s) 4 6 = s.2.2 := rfl
theorem putT_W {cm : CMu} {s : PT} {a j : Nat} : gW (putT cm s) a j = gW cm a j := rfl
theorem putT_o {cm : CMu} {s : PT} {a j : Nat} (h : ¬ (a = 4 ∧ (j = 4 ∨ j = 6 ∨ j = 7))) : gI (putT cm s) a j = gI cm a j := by
  show (if a = 4 ∧ j = 4 then nI s.1 else if a = 4 ∧ j = 7 then s.2.1 else if a = 4 ∧ j = 6 then s.2.2 else cm.1 a j) = _
  rw [if_neg (by omega), if_neg (by omega), if_neg (by omega)]
  rfl
theorem putT_u4 {cm : CMu} {s : PT} {v : Nat} : uI (putT cm s) 4 4 (nI v) = putT cm (v, s.2) := by
  refine Prod.ext ?_ rfl
  funext b j
  show up2 _ 4 4 (nI v) b j = _
  unfold up2 putT
  by_cases h : b = 4 ∧ j = 4
  · simp [h]
  · simp [h]
theorem putT_u7 {cm : CMu} {s : PT} {v : Int32} : uI (putT cm s) 4 7 v = putT cm (s.1, v, s.2.2) := by
  refine Prod.ext ?_ rfl
  funext b j
  show up2 _ 4 7 v b j = _
  unfold up2 putT
  by_cases h : b = 4 ∧ j = 7
  · obtain ⟨rfl, rfl⟩ := h
    simp
  · simp [h]
theorem putT_u6 {cm : CMu} {s : PT} {v : Int32} : uI (putT cm s) 4 6 v = putT cm (s.1, s.2.1, v) := by
  refine Prod.ext ?_ rfl
  funext b j
  show up2 _ 4 6 v b j = _
  unfold up2 putT
  by_cases h : b = 4 ∧ j = 6
  · obtain ⟨rfl, rfl⟩ := h
    simp
  · simp [h]
theorem TOK_3 {cm : CMu} {k : TK} (h : TOK cm k) (s : PT) : gI (putT cm s) 4 3 = nI (tN k) := h.2.2.2.1
theorem TOK_5 {cm : CMu} {k : TK} (h : TOK cm k) (s : PT) : gI (putT cm s) 4 5 = tL k := h.2.2.2.2.1
theorem TOK_W {cm : CMu} {k : TK} (h : TOK cm k) (s : PT) (t : Nat) : gW (putT cm s) 5 t = tW k t := congrFun h.1 t
theorem TOK_B {cm : CMu} {k : TK} (h : TOK cm k) (s : PT) (t : Nat) : gI (putT cm s) 6 t = tB k t := by rw [putT_o (by omega)]; exact congrFun h.2.1 t
theorem TOK_V {cm : CMu} {k : TK} (h : TOK cm k) (s : PT) (t : Nat) : gI (putT cm s) 7 t = tV k t := by rw [putT_o (by omega)]; exact congrFun h.2.2.1 t
theorem k_refuse {cm : CMu} {k : TK} (h : TOK cm k) {s : PT} (hs : s.1 ≤ tN k) {post : CMu → Prop} (hp : post (putT cm (pRef k s))) : w_X10_refuse post (putT cm s) := by
  have h4 := h.2.2.2.2.2.1
  unfold w_X10_refuse
  rw [putT_7, putT_4, TOK_3 h, TOK_5 h]
  unfold pRef at hp
  refine ⟨fun q => ?_, fun q => ?_⟩
  · rw [if_neg q] at hp
    exact hp
  · rw [if_pos q] at hp
    refine ⟨fun q2 => ?_, fun q2 => ?_⟩
    · rw [nI_leI (by omega) (by omega)] at q2
      rw [if_neg (by omega)] at hp
      unfold B_X10_refuse_36
      rw [putT_u7]
      exact hp
    · rw [nI_leI (by omega) (by omega)] at q2
      rw [if_pos (by omega)] at hp
      rw [nI_clamp (by omega), TOK_B h]
      refine ⟨vp_in_nI (by omega) (by omega), ?_⟩
      unfold B_X10_refuse_36
      rw [putT_u7]
      exact hp
theorem k_take {cm : CMu} {k : TK} (h : TOK cm k) {s : PT} (hs : s.1 ≤ tN k) {w : Fin 32} {post : Bool → CMu → Prop} (h1 : pIs k w s = true → s.1 + 1 ≤ tN k → post true (putT cm (pNx s))) (h0 : pIs k w s = false → post false (putT cm s)) : w_X10_take post w (putT cm s) := by
  have h4 := h.2.2.2.2.2.1
  unfold w_X10_take
  rw [putT_7, putT_4, TOK_3 h]
  unfold pIs at h1 h0
  rw [decide_eq_true_eq] at h1
  rw [decide_eq_false_iff_not] at h0
  refine ⟨fun q => h0 (fun z => q z.1), fun q => ⟨fun q2 => ?_, fun q2 => ?_⟩⟩
  · rw [nI_leI (by omega) (by omega)] at q2
    exact h0 (fun z => by omega)
  · rw [nI_leI (by omega) (by omega)] at q2
    rw [nI_clamp (by omega), TOK_W h]
    refine ⟨vp_in_nI (by omega) (by omega), fun q3 => h0 (fun z => q3 z.2.2), fun q3 => ?_⟩
    rw [nI_1, putT_u4]
    exact h1 ⟨q, by omega, q3⟩ (by omega)
theorem k_demand {cm : CMu} {k : TK} (h : TOK cm k) {s : PT} (hs : s.1 ≤ tN k) {w : Fin 32} {post : CMu → Prop} (hp : (pDem k w s).1 ≤ tN k → post (putT cm (pDem k w s))) : w_X10_demand post w (putT cm s) := by
  unfold w_X10_demand
  unfold pDem at hp
  refine k_take h hs (fun q q2 => ?_) (fun q => ?_)
  · rw [if_pos q] at hp
    exact ⟨fun _ => hp q2, fun z => absurd z (by decide)⟩
  · rw [if_neg (by rw [q]; decide)] at hp
    refine ⟨fun z => absurd rfl z, fun _ => ?_⟩
    refine k_refuse h hs (hp ?_)
    unfold pRef
    split <;> exact hs
theorem pRef_1 {k : TK} {s : PT} : (pRef k s).1 = s.1 := by
  unfold pRef
  split <;> rfl
theorem k_number {cm : CMu} {k : TK} (h : TOK cm k) {s : PT} (hs : s.1 ≤ tN k) {lo hi : Int32} {post : Int32 → CMu → Prop} (hp : (pNum k lo hi s).2.1 ≤ tN k → post (pNum k lo hi s).1 (putT cm (pNum k lo hi s).2)) : w_X10_takeNumber post lo hi (putT cm s) := by
  have h4 := h.2.2.2.2.2.1
  have h0 : pIsN k lo hi s = false → B_X10_takeNumber_82 post lo (putT cm s) := by
    intro q
    unfold pNum at hp
    rw [if_neg (by rw [q]; decide)] at hp
    exact k_refuse h hs (hp (by rw [pRef_1]; exact hs))
  have h1 : pIsN k lo hi s = true → s.1 < tN k → post (tV k s.1) (putT cm (pNx s)) := by
    intro q q2
    unfold pNum at hp
    rw [if_pos q] at hp
    exact hp q2
  clear hp
  unfold pIsN at h1 h0
  rw [decide_eq_true_eq] at h1
  rw [decide_eq_false_iff_not] at h0
  unfold w_X10_takeNumber
  rw [putT_7, putT_4, TOK_3 h]
  refine ⟨fun q => h0 (fun z => q z.1), fun q => ⟨fun q2 => ?_, fun q2 => ?_⟩⟩
  · rw [nI_leI (by omega) (by omega)] at q2
    exact h0 (fun z => by omega)
  · rw [nI_leI (by omega) (by omega)] at q2
    rw [nI_clamp (by omega), TOK_W h, TOK_V h, nI_1, putT_u4, putT_4, nI_pred, nI_clamp (by omega), TOK_V h]
    have hv : vp_in (nI s.1) 400 := vp_in_nI (by omega) (by omega)
    refine ⟨hv, fun q3 => h0 (fun z => q3 z.2.2.1), fun q3 => ⟨hv, fun q4 => h0 (fun z => z.2.2.2.1 q4), fun q4 => ⟨hv, fun q5 => h0 (fun z => z.2.2.2.2 q5), fun q5 => ⟨hv, ?_⟩⟩⟩⟩
    exact h1 ⟨q, by omega, q3, q4, q5⟩ (by omega)
theorem k_part {cm : CMu} {k : TK} (h : TOK cm k) {s : PT} (hs : s.1 ≤ tN k) {post : Fin 32 → CMu → Prop} (h1 : pIsP k s = true → s.1 < tN k → post (tW k s.1) (putT cm (s.1 + 1, s.2.1, tV k s.1))) (h0 : pIsP k s = false → post 31 (putT cm s)) : w_X10_takePart post (putT cm s) := by
  have h4 := h.2.2.2.2.2.1
  unfold w_X10_takePart
  rw [putT_7, putT_4, TOK_3 h]
  unfold pIsP at h1 h0
  rw [decide_eq_true_eq] at h1
  rw [decide_eq_false_iff_not] at h0
  refine ⟨fun q => h0 (fun z => q z.1), fun q => ⟨fun q2 => ?_, fun q2 => ?_⟩⟩
  · rw [nI_leI (by omega) (by omega)] at q2
    exact h0 (fun z => by omega)
  · rw [nI_leI (by omega) (by omega)] at q2
    rw [nI_clamp (by omega), TOK_W h, TOK_V h, putT_u6, putT_4, nI_1, putT_u4, putT_4, nI_pred, nI_clamp (by omega), TOK_W h]
    have hv : vp_in (nI s.1) 400 := vp_in_nI (by omega) (by omega)
    exact ⟨hv, h.2.2.2.2.2.2 _ (by omega), fun q3 => h0 (fun z => z.2.2 q3), fun q3 => ⟨hv, hv, h1 ⟨q, by omega, q3⟩ (by omega)⟩⟩
