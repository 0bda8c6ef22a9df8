/-! ===== a forest's text, as plain functions; the class reads it ===== -/
abbrev PM : Type := PT × (Nat → Int32)
def lnNum (k : TK) (lo hi : Int32) (x : Nat) (s : PM) : PM := ((pNum k lo hi s.1).2, upd s.2 x (pNum k lo hi s.1).1)
def addM (len trees : Int32) (M : Nat → Int32) : Nat → Int32 :=
  let i := (M 1).toNatClampNeg + 1
  upd (upd (upd (upd (upd (upd (upd (upd M 1 (nI i)) (46 + 4 * i + 0) trees) (46 + 4 * i + 1) 0) (46 + 4 * i + 2) 0) (46 + 4 * i + 3) 0) (10 + 3 * i + 0) len) (10 + 3 * i + 1) 0) (10 + 3 * i + 2) 0
def lnCamp (k : TK) (s : PM) : PM :=
  let a := pNum k 1 20 s.1
  let b := pNum k 0 999 a.2
  (b.2, if b.2.2.1 = -1 then addM a.1 b.1 s.2 else s.2)
def lnOpt (k : TK) (w : Fin 32) (hi : Int32) (s : PT) : Int32 × PT := if pIs k w s then pNum k 0 hi (pNx s) else (0, s)
def lnReach (k : TK) (s : PM) : PM :=
  let r := pNum k 0 (s.2 1) s.1
  let l := pNum k 1 20 r.2
  let st := lnOpt k 3 99 l.2
  let be := lnOpt k 4 9 st.2
  (be.2, if be.2.2.1 = -1 then upd (upd (upd s.2 (10 + 3 * r.1.toNatClampNeg + 0) l.1) (10 + 3 * r.1.toNatClampNeg + 1) st.1) (10 + 3 * r.1.toNatClampNeg + 2) be.1 else s.2)
def pmNx (s : PM) : PM := (pNx s.1, s.2)
def pLine (k : TK) (s : PM) : PM :=
  if (¬ 11 ≤ s.2 1 ∧ s.2 2 = 0) ∧ pIs k 1 s.1 = true then lnCamp k (pmNx s)
  else if pIs k 2 s.1 then lnReach k (pmNx s)
  else if pIs k 22 s.1 then lnNum k 1 9 5 (pmNx s)
  else if pIs k 15 s.1 then lnNum k 0 23 7 (lnNum k 0 23 6 (pmNx s))
  else if pIs k 5 s.1 then lnNum k 0 999 8 (pmNx s)
  else (pRef k s.1, s.2)
def pLines (k : TK) : Nat → PM → PM
  | 0, s => s
  | f + 1, s => if pIs k 16 s.1 then pLines k f (pLine k (pmNx s)) else s
def pForest (k : TK) (s : PM) : PM :=
  if s.1.1 < tN k then (pEnd k (pLines k 13 (pLine k s)).1, (pLines k 13 (pLine k s)).2) else s
theorem pNum_in {k : TK} {lo hi : Int32} {s : PT} (h : lo ≤ hi) : lo ≤ (pNum k lo hi s).1 ∧ (pNum k lo hi s).1 ≤ hi := by
  unfold pNum
  split
  · rename_i q
    have := of_decide_eq_true q
    constructor
    · have h1 := this.2.2.2.1
      rw [fa_lt] at h1
      rw [fa_le]
      show lo.toInt ≤ (tV k s.1).toInt
      omega
    · have h1 := this.2.2.2.2
      rw [fa_lt] at h1
      rw [fa_le]
      show (tV k s.1).toInt ≤ hi.toInt
      omega
  · constructor
    · show lo ≤ lo
      rw [fa_le]
      omega
    · exact h
theorem lnOpt_in {k : TK} {w : Fin 32} {hi : Int32} {s : PT} (h : 0 ≤ hi) : 0 ≤ (lnOpt k w hi s).1 ∧ (lnOpt k w hi s).1 ≤ hi := by
  unfold lnOpt
  split
  · exact pNum_in h
  · exact ⟨(by decide : (0 : Int32) ≤ 0), h⟩
/-- the trial forest while a text is read: with what stands below it as it was -/
def RT (cm0 cm : CMu) (M : Nat → Int32) (T : Nat → Pg) (n c o K : Nat) : Prop :=
  (∀ b j, b < 596 → gI cm b j = gI cm0 b j) ∧ (∀ b j, b < 596 → gL cm b j = gL cm0 b j) ∧ cm.2.2 = cm0.2.2 ∧ Fo cm 596 M T n c o ∧ Dom M n c o K ∧ o ≤ 60
theorem RT_TOK {cm0 cm : CMu} {M : Nat → Int32} {T : Nat → Pg} {n c o K : Nat} {k : TK} (h : RT cm0 cm M T n c o K) (hk : TOK cm0 k) : TOK cm k :=
  TOK_o (N := 0) hk (fun a j q => h.1 a j (by omega)) (fun a j _ => congrFun (congrFun h.2.2.1 a) j)
/-- a field of the forest itself -/
theorem RT_set {cm0 cm : CMu} {M : Nat → Int32} {T : Nat → Pg} {n c o K : Nat} (h : RT cm0 cm M T n c o K) {x a j : Nat} (hx : x < 46) (e : ad x = (a, j)) (ha : a < 23 ∨ (24 ≤ a ∧ a % 2 = 0 ∧ j ≠ 3)) {v : Int32} (hd : Dom (upd M x v) n c o K) : RT cm0 (uI cm (596 + a) j v) (upd M x v) T n c o K := by
  obtain ⟨h1, h2, h3, ⟨h4, h5, h6, h7⟩, h8, h9⟩ := h
  have hn := h8.1.2.1
  have hc := h8.1.2.2.2.1
  have ha2 : a < 47 := by
    unfold ad at e
    split at e
    · rcases ha with ha | ha
      · omega
      · exfalso
        have : ∀ x, x < 10 → (([(0, 8), (0, 5), (0, 6), (0, 7), (0, 12), (0, 9), (0, 10), (0, 11), (0, 13), (5, 3)] : List (Nat × Nat)).getD x (0, 0)).1 < 24 := by decide
        have := this x (by omega)
        rw [e] at this
        omega
    · have := congrArg Prod.fst e
      show a < 47
      have e2 : 24 + 2 * ((x - 10) / 3) = a := this
      omega
  refine ⟨fun b i hb => ?_, h2, h3, ⟨?_, fun r hr => ?_, fun i hi => ?_, ?_⟩, hd, h9⟩
  · rw [gI_c (by omega)]
    exact h1 b i hb
  · have := RFI_set h4 (DD_im hn hc h9) (x := x) (decide_eq_true (by omega)) v
    rw [e] at this
    exact this
  · have e3 : inR (upd M x v) c r = inR M c r := inR_cong (fun i _ => ⟨pk_un (by omega), pk_un (by omega)⟩)
    rw [e3, ← h5 r hr]
    exact up2_miss (by omega)
  · rw [← h6 i hi]
    exact up2_miss (by omega)
  · exact Bts_cong (f := 596) (cm := cm) h7 (fun p _ => pk_un (by omega)) (fun x2 _ _ => pk_un (by omega)) hn
