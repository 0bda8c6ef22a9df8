/-! ===== chip ===== -/
def NZ (l : SL) : Prop := ∀ x ∈ l, x.1 ≠ 0
section NZS
variable {k : TK}
theorem nz_add {w : Fin 32} {n : Int32} {s : PS} (hw : w ≠ 0) (h : NZ s.2) : NZ (pAdd w n s).2 := by
  unfold pAdd
  split
  · intro x hx
    rcases List.mem_append.mp hx with z | z
    · exact h x z
    · rw [List.mem_singleton.mp z]
      exact hw
  · exact h
theorem nz_sum (hk : ∀ t, t < tN k → tW k t ≠ 0) : ∀ (f : Nat) (fi : Bool) (s : PS), NZ s.2 → NZ (pSum k f fi s).2 := by
  intro f
  induction f with
  | zero => intro fi s h; exact h
  | succ f ih =>
    intro fi s h
    unfold pSum
    by_cases q : pIsP k s.1 = true
    · rw [if_pos q]
      have z := of_decide_eq_true q
      simp only []
      have h1 : NZ (pAdd (tW k s.1.1) (tV k s.1.1) ((s.1.1 + 1, s.1.2.1, tV k s.1.1), s.2)).2 := nz_add (hk _ z.2.1) h
      have h2 : NZ (if fi = true then pAdd (tW k s.1.1) (tV k s.1.1) ((s.1.1 + 1, s.1.2.1, tV k s.1.1), s.2) else pAdd 27 0 (pAdd (tW k s.1.1) (tV k s.1.1) ((s.1.1 + 1, s.1.2.1, tV k s.1.1), s.2))).2 := by
        split
        · exact h1
        · exact nz_add (by decide) h1
      generalize (if fi = true then pAdd (tW k s.1.1) (tV k s.1.1) ((s.1.1 + 1, s.1.2.1, tV k s.1.1), s.2) else pAdd 27 0 (pAdd (tW k s.1.1) (tV k s.1.1) ((s.1.1 + 1, s.1.2.1, tV k s.1.1), s.2))) = s2 at h2 ⊢
      split
      · exact ih _ _ h2
      · exact h2
    · rw [if_neg q]
      exact h
theorem nz_loop {w : Fin 32} {B : PS → PS} (hw : w ≠ 0) (hB : ∀ s : PS, NZ s.2 → NZ (B s).2) : ∀ (f : Nat) (s : PS), NZ s.2 → NZ (pLoop k w B f s).2 := by
  intro f
  induction f with
  | zero => intro s h; exact h
  | succ f ih =>
    intro s h
    unfold pLoop
    split
    · exact ih _ (nz_add hw (hB _ h))
    · exact h
theorem nz_all {A : PS → PS} (hA : ∀ s : PS, NZ s.2 → NZ (A s).2) (s : PS) (h : NZ s.2) : NZ (pAll k A s).2 := nz_loop (by decide) hA 400 _ (hA s h)
theorem nz_que {A : PS → PS} (hA : ∀ s : PS, NZ s.2 → NZ (A s).2) (s : PS) (h : NZ s.2) : NZ (pQue k A s).2 := nz_loop (by decide) (nz_all hA) 400 _ (nz_all hA s h)
theorem nz_cmp (hk : ∀ t, t < tN k → tW k t ≠ 0) (s : PS) (h : NZ s.2) : NZ (pCmp k s).2 := by
  unfold pCmp
  simp only []
  have h1 := nz_sum hk 400 true s h
  refine nz_add ?_ (nz_sum hk 400 true _ ?_)
  · split
    · decide
    · decide
  · split
    · exact h1
    · exact h1
theorem nz_atom (hk : ∀ t, t < tN k → tW k t ≠ 0) {Q A : PS → PS} (hQ : ∀ s : PS, NZ s.2 → NZ (Q s).2) (hA : ∀ s : PS, NZ s.2 → NZ (A s).2) {m : Bool} (s : PS) (h : NZ s.2) : NZ (pAtom k Q A m s).2 := by
  unfold pAtom
  split
  · exact nz_add (by decide) (hA _ h)
  · split
    · exact hQ _ h
    · split
      · exact nz_add (by decide) h
      · exact nz_cmp hk s h
theorem nz_ex (hk : ∀ t, t < tN k → tW k t ≠ 0) : ∀ (r : Nat) (s : PS), NZ s.2 → NZ (pEx k r s).2 := by
  intro r
  induction r with
  | zero => intro s h; exact nz_atom hk (fun _ z => z) (fun _ z => z) s h
  | succ r ih => intro s h; exact nz_atom hk (nz_que ih) ih s h
theorem nz_if (hk : ∀ t, t < tN k → tW k t ≠ 0) (s : PA) (h : NZ s.1.2) : NZ (pIf k s).1.2 := by
  unfold pIf
  split
  · exact nz_que (nz_ex hk 6) _ h
  · exact h
theorem nz_act0 {w : Fin 32} {n : Int32} (s : PA) (h : NZ s.1.2) : NZ (pAct0 w n s).1.2 := by
  unfold pAct0
  split
  · exact h
  · exact h
theorem nz_act (hk : ∀ t, t < tN k → tW k t ≠ 0) (s : PA) (h : NZ s.1.2) : NZ (pAct k s).1.2 := by
  have hN : ∀ (w : Fin 32) (lo hi : Int32) (s : PA), NZ s.1.2 → NZ (pActN k w lo hi s).1.2 := fun w lo hi s h => nz_act0 (w := w) _ h
  unfold pAct
  split
  · exact hN _ _ _ _ h
  · split
    · exact nz_if hk _ (hN _ _ _ _ h)
    · split
      · exact nz_if hk _ (hN _ _ _ _ h)
      · exact nz_if hk _ (nz_act0 (w := 11) _ h)
theorem nz_acts (hk : ∀ t, t < tN k → tW k t ≠ 0) : ∀ (f : Nat) (s : PA), NZ s.1.2 → NZ (pActs k f s).1.2 := by
  intro f
  induction f with
  | zero => intro s h; exact h
  | succ f ih =>
    intro s h
    unfold pActs
    split
    · exact ih _ (nz_act hk _ h)
    · exact h
theorem nz_not (hk : ∀ t, t < tN k → tW k t ≠ 0) {nu : Int32} : NZ (pNot k nu).2.1.2 := nz_acts hk 8 _ (fun x hx => absurd hx (by simp))
end NZS
section PAF
variable {N : Nat} {cm : CMu} {s : PA}
theorem PAt_o {b j : Nat} (h4 : b ≠ 4) (hb : b < N ∨ N + 5 < b) : gI (PAt N cm s) b j = gI cm b j := by
  unfold PAt PSt
  rw [putT_o (by omega)]
  show (if b = N ∧ j = 7 then _ else if b = N + 5 then _ else (if b = N ∧ j = 6 then _ else if b = N + 2 then _ else if b = N + 3 then _ else cm.1 b j)) = _
  rw [if_neg (by omega), if_neg (by omega), if_neg (by omega), if_neg (by omega), if_neg (by omega)]
  rfl
theorem PAt_W {b j : Nat} (hb : b < N ∨ N + 5 < b) : gW (PAt N cm s) b j = gW cm b j := by
  show (if b = N + 4 then _ else (if b = N + 1 then _ else cm.2.2 b j)) = _
  rw [if_neg (by omega), if_neg (by omega)]
  rfl
theorem PAt_5 (hN : 11 ≤ N) : gI (PAt N cm s) N 5 = gI cm N 5 := by
  unfold PAt PSt
  rw [putT_o (by omega)]
  show (if N = N ∧ 5 = 7 then _ else if N = N + 5 then _ else (if N = N ∧ 5 = 6 then _ else if N = N + 2 then _ else if N = N + 3 then _ else cm.1 N 5)) = _
  rw [if_neg (by omega), if_neg (by omega), if_neg (by omega), if_neg (by omega), if_neg (by omega)]
  rfl
theorem WRo_PAt (hN : 11 ≤ N) {px : List PX1} (h1 : s.1.2 = pxS px) (h2 : s.2 = pxA 0 px) (hz : NZ s.1.2) : WRo (PAt N cm s) N px := by
  refine ⟨by rw [PAt_6 hN, h2, pxA_len], by rw [PAt_7 hN, h1], fun j x hx => ⟨?_, ?_, ?_⟩, fun j x hx => ⟨?_, ?_, ?_⟩⟩
  · have e : gW (PAt N cm s) (N + 1) j = ((s.2[j]?).map (fun z => z.1)).getD (cm.2.2 (N + 1) j) := by
      show (if N + 1 = N + 4 then _ else (if N + 1 = N + 1 then ((s.2[j]?).map (fun z => z.1)).getD (cm.2.2 (N + 1) j) else _)) = _
      rw [if_neg (by omega)]
      exact if_pos rfl
    rw [e, h2, hx]
    rfl
  · have e : gI (PAt N cm s) (N + 2) j = ((s.2[j]?).map (fun z => z.2.1)).getD (cm.1 (N + 2) j) := by
      unfold PAt PSt
      rw [putT_o (by omega)]
      show (if N + 2 = N ∧ j = 7 then _ else if N + 2 = N + 5 then _ else (if N + 2 = N ∧ j = 6 then _ else if N + 2 = N + 2 then ((s.2[j]?).map (fun z => z.2.1)).getD (cm.1 (N + 2) j) else _)) = _
      rw [if_neg (by omega), if_neg (by omega), if_neg (by omega)]
      exact if_pos rfl
    rw [e, h2, hx]
    rfl
  · have e : gI (PAt N cm s) (N + 3) j = ((s.2[j]?).map (fun z => nI z.2.2)).getD (cm.1 (N + 3) j) := by
      unfold PAt PSt
      rw [putT_o (by omega)]
      show (if N + 3 = N ∧ j = 7 then _ else if N + 3 = N + 5 then _ else (if N + 3 = N ∧ j = 6 then _ else if N + 3 = N + 2 then _ else if N + 3 = N + 3 then ((s.2[j]?).map (fun z => nI z.2.2)).getD (cm.1 (N + 3) j) else _)) = _
      rw [if_neg (by omega), if_neg (by omega), if_neg (by omega), if_neg (by omega)]
      exact if_pos rfl
    rw [e, h2, hx]
    rfl
  · have e : gW (PAt N cm s) (N + 4) j = ((s.1.2[j]?).map (fun z => z.1)).getD ((putA N cm s.2).2.2 (N + 4) j) := by
      show (if N + 4 = N + 4 then ((s.1.2[j]?).map (fun z => z.1)).getD ((putA N cm s.2).2.2 (N + 4) j) else _) = _
      exact if_pos rfl
    rw [e, h1, hx]
    rfl
  · have e : gI (PAt N cm s) (N + 5) j = ((s.1.2[j]?).map (fun z => z.2)).getD ((putA N cm s.2).1 (N + 5) j) := by
      unfold PAt PSt
      rw [putT_o (by omega)]
      show (if N + 5 = N ∧ j = 7 then _ else if N + 5 = N + 5 then ((s.1.2[j]?).map (fun z => z.2)).getD ((putA N cm s.2).1 (N + 5) j) else _) = _
      rw [if_neg (by omega)]
      exact if_pos rfl
    rw [e, h1, hx]
    rfl
  · rw [← h1] at hx
    exact hz x (List.mem_of_getElem? hx)
end PAF
/-- no words, then a fault -/
theorem not_0 {k : TK} {nu : Int32} (h0 : tN k = 0) (hL : tL k = 0) : ¬ (pNot k nu).2.1.1.2.1 = -1 := by
  have hp : ∀ (w : Fin 32) (s : PT), pIs k w s = false := by
    intro w s
    unfold pIs
    exact decide_eq_false (fun z => absurd z.2.1 (by omega))
  have e1 : pHead k (0, -1, nu) = (-1, ((0, 0, nu) : PT)) := by
    unfold pHead pDem pRef
    rw [if_neg (by rw [hp]; decide), if_neg (by rw [hp]; decide), if_neg (by rw [hp]; decide), if_pos rfl, if_neg (by omega), hL]
  have e2 : ∀ s : PA, pActs k 8 s = s := by
    intro s
    unfold pActs
    rw [if_neg (by rw [hp]; decide)]
  have e3 : ∀ s : PT, pEnd k s = s := by
    intro s
    unfold pEnd
    rw [if_neg (by rw [hp]; decide), if_neg (by omega)]
  unfold pNot
  simp only [e1, e2, e3]
  decide
theorem Fo_15 {cm : CMu} {f : Nat} {M M' : MR} {T : Nat → Pg} {n c o : Nat} (hF : Fo cm f M T n c o) (hn : n ≤ 11) (hc : c ≤ 60) (ho : o ≤ 60) (e : ∀ x, x < 1530 → M' x = M x) : Fo cm f M' T n c o := by
  obtain ⟨g1, g2, g3, g4⟩ := hF
  refine ⟨fun x hx => ?_, fun r hr => ?_, g3, Bts_cong g4 (fun p hp => e _ (by omega)) (fun x h1 h2 => e x (by omega)) hn⟩
  · rw [e x (by have := DD_lt hn hc ho hx; omega)]
    exact g1 x hx
  · rw [g2 r hr]
    congr 1
    exact (inR_cong (fun i hi => ⟨e _ (by omega), e _ (by omega)⟩)).symm
/-- the row with one more chip and its text -/
theorem mid_new {M : MR} {T T' : Nat → Pg} {n c o K len : Nat} {b : MR} (h : Mid M T n c o K (fun _ => True)) (hc : c < 60) {p : Nat} {wt : Int32} (hp : p ≤ n) (hw : 1 ≤ wt.toInt ∧ wt.toInt ≤ 9) (hl : len ≤ 400)
    (hT : ∀ j, j ≠ c → T' j = T j) (hTc : PgO (T' c)) {k : TK} {nu : Int32} (hl1 : 1 ≤ len) (hk : TKL k (tks b len 0) len) (hf : (pNot k nu).2.1.1.2.1 = -1) (h1 : (pNot k nu).1 = (T' c).1) (h2 : (pNot k nu).2.1.2 = pxS (T' c).2) (h3 : (pNot k nu).2.2 = pxA 0 (T' c).2) :
    Mid (cpT c len b (adM c (nI p) wt (-1) (nI len) M)) T' n (c + 1) o K (fun _ => True) := by
  have hn : n ≤ 11 := h.1.2.1
  have eo : ∀ x, x ≠ 2 → ¬ (330 + 8 * c ≤ x ∧ x < 338 + 8 * c) → ¬ (1530 + 400 * c ≤ x ∧ x < 1530 + 400 * c + len) → cpT c len b (adM c (nI p) wt (-1) (nI len) M) x = M x := by
    intro x hx hx2 hx3
    unfold cpT adM
    rw [if_neg hx3, if_neg hx, if_neg hx2]
  have ei : ∀ w, w < 8 → cpT c len b (adM c (nI p) wt (-1) (nI len) M) (330 + 8 * c + w) = (if w = 1 then nI p else if w = 3 then wt else if w = 4 then M 4 else if w = 5 then -1 else if w = 7 then nI len else 0) := by
    intro w hw
    unfold cpT adM
    rw [if_neg (by omega), if_neg (by omega), if_pos (by omega)]
    have cs : w = 0 ∨ w = 1 ∨ w = 2 ∨ w = 3 ∨ w = 4 ∨ w = 5 ∨ w = 6 ∨ w = 7 := by omega
    rcases cs with rfl | rfl | rfl | rfl | rfl | rfl | rfl | rfl
    · rw [if_neg (by omega), if_neg (by omega), if_neg (by omega), if_neg (by omega), if_neg (by omega)]; rfl
    · rw [if_pos (by omega)]; rfl
    · rw [if_neg (by omega), if_neg (by omega), if_neg (by omega), if_neg (by omega), if_neg (by omega)]; rfl
    · rw [if_neg (by omega), if_pos (by omega)]; rfl
    · rw [if_neg (by omega), if_neg (by omega), if_pos (by omega)]; rfl
    · rw [if_neg (by omega), if_neg (by omega), if_neg (by omega), if_pos (by omega)]; rfl
    · rw [if_neg (by omega), if_neg (by omega), if_neg (by omega), if_neg (by omega), if_neg (by omega)]; rfl
    · rw [if_neg (by omega), if_neg (by omega), if_neg (by omega), if_neg (by omega), if_pos (by omega)]; rfl
  have i0 := ei 0 (by omega)
  have i1 := ei 1 (by omega)
  have i3 := ei 3 (by omega)
  have i6 := ei 6 (by omega)
  have i7 := ei 7 (by omega)
  rw [show 330 + 8 * c + 0 = 330 + 8 * c by omega] at i0
  rw [show 330 + 8 * c + 1 = 331 + 8 * c by omega] at i1
  rw [show 330 + 8 * c + 3 = 333 + 8 * c by omega] at i3
  rw [show 330 + 8 * c + 6 = 336 + 8 * c by omega] at i6
  rw [show 330 + 8 * c + 7 = 337 + 8 * c by omega] at i7
  have e2 : cpT c len b (adM c (nI p) wt (-1) (nI len) M) 2 = nI (c + 1) := by
    unfold cpT adM
    rw [if_neg (by omega), if_pos rfl]
  have nC : ChO (cpT c len b (adM c (nI p) wt (-1) (nI len) M)) n c := by
    refine ⟨p, by rw [i1]; rfl, by omega, by rw [i3]; exact hw.1, by rw [i3]; exact hw.2, Or.inl ⟨by rw [i0]; rfl, hp⟩, fun s _ hs hb => ?_⟩
    rw [i6] at hb
    have : bt 0 s = true := hb
    rw [b_0] at this
    exact absurd this (by decide)
  obtain ⟨m1, m2, m3, m4, m5, m6, m7⟩ := h
  refine ⟨?_, DR_cong m2 (fun x h3 h4 => eo x (by omega) (by omega) (by omega)), fun j hj => ?_, DO_cong m4 (eo 9 (by omega) (by omega) (by omega)) (fun x h3 h4 => eo x (by omega) (by omega) (by omega)), DV_cong m5 (fun x h3 h4 => eo x (by omega) (by omega) (by omega)), fun j hj => ?_, fun j hj => ?_⟩
  · obtain ⟨g1, g2, g3, g4, g5, g6, g7, g8, g9, g10⟩ := m1
    refine ⟨by rw [eo 1 (by omega) (by omega) (by omega), g1], g2, e2, by omega, by rw [eo 3 (by omega) (by omega) (by omega), g5], ?_, by rw [eo 0 (by omega) (by omega) (by omega)]; exact g7, by rw [eo 5 (by omega) (by omega) (by omega)]; exact g8, by rw [eo 5 (by omega) (by omega) (by omega)]; exact g9, by rw [eo 4 (by omega) (by omega) (by omega)]; exact g10⟩
    have n0 : isOut (cpT c len b (adM c (nI p) wt (-1) (nI len) M)) c = false := by
      unfold isOut
      rw [i0]
      rfl
    rw [cntP_S, n0, if_neg (by decide), cntP_cong (q := isOut M) (fun j hj => by unfold isOut; rw [eo _ (by omega) (by omega) (by omega)]), g6]
    rfl
  · by_cases ej : j = c
    · subst ej
      exact ⟨ChO_G nC, fun _ => nC⟩
    · have ew : ∀ w, w < 8 → cpT c len b (adM c (nI p) wt (-1) (nI len) M) (330 + 8 * j + w) = M (330 + 8 * j + w) := fun w hw => eo _ (by omega) (by omega) (by omega)
      exact ⟨ChG_cong (m3 j (by omega)).1 ew, fun z => ChO_cong ((m3 j (by omega)).2 z) ew⟩
  · by_cases ej : j = c
    · subst ej
      refine ⟨Or.inr ⟨len, k, nu, by rw [i7]; rfl, hl1, hl, ?_, hf, h1, h2, h3⟩, hTc⟩
      rw [tks_cong (b := b) (fun i hi => ?_)]
      · exact hk
      · show cpT j len b _ (1530 + 400 * j + i) = b i
        unfold cpT
        rw [if_pos (by omega)]
        congr 1
        omega
    · rw [hT j ej]
      refine ⟨?_, (m6 j (by omega)).2⟩
      have t := (m6 j (by omega)).1
      unfold TxO at t ⊢
      rw [eo (337 + 8 * j) (by omega) (by omega) (by omega)]
      rcases t with t | ⟨len', k', nu', t1, t2, t3, t4, t5⟩
      · exact Or.inl t
      · refine Or.inr ⟨len', k', nu', t1, t2, t3, ?_, t5⟩
        rw [tks_cong (b := fun i => M (1530 + 400 * j + i)) (fun i hi => eo _ (by omega) (by omega) (by omega))]
        exact t4
  · rw [hT j (by omega)]
    exact m7 j (by omega)
section SCH
variable {q : Nat} {cm : CMu} {mm : MM} {oo : Nat → Int64} {kk : KKt} {v : Int32}
theorem s_chip (h : SI q cm mm) {x1 x2 : Int32} (hk : ∀ cm' mm' oo', SI (q + 1) cm' mm' → kk v cm' mm' oo') {post : Int32 → CMu × (Nat → Int64) → Prop} (hpost : ∀ r u, w_X13_chip (EX kk v r u) x1 x2 mm → post r u) : w_L_chip post x1 x2 cm oo := by
  obtain ⟨n, c, o, T, g1, g2, g3, ⟨len, t1, t2, t3, t4⟩, g5, b, k1, k2, k3⟩ := id h
  obtain ⟨o1, o2, o3⟩ := mid_o g2
  have hH := Fo_h g1
  have hTr : TKL (opK cm len) (tks (mm 4) len 0) len := by
    rw [← tks_cong (b := mm 4) (b' := gI cm 3) (fun j hj => t4 j hj)]
    exact op_TKL
  have e5 : gI (uI cm 2 1 0) 382 5 = nI n := by rw [gI_c (by omega), hH.2.1, g2.1.1]
  have e6 : gI (opC cm len) 382 6 = nI c := by rw [op_o (by omega) (by omega) (by omega) (by omega), hH.2.2.1, g2.1.2.2.1]
  -- the tape's length is used up, and no more
  have used : ∀ mm' : MM, mm' 2 = mm 2 → mm' 0 3 = mm 0 3 → mm' 0 6 = 0 → mm' 0 10 = mm 0 10 → mm' 1 = mm 1 → SI (q + 1) (uI cm 2 1 0) mm' := by
    intro mm' a2 a3 a6 a10 a1
    exact SI_pre h (fun b j h1 h2 => gI_c (by omega)) (gI_c (by omega)) (fun b j h1 h2 => rfl) (fun b j h1 h2 => rfl) a1 a2 a3 (TP_0 gI_hit a6) (by rw [a10, gI_c (by omega)]; exact g5)
  have bad1 : (x1 < 0 ∨ nI n < x1) → post 1 (uI cm 2 1 0, oo) := by
    intro hb
    refine hpost _ _ ?_
    exact r_ctext (nu := 0) t2 t3 hTr g2.1.1 o1 g2.1.2.2.1 o2 rfl (fun _ mm' a2 a4 a3 a6 a10 a0 a1 => EX_th a0 (by decide) (hk _ _ _ (used mm' a2 a3 a6 a10 a1))) (fun a => absurd hb a) (fun a => absurd hb a) (fun a => absurd hb a) (fun a => absurd hb a)
  unfold w_L_chip w_X12_chip w_X9_useUp B_X12_chip_23
  rw [t1]
  refine ⟨fun q1 => Or.inl ⟨rfl, bad1 (Or.inl q1)⟩, fun q1 => ⟨fun q2 => ?_, fun q2 => Or.inl ⟨rfl, bad1 (Or.inr ?_)⟩⟩⟩
  · rw [e5] at q2
    have hst : ¬ (x1 < 0 ∨ nI n < x1) := fun z => z.elim q1 (le_lt.mp q2)
    refine c_weight (fun y2 => ?_) (fun y2 => Or.inr (Or.inl ⟨rfl, hpost _ _ ?_⟩))
    · have y2' := of_decide_eq_true y2
      have hwt : ¬ (x2 < 1 ∨ 9 < x2) := fun z => z.elim y2'.1 y2'.2
      refine c_op t3 ?_
      rw [e6, nI_clamp (by omega)]
      refine ⟨vp_in_nI (by omega) (by omega), ?_⟩
      refine k_read (op_TOK t3) (by omega) op_44 op_47 rfl (fun hbd => ?_)
      have hz : NZ (pNot (opK cm len) (gI (opC cm len) 4 6)).2.1.2 := nz_not (op_TOK (cm := cm) t3).2.2.2.2.2.2
      have h0 : tN (opK cm len) = 0 → ¬ (pNot (opK cm len) (gI (opC cm len) 4 6)).2.1.1.2.1 = -1 → True := fun _ _ => trivial
      have hg := g_not (k := opK cm len) (nu := gI (opC cm len) 4 6) (TKL_400 op_TKL t3) (fV_all op_TKL t3)
      have hn0 := not_0 (k := opK cm len) (nu := gI (opC cm len) 4 6)
      have rc := fun {post : Int32 → MM → Prop} => r_ctext (post := post) (nu := gI (opC cm len) 4 6) (st := x1) (wt := x2) t2 t3 hTr g2.1.1 o1 g2.1.2.2.1 o2 rfl
      generalize hR : pNot (opK cm len) (gI (opC cm len) 4 6) = R at hz hg hn0 rc hbd
      have hB : ∀ b j, (b < 11 + 6 * c ∨ 16 + 6 * c < b) → ¬ (b = 2 ∧ j = 1) → b ≠ 4 → b ≠ 6 → b ≠ 7 → gI (PAt (11 + 6 * c) (uI (opC cm len) (11 + 6 * c) 5 R.1) R.2) b j = gI cm b j := by
        intro b j h1 h2 h4 h6 h7
        rw [PAt_o h4 (by omega), gI_c (by omega), op_o h2 h4 h6 h7]
      have hBW : ∀ b j, (b < 11 + 6 * c ∨ 16 + 6 * c < b) → b ≠ 5 → gW (PAt (11 + 6 * c) (uI (opC cm len) (11 + 6 * c) 5 R.1) R.2) b j = gW cm b j := by
        intro b j h1 h5
        rw [PAt_W (by omega)]
        exact op_W h5
      have hBL : ∀ b j, gL (PAt (11 + 6 * c) (uI (opC cm len) (11 + 6 * c) 5 R.1) R.2) b j = gL cm b j := fun _ _ => rfl
      have h47 : gI (PAt (11 + 6 * c) (uI (opC cm len) (11 + 6 * c) 5 R.1) R.2) 4 7 = R.2.1.1.2.1 := rfl
      have h21 : gI (PAt (11 + 6 * c) (uI (opC cm len) (11 + 6 * c) 5 R.1) R.2) 2 1 = 0 := by
        rw [PAt_o (by omega) (by omega), gI_c (by omega)]
        exact op_21
      have hN5 : gI (PAt (11 + 6 * c) (uI (opC cm len) (11 + 6 * c) 5 R.1) R.2) (11 + 6 * c) 5 = R.1 := by
        rw [PAt_5 (by omega), gI_hit]
      have hWR : ∀ px : List PX1, R.2.1.2 = pxS px → R.2.2 = pxA 0 px → WRo (PAt (11 + 6 * c) (uI (opC cm len) (11 + 6 * c) 5 R.1) R.2) (11 + 6 * c) px := fun px z1 z2 => WRo_PAt (by omega) z1 z2 hz
      generalize PAt (11 + 6 * c) (uI (opC cm len) (11 + 6 * c) 5 R.1) R.2 = U at hB hBW hBL h47 h21 hN5 hWR
      have FU : Fo U 382 (mm 1) T n c o := Fo_fr g1 o1 o2 o3 (fun b j h1 h2 => hB b j (by omega) (by omega) (by omega) (by omega) (by omega)) (fun b j _ _ => hBL b j)
      have WU : ∀ i, i < 60 → (T i).1 ≠ -1 → WRo U (11 + 6 * i) (T i).2 := by
        intro i hi ht
        by_cases z : i < c
        · exact WRo_fr2 (g3 i hi ht) (fun b j h1 h2 => hB b j (by omega) (by omega) (by omega) (by omega) (by omega)) (fun b j h1 h2 => hBW b j (by omega) (by omega))
        · rw [g2.2.2.2.2.2.2 i (by omega)] at ht
          exact absurd rfl ht
      have KU : ∀ (cm' : CMu) (mm' : MM), (∀ b j, 489 ≤ b → b < 596 → gI cm' b j = gI U b j) → (∀ b j, 489 ≤ b → b < 596 → gL cm' b j = gL U b j) → mm' 2 = mm 2 → b = true → ∃ nk ck ok Tk, Fo cm' 489 (mm' 2) Tk nk ck ok ∧ Mid (mm' 2) Tk nk ck ok (2000 * (q + 1)) (fun _ => True) ∧ ck ≤ c ∧ ∀ i, i < ck → Tk i = T i := by
        intro cm' mm' hi hl a2 z
        obtain ⟨nk, ck, ok, Tk, b1, b2, b3, b4⟩ := k3 z
        obtain ⟨r1, r2, r3⟩ := mid_o b2
        refine ⟨nk, ck, ok, Tk, ?_, ?_, b3, b4⟩
        · rw [a2]
          exact Fo_fr b1 r1 r2 r3 (fun b j h1 h2 => by rw [hi b j h1 (by omega)]; exact hB b j (by omega) (by omega) (by omega) (by omega) (by omega)) (fun b j h1 h2 => by rw [hl b j h1 (by omega)]; exact hBL b j)
        · rw [a2]
          exact Mid_K b2 (by omega)
      have h17 : gI U 1 7 = gI cm 1 7 := hB 1 7 (by omega) (by omega) (by omega) (by omega) (by omega)
      have stay : ∀ mm' : MM, mm' 2 = mm 2 → mm' 0 3 = mm 0 3 → mm' 0 6 = 0 → mm' 0 10 = R.2.1.1.2.1 → mm' 1 = mm 1 → SI (q + 1) U mm' := by
        intro mm' a2 a3 a6 a10 a1
        refine ⟨n, c, o, T, by rw [a1]; exact FU, by rw [a1]; exact Mid_K g2 (by omega), WU, TP_0 h21 a6, by rw [a10, h47], b, by rw [h17]; exact k1, by rw [a3]; exact k2, KU U mm' (fun _ _ _ _ => rfl) (fun _ _ _ _ => rfl) a2⟩
      have u6 : gI U 382 6 = nI c := by rw [(Fo_h FU).2.2.1, g2.1.2.2.1]
      unfold w_X10_isWrong
      rw [h47]
      refine ⟨fun hf => ⟨fun _ => ?_, fun z => absurd rfl z⟩, fun hf => ⟨fun z => absurd z (by decide), fun _ => Or.inr (Or.inl ⟨rfl, hpost _ _ ?_⟩)⟩⟩
      · rw [u6, fa_lit 60, nI_ltI (by omega) (by omega)]
        refine ⟨fun hc => ?_, fun hc => Or.inr (Or.inr ⟨rfl, hpost _ _ ?_⟩)⟩
        · obtain ⟨px, f1, f2, f3⟩ := hg hf
          rw [hN5]
          have hl1 : 1 ≤ len := by
            by_cases z : len = 0
            · subst z
              have a : tN (opK cm 0) = 0 := by
                have : (tks (gI cm 3) 0 0).length = 0 := by
                  rw [tks_end (Nat.le_refl _)]
                  rfl
                exact this
              exact absurd hf (hn0 a rfl)
            · omega
          obtain ⟨p, hp, rfl⟩ := in_of (n := n) (x := x1) (by omega) q1 (le_lt.mp q2)
          have hw9 : 1 ≤ x2.toInt ∧ x2.toInt ≤ 9 := by
            rw [fa_lt, fa_lt] at y2'
            have a1 : (1 : Int32).toInt = 1 := rfl
            have a9 : (9 : Int32).toInt = 9 := rfl
            omega
          refine c_throw (T' := fun j => if j = c then (R.1, px) else T j) FU o1 g2.1.2.2.1 hc o3 (hd := R.1) (sz := nI len) (fun j hj => if_neg (by omega)) (by show (if c = c then ((R.1, px) : Pg) else T c).1 = R.1; rw [if_pos rfl]) (fun cm' F' fr => ?_)
          refine hpost _ _ ?_
          refine rc (fun a => absurd a hst) (fun _ a => absurd a hwt) (fun _ _ a => absurd hf a) (fun _ _ _ a => absurd a (by omega)) (fun _ _ _ _ mm' a2 a4 a3 a6 a10 a0 a1 => ?_)
          refine EX_ok a0 (hk _ _ _ ?_)
          have ec : (fun j => if j = c then ((R.1, px) : Pg) else T j) c = (R.1, px) := if_pos rfl
          have MN : Mid (cpT c len (mm 4) (adM c (nI p) x2 (-1) (nI len) (mm 1))) (fun j => if j = c then (R.1, px) else T j) n (c + 1) o (2000 * q) (fun _ => True) := by
            refine mid_new g2 hc hp hw9 t3 (fun j hj => if_neg hj) (by rw [if_pos rfl]; exact f3) (k := opK cm len) (nu := gI (opC cm len) 4 6) hl1 hTr (by rw [hR]; exact hf) (by rw [hR, if_pos rfl]) (by rw [hR, if_pos rfl]; exact f1) (by rw [hR, if_pos rfl]; exact f2)
          refine ⟨n, c + 1, o, fun j => if j = c then (R.1, px) else T j, ?_, by rw [a1]; exact Mid_K MN (by omega), fun i hi ht => ?_, TP_0 ?_ a6, ?_, b, ?_, by rw [a3]; exact k2, fun z => ?_⟩
          · rw [a1]
            refine Fo_15 F' o1 (by omega) o3 (fun x hx => ?_)
            unfold cpT
            rw [if_neg (by omega)]
          · by_cases z : i = c
            · subst z
              rw [ec]
              exact FrC_W (by omega) (by omega) fr (hWR px f1 f2)
            · have ez : (fun j => if j = c then ((R.1, px) : Pg) else T j) i = T i := if_neg z
              rw [ez] at ht ⊢
              exact FrC_W (by omega) (by omega) fr (WU i hi ht)
          · rw [fr.1 2 1 (by omega) (by omega)]
            exact h21
          · rw [fr.1 4 7 (by omega) (by omega), h47, a10, hf]
          · rw [fr.1 1 7 (by omega) (by omega), h17]
            exact k1
          · obtain ⟨nk, ck, ok, Tk, b1, b2, b3, b4⟩ := KU cm' mm' (fun b j h1 h2 => fr.1 b j (by omega) (by omega)) (fun b j h1 h2 => fr.2.1 b j (by omega)) a2 z
            exact ⟨nk, ck, ok, Tk, b1, b2, by omega, fun i hi => by rw [b4 i hi]; exact (if_neg (by omega)).symm⟩
        · refine rc (fun a => absurd a hst) (fun _ a => absurd a hwt) (fun _ _ a => absurd hf a) (fun _ _ _ _ mm' a2 a4 a3 a6 a10 a0 a1 => ?_) (fun _ _ _ a => absurd a (by omega))
          exact EX_th a0 (by decide) (hk _ _ _ (stay mm' a2 a3 a6 (by rw [a10, hf]) a1))
      · refine rc (fun a => absurd a hst) (fun _ a => absurd a hwt) (fun _ _ _ mm' a2 a4 a3 a6 a10 a0 a1 => ?_) (fun _ _ a => absurd a hf) (fun _ _ a => absurd a hf)
        exact EX_th a0 (by decide) (hk _ _ _ (stay mm' a2 a3 a6 a10 a1))
    · have y2' := of_decide_eq_false y2
      have hwt : x2 < 1 ∨ 9 < x2 := by
        by_cases z : x2 < 1
        · exact Or.inl z
        · by_cases z2 : 9 < x2
          · exact Or.inr z2
          · exact absurd ⟨z, z2⟩ y2'
      exact r_ctext (nu := 0) t2 t3 hTr g2.1.1 o1 g2.1.2.2.1 o2 rfl (fun a => absurd a hst) (fun _ _ mm' a2 a4 a3 a6 a10 a0 a1 => EX_th a0 (by decide) (hk _ _ _ (used mm' a2 a3 a6 a10 a1))) (fun _ a => absurd hwt a) (fun _ a => absurd hwt a) (fun _ a => absurd hwt a)
  · rw [e5] at q2
    by_cases z : nI n < x1
    · exact z
    · exact absurd (le_lt.mpr z) q2
end SCH
