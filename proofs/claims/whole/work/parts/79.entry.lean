/-! ===== the entry: the words, their spellings, the classes, the numbering ===== -/
theorem va_T.to {ty : FieldType} {t N : Nat} {f g : Nat → Value} {A : Nat → Prop} {U : State} {H : Heap} (h : va_T ty t N f A U H) (hg : ∀ j, j < N → f j = g j) : va_T ty t N g A U H := by
  obtain ⟨cell, h1, h2, h3, h4, h5, h6, h7⟩ := h
  exact ⟨cell, h1, h2, h3, h4, h5, fun j hj => by rw [h6 j hj, hg j hj], h7⟩
theorem OF_same {o n d : String} {v w : Value} {t : Nat} {A : Nat → Prop} {U : State} {H : Heap} (h : va_OF o n d v t A U H) (h' : va_OF o n d w t A U H) : v = w := by
  obtain ⟨cf, k, i, f, cell, h1, h2, h3, h4, h5, h6⟩ := h
  obtain ⟨cf', k', i', f', cell', g1, g2, g3, g4, g5, g6⟩ := h'
  cases h1.symm.trans g1
  cases h3.symm.trans g3
  exact Option.some.inj (h5.symm.trans g5)
theorem T_same {ty : FieldType} {t N M : Nat} {f g : Nat → Value} {A : Nat → Prop} {U : State} {H : Heap} (hN : N < 2 ^ 31) (hM : M < 2 ^ 31) (h : va_T ty t N f A U H) (h' : va_T ty t M g A U H) : N = M ∧ ∀ j, j < N → f j = g j := by
  obtain ⟨cell, h1, h2, h3, h4, h5, h6, h7⟩ := h
  obtain ⟨cell', g1, g2, g3, g4, g5, g6, g7⟩ := h'
  cases h1.symm.trans g1
  have e : Int32.ofNat N = Int32.ofNat M := h5.symm.trans g5
  have e2 : N = M := by
    have e3 : (nI N).toNatClampNeg = (nI M).toNatClampNeg := congrArg Int32.toNatClampNeg e
    rw [nI_clamp hN, nI_clamp hM] at e3
    exact e3
  subst e2
  exact ⟨rfl, fun j hj => Option.some.inj ((h6 j hj).symm.trans (g6 j hj))⟩
/-- what the start gives, at the addresses that it names -/
def Ads (args : Array Value) (s : State) (A : Nat → Prop) (adW adK adV : Nat → Nat) (tL tS tI : Nat) : Prop :=
  (∀ i, i < 31 → (wT i).eval args s none [] s = some (.ref (adW i)) ∧ va_O RX11 (adW i) A s s.heap) ∧
  (∀ i, i < 30 → (sT i).eval args s none [] s = some (.ref (adK i)) ∧ va_O "java/lang/String" (adK i) A s s.heap ∧ va_OF "java/lang/String" "coder" "B" (.int 0) (adK i) A s s.heap ∧ va_OF "java/lang/String" "value" "[B" (.ref (adV i)) (adK i) A s s.heap ∧ va_T .byte (adV i) (slen.getD i 0) (fun j => .int ((sbyt.getD i []).getD j 0)) A s s.heap) ∧
  (lT.eval args s none [] s = some (.ref tL) ∧ va_T (.object RX11) tL 31 (fun j => .ref (adW j)) A s s.heap) ∧
  (swT.eval args s none [] s = some (.ref tS) ∧ va_T .int tS 31 (fun j => .int (swm.getD j 0)) A s s.heap) ∧
  (va_Z "jdk/internal/util/Preconditions" "SIOOBE_FORMATTER" "Ljava/util/function/BiFunction;" .null A s s.heap ∨ va_Z "jdk/internal/util/Preconditions" "SIOOBE_FORMATTER" "Ljava/util/function/BiFunction;" (.ref tI) A s s.heap)
theorem slen31 : ∀ i, i < 30 → slen.getD i 0 < 2 ^ 31 := by decide +kernel
theorem sdiff : ∀ i, i < 30 → ∀ j, j < 30 → slen.getD i 0 = slen.getD j 0 → (∀ k, k < slen.getD i 0 → (sbyt.getD i []).getD k 0 = (sbyt.getD j []).getD k 0) → i = j := by decide +kernel
section ENTRY
variable {args : Array Value} {s : State} {A : Nat → Prop}
theorem ads_of (hs : ∀ w ∈ NWL, w.before args s = true) (ht : ∀ w ∈ lw_tbl, w.before args s = true) (hA : ∀ a : Nat, a < s.heap.size → ¬ A a) : ∃ adW adK adV tL tS tI, Ads args s A adW adK adV tL tS tI := by
  have hW : ∀ i : Nat, ∃ t : Nat, i < 31 → (wT i).eval args s none [] s = some (.ref t) ∧ va_O RX11 t A s s.heap := by
    intro i
    by_cases hi : i < 31
    · obtain ⟨a, c, cell, k, q1, q2, q3, q4, q5, q6, -⟩ := Cond.exactly_spec (hs _ (nw_ex i hi))
      exact ⟨a, fun _ => ⟨q1, cell, q3, q5, by rw [q6]; exact q2, hA a (Array.getElem?_eq_some_iff.mp q3).1⟩⟩
    · exact ⟨0, fun h => absurd h hi⟩
  obtain ⟨adW, hW⟩ := Classical.axiomOfChoice hW
  have hK : ∀ i : Nat, ∃ q : Nat × Nat, i < 30 → (sT i).eval args s none [] s = some (.ref q.1) ∧ va_O "java/lang/String" q.1 A s s.heap ∧ va_OF "java/lang/String" "coder" "B" (.int 0) q.1 A s s.heap ∧ va_OF "java/lang/String" "value" "[B" (.ref q.2) q.1 A s s.heap ∧ va_T .byte q.2 (slen.getD i 0) (fun j => .int ((sbyt.getD i []).getD j 0)) A s s.heap := by
    intro i
    by_cases hi : i < 30
    · obtain ⟨a, c, cA, kA, q1, q2, q3, q4, q5, q6, -⟩ := Cond.exactly_spec (args := args) (first := s) (o := none) (s := s) (idx := []) (t := sT i) (cls := "java/lang/String") (hs _ (nw_sx i hi))
      obtain ⟨t, ht9, hT⟩ := va_Tof (f := fun j => .int ((sbyt.getD i []).getD j 0)) (A := A) (slen31 i hi) (hs _ (nw_sa i hi)) (va_eqt (hs _ (nw_sl i hi))) (fun j hj => va_eqt (hs _ (nw_se i hi j hj))) hA
      exact ⟨(a, t), fun _ => ⟨q1, ⟨cA, q3, q5, by rw [q6]; exact q2, hA a (Array.getElem?_eq_some_iff.mp q3).1⟩, vk_OFof q1 (va_eqt (hs _ (nw_sc i hi))) hA, vk_OFof q1 ht9 hA, hT⟩⟩
    · exact ⟨(0, 0), fun h => absurd h hi⟩
  obtain ⟨ad, hK⟩ := Classical.axiomOfChoice hK
  obtain ⟨tL, hL1, hL2⟩ := va_Tof (f := fun j => .ref (adW j)) (A := A) (N := 31) (by decide) (hs _ nw_la) (va_eqt (hs _ nw_ll)) (fun j hj => va_eqv (hs _ (nw_le j hj)) (hW j hj).1) hA
  obtain ⟨tS, hS1, hS2⟩ := va_Tof (f := fun j => .int (swm.getD j 0)) (A := A) (N := 31) (by decide) (hs _ nw_wa) (va_eqt (hs _ nw_wl)) (fun j hj => va_eqt (hs _ (nw_sw j hj))) hA
  have hI := va_Zqof (A := A) (ht _ tb_li) (ht _ tb_i3) (hs _ nw_si) hA
  rcases hI with hI | ⟨tI, hI⟩
  · exact ⟨adW, fun i => (ad i).1, fun i => (ad i).2, tL, tS, 0, hW, hK, ⟨hL1, hL2⟩, ⟨hS1, hS2⟩, Or.inl hI⟩
  · exact ⟨adW, fun i => (ad i).1, fun i => (ad i).2, tL, tS, tI, hW, hK, ⟨hL1, hL2⟩, ⟨hS1, hS2⟩, Or.inr hI⟩
theorem wspE_lt : ∀ i, i < 31 → wsp i < 30 := by decide +kernel
theorem mtx_lt : ∀ i, i < 23 → (mtx.getD i (0, 0)).2 < 30 := by decide +kernel
theorem stat_of {ρ : Nat → Nat} {adW adK adV : Nat → Nat} {tL tS tI : Nat} (hs : ∀ w ∈ NWL, w.before args s = true) (ht : ∀ w ∈ lw_tbl, w.before args s = true) (hA : ∀ a : Nat, a < s.heap.size → ¬ A a) (h : Ads args s A adW adK adV tL tS tI) (r1 : ∀ i, i < 31 → ρ (1001 + i) = adW i) (r2 : ∀ i, i < 30 → ρ (2001 + i) = adK i) (r3 : ∀ i, i < 30 → ρ (3001 + i) = adV i) (r4 : ρ 1100 = tL) (r5 : ρ 1101 = tS) (r6 : ρ 4000 = tI) : Stat ρ A s s.heap := by
  obtain ⟨hW, hK, hL, hS, hI⟩ := h
  have hF : ∀ q ∈ wF, ∀ i, i < 31 → va_OF q.1 q.2.1 q.2.2.1 (.int (q.2.2.2.getD i 0)) (adW i) A s s.heap := by
    intro q hq i hi
    have hq9 : q = ("java/lang/Enum", "ordinal", "I", word) ∨ q = (RX11, "isPart", "Z", wpt) ∨ q = (RX11, "isJoin", "Z", wjn) := by
      simpa [wF] using hq
    rcases hq9 with q9 | q9 | q9
    · subst q9
      exact vk_OFof (hW i hi).1 (va_eqt (hs _ (nw_or i hi))) hA
    · subst q9
      exact vk_OFof (hW i hi).1 (va_eqt (hs _ (nw_pt i hi))) hA
    · subst q9
      exact vk_OFof (hW i hi).1 (va_eqt (hs _ (nw_jn i hi))) hA
  refine ⟨⟨fun i hi => ?_, fun i j hi hj e => ?_⟩, fun i hi => ?_, ⟨fun i hi => ?_, fun i j hi hj e => ?_⟩, ⟨?_, ?_⟩, ⟨?_, ?_⟩, ?_, ?_, ?_, ?_, fun q hq => ?_, fun q hq => ?_, fun q hq => ?_, fun q hq => ?_, fun q hq => ?_⟩
  · have hi31 : i < 31 := hi
    show va_Z _ _ _ (.ref (ρ (1001 + i))) A s s.heap ∧ va_O _ (ρ (1001 + i)) A s s.heap ∧ ∀ q ∈ wF, va_OF q.1 q.2.1 q.2.2.1 _ (ρ (1001 + i)) A s s.heap
    rw [r1 i hi31]
    exact ⟨va_Zref (ht _ (tb_ls i hi31)) (ht _ tb_i0) (hW i hi31).1 hA, (hW i hi31).2, fun q hq => hF q hq i hi31⟩
  · have hi31 : i < 31 := hi
    have hj31 : j < 31 := hj
    have e1 : ρ (1001 + i) = ρ (1001 + j) := e
    rw [r1 i hi31, r1 j hj31] at e1
    have h1 := hF ("java/lang/Enum", "ordinal", "I", word) (by simp [wF]) i hi31
    have h2 := hF ("java/lang/Enum", "ordinal", "I", word) (by simp [wF]) j hj31
    rw [e1] at h1
    have h3 : Value.int (word.getD i 0) = .int (word.getD j 0) := OF_same h1 h2
    have h4 : word.getD i 0 = word.getD j 0 := by injection h3
    exact (by decide +kernel : ∀ i, i < 31 → ∀ j, j < 31 → word.getD i 0 = word.getD j 0 → i = j) i hi31 j hj31 h4
  · show va_OF RX11 "spelling" "Ljava/lang/String;" (.ref (ρ (2001 + wsp i))) (ρ (1001 + i)) A s s.heap
    rw [r1 i hi, r2 _ (wspE_lt i hi)]
    exact vk_OFof (hW i hi).1 (va_eqv (hs _ (nw_sp i hi)) (hK _ (wspE_lt i hi)).1) hA
  · show va_O _ (ρ (2001 + i)) A s s.heap ∧ va_OF _ _ _ _ (ρ (2001 + i)) A s s.heap ∧ va_OF _ _ _ (.ref (ρ (3001 + i))) (ρ (2001 + i)) A s s.heap ∧ va_T .byte (ρ (3001 + i)) _ _ A s s.heap
    rw [r2 i hi, r3 i hi]
    exact (hK i hi).2
  · have e1 : ρ (2001 + i) = ρ (2001 + j) := e
    rw [r2 i hi, r2 j hj] at e1
    obtain ⟨-, -, -, a3, a4⟩ := hK i hi
    obtain ⟨-, -, -, b3, b4⟩ := hK j hj
    rw [e1] at a3
    have h3 : Value.ref (adV i) = .ref (adV j) := OF_same a3 b3
    have h4 : adV i = adV j := by injection h3
    rw [h4] at a4
    obtain ⟨e2, e3⟩ := T_same (slen31 i hi) (slen31 j hj) a4 b4
    exact sdiff i hi j hj e2 (fun k hk => by
      have h9 : Value.int ((sbyt.getD i []).getD k 0) = .int ((sbyt.getD j []).getD k 0) := e3 k hk
      injection h9)
  · rw [r4]
    exact va_Zref (ht _ tb_ll) (ht _ tb_i0) hL.1 hA
  · rw [r4]
    exact hL.2.to (fun j hj => by show Value.ref (adW j) = .ref (ρ (1001 + j)); rw [r1 j hj])
  · rw [r5]
    exact va_Zref (ht _ tb_lw) (ht _ tb_i1) hS.1 hA
  · rw [r5]
    exact hS.2
  · exact va_Zof (ht _ tb_lc) (ht _ tb_i2) (va_eqt (hs _ nw_cs)) hA
  · rw [r6]
    exact hI
  · exact vx_Zqof (ht _ tb_lu) (ht _ tb_i4) (hs _ nw_us) hA
  · exact vx_Zqof (ht _ tb_lz) (ht _ tb_i4) (hs _ nw_ss) hA
  · obtain ⟨i, hi⟩ := List.getElem?_of_mem hq
    have hi23 : i < 23 := (List.getElem?_eq_some_iff.mp hi).1
    have hq9 : mtx.getD i (0, 0) = q := by rw [List.getD_eq_getElem?_getD, hi]; rfl
    have h1 := ht _ (tb_mr i hi23)
    have h2 := va_eqv (hs _ (nw_me i hi23)) (hK _ (mtx_lt i hi23)).1
    have h3 := mtx_lt i hi23
    rw [hq9] at h1 h2 h3
    rw [r2 _ h3]
    exact vk_R.of h1 h2
  · exact va_Nw.of rfl (ht _ (tb_ns q hq))
  · exact va_Nw.of rfl (ht _ (tb_ca q hq))
  · exact va_Nw.of rfl (ht _ (tb_de q hq))
  · exact va_Nc.of (hs _ (nw_nc q hq))
theorem aok_of (ht : ∀ w ∈ lw_tbl, w.before args s = true) : AOk s := by
  refine ⟨va_AO.of (ht _ tb_a0), va_AO.of (ht _ tb_a1), va_AO.of (ht _ tb_a2), va_AO.of (ht _ tb_a3), va_AO.of (ht _ tb_a4), ?_, fun q hq => va_Nw.of rfl (ht _ (tb_nC q hq))⟩
  exact ht _ tb_a5
/-- an array class of references, by the tables -/
theorem arr_of {C : String} (h : (Cond.arrayOver (.object C)).before args s = true) : ∃ cA : ClassId, ArrOfT s cA (.object C) ∧ va_RA s cA (.object C) := by
  obtain ⟨comp, c, k, h1, h2, h3, h4, h5⟩ := Cond.arrayOver_spec h
  exact ⟨c, fun n z => ⟨fun k h => (by cases h), k, h3, comp, h4⟩, k, comp, h3, h4, h1, h5⟩
theorem arrI_of {ty : FieldType} (hty : ∀ C, ty ≠ .object C) (h : (Cond.arrayClass ty).before args s = true) : ∃ cA : ClassId, ArrOfT s cA ty ∧ va_RA s cA ty := by
  obtain ⟨c, k, comp, h1, h3, h4⟩ := Cond.arrayClass_spec h
  refine ⟨c, fun n z => ⟨fun k h => (by cases h), k, h3, comp, h4⟩, ?_⟩
  cases ty with
  | object C => exact absurd rfl (hty C)
  | _ => exact h1
theorem arrA_of {ty : FieldType} (h : (Cond.arrayOver (.array ty)).before args s = true) : ∃ cA : ClassId, ArrOfT s cA (.array ty) ∧ va_RA s cA (.array ty) := by
  obtain ⟨comp, c, k, h1, h2, h3, h4, h5⟩ := arrayOverA_spec h
  exact ⟨c, fun n z => ⟨fun k h => (by cases h), k, h3, comp, h4⟩, h5⟩
theorem TW_of (ht : ∀ w ∈ lw_tbl, w.before args s = true) : ∀ w ∈ TW, w.before args s = true := fun w hw => ht w (TW_sub w hw)
theorem known_of (ht : ∀ w ∈ lw_tbl, w.before args s = true) : ∃ G : Gd, va_K G.1 vwCl (tysG G) s := by
  have hT := TW_of ht
  have hC : ∀ ci : Nat, ∃ q : ClassId × (Nat → Nat), ∀ r : vw_C, vwCl[ci]? = some r → u_Kn s r.1 r.2.1 r.2.2 q.1 q.2 := by
    intro ci
    have key : ∀ {C : String} {T : u_T} {N n : Nat}, vwCl[ci]? = some (C, T, N) → (∀ w ∈ u_ws C T N, w ∈ TW) → Cond.instantiable C n ∈ TW → ∃ q : ClassId × (Nat → Nat), ∀ r : vw_C, vwCl[ci]? = some r → u_Kn s r.1 r.2.1 r.2.2 q.1 q.2 := by
      intro C T N n h1 h2 h3
      obtain ⟨cC, iS, h4⟩ := u_known hT h2 (hT _ h3)
      refine ⟨(cC, iS), fun r hr => ?_⟩
      cases h1.symm.trans hr
      exact h4
    by_cases hci : ci < 13
    · match ci, hci with
      | 0, _ => exact key rfl inX1 tw_285
      | 1, _ => exact key rfl inX2 tw_349
      | 2, _ => exact key rfl inX3 tw_162
      | 3, _ => exact key rfl inX4 tw_244
      | 4, _ => exact key rfl inX5 tw_169
      | 5, _ => exact key rfl inX6 tw_256
      | 6, _ => exact key rfl inX7 tw_320
      | 7, _ => exact key rfl inX8 tw_216
      | 8, _ => exact key rfl inX9 tw_110
      | 9, _ => exact key rfl inX10 tw_127
      | 10, _ => exact key rfl (fun w hw => by cases hw) tw_619
      | 11, _ => exact key rfl inX12 tw_102
      | 12, _ => exact key rfl inX13 tw_1233
    · refine ⟨(0, fun _ => 0), fun r hr => ?_⟩
      have h9 : ci < 13 := (List.getElem?_eq_some_iff.mp hr).1
      exact absurd h9 hci
  obtain ⟨G1, hG1⟩ := Classical.axiomOfChoice hC
  obtain ⟨c0, a0⟩ := arrI_of (ty := .int) (fun C h => by cases h) (hT _ tw_125)
  obtain ⟨c1, a1⟩ := arrI_of (ty := .long) (fun C h => by cases h) (hT _ tw_1604)
  obtain ⟨c2, a2⟩ := arr_of (ht _ tb_a0)
  obtain ⟨c3, a3⟩ := arr_of (ht _ tb_a1)
  obtain ⟨c4, a4⟩ := arr_of (ht _ tb_a2)
  obtain ⟨c5, a5⟩ := arrA_of (ht _ tb_a5)
  obtain ⟨c6, a6⟩ := arr_of (ht _ tb_a3)
  obtain ⟨c7, a7⟩ := arr_of (ht _ tb_a4)
  refine ⟨((fun ci => (G1 ci).1, fun ci => (G1 ci).2), fun k => [c0, c1, c2, c3, c4, c5, c6, c7].getD k c0), fun ci q hq => hG1 ci q hq, fun k q hk => ?_⟩
  match k, hk with
  | 0, hk => cases hk; exact a0
  | 1, hk => cases hk; exact a1
  | 2, hk => cases hk; exact a2
  | 3, hk => cases hk; exact a3
  | 4, hk => cases hk; exact a4
  | 5, hk => cases hk; exact a5
  | 6, hk => cases hk; exact a6
  | 7, hk => cases hk; exact a7
  | n + 8, hk => cases hk
end ENTRY
/-- the numbering -/
def rhoE (B b : Nat) (adW adK adV : Nat → Nat) (tL tS tI : Nat) : Nat → Nat := fun x => if x ≤ 715 then B + x else if x = 1100 then tL else if x = 1101 then tS else if x = 4000 then tI else if x = 5000 then b else if x < 1101 then adW (x - 1001) else if x < 3001 then adK (x - 2001) else adV (x - 3001)
