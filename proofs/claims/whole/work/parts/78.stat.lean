/-! ===== what stands at the entry, out of what is given of the start ===== -/
def NWL : List Cond := flatC (Jvm.Cond.and given_1 narrow_1)
def wD : String := "LFlumeOrders$Word;"
def wT (i : Nat) : Term := .static RX11 (wnm.getD i "") wD
def sK : List Nat := [148, 154, 157, 160, 163, 166, 169, 172, 175, 178, 181, 184, 187, 190, 193, 196, 199, 202, 205, 208, 211, 214, 217, 220, 223, 226, 229, 232, 235, 238]
def sT (i : Nat) : Term := .string RX11 (sK.getD i 0)
def sV (i : Nat) : Term := .field (sT i) "java/lang/String" "value" "[B"
def lT : Term := .static RX11 "LIST" "[LFlumeOrders$Word;"
def swT : Term := .static "FlumeOrders$1" "$SwitchMap$FlumeOrders$Word" "[I"
def ixE : List Nat := [55, 60, 65, 70, 85, 97, 102, 107, 117, 122, 127, 112, 132, 137, 80, 90, 142, 147, 211, 216, 221, 75, 226, 231, 172, 167, 152, 157, 162, 4, 9]
def ixS : List Nat := [577, 586, 596, 606, 635, 649, 656, 664, 682, 690, 699, 673, 710, 717, 625, 644, 725, 730, 765, 775, 784, 615, 793, 802, 758, 750, 735, 740, 745, 573]
def ixM : List Nat := [585, 595, 605, 614, 624, 634, 643, 774, 783, 792, 801, 812, 724, 757, 764, 689, 698, 709, 681, 716, 655, 663, 672]
def twS : List Nat := [687, 721, 727, 729, 735, 854, 858, 860, 878, 880, 882, 872, 884, 898, 733, 738, 904, 906, 1632, 1633, 1634, 731, 1635, 1636, 927, 925, 919, 921, 923, 605, 607]
def twM : List Nat := [1353, 1364, 1365, 1366, 1367, 1368, 1369, 1440, 1441, 1442, 1443, 1444, 1423, 1445, 1446, 1398, 1399, 1400, 1401, 1410, 1391, 1392, 1393]
theorem nw_ex : ∀ i, i < 31 → Cond.exactly (wT i) RX11 ∈ NWL := by
  have h : ∀ i, i < 31 → NWL[ixE.getD i 0]? = some (Cond.exactly (wT i) RX11) := by decide +kernel
  exact fun i hi => List.mem_of_getElem? (h i hi)
theorem nw_or : ∀ i, i < 31 → Cond.eq (.field (wT i) "java/lang/Enum" "ordinal" "I") (.int (word.getD i 0)) ∈ NWL := by
  have h : ∀ i, i < 31 → NWL[ixE.getD i 0 + 1]? = some (Cond.eq (.field (wT i) "java/lang/Enum" "ordinal" "I") (.int (word.getD i 0))) := by decide +kernel
  exact fun i hi => List.mem_of_getElem? (h i hi)
theorem nw_sp : ∀ i, i < 31 → Cond.eq (.field (wT i) RX11 "spelling" "Ljava/lang/String;") (sT (wsp i)) ∈ NWL := by
  have h : ∀ i, i < 31 → NWL[ixE.getD i 0 + 2]? = some (Cond.eq (.field (wT i) RX11 "spelling" "Ljava/lang/String;") (sT (wsp i))) := by decide +kernel
  exact fun i hi => List.mem_of_getElem? (h i hi)
theorem nw_pt : ∀ i, i < 31 → Cond.eq (.field (wT i) RX11 "isPart" "Z") (.int (wpt.getD i 0)) ∈ NWL := by
  have h : ∀ i, i < 31 → NWL[ixE.getD i 0 + 3]? = some (Cond.eq (.field (wT i) RX11 "isPart" "Z") (.int (wpt.getD i 0))) := by decide +kernel
  exact fun i hi => List.mem_of_getElem? (h i hi)
theorem nw_jn : ∀ i, i < 31 → Cond.eq (.field (wT i) RX11 "isJoin" "Z") (.int (wjn.getD i 0)) ∈ NWL := by
  have h : ∀ i, i < 31 → NWL[ixE.getD i 0 + 4]? = some (Cond.eq (.field (wT i) RX11 "isJoin" "Z") (.int (wjn.getD i 0))) := by decide +kernel
  exact fun i hi => List.mem_of_getElem? (h i hi)
theorem nw_le : ∀ i, i < 31 → Cond.eq (.elem lT (.int (Int32.ofNat i))) (wT i) ∈ NWL := by
  have h : ∀ i, i < 31 → NWL[19 + i]? = some (Cond.eq (.elem lT (.int (Int32.ofNat i))) (wT i)) := by decide +kernel
  exact fun i hi => List.mem_of_getElem? (h i hi)
theorem nw_sw : ∀ i, i < 31 → Cond.eq (.elem swT (.int (Int32.ofNat i))) (.int (swm.getD i 0)) ∈ NWL := by
  have h : ∀ i, i < 31 → NWL[180 + i]? = some (Cond.eq (.elem swT (.int (Int32.ofNat i))) (.int (swm.getD i 0))) := by decide +kernel
  exact fun i hi => List.mem_of_getElem? (h i hi)
theorem nw_sx : ∀ i, i < 30 → Cond.exactly (sT i) "java/lang/String" ∈ NWL := by
  have h : ∀ i, i < 30 → NWL[ixS.getD i 0]? = some (Cond.exactly (sT i) "java/lang/String") := by decide +kernel
  exact fun i hi => List.mem_of_getElem? (h i hi)
theorem nw_sc : ∀ i, i < 30 → Cond.eq (.field (sT i) "java/lang/String" "coder" "B") (.int 0) ∈ NWL := by
  have h : ∀ i, i < 30 → NWL[ixS.getD i 0 + 1]? = some (Cond.eq (.field (sT i) "java/lang/String" "coder" "B") (.int 0)) := by decide +kernel
  exact fun i hi => List.mem_of_getElem? (h i hi)
theorem nw_sa : ∀ i, i < 30 → Cond.arrayOf (sV i) .byte ∈ NWL := by
  have h : ∀ i, i < 30 → NWL[ixS.getD i 0 + 2]? = some (Cond.arrayOf (sV i) .byte) := by decide +kernel
  exact fun i hi => List.mem_of_getElem? (h i hi)
theorem nw_sl : ∀ i, i < 30 → Cond.eq (.length (sV i)) (.int (Int32.ofNat (slen.getD i 0))) ∈ NWL := by
  have h : ∀ i, i < 30 → NWL[ixS.getD i 0 + 3]? = some (Cond.eq (.length (sV i)) (.int (Int32.ofNat (slen.getD i 0)))) := by decide +kernel
  exact fun i hi => List.mem_of_getElem? (h i hi)
theorem nw_se : ∀ i, i < 30 → ∀ j, j < slen.getD i 0 → Cond.eq (.elem (sV i) (.int (Int32.ofNat j))) (.int ((sbyt.getD i []).getD j 0)) ∈ NWL := by
  have h : ∀ i, i < 30 → ∀ j, j < slen.getD i 0 → NWL[ixS.getD i 0 + 4 + j]? = some (Cond.eq (.elem (sV i) (.int (Int32.ofNat j))) (.int ((sbyt.getD i []).getD j 0))) := by decide +kernel
  exact fun i hi j hj => List.mem_of_getElem? (h i hi j hj)
theorem nw_me : ∀ i, i < 23 → Cond.eq (.string RX13 (mtx.getD i (0, 0)).1) (sT (mtx.getD i (0, 0)).2) ∈ NWL := by
  have h : ∀ i, i < 23 → NWL[ixM.getD i 0]? = some (Cond.eq (.string RX13 (mtx.getD i (0, 0)).1) (sT (mtx.getD i (0, 0)).2)) := by decide +kernel
  exact fun i hi => List.mem_of_getElem? (h i hi)
theorem tb_ls : ∀ i, i < 31 → Cond.laysStatic RX11 (wnm.getD i "") wD ∈ lw_tbl := by
  have h : ∀ i, i < 31 → lw_tbl[twS.getD i 0]? = some (Cond.laysStatic RX11 (wnm.getD i "") wD) := by decide +kernel
  exact fun i hi => List.mem_of_getElem? (h i hi)
theorem tb_mr : ∀ i, i < 23 → Cond.stringRef RX13 (mtx.getD i (0, 0)).1 (stx.getD (mtx.getD i (0, 0)).2 "") ∈ lw_tbl := by
  have h : ∀ i, i < 23 → lw_tbl[twM.getD i 0]? = some (Cond.stringRef RX13 (mtx.getD i (0, 0)).1 (stx.getD (mtx.getD i (0, 0)).2 "")) := by decide +kernel
  exact fun i hi => List.mem_of_getElem? (h i hi)
theorem nw_la : Cond.arrayOf lT (.object RX11) ∈ NWL := List.mem_of_getElem? (i := 16) (by decide +kernel)
theorem nw_ll : Cond.eq (.length lT) (.int (Int32.ofNat 31)) ∈ NWL := List.mem_of_getElem? (i := 17) (by decide +kernel)
theorem nw_wa : Cond.arrayOf swT .int ∈ NWL := List.mem_of_getElem? (i := 178) (by decide +kernel)
theorem nw_wl : Cond.eq (.length swT) (.int (Int32.ofNat 31)) ∈ NWL := List.mem_of_getElem? (i := 179) (by decide +kernel)
theorem nw_cs : Cond.eq (.static "java/lang/String" "COMPACT_STRINGS" "Z") (.int 1) ∈ NWL := List.mem_of_getElem? (i := 50) (by decide +kernel)
theorem nw_si : Cond.isRef (.static "jdk/internal/util/Preconditions" "SIOOBE_FORMATTER" "Ljava/util/function/BiFunction;") ∈ NWL := List.mem_of_getElem? (i := 51) (by decide +kernel)
theorem nw_us : Cond.isRef (.static Bundle.tN "UNASSIGNED_STACK" Bundle.steD) ∈ NWL := List.mem_of_getElem? (i := 95) (by decide +kernel)
theorem nw_ss : Cond.isRef (.static Bundle.tN "SUPPRESSED_SENTINEL" Bundle.listD) ∈ NWL := List.mem_of_getElem? (i := 96) (by decide +kernel)
theorem tb_ll : Cond.laysStatic RX11 "LIST" "[LFlumeOrders$Word;" ∈ lw_tbl := List.mem_of_getElem? (i := 615) (by decide +kernel)
theorem tb_lw : Cond.laysStatic "FlumeOrders$1" "$SwitchMap$FlumeOrders$Word" "[I" ∈ lw_tbl := List.mem_of_getElem? (i := 970) (by decide +kernel)
theorem tb_lc : Cond.laysStatic "java/lang/String" "COMPACT_STRINGS" "Z" ∈ lw_tbl := List.mem_of_getElem? (i := 630) (by decide +kernel)
theorem tb_li : Cond.laysStatic "jdk/internal/util/Preconditions" "SIOOBE_FORMATTER" "Ljava/util/function/BiFunction;" ∈ lw_tbl := List.mem_of_getElem? (i := 646) (by decide +kernel)
theorem tb_lu : Cond.laysStatic Bundle.tN "UNASSIGNED_STACK" Bundle.steD ∈ lw_tbl := List.mem_of_getElem? (i := 767) (by decide +kernel)
theorem tb_lz : Cond.laysStatic Bundle.tN "SUPPRESSED_SENTINEL" Bundle.listD ∈ lw_tbl := List.mem_of_getElem? (i := 769) (by decide +kernel)
theorem tb_i0 : Cond.initialized RX11 ∈ lw_tbl := List.mem_of_getElem? (i := 86) (by decide +kernel)
theorem tb_i1 : Cond.initialized "FlumeOrders$1" ∈ lw_tbl := List.mem_of_getElem? (i := 97) (by decide +kernel)
theorem tb_i2 : Cond.initialized "java/lang/String" ∈ lw_tbl := List.mem_of_getElem? (i := 87) (by decide +kernel)
theorem tb_i3 : Cond.initialized "jdk/internal/util/Preconditions" ∈ lw_tbl := List.mem_of_getElem? (i := 89) (by decide +kernel)
theorem tb_i4 : Cond.initialized Bundle.tN ∈ lw_tbl := List.mem_of_getElem? (i := 91) (by decide +kernel)
theorem tb_ns : ∀ q ∈ nestL, Cond.methodLinkNest q.1 q.2.1 q.2.2.1 q.2.2.2 ∈ lw_tbl := by
  have h : ∀ i, i < 3 → lw_tbl[([1015, 1151, 1209] : List Nat).getD i 0]? = (nestL[i]?).map (fun q => Cond.methodLinkNest q.1 q.2.1 q.2.2.1 q.2.2.2) := by decide +kernel
  intro q hq
  obtain ⟨i, hi⟩ := List.getElem?_of_mem hq
  have h9 := h i (List.getElem?_eq_some_iff.mp hi).1
  rw [hi] at h9
  exact List.mem_of_getElem? h9
theorem tb_ca : ∀ q ∈ castL, Cond.castable q q ∈ lw_tbl := by
  have h : ∀ i, i < 4 → lw_tbl[([742, 829, 806, 1058] : List Nat).getD i 0]? = (castL[i]?).map (fun q => Cond.castable q q) := by decide +kernel
  intro q hq
  obtain ⟨i, hi⟩ := List.getElem?_of_mem hq
  have h9 := h i (List.getElem?_eq_some_iff.mp hi).1
  rw [hi] at h9
  exact List.mem_of_getElem? h9
theorem tb_de : ∀ q ∈ decL, Cond.declares q ∈ lw_tbl := by
  have h : ∀ i, i < 3 → lw_tbl[([743, 745, 747] : List Nat).getD i 0]? = (decL[i]?).map (fun q => Cond.declares q) := by decide +kernel
  intro q hq
  obtain ⟨i, hi⟩ := List.getElem?_of_mem hq
  have h9 := h i (List.getElem?_eq_some_iff.mp hi).1
  rw [hi] at h9
  exact List.mem_of_getElem? h9
theorem nw_nc : ∀ q ∈ ncL, Cond.not (.castable q.1 q.2) ∈ NWL := by
  have h : ∀ i, i < 5 → NWL[([281, 282, 249, 283, 251] : List Nat).getD i 0]? = (ncL[i]?).map (fun q => Cond.not (.castable q.1 q.2)) := by decide +kernel
  intro q hq
  obtain ⟨i, hi⟩ := List.getElem?_of_mem hq
  have h9 := h i (List.getElem?_eq_some_iff.mp hi).1
  rw [hi] at h9
  exact List.mem_of_getElem? h9
theorem tb_nC : ∀ q ∈ nestC, Cond.methodLinkNest q.1 q.2.1 q.2.2.1 q.2.2.2 ∈ lw_tbl := by
  have h : ∀ i, i < 8 → lw_tbl[([111, 128, 217, 170, 257, 286, 321, 350] : List Nat).getD i 0]? = (nestC[i]?).map (fun q => Cond.methodLinkNest q.1 q.2.1 q.2.2.1 q.2.2.2) := by decide +kernel
  intro q hq
  obtain ⟨i, hi⟩ := List.getElem?_of_mem hq
  have h9 := h i (List.getElem?_eq_some_iff.mp hi).1
  rw [hi] at h9
  exact List.mem_of_getElem? h9
theorem tb_a0 : Cond.arrayOver (.object RX1) ∈ lw_tbl := List.mem_of_getElem? (i := 250) (by decide +kernel)
theorem tb_a1 : Cond.arrayOver (.object RX7) ∈ lw_tbl := List.mem_of_getElem? (i := 252) (by decide +kernel)
theorem tb_a2 : Cond.arrayOver (.object RX2) ∈ lw_tbl := List.mem_of_getElem? (i := 254) (by decide +kernel)
theorem tb_a3 : Cond.arrayOver (.object RX11) ∈ lw_tbl := List.mem_of_getElem? (i := 133) (by decide +kernel)
theorem tb_a4 : Cond.arrayOver (.object RX5) ∈ lw_tbl := List.mem_of_getElem? (i := 168) (by decide +kernel)
theorem tb_a5 : Cond.arrayOver (.array .int) ∈ lw_tbl := List.mem_of_getElem? (i := 262) (by decide +kernel)
