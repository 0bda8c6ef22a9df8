/-! ===== image and back ===== -/
theorem rE_cong {p : Int32 → Bool} {b b' : Nat → Int32} {len : Nat} (h : ∀ j, j < len → b' j = b j) : ∀ (f i : Nat), rE p b' len f i = rE p b len f i := by
  intro f
  induction f with
  | zero => intro i; rfl
  | succ f ih =>
    intro i
    unfold rE
    by_cases q : i < len
    · rw [h i q, ih]
    · rw [if_neg (fun z => q z.1), if_neg (fun z => q z.1)]
theorem bhd_cong {b b' : Nat → Int32} {len : Nat} (h : ∀ j, j < len → b' j = b j) {i : Nat} (hi : i < len) : bhd b' len i = bhd b len i := by
  unfold bhd
  rw [h i hi, rE_cong h, rE_cong h]
theorem vlF_cong {b b' : Nat → Int32} {len : Nat} (h : ∀ j, j < len → b' j = b j) : ∀ (n i : Nat) (v : Int32), i + n ≤ len → vlF b' n i v = vlF b n i v := by
  intro n
  induction n with
  | zero => intro i v _; rfl
  | succ n ih =>
    intro i v hi
    unfold vlF
    rw [h i (by omega)]
    exact ih _ _ (by omega)
theorem spl_cong {b b' : Nat → Int32} {len : Nat} (h : ∀ j, j < len → b' j = b j) {w i j : Nat} (hj : j ≤ len) (hij : i < j) : spl b' w i j = spl b w i j := by
  unfold spl
  congr 1
  apply propext
  constructor
  · intro ⟨z1, z2⟩
    exact ⟨z1, fun t ht => by rw [← h (i + t) (by omega)]; exact z2 t ht⟩
  · intro ⟨z1, z2⟩
    exact ⟨z1, fun t ht => by rw [h (i + t) (by omega)]; exact z2 t ht⟩
theorem wOf_cong {b b' : Nat → Int32} {len : Nat} (h : ∀ j, j < len → b' j = b j) {i j : Nat} (hj : j ≤ len) (hij : i < j) : ∀ (f w : Nat), wOf b' i j f w = wOf b i j f w := by
  intro f
  induction f with
  | zero => intro w; rfl
  | succ f ih =>
    intro w
    unfold wOf
    rw [spl_cong h hj hij, ih]
theorem tok1_cong {b b' : Nat → Int32} {len : Nat} (h : ∀ j, j < len → b' j = b j) {i j : Nat} (hi : i < len) (hj : j ≤ len) (hij : i < j) : tok1 b' i j = tok1 b i j := by
  unfold tok1
  rw [h i hi, wOf_cong h hj hij, vlF_cong h _ _ _ (by omega)]
theorem tkF_cong {b b' : Nat → Int32} {len : Nat} (h : ∀ j, j < len → b' j = b j) : ∀ (f i : Nat), tkF b' len f i = tkF b len f i := by
  intro f
  induction f with
  | zero => intro i; rfl
  | succ f ih =>
    intro i
    unfold tkF
    by_cases q : i < len
    · rw [h i q, bhd_cong h q, ih, tok1_cong h q (bhd_le q).2 (bhd_le q).1]
    · rw [if_neg q, if_neg q]
theorem tks_cong {b b' : Nat → Int32} {len p : Nat} (h : ∀ j, j < len → b' j = b j) : tks b' len p = tks b len p := tkF_cong h _ _
theorem TxO_25 {M M' : MR} {i : Nat} {T : Pg} (h : TxO M i T) (hi : i < 60) (e : ∀ x, x < 25530 → M' x = M x) : TxO M' i T := by
  unfold TxO
  rw [e (337 + 8 * i) (by omega)]
  rcases h with h | ⟨len, k, nu, h1, h2, h3, h4, h5⟩
  · exact Or.inl h
  · refine Or.inr ⟨len, k, nu, h1, h2, h3, ?_, h5⟩
    rw [tks_cong (b := fun j => M (1530 + 400 * i + j)) (b' := fun j => M' (1530 + 400 * i + j)) (fun j hj => e _ (by omega))]
    exact h4
theorem Mid_25 {M M' : MR} {T : Nat → Pg} {n c o K : Nat} {Z : Nat → Prop} (h : Mid M T n c o K Z) (e : ∀ x, x < 25530 → M' x = M x) : Mid M' T n c o K Z := by
  have hc : c ≤ 60 := h.1.2.2.2.1
  have hn : n ≤ 11 := h.1.2.1
  obtain ⟨m1, m2, m3, m4, m5, m6, m7⟩ := h
  refine ⟨DH_cong m1 (fun x hx => e x (by omega)) (fun i hi => by unfold isOut; rw [e _ (by omega)]), DR_cong m2 (fun x h1 h2 => e x (by omega)), fun j hj => ?_, DO_cong m4 (e 9 (by omega)) (fun x h1 h2 => e x (by omega)), DV_cong m5 (fun x h1 h2 => e x (by omega)), fun j hj => ⟨TxO_25 (m6 j hj).1 (by omega) e, (m6 j hj).2⟩, m7⟩
  have ej : ∀ w, w < 8 → M' (330 + 8 * j + w) = M (330 + 8 * j + w) := fun w hw => e _ (by omega)
  exact ⟨ChG_cong (m3 j hj).1 ej, fun z => ChO_cong ((m3 j hj).2 z) ej⟩
theorem DD_lt {n c o x : Nat} (hn : n ≤ 11) (hc : c ≤ 60) (ho : o ≤ 60) (h : DD n c o x) : x < 810 := by
  unfold DD at h
  omega
theorem Fo_25 {cm : CMu} {f : Nat} {M M' : MR} {T : Nat → Pg} {n c o : Nat} (hF : Fo cm f M T n c o) (hn : n ≤ 11) (hc : c ≤ 60) (ho : o ≤ 60) (e : ∀ x, x < 25530 → M' x = M x) : Fo cm f M' T n c o := by
  obtain ⟨g1, g2, g3, g4⟩ := hF
  refine ⟨fun x hx => ?_, fun r hr => ?_, g3, Bts_cong g4 (fun p hp => e _ (by omega)) (fun x h1 h2 => e x (by omega)) hn⟩
  · rw [e x (by have := DD_lt hn hc ho hx; omega)]
    exact g1 x hx
  · rw [g2 r hr]
    congr 1
    exact (inR_cong (fun i hi => ⟨e _ (by omega), e _ (by omega)⟩)).symm
/-! rows of the reference copied -/
def sR (r : Nat) (mm : MM) (F : MR) : MM := fun b => if b = r then F else mm b
theorem sR_r {r : Nat} {mm : MM} {F : MR} : sR r mm F r = F := if_pos rfl
theorem sR_o {r b : Nat} {mm : MM} {F : MR} (h : b ≠ r) : sR r mm F b = mm b := if_neg h
theorem up2_R {r : Nat} {mm : MM} {F : MR} {j : Nat} {v : Int32} : up2 (sR r mm F) r j v = sR r mm (upd F j v) := by
  funext b i
  unfold up2 sR upd
  by_cases q : b = r
  · rw [if_pos q, if_pos q]
    by_cases z : i = j
    · rw [if_pos ⟨q, z⟩, if_pos z]
    · rw [if_neg (fun y => z y.2), if_neg z]
  · rw [if_neg (fun y => q y.1), if_neg q, if_neg q]
theorem sR_id {r : Nat} {mm : MM} : sR r mm (mm r) = mm := by
  funext b
  unfold sR
  by_cases q : b = r
  · rw [if_pos q, q]
  · rw [if_neg q]
def cpF (j : Nat) (A B : MR) : MR := fun i => if i < j then A i else B i
theorem cpF_0 {A B : MR} : cpF 0 A B = B := by
  funext i
  exact if_neg (by omega)
theorem cpF_S {j : Nat} {A B : MR} : upd (cpF j A B) j (A j) = cpF (j + 1) A B := by
  funext i
  unfold upd cpF
  by_cases q : i = j
  · subst q
    rw [if_pos rfl, if_pos (by omega)]
  · rw [if_neg q]
    by_cases q2 : i < j
    · rw [if_pos q2, if_pos (by omega)]
    · rw [if_neg q2, if_neg (by omega)]
theorem cpF_lt {j i : Nat} {A B : MR} (h : i < j) : cpF j A B i = A i := if_pos h
theorem lit_n {N j : Nat} (hN : N < 2 ^ 31) (hj : j < N) : ¬ nI N ≤ nI j := by
  rw [nI_leI hN (by omega)]
  omega
theorem r_image {mm0 : MM} {post : MM → Prop} (hp : post (up2 (sR 2 mm0 (cpF 25530 (mm0 1) (mm0 2))) 0 3 1)) : ∀ (g j : Nat), j + g = 25530 → B_X13_image_7 post (g + 1) (nI j) (sR 2 mm0 (cpF j (mm0 1) (mm0 2))) := by
  intro g
  induction g with
  | zero =>
    intro j hj
    have e : j = 25530 := by omega
    subst e
    unfold B_X13_image_7
    exact ⟨fun _ => hp, fun z => absurd (by decide) z⟩
  | succ g ih =>
    intro j hj
    unfold B_X13_image_7
    rw [fa_lit 25530, nI_clamp (by omega)]
    refine ⟨fun z => absurd z (lit_n (by omega) (by omega)), fun _ => ⟨vp_in_nI (by omega) (by omega), vp_in_nI (by omega) (by omega), ?_⟩⟩
    rw [up2_R, sR_o (show 1 ≠ 2 by omega), cpF_S, nI_1]
    exact ih (j + 1) (by omega)
theorem r_backL {mm0 : MM} {post : Bool → MM → Prop} (hp : post true (sR 1 mm0 (cpF 25530 (mm0 2) (mm0 1)))) : ∀ (g j : Nat), j + g = 25530 → B_X13_back_16 post (g + 1) (nI j) (sR 1 mm0 (cpF j (mm0 2) (mm0 1))) := by
  intro g
  induction g with
  | zero =>
    intro j hj
    have e : j = 25530 := by omega
    subst e
    unfold B_X13_back_16
    exact ⟨fun _ => hp, fun z => absurd (by decide) z⟩
  | succ g ih =>
    intro j hj
    unfold B_X13_back_16
    rw [fa_lit 25530, nI_clamp (by omega)]
    refine ⟨fun z => absurd z (lit_n (by omega) (by omega)), fun _ => ⟨vp_in_nI (by omega) (by omega), vp_in_nI (by omega) (by omega), ?_⟩⟩
    rw [up2_R, sR_o (show 2 ≠ 1 by omega), cpF_S, nI_1]
    exact ih (j + 1) (by omega)
theorem gW_eq {cm cm' : CMu} (h : cm'.2.2 = cm.2.2) (b j : Nat) : gW cm' b j = gW cm b j := by
  unfold gW
  rw [h]
theorem mid_oc {M : MR} {T : Nat → Pg} {n c o K : Nat} {Z : Nat → Prop} (h : Mid M T n c o K Z) : o ≤ c := by
  rw [h.1.2.2.2.2.2.1]
  exact cntP_le (isOut M) c
section SIM
variable {q : Nat} {cm : CMu} {mm : MM} {oo : Nat → Int64} {kk : KKt} {v : Int32}
theorem s_image (h : SI q cm mm) (hk : ∀ cm' mm', SI (q + 1) cm' mm' → kk v cm' mm' oo) {post : CMu → Prop} (hpost : ∀ u, w_X13_image (fun u15 => kk v u u15 oo) mm → post u) : w_X12_image post cm := by
  obtain ⟨n, c, o, T, g1, g2, g3, ⟨len, t1, t2, t3, t4⟩, g5, g6⟩ := id h
  obtain ⟨o1, o2, o3⟩ := mid_o g2
  have hH := Fo_h g1
  have e5 : gI cm 382 5 = nI n := by rw [hH.2.1, g2.1.1]
  have e6 : gI cm 382 6 = nI c := by rw [hH.2.2.1, g2.1.2.2.1]
  unfold w_X12_image
  refine c_copy (Or.inl (by omega)) o1 o2 e5 e6 (fun cm' hC => hpost _ ?_)
  unfold w_X13_image
  refine ⟨25531, ?_⟩
  have e0 : up2 mm 0 0 0 = sR 2 (up2 mm 0 0 0) (cpF 0 ((up2 mm 0 0 0) 1) ((up2 mm 0 0 0) 2)) := by
    rw [cpF_0, sR_id]
  rw [e0]
  refine r_image ?_ 25530 0 rfl
  refine hk _ _ ?_
  have lo : ∀ b j, b < 489 → b ≠ 1 → gI (uI cm' 1 7 1) b j = gI cm b j := fun b j hb h1 => by
    rw [gI_c h1]
    exact hC.1 b j (Or.inl hb)
  have F489 : Fo cm' 489 (mm 1) T n c o := Fo_copy g1 o1 o2 (mid_oc g2) hC
  refine ⟨n, c, o, T, ?_, Mid_K g2 (by omega), fun i hi ht => WRo_fr2 (g3 i hi ht) (fun b j h1 h2 => lo b j (by omega) (by omega)) (fun b j h1 h2 => gW_eq hC.2.2.1 b j), ⟨len, ?_, t2, t3, fun i hi => ?_⟩, ?_, true, gI_hit, up2_hit, fun _ => ⟨n, c, o, T, ?_, Mid_K (Mid_25 g2 (fun x hx => ?_)) (by omega), Nat.le_refl _, fun _ _ => rfl⟩⟩
  · exact Fo_fr g1 o1 o2 o3 (fun b j h1 h2 => lo b j (by omega) (by omega)) (fun b j h1 h2 => hC.2.1 b j (Or.inl (by omega)))
  · rw [lo 2 1 (by omega) (by omega)]
    exact t1
  · rw [lo 3 i (by omega) (by omega)]
    exact t4 i hi
  · rw [lo 4 7 (by omega) (by omega)]
    exact g5
  · refine Fo_25 (M := mm 1) (Fo_fr F489 o1 o2 o3 (fun b j h1 h2 => gI_c (by omega)) (fun b j h1 h2 => rfl)) o1 o2 o3 (fun x hx => ?_)
    show cpF 25530 (mm 1) _ x = _
    exact cpF_lt hx
  · show cpF 25530 (mm 1) _ x = _
    exact cpF_lt hx
theorem s_back (h : SI q cm mm) (hk : ∀ cm' mm', SI (q + 1) cm' mm' → kk v cm' mm' oo) {post : Bool → CMu → Prop} (hpost : ∀ r u, w_X13_back (EB kk v r u oo) mm → post r u) : w_X12_back post cm := by
  obtain ⟨n, c, o, T, g1, g2, g3, ⟨len, t1, t2, t3, t4⟩, g5, b, k1, k2, k3⟩ := id h
  unfold w_X12_back
  rw [k1]
  have e3 : (up2 mm 0 0 0) 0 3 = b2 b := k2
  cases b with
  | false =>
    refine ⟨fun _ => Or.inl ⟨rfl, hpost _ _ ?_⟩, fun z => absurd rfl z⟩
    unfold w_X13_back
    rw [e3]
    exact ⟨fun z => absurd rfl z, fun _ => EB_ok (hk _ _ (SI_t h 0))⟩
  | true =>
    refine ⟨fun z => absurd z (by decide), fun _ => ?_⟩
    obtain ⟨nk, ck, ok, Tk, a1, a2, a3, a4⟩ := k3 rfl
    obtain ⟨o1, o2, o3⟩ := mid_o a2
    have hH := Fo_h a1
    have e5 : gI cm 489 5 = nI nk := by rw [hH.2.1, a2.1.1]
    have e6 : gI cm 489 6 = nI ck := by rw [hH.2.2.1, a2.1.2.2.1]
    refine c_copy (Or.inr (by omega)) o1 o2 e5 e6 (fun cm' hC => Or.inr ⟨?_, hpost _ _ ?_⟩)
    · rw [hC.1 1 7 (Or.inl (by omega)), k1]
      rfl
    unfold w_X13_back
    rw [e3]
    refine ⟨fun _ => ⟨25531, ?_⟩, fun z => absurd z (by decide)⟩
    have e0 : up2 mm 0 0 0 = sR 1 (up2 mm 0 0 0) (cpF 0 ((up2 mm 0 0 0) 2) ((up2 mm 0 0 0) 1)) := by
      rw [cpF_0, sR_id]
    rw [e0]
    refine r_backL ?_ 25530 0 rfl
    refine EB_ok (hk _ _ ?_)
    have F382 : Fo cm' 382 (mm 2) Tk nk ck ok := Fo_copy a1 o1 o2 (mid_oc a2) hC
    refine ⟨nk, ck, ok, Tk, ?_, Mid_K (Mid_25 a2 (fun x hx => ?_)) (by omega), fun i hi ht => ?_, ⟨len, ?_, t2, t3, fun i hi => ?_⟩, ?_, true, ?_, k2, fun _ => ⟨nk, ck, ok, Tk, ?_, Mid_K a2 (by omega), Nat.le_refl _, fun _ _ => rfl⟩⟩
    · refine Fo_25 (M := mm 2) F382 o1 o2 o3 (fun x hx => ?_)
      show cpF 25530 (mm 2) _ x = _
      exact cpF_lt hx
    · show cpF 25530 (mm 2) _ x = _
      exact cpF_lt hx
    · by_cases z : i < ck
      · rw [a4 i z] at ht ⊢
        exact WRo_fr2 (g3 i hi ht) (fun b j h1 h2 => hC.1 b j (Or.inl (by omega))) (fun b j h1 h2 => gW_eq hC.2.2.1 b j)
      · rw [a2.2.2.2.2.2.2 i (by omega)] at ht
        exact absurd rfl ht
    · rw [hC.1 2 1 (Or.inl (by omega))]
      exact t1
    · rw [hC.1 3 i (Or.inl (by omega))]
      exact t4 i hi
    · rw [hC.1 4 7 (Or.inl (by omega))]
      exact g5
    · rw [hC.1 1 7 (Or.inl (by omega))]
      exact k1
    · exact Fo_fr a1 o1 o2 o3 (fun b j h1 h2 => hC.1 b j (Or.inr (by omega))) (fun b j h1 h2 => hC.2.1 b j (Or.inr (by omega)))
end SIM
