/-! ===== the invariant between calls; the small calls ===== -/
def TP (cm : CMu) (mm : MM) : Prop := ∃ len, gI cm 2 1 = nI len ∧ mm 0 6 = nI len ∧ len ≤ 400 ∧ ∀ i, i < len → gI cm 3 i = mm 4 i
def KI (q : Nat) (cm : CMu) (mm : MM) (c : Nat) (T : Nat → Pg) : Prop := ∃ h : Bool, gI cm 1 7 = b2 h ∧ mm 0 3 = b2 h ∧ (h = true → ∃ nk ck ok Tk, Fo cm 489 (mm 2) Tk nk ck ok ∧ Mid (mm 2) Tk nk ck ok (2000 * q) (fun _ => True) ∧ ck ≤ c ∧ ∀ i, i < ck → Tk i = T i)
def SI (q : Nat) (cm : CMu) (mm : MM) : Prop := ∃ n c o T, Fo cm 382 (mm 1) T n c o ∧ Mid (mm 1) T n c o (2000 * q) (fun _ => True) ∧ WRA cm T ∧ TP cm mm ∧ gI cm 4 7 = mm 0 10 ∧ KI q cm mm c T
theorem Mid_K {M : MR} {T : Nat → Pg} {n c o K K' : Nat} {Z : Nat → Prop} (h : Mid M T n c o K Z) (hK : K ≤ K') : Mid M T n c o K' Z := by
  obtain ⟨⟨h1, h2, h3, h4, h5, h6, h7, h8, h9, k, h10, h11⟩, g⟩ := h
  exact ⟨⟨h1, h2, h3, h4, h5, h6, h7, h8, h9, k, h10, by omega⟩, g⟩
theorem KI_q {q : Nat} {cm : CMu} {mm : MM} {c : Nat} {T : Nat → Pg} (h : KI q cm mm c T) : KI (q + 1) cm mm c T := by
  obtain ⟨b, h1, h2, h3⟩ := h
  refine ⟨b, h1, h2, fun z => ?_⟩
  obtain ⟨nk, ck, ok, Tk, a1, a2, a3, a4⟩ := h3 z
  exact ⟨nk, ck, ok, Tk, a1, Mid_K a2 (by omega), a3, a4⟩
theorem mid_o {M : MR} {T : Nat → Pg} {n c o K : Nat} {Z : Nat → Prop} (h : Mid M T n c o K Z) : n ≤ 11 ∧ c ≤ 60 ∧ o ≤ 60 := by
  refine ⟨h.1.2.1, h.1.2.2.2.1, ?_⟩
  rw [h.1.2.2.2.2.2.1]
  have := cntP_le (isOut M) c
  have := h.1.2.2.2.1
  omega
theorem WRo_fr2 {cm cm' : CMu} {N : Nat} {px : List PX1} (h : WRo cm N px) (hI : ∀ b j, N ≤ b → b ≤ N + 5 → gI cm' b j = gI cm b j) (hW : ∀ b j, N ≤ b → b ≤ N + 5 → gW cm' b j = gW cm b j) : WRo cm' N px := by
  obtain ⟨h1, h2, h3, h4⟩ := h
  refine ⟨by rw [hI _ _ (by omega) (by omega)]; exact h1, by rw [hI _ _ (by omega) (by omega)]; exact h2, fun j x hx => ?_, fun j x hx => ?_⟩
  · rw [hW _ _ (by omega) (by omega), hI _ _ (by omega) (by omega), hI _ _ (by omega) (by omega)]
    exact h3 j x hx
  · rw [hW _ _ (by omega) (by omega), hI _ _ (by omega) (by omega)]
    exact h4 j x hx
/-- what lies before the chips' texts may change -/
theorem SI_fr {q : Nat} {cm cm' : CMu} {mm mm' : MM} (h : SI q cm mm) (hI : ∀ b j, 11 ≤ b → gI cm' b j = gI cm b j) (h17 : gI cm' 1 7 = gI cm 1 7) (hL : ∀ b j, 11 ≤ b → gL cm' b j = gL cm b j) (hW : ∀ b j, 11 ≤ b → gW cm' b j = gW cm b j) (e1 : mm' 1 = mm 1) (e2 : mm' 2 = mm 2) (e3 : mm' 0 3 = mm 0 3) (tp : TP cm' mm') (ft : gI cm' 4 7 = mm' 0 10) : SI (q + 1) cm' mm' := by
  obtain ⟨n, c, o, T, g1, g2, g3, _, _, b, k1, k2, k3⟩ := h
  obtain ⟨o1, o2, o3⟩ := mid_o g2
  refine ⟨n, c, o, T, ?_, ?_, fun i hi ht => WRo_fr2 (g3 i hi ht) (fun b j h1 _ => hI b j (by omega)) (fun b j h1 _ => hW b j (by omega)), tp, ft, b, by rw [h17]; exact k1, by rw [e3]; exact k2, fun z => ?_⟩
  · rw [e1]
    exact Fo_fr g1 o1 o2 o3 (fun b j h1 _ => hI b j (by omega)) (fun b j h1 _ => hL b j (by omega))
  · rw [e1]
    exact Mid_K g2 (by omega)
  · obtain ⟨nk, ck, ok, Tk, a1, a2, a3, a4⟩ := k3 z
    obtain ⟨p1, p2, p3⟩ := mid_o a2
    refine ⟨nk, ck, ok, Tk, ?_, ?_, a3, a4⟩
    · rw [e2]
      exact Fo_fr a1 p1 p2 p3 (fun b j h1 _ => hI b j (by omega)) (fun b j h1 _ => hL b j (by omega))
    · rw [e2]
      exact Mid_K a2 (by omega)
theorem SI_mm {q : Nat} {cm : CMu} {mm mm' : MM} (h : SI q cm mm) (e1 : mm' 1 = mm 1) (e2 : mm' 2 = mm 2) (e4 : mm' 4 = mm 4) (e3 : mm' 0 3 = mm 0 3) (e6 : mm' 0 6 = mm 0 6) (e10 : mm' 0 10 = mm 0 10) : SI (q + 1) cm mm' := by
  have h' := h
  obtain ⟨n, c, o, T, g1, g2, g3, ⟨len, t1, t2, t3, t4⟩, g5, _⟩ := h'
  exact SI_fr h (fun _ _ _ => rfl) rfl (fun _ _ _ => rfl) (fun _ _ _ => rfl) e1 e2 e3 ⟨len, t1, by rw [e6]; exact t2, t3, by rw [e4]; exact t4⟩ (by rw [g5, e10])
theorem SI_t {q : Nat} {cm : CMu} {mm : MM} (h : SI q cm mm) (v : Int32) : SI (q + 1) cm (up2 mm 0 0 v) :=
  SI_mm h (up2_ne (by omega)) (up2_ne (by omega)) (up2_ne (by omega)) rfl rfl rfl
/-! how a call is compared -/
abbrev KKt : Type := Int32 → CMu → (Nat → Nat → Int32) → (Nat → Int64) → Prop
def EQ (kk : KKt) (v : Int32) (r : Int32) (u : CMu) (oo : Nat → Int64) : Int32 → MM → Prop := fun r14 u15 => (r = r14 → (kk v u u15 oo)) ∧ (¬ r = r14 → (False))
def EB (kk : KKt) (v : Int32) (r : Bool) (u : CMu) (oo : Nat → Int64) : Bool → MM → Prop := fun r14 u15 => ((b2 r) = (b2 r14) → (kk v u u15 oo)) ∧ (¬ (b2 r) = (b2 r14) → (False))
def EX (kk : KKt) (v : Int32) (r : Int32) (u : CMu × (Nat → Int64)) : Int32 → MM → Prop := fun r24 u25 => w_X13_thrown (fun (r26 : Int32) (u27 : MM) => (r26 = r → ((¬ r = 0 → (kk v u.1 u27 u.2)) ∧ (r = 0 → (((lg_cmp (u.2 (Int32.toNatClampNeg (0 : Int32))) (Int32.toInt64 r24)) = 0 → (kk v u.1 u27 u.2)) ∧ (¬ (lg_cmp (u.2 (Int32.toNatClampNeg (0 : Int32))) (Int32.toInt64 r24)) = 0 → (False)))))) ∧ (¬ r26 = r → (False))) u25
theorem lg_cmp_rf (x : Int64) : lg_cmp x x = 0 := by
  unfold lg_cmp
  have h : ¬ x > x := by
    intro z
    have := Int64.lt_iff_toInt_lt.mp z
    omega
  rw [if_neg h, if_pos rfl]
theorem EQ_ok {kk : KKt} {v r : Int32} {u : CMu} {oo : Nat → Int64} {mm' : MM} (h : kk v u mm' oo) : EQ kk v r u oo r mm' := ⟨fun _ => h, fun z => absurd rfl z⟩
theorem EB_ok {kk : KKt} {v : Int32} {r : Bool} {u : CMu} {oo : Nat → Int64} {mm' : MM} (h : kk v u mm' oo) : EB kk v r u oo r mm' := ⟨fun _ => h, fun z => absurd rfl z⟩
theorem EX_ok {kk : KKt} {v r : Int32} {cm' : CMu} {oo : Nat → Int64} {mm' : MM} (h0 : mm' 0 0 = 0) (h : kk v cm' mm' (vp_updL oo (Int32.toNatClampNeg (0 : Int32)) (Int32.toInt64 r))) : EX kk v 0 (cm', vp_updL oo (Int32.toNatClampNeg (0 : Int32)) (Int32.toInt64 r)) r mm' := by
  unfold EX w_X13_thrown
  rw [h0]
  refine ⟨fun _ => ⟨fun z => absurd rfl z, fun _ => ⟨fun _ => h, fun z => z ?_⟩⟩, fun z => absurd rfl z⟩
  have e : vp_updL oo (Int32.toNatClampNeg (0 : Int32)) (Int32.toInt64 r) (Int32.toNatClampNeg (0 : Int32)) = Int32.toInt64 r := by
    unfold vp_updL
    rw [if_pos rfl]
  show lg_cmp (vp_updL oo (Int32.toNatClampNeg (0 : Int32)) (Int32.toInt64 r) (Int32.toNatClampNeg (0 : Int32))) (Int32.toInt64 r) = 0
  rw [e]
  exact lg_cmp_rf _
theorem EX_th {kk : KKt} {v r r2 : Int32} {cm' : CMu} {oo : Nat → Int64} {mm' : MM} (h0 : mm' 0 0 = r) (hr : ¬ r = 0) (h : kk v cm' mm' oo) : EX kk v r (cm', oo) r2 mm' := by
  unfold EX w_X13_thrown
  rw [h0]
  exact ⟨fun _ => ⟨fun _ => h, fun z => absurd z hr⟩, fun z => absurd rfl z⟩
/-! numbers within bounds -/
theorem r_isIn2 {x lo hi : Int32} {mm : MM} {post : Bool → MM → Prop} (h1 : ¬ x < lo → ¬ hi < x → post true mm) (h0 : ¬ (¬ x < lo ∧ ¬ hi < x) → post false mm) : w_X13_isIn post x lo hi mm := by
  unfold w_X13_isIn
  exact ⟨fun q => h0 (fun z => z.1 q), fun q => ⟨fun q2 => h0 (fun z => z.2 q2), fun q2 => h1 q q2⟩⟩
theorem in_of {x : Int32} {n : Nat} (hn : n < 2 ^ 31) (h1 : ¬ x < 0) (h2 : ¬ nI n < x) : ∃ j, j ≤ n ∧ x = nI j := by
  refine nI_of2 (nI_toInt hn) h1 ?_
  rw [fa_le]
  rw [fa_lt] at h2
  omega
theorem le_lt {x y : Int32} : x ≤ y ↔ ¬ y < x := by
  rw [fa_le, fa_lt]
  omega
theorem nI_ge0 {j : Nat} (h : j < 2 ^ 31) : ¬ nI j < 0 := nI_pos h
theorem th0 {mm : MM} : (up2 mm 0 0 0) 0 0 ≤ 0 := (by decide : (0 : Int32) ≤ 0)
theorem th1 {mm : MM} : ¬ (up2 mm 0 0 1) 0 0 ≤ 0 := (by decide : ¬ (1 : Int32) ≤ 0)
theorem th2 {mm : MM} : ¬ (up2 mm 0 0 2) 0 0 ≤ 0 := (by decide : ¬ (2 : Int32) ≤ 0)
theorem th3 {mm : MM} : ¬ (up2 mm 0 0 3) 0 0 ≤ 0 := (by decide : ¬ (3 : Int32) ≤ 0)
section SC
variable {q : Nat} {cm : CMu} {mm : MM} {oo : Nat → Int64} {kk : KKt} {v : Int32}
theorem s_fault (h : SI q cm mm) (hk : ∀ mm', SI (q + 1) cm mm' → kk v cm mm' oo) {post : Int32 → CMu → Prop} (hpost : ∀ r u, w_X13_fault (EQ kk v r u oo) mm → post r u) : w_X12_fault post cm := by
  unfold w_X12_fault
  refine hpost _ _ ?_
  unfold w_X13_fault
  have e : (up2 mm 0 0 0) 0 10 = gI cm 4 7 := by
    obtain ⟨n, c, o, T, _, _, _, _, g5, _⟩ := h
    rw [g5]
    rfl
  rw [e]
  exact EQ_ok (hk _ (SI_t h 0))
theorem s_end (h : SI q cm mm) {x : Int32} (hk : ∀ cm' mm', SI (q + 1) cm' mm' → kk v cm' mm' oo) {post : Bool → CMu → Prop} (hpost : ∀ r u, w_X13_end (EB kk v r u oo) x mm → post r u) : w_X12_end post x cm := by
  obtain ⟨n, c, o, T, g1, g2, g3, ⟨len, t1, t2, t3, t4⟩, g5, g6⟩ := id h
  have e6 : (up2 mm 0 0 0) 0 6 = nI len := t2
  have no : ¬ (¬ x < 0 ∧ ¬ nI len < x) → post false cm := by
    intro hno
    refine hpost _ _ ?_
    unfold w_X13_end
    rw [e6]
    exact r_isIn2 (fun a b => absurd ⟨a, b⟩ hno) (fun _ => ⟨fun z => absurd rfl z, fun _ => EB_ok (hk _ _ (SI_t h 0))⟩)
  unfold w_X12_end B_X12_end_15
  rw [t1]
  refine ⟨fun q1 => no (fun z => z.1 q1), fun q1 => ⟨fun q2 => ?_, fun q2 => no (fun z => q2 (le_lt.mpr z.2))⟩⟩
  have q3 := le_lt.mp q2
  obtain ⟨j, hj, rfl⟩ := in_of (by omega) q1 q3
  refine hpost _ _ ?_
  unfold w_X13_end
  rw [e6]
  refine r_isIn2 (fun a b => ⟨fun _ => EB_ok (hk _ _ ?_), fun z => absurd z (by decide)⟩) (fun a => absurd ⟨q1, q3⟩ a)
  refine SI_fr h (fun b i hb => gI_c (by omega)) (gI_c (by omega)) (fun _ _ _ => rfl) (fun _ _ _ => rfl) (by funext i; rfl) (by funext i; rfl) rfl ⟨j, gI_hit, up2_hit, by omega, fun i hi => ?_⟩ ?_
  · rw [gI_c (by omega)]
    exact t4 i (by omega)
  · rw [gI_c (by omega)]
    exact g5
theorem s_out (h : SI q cm mm) {x : Int32} (hk : ∀ mm', SI (q + 1) cm mm' → kk v cm mm' oo) {post : Int32 → CMu → Prop} (hpost : ∀ r u, w_X13_out (EQ kk v r u oo) x mm → post r u) : w_X12_out post x cm := by
  obtain ⟨n, c, o, T, g1, g2, g3, g4, g5, g6⟩ := id h
  obtain ⟨o1, o2, o3⟩ := mid_o g2
  have hH := Fo_h g1
  have e3 : mm 1 3 = nI o := g2.1.2.2.2.2.1
  have e7 : gI cm 382 7 = nI o := by rw [hH.2.2.2.1, e3]
  have r3 : (up2 mm 0 0 0) 1 (Int32.toNatClampNeg 3) = nI o := by rw [cl_3]; exact e3
  have no : ¬ (¬ x < 0 ∧ ¬ nI o - 1 < x) → post (-1) cm := by
    intro hno
    refine hpost _ _ ?_
    unfold w_X13_out
    rw [r3]
    exact r_isIn2 (fun a b => absurd ⟨a, b⟩ hno) (fun _ => ⟨fun _ => EQ_ok (hk _ (SI_t h 0)), fun z => absurd rfl z⟩)
  have sub1 : nI o - 1 < x ↔ nI o ≤ x ∨ (o = 0 ∧ 0 ≤ x) := by
    cases o with
    | zero =>
      have e : nI 0 - 1 = (-1 : Int32) := by decide
      have e1 : (-1 : Int32).toInt = -1 := rfl
      have e0 : (0 : Int32).toInt = 0 := rfl
      have e0' : (nI 0).toInt = 0 := rfl
      rw [e, fa_lt, fa_le, fa_le, e1, e0, e0']
      omega
    | succ o =>
      rw [nI_pred, fa_lt, fa_le, nI_toInt (by omega), nI_toInt (by omega)]
      omega
  unfold w_X12_out
  rw [e7]
  refine ⟨fun q1 => no (fun z => z.1 q1), fun q1 => ⟨fun q2 => no (fun z => z.2 (sub1.mpr (Or.inl q2))), fun q2 => ?_⟩⟩
  have q3 : ¬ nI o < x := by
    rw [fa_lt]
    rw [fa_le] at q2
    omega
  obtain ⟨j, hj, rfl⟩ := in_of (by omega) q1 q3
  rw [nI_leI (by omega) (by omega)] at q2
  have hjo : j < o := by omega
  rw [nI_clamp (by omega)]
  refine ⟨vp_in_nI (by omega) (by omega), hpost _ _ ?_⟩
  unfold w_X13_out
  rw [r3]
  refine r_isIn2 (fun _ _ => ⟨fun z => absurd z (by decide), fun _ => ?_⟩) (fun a => absurd ⟨q1, fun z => ?_⟩ a)
  · rw [fa_lit 262, nI_add, nI_clamp (by omega)]
    refine ⟨vp_in_nI (by omega) (by omega), ?_⟩
    have e : (up2 mm 0 0 0) 1 (262 + j) = gI cm 386 j := (RF_o g1.1 o3 hjo).symm
    rw [e]
    exact EQ_ok (hk _ (SI_t h 0))
  · rcases sub1.mp z with z | z
    · rw [nI_leI (by omega) (by omega)] at z
      omega
    · omega
theorem s_water (h : SI q cm mm) {x : Int32} (hk : ∀ cm' mm' oo', SI (q + 1) cm' mm' → kk v cm' mm' oo') {post : Int32 → CMu × (Nat → Int64) → Prop} (hpost : ∀ r u, w_X13_water (EX kk v r u) x mm → post r u) : w_L_water post x cm oo := by
  obtain ⟨n, c, o, T, g1, g2, g3, ⟨len, t1, t2, t3, t4⟩, g5, b, k1, k2, k3⟩ := id h
  obtain ⟨o1, o2, o3⟩ := mid_o g2
  have hH := Fo_h g1
  have no : ¬ (¬ x < 1 ∧ ¬ 9 < x) → post 1 (cm, oo) := by
    intro hno
    refine hpost _ _ ?_
    unfold w_X13_water
    refine r_isIn2 (fun a b => absurd ⟨a, b⟩ hno) (fun _ => ⟨fun z => absurd rfl z, fun _ => ⟨fun z => absurd z th1, fun _ => ?_⟩⟩)
    exact EX_th rfl (by decide) (hk _ _ _ (SI_t h 1))
  unfold w_L_water w_X12_water w_X12_demandWater B_X12_demandWater_11
  refine ⟨fun q1 => ⟨rfl, no (fun z => z.1 q1)⟩, fun q1 => ⟨fun q2 => ?_, fun q2 => ⟨rfl, no (fun z => q2 (le_lt.mpr z.2))⟩⟩⟩
  have q3 := le_lt.mp q2
  refine hpost _ _ ?_
  unfold w_X13_water
  refine r_isIn2 (fun _ _ => ⟨fun _ => ⟨fun _ => ?_, fun z => absurd th0 z⟩, fun z => absurd z (by decide)⟩) (fun a => absurd ⟨q1, q3⟩ a)
  have e5 : (up2 mm 0 0 0) 1 (Int32.toNatClampNeg 5) = gI cm 382 9 := by
    rw [cl_5, hH.2.2.2.2.2.1]
    rfl
  rw [e5, cl_5]
  refine EX_ok rfl (hk _ _ _ ?_)
  have em1 : up2 (up2 mm 0 0 0) 1 5 x 1 = upd (mm 1) 5 x := by
    rw [up2_row]
    rfl
  have em2 : up2 (up2 mm 0 0 0) 1 5 x 2 = mm 2 := by funext i; rfl
  have em4 : up2 (up2 mm 0 0 0) 1 5 x 4 = mm 4 := by funext i; rfl
  have hx9 : 1 ≤ x.toInt ∧ x.toInt ≤ 9 := by
    rw [fa_lt] at q1 q3
    have e1 : (1 : Int32).toInt = 1 := rfl
    have e9 : (9 : Int32).toInt = 9 := rfl
    omega
  refine ⟨n, c, o, T, ?_, ?_, fun i hi ht => WRo_fr2 (g3 i hi ht) (fun b j h1 h2 => gI_c (by omega)) (fun _ _ _ _ => rfl), ⟨len, by rw [gI_c (by omega)]; exact t1, t2, t3, fun i hi => by rw [gI_c (by omega), em4]; exact t4 i hi⟩, by rw [gI_c (by omega)]; exact g5, b, by rw [gI_c (by omega)]; exact k1, k2, fun z => ?_⟩
  · rw [em1]
    exact Fo_seed g1 o1 o2 o3 (x := 5) (j := 9) (by omega) rfl x
  · rw [em1]
    have m := Mid_K g2 (K' := 2000 * (q + 1)) (by omega)
    refine Mid_of m ?_ (fun y _ _ => pk_un (by omega)) (fun j hj => ?_) (pk_un (by omega)) (fun y _ _ => pk_un (by omega)) (DV_cong m.2.2.2.2.1 (fun y _ _ => pk_un (by omega))) (fun j hj => Or.inl ⟨hj, pk_un (by omega)⟩) (fun y _ => pk_un (by omega)) (Nat.le_refl _)
    · obtain ⟨y1, y2, y3, y4, y5, y6, y7, y8, y9, y10⟩ := m.1
      refine ⟨by rw [pk_un (by omega)]; exact y1, y2, by rw [pk_un (by omega)]; exact y3, y4, by rw [pk_un (by omega)]; exact y5, ?_, by rw [pk_un (by omega)]; exact y7, ?_, ?_, by rw [pk_un (by omega)]; exact y10⟩
      · rw [y6]
        refine cntP_cong (fun j _ => ?_)
        unfold isOut
        rw [pk_un (by omega)]
      · unfold upd; rw [if_pos rfl]; exact hx9.1
      · unfold upd; rw [if_pos rfl]; exact hx9.2
    · have ej : ∀ w, w < 8 → upd (mm 1) 5 x (330 + 8 * j + w) = mm 1 (330 + 8 * j + w) := fun w _ => pk_un (by omega)
      exact ⟨ChG_cong (m.2.2.1 j hj).1 ej, fun z => ChO_cong ((m.2.2.1 j hj).2 z) ej⟩
  · obtain ⟨nk, ck, ok, Tk, a1, a2, a3, a4⟩ := k3 z
    obtain ⟨p1, p2, p3⟩ := mid_o a2
    refine ⟨nk, ck, ok, Tk, ?_, ?_, a3, a4⟩
    · rw [em2]
      exact Fo_fr a1 p1 p2 p3 (fun b j h1 _ => gI_c (by omega)) (fun _ _ _ _ => rfl)
    · rw [em2]
      exact Mid_K a2 (by omega)
end SC
