/-! ===== the reference's minutes ===== -/
/-- what stays over minutes -/
def KM (mm mm' : MM) : Prop := (∀ b, b ≠ 0 → b ≠ 1 → b ≠ 5 → mm' b = mm b) ∧ mm' 0 0 = mm 0 0 ∧ mm' 0 3 = mm 0 3 ∧ mm' 0 6 = mm 0 6 ∧ mm' 0 10 = mm 0 10
theorem KM_rf {mm : MM} : KM mm mm := ⟨fun _ _ _ _ => rfl, rfl, rfl, rfl, rfl⟩
theorem KM_tr {a b c : MM} (h : KM a b) (g : KM b c) : KM a c := by
  obtain ⟨h1, h2, h3, h4, h5⟩ := h
  obtain ⟨g1, g2, g3, g4, g5⟩ := g
  exact ⟨fun x x0 x1 x5 => by rw [g1 x x0 x1 x5, h1 x x0 x1 x5], by rw [g2, h2], by rw [g3, h3], by rw [g4, h4], by rw [g5, h5]⟩
theorem KM_q {a b : MM} (h : KQ a b) : KM a b := ⟨h.1, h.2.1, h.2.2.1, h.2.2.2.1, h.2.2.2.2.1⟩
theorem KM_s1 {mm : MM} {M : MR} : KM mm (s1 mm M) := ⟨fun b _ h1 _ => s1_o h1, rfl, rfl, rfl, rfl⟩
theorem KM_15 {mm : MM} {v : Int32} : KM mm (up2 mm 0 15 v) := ⟨fun b h0 _ _ => up2_ne h0, rfl, rfl, rfl, rfl⟩
section RRU
variable {mm : MM} {T : Nat → Pg} {n c o K : Nat}
theorem r_comes {Z : Nat → Prop} (hM : Mid (mm 1) T n c o K Z) {i p : Nat} (hi : i < c) (hs : mm 1 (330 + 8 * i) = 1) (hpl : mm 1 (331 + 8 * i) = nI p) (hpn : p ≤ n) {post : MM → Prop} (hp : ∀ mm', KM mm mm' → mm' 1 = coM (T i) (mm 1) n i p → post mm') : w_X13_comes post (nI i) (nI (p + 1)) mm := by
  have hn : n ≤ 11 := hM.1.2.1
  have hc : c ≤ 60 := hM.1.2.2.2.1
  have h1 : mm 1 1 = nI n := hM.1.1
  have h2 : mm 1 2 = nI c := hM.1.2.2.1
  have h3 : mm 1 3 = nI o := hM.1.2.2.2.2.1
  have no1 : isOut (mm 1) i = false := by
    unfold isOut
    rw [hs]
    decide
  have ho : o < c := by
    rw [hM.1.2.2.2.2.2.1]
    exact cntP_lt hi no1
  have hTx := (hM.2.2.2.2.2.1 i hi).1
  unfold w_X13_comes
  refine r_sets (w := 1) rfl (by omega) (by omega) ?_
  rw [cl_4, s1_1]
  refine r_sets (w := 4) rfl (by omega) (by omega) ?_
  rw [s1_s1, s1_1]
  refine r_sets (w := 2) rfl (by omega) (by omega) ?_
  simp only [s1_s1, s1_1]
  have e0 : upd (upd (upd (mm 1) (330 + 8 * i + 1) (nI (p + 1))) (330 + 8 * i + 4) (upd (mm 1) (330 + 8 * i + 1) (nI (p + 1)) 4)) (330 + 8 * i + 2) 0 = co1 (mm 1) i p := by
    rw [pk_un (show 4 ≠ 330 + 8 * i + 1 by omega)]
    unfold co1
    rw [show 330 + 8 * i + 1 = 331 + 8 * i by omega, show 330 + 8 * i + 4 = 334 + 8 * i by omega, show 330 + 8 * i + 2 = 332 + 8 * i by omega]
  rw [e0]
  have c1o : ∀ x, ¬ (330 + 8 * i ≤ x ∧ x < 337 + 8 * i) → co1 (mm 1) i p x = mm 1 x := by
    intro x hx
    unfold co1
    rw [pk_un (by omega), pk_un (by omega), pk_un (by omega)]
  have ec1 : co1 (mm 1) i p (Int32.toNatClampNeg 1) = nI n := by
    rw [cl_1, c1o 1 (by omega), h1]
  rw [ec1, nI_1]
  refine ⟨fun q => ?_, fun q => ?_⟩
  · have hpn2 : ¬ p = n := fun e => q (by rw [e])
    unfold coM at hp
    rw [if_neg hpn2] at hp
    refine r_reads (T := T i) (h := 0) (by omega) ?_ (fun z => absurd z (by decide)) (fun mm2 kq m1 m12 => ?_)
    · rw [s1_1]
      exact TxO_cong hTx (c1o _ (by omega)) (fun x hx => c1o x (by omega))
    have m1' : mm2 1 = co1 (mm 1) i p := m1
    have km : KM mm mm2 := KM_tr KM_s1 (KM_q kq)
    rw [m12]
    have f127 : ∀ (its : Bool) (s0 : Int32), its = decide ((T i).1 = 0 ∨ (T i).1 = nI (p + 1)) → s0 = (if (T i).1 = nI (p + 1) then 3 else 0) → B_X13_comes_127 post (nI i) (nI (p + 1)) its s0 false (nI i) mm2 := by
      intro its s0 hits hs0
      unfold B_X13_comes_127 B_X13_comes_153
      refine r_sets (w := 0) (x2 := b2 false) rfl (by omega) (by omega) ?_
      rw [m1', show 330 + 8 * i + 0 = 330 + 8 * i by omega]
      rw [← hs0] at hp
      generalize hM2 : upd (co1 (mm 1) i p) (330 + 8 * i) s0 = M2 at hp ⊢
      have m2o : ∀ x, ¬ (330 + 8 * i ≤ x ∧ x < 337 + 8 * i) → M2 x = mm 1 x := by
        intro x hx
        rw [← hM2, pk_un (by omega), c1o x hx]
      refine ⟨fun z => ?_, fun z => ?_⟩
      · rw [z] at hits
        have hf := of_decide_eq_false hits.symm
        rw [if_neg (fun y => hf y.1)] at hp
        exact hp _ (KM_tr km KM_s1) rfl
      · have hits2 : ((T i).1 = 0 ∨ (T i).1 = nI (p + 1)) := by
          have : its = true := by
            cases its
            · exact absurd rfl z
            · rfl
          rw [this] at hits
          exact of_decide_eq_true hits.symm
        have ev : (810 + (60 * nI (p + 1)) + nI i : Int32) = nI (810 + 60 * (p + 1) + i) := by
          rw [fa_lit 810, fa_lit 60, nI_mul, nI_add, nI_add]
        rw [ev, nI_clamp (by omega)]
        refine ⟨vp_in_nI (by omega) (by omega), fun q2 => ?_, fun q2 => ?_⟩
        · have q2' : ¬ mm 1 (810 + 60 * (p + 1) + i) = 1 := by
            rw [← m2o _ (by omega)]
            exact q2
          rw [if_pos ⟨hits2, q2'⟩] at hp
          simp only [] at hp
          have mu1 : up2 (s1 mm2 M2) 0 15 (nI (p + 1)) 1 = M2 := by
            funext j
            rfl
          refine r_reads (T := T i) (h := p + 1) (D := true) (by omega) ?_ (fun _ => ⟨rfl, by omega, by omega, ?_⟩) (fun mm3 kq3 g1 g12 => ?_)
          · rw [mu1]
            exact TxO_cong hTx (m2o _ (by omega)) (fun x hx => m2o x (by omega))
          · rw [mu1]
            exact ⟨c, by rw [m2o 2 (by omega), h2], hc⟩
          · rw [mu1] at g1
            have g1' : mm3 1 = (T i).2.foldl (exM (p + 1) i) M2 := g1
            refine r_chipOf (w := 6) rfl (by omega) (by omega) ?_
            refine r_sets (w := 6) rfl (by omega) (by omega) ?_
            refine hp _ (KM_tr (KM_tr (KM_tr (KM_tr km KM_s1) KM_15) (KM_q kq3)) KM_s1) ?_
            rw [s1_1, g1', show 330 + 8 * i + 6 = 336 + 8 * i by omega]
        · have q2' : mm 1 (810 + 60 * (p + 1) + i) = 1 := by
            rw [← m2o _ (by omega)]
            exact q2
          rw [if_neg (fun y => y.2 q2')] at hp
          exact hp _ (KM_tr km KM_s1) rfl
    have f112 : ∀ its : Bool, its = decide ((T i).1 = 0 ∨ (T i).1 = nI (p + 1)) → B_X13_comes_98 post (nI i) (nI (p + 1)) its mm2 := by
      intro its hits
      unfold B_X13_comes_98 B_X13_comes_112
      rw [m12]
      refine ⟨fun z => ⟨fun _ => f127 its 0 hits (by rw [if_neg z]), fun y => absurd rfl y⟩, fun z => ⟨fun y => absurd y (by decide), fun _ => f127 its 3 hits (by rw [if_pos z])⟩⟩
    refine ⟨fun z => ?_, fun z => ⟨fun y => ?_, fun y => ?_⟩⟩
    · unfold B_X13_comes_93
      exact f112 true (decide_eq_true (Or.inl z)).symm
    · exact f112 false (decide_eq_false (fun x => x.elim z y)).symm
    · unfold B_X13_comes_93
      exact f112 true (decide_eq_true (Or.inr y)).symm
  · have hpn2 : p = n := by
      rw [nI_eq (by omega) (by omega)] at q
      omega
    unfold coM at hp
    rw [if_pos hpn2, h3, nI_clamp (by omega)] at hp
    refine r_sets (w := 0) rfl (by omega) (by omega) ?_
    rw [cl_3]
    simp only [s1_s1, s1_1]
    have e3 : upd (co1 (mm 1) i p) (330 + 8 * i + 0) 4 3 = nI o := by
      rw [pk_un (by omega), c1o 3 (by omega), h3]
    rw [e3, fa_lit 262, nI_add, nI_clamp (by omega)]
    refine ⟨vp_in_nI (by omega) (by omega), ?_⟩
    simp only [up2_1, s1_s1, s1_1]
    rw [pk_un (show 3 ≠ 262 + o by omega), pk_un (show 3 ≠ 330 + 8 * i + 0 by omega), c1o 3 (by omega), h3]
    exact hp _ KM_s1 rfl
theorem r_minute (hM : Mid (mm 1) T n c o K (fun _ => True)) {post : MM → Prop} (hp : ∀ mm', KM mm mm' → mm' 1 = minM T (mm 1) → post mm') : w_X13_minute post mm := by
  have hn : n ≤ 11 := hM.1.2.1
  have hc : c ≤ 60 := hM.1.2.2.2.1
  have h1 : mm 1 1 = nI n := hM.1.1
  have h2 : mm 1 2 = nI c := hM.1.2.2.1
  have end118 : ∀ (mm1 : MM) (M3 : MR), KM mm mm1 → mm1 1 = M3 → upd M3 4 (M3 4 + 1) = minM T (mm 1) → B_X13_minute_118 post mm1 := by
    intro mm1 M3 km e1 e2
    unfold B_X13_minute_118
    rw [cl_4, up2_1, e1]
    exact hp _ (KM_tr km KM_s1) (by rw [s1_1, e2])
  unfold w_X13_minute
  refine r_frost ?_
  cases hf : frostM (mm 1) with
  | true =>
    refine ⟨fun _ => end118 mm (mm 1) KM_rf rfl ?_, fun z => absurd z (by decide)⟩
    unfold minM
    rw [if_pos hf]
  | false =>
    refine ⟨fun z => absurd rfl z, fun _ => ?_⟩
    have emin : ∀ M3, M3 = entF (n + 1) (comF T n c (decF c (mm 1))) → upd M3 4 (M3 4 + 1) = minM T (mm 1) := by
      intro M3 h
      unfold minM
      rw [if_neg (by rw [hf]; decide), h1, h2, nI_clamp (by omega), nI_clamp (by omega), h]
    rw [cl_2, h2]
    -- those that enter
    have ent : ∀ (r : Nat) (mm1 : MM) (M : MR) (c1 o1 : Nat), r ≤ n + 1 → KM mm mm1 → Mid M T n c1 o1 K (fun _ => True) → entF r M = entF (n + 1) (comF T n c (decF c (mm 1))) → ∀ v : Int32, v = (if r = 0 then -1 else nI (r - 1)) → B_X13_minute_103 post (r + 1) v (s1 mm1 M) := by
      intro r
      induction r with
      | zero =>
        intro mm1 M c1 o1 _ km hm he v hv
        rw [if_pos rfl] at hv
        subst hv
        unfold B_X13_minute_103
        exact ⟨fun _ => end118 _ M (KM_tr km KM_s1) rfl (emin M he), fun z => absurd (by decide) z⟩
      | succ r ih =>
        intro mm1 M c1 o1 hr km hm he v hv
        rw [if_neg (by omega), Nat.add_sub_cancel] at hv
        subst hv
        unfold B_X13_minute_103
        refine ⟨fun z => absurd z (nI_pos (by omega)), fun _ => ?_⟩
        have hc1 := hm.1.2.2.2.1
        refine r_enters (mm := s1 mm1 M) (T := T) (n := n) (c := c1) (o := o1) (K := K) (by omega) (by rw [s1_1]; exact hm) ?_
        rw [s1_s1, s1_1]
        refine ih mm1 _ c1 o1 (by omega) km (mid_ens (by omega) 60 M hm) ?_ _ ?_
        · rw [← he]
          show entF r (ensM c1 r 60 M) = entF r (ensM (M 2).toNatClampNeg r 60 M)
          rw [hm.1.2.2.1, nI_clamp (by omega)]
        · cases r with
          | zero => rw [if_pos rfl]; decide
          | succ r =>
            rw [if_neg (by omega), Nat.add_sub_cancel]
            have : nI (r + 1) + (-1) = nI (r + 1) - 1 := (Int32.sub_eq_add_neg ..).symm
            rw [this, nI_pred]
    -- those that come
    have com : ∀ (f j : Nat) (mm1 : MM), j + f = c → KM mm mm1 → mm1 1 = comF T n j (decF c (mm 1)) → B_X13_minute_53 post (f + 1) (nI c) (nI j) mm1 := by
      have hd := mid_dec hM c (Nat.le_refl _)
      have hd2 : Mid (decF c (mm 1)) T n c o K (fun _ => False) := Mid_mono hd.1 (fun _ _ z => z.elim)
      intro f
      induction f with
      | zero =>
        intro j mm1 hj km e1
        have ej : j = c := by omega
        subst ej
        unfold B_X13_minute_53
        refine ⟨fun _ => ?_, fun z => absurd (nI_le (Nat.le_refl _) (by omega)) z⟩
        obtain ⟨c1, o1, g1, g2⟩ := mid_com j _ hd2 (Nat.le_refl _)
        have g3 := Mid_mono g2 (Z' := fun _ => True) (fun x hx _ => by omega)
        have e11 : mm1 1 1 = nI n := by rw [e1]; exact g3.1.1
        rw [cl_1, e11]
        refine ⟨n + 2, ?_⟩
        have := ent (n + 1) mm1 _ c1 o1 (Nat.le_refl _) km g3 rfl (nI n) (by rw [if_neg (by omega), Nat.add_sub_cancel])
        rw [← e1, s1_id] at this
        exact this
      | succ f ih =>
        intro j mm1 hj km e1
        obtain ⟨c1, o1, g1, g2⟩ := mid_com j _ hd2 (by omega)
        have es : comF T n (j + 1) (decF c (mm 1)) = if comF T n j (decF c (mm 1)) (330 + 8 * j) = 1 ∧ comF T n j (decF c (mm 1)) (332 + 8 * j) = 0 then coM (T j) (comF T n j (decF c (mm 1))) n j (comF T n j (decF c (mm 1)) (331 + 8 * j)).toNatClampNeg else comF T n j (decF c (mm 1)) := rfl
        rw [← e1] at es g2
        unfold B_X13_minute_53
        refine ⟨fun z => absurd z (nI_ge (by omega) (by omega)), fun _ => ?_⟩
        have skip : ¬ (mm1 1 (330 + 8 * j) = 1 ∧ mm1 1 (332 + 8 * j) = 0) → B_X13_minute_90 post (B_X13_minute_53 post (f + 1)) (nI c) (nI j) mm1 := by
          intro hq
          rw [if_neg hq] at es
          unfold B_X13_minute_90
          rw [nI_1]
          exact ih (j + 1) mm1 (by omega) km es.symm
        refine r_chipOf (w := 0) rfl (by omega) (by omega) ⟨fun q => skip (fun z => q z.1), fun q => ?_⟩
        refine r_chipOf (w := 2) rfl (by omega) (by omega) ⟨fun q2 => skip (fun z => q2 (by rw [← z.2]; congr 1; omega)), fun q2 => ?_⟩
        have q' : mm1 1 (330 + 8 * j) = 1 := q
        have q2' : mm1 1 (332 + 8 * j) = 0 := by rw [← q2]; congr 1; omega
        obtain ⟨p, a1, a2, a3, a4, a5, a6⟩ := (g2.2.2.1 j (by omega)).1
        have hpn : p ≤ n := by
          rcases a5 with ⟨a5, a7⟩ | ⟨a5, a7, _⟩ | ⟨a5, a7, _⟩ | ⟨a5, a7⟩ | ⟨a5, a7⟩
          · exact a7
          · exact a7
          · exact a7
          · exact a7
          · rw [q'] at a5
            exact absurd a5 (by decide)
        rw [if_pos ⟨q', q2'⟩, a1, nI_clamp (by omega)] at es
        refine r_chipOf (w := 1) rfl (by omega) (by omega) ?_
        rw [show 330 + 8 * j + 1 = 331 + 8 * j by omega, a1, nI_1]
        refine r_comes g2 (by omega) q' a1 hpn (fun mm2 km2 e2 => ?_)
        unfold B_X13_minute_90
        rw [nI_1]
        exact ih (j + 1) mm2 (by omega) (KM_tr km km2) (by rw [e2, es])
    -- a minute less to go
    have dec : ∀ (f j : Nat) (mm1 : MM), j + f = c → KM mm mm1 → mm1 1 = decF j (mm 1) → B_X13_minute_16 post (f + 1) (nI c) (nI j) mm1 := by
      intro f
      induction f with
      | zero =>
        intro j mm1 hj km e1
        have ej : j = c := by omega
        subst ej
        unfold B_X13_minute_16
        exact ⟨fun _ => ⟨j + 1, com j 0 mm1 (by omega) km e1⟩, fun z => absurd (nI_le (Nat.le_refl _) (by omega)) z⟩
      | succ f ih =>
        intro j mm1 hj km e1
        have es : decF (j + 1) (mm 1) = if decF j (mm 1) (330 + 8 * j) = 1 then upd (decF j (mm 1)) (332 + 8 * j) (decF j (mm 1) (332 + 8 * j) - 1) else decF j (mm 1) := rfl
        rw [← e1] at es
        unfold B_X13_minute_16
        refine ⟨fun z => absurd z (nI_ge (by omega) (by omega)), fun _ => ?_⟩
        refine r_chipOf (w := 0) rfl (by omega) (by omega) ⟨fun q => ?_, fun q => ?_⟩
        · rw [if_neg (show ¬ mm1 1 (330 + 8 * j) = 1 from q)] at es
          unfold B_X13_minute_45
          rw [nI_1]
          exact ih (j + 1) mm1 (by omega) km es.symm
        · rw [if_pos (show mm1 1 (330 + 8 * j) = 1 from q)] at es
          refine r_chipOf (w := 2) rfl (by omega) (by omega) ?_
          refine r_sets (w := 2) rfl (by omega) (by omega) ?_
          unfold B_X13_minute_45
          rw [nI_1]
          refine ih (j + 1) _ (by omega) (KM_tr km KM_s1) ?_
          rw [s1_1, es, show 330 + 8 * j + 2 = 332 + 8 * j by omega]
    exact ⟨c + 1, dec c 0 mm (by omega) KM_rf rfl⟩
end RRU
def mnsM (T : Nat → Pg) : Nat → MR → MR
  | 0, M => M
  | k + 1, M => minM T (mnsM T k M)
theorem mid_mns {M : MR} {T : Nat → Pg} {n c o K : Nat} (h : Mid M T n c o K (fun _ => True)) : ∀ k, K + k < 2 ^ 31 - 10 → ∃ c' o', c ≤ c' ∧ Mid (mnsM T k M) T n c' o' (K + k) (fun _ => True) := by
  intro k
  induction k with
  | zero => intro _; exact ⟨c, o, Nat.le_refl _, h⟩
  | succ k ih =>
    intro hk
    obtain ⟨c1, o1, h1, h2⟩ := ih (by omega)
    obtain ⟨c2, o2, h3, h4⟩ := mid_min h2 (by omega)
    exact ⟨c2, o2, by omega, h4⟩
