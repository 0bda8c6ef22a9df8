/-! ===== the class: those that enter, a minute ===== -/
def minN (T : Nat → Pg) (M : MR) : MR :=
  let M3 := entF ((M 1).toNatClampNeg + 1) (comF T (M 1).toNatClampNeg (M 2).toNatClampNeg (decF (M 2).toNatClampNeg M))
  upd M3 4 (M3 4 + 1)
theorem minM_eq {T : Nat → Pg} {M : MR} : minM T M = if frostM M then upd M 4 (M 4 + 1) else minN T M := rfl
/-- the rows of all chips that read something -/
def WRA (cm : CMu) (T : Nat → Pg) : Prop := ∀ i, i < 60 → (T i).1 ≠ -1 → WRo cm (11 + 6 * i) (T i).2
theorem WRA_fr {cm cm' : CMu} {T : Nat → Pg} {f : Nat} (hf : 382 ≤ f) (h : FrC f cm cm') (hW : WRA cm T) : WRA cm' T :=
  fun i hi ht => FrC_W (by omega) (by omega) h (hW i hi ht)
section CM
variable {cm : CMu} {f : Nat} {M : MR} {T : Nat → Pg} {n c o K : Nat}
theorem c_fw {post : Int32 → CMu → Prop} (hF : Fo cm f M T n c o) (hM2 : M 2 = nI c) (hc : c ≤ 60) {s : Nat} (h : post (oI (nxF M s c)) cm) : w_X3_firstWaiting post f (nI s) cm := by
  have h6 : gI cm f 6 = nI c := by rw [(Fo_h hF).2.2.1, hM2]
  have ch : ∀ i w, i < c → w < 6 → gI cm (f + 47 + i) w = M (330 + 8 * i + w) := fun i w hi hw => RF_c hF.1 hi hw
  unfold w_X3_firstWaiting
  have key : ∀ (g j : Nat), j + g = c → B_X3_firstWaiting_4 post (g + 1) f (nI s) (oI (nxF M s j)) (nI j) cm := by
    intro g
    induction g with
    | zero =>
      intro j hj
      have e : j = c := by omega
      subst e
      unfold B_X3_firstWaiting_4
      rw [h6]
      exact ⟨fun _ => h, fun q => absurd (nI_le (Nat.le_refl _) (by omega)) q⟩
    | succ g ih =>
      intro j hj
      unfold B_X3_firstWaiting_4
      rw [h6, nI_clamp (by omega), ch j 0 (by omega) (by omega), ch j 1 (by omega) (by omega), ch j 4 (by omega) (by omega)]
      refine ⟨fun q => absurd q (nI_ge (by omega) (by omega)), fun _ => ⟨vp_in_nI (by omega) (by omega), ?_⟩⟩
      have nx : ∀ x : Option Nat, nxF M s (j + 1) = x → B_X3_firstWaiting_4 post (g + 1) f (nI s) (oI x) (nI j + 1) cm := by
        intro x hx
        rw [← hx, nI_1]
        exact ih (j + 1) (by omega)
      have same : ¬ isWt M s j = true → B_X3_firstWaiting_61 post (B_X3_firstWaiting_4 post (g + 1)) f (nI s) (oI (nxF M s j)) (nI j) cm := by
        intro hw
        unfold B_X3_firstWaiting_61
        refine nx _ ?_
        conv => lhs; unfold nxF
        cases hb : nxF M s j with
        | none =>
          simp only []
          rw [if_neg hw]
        | some b =>
          simp only []
          rw [if_neg (fun z => hw z.1)]
      refine ⟨fun q => same (fun z => q (of_decide_eq_true z).1), fun q => ⟨fun q2 => same (fun z => q2 (by rw [← (of_decide_eq_true z).2]; congr 1; omega)), fun q2 => ?_⟩⟩
      have hw : isWt M s j = true := decide_eq_true ⟨q, by rw [← q2]; congr 1; omega⟩
      have s59 : nxF M s (j + 1) = some j → B_X3_firstWaiting_59 post (B_X3_firstWaiting_4 post (g + 1)) f (nI s) (nI j) cm := by
        intro hx
        unfold B_X3_firstWaiting_59 B_X3_firstWaiting_61
        exact nx (some j) hx
      cases hb : nxF M s j with
      | none =>
        refine ⟨fun _ => s59 ?_, fun z => absurd rfl z⟩
        conv => lhs; unfold nxF
        rw [hb]
        simp only []
        rw [if_pos hw]
      | some b =>
        have hb2 := (nxF_some hb).1
        refine ⟨fun z => absurd z (nI_m1 (by omega)), fun _ => ?_⟩
        have eo : oI (some b) = nI b := rfl
        rw [eo, nI_clamp (by omega), ch b 4 (by omega) (by omega)]
        have f1 : 330 + 8 * b + 4 = 334 + 8 * b := by omega
        have f2 : 330 + 8 * j + 4 = 334 + 8 * j := by omega
        rw [f1, f2]
        refine ⟨vp_in_nI (by omega) (by omega), fun q3 => ?_, fun q3 => s59 ?_⟩
        · unfold B_X3_firstWaiting_61
          refine nx (some b) ?_
          conv => lhs; unfold nxF
          rw [hb]
          simp only []
          have hz : ¬ (isWt M s j = true ∧ M (334 + 8 * j) < M (334 + 8 * b)) := by
            intro z
            have z2 := z.2
            rw [fa_le] at q3
            rw [fa_lt] at z2
            omega
          rw [if_neg hz]
        · conv => lhs; unfold nxF
          rw [hb]
          simp only []
          have hz : M (334 + 8 * j) < M (334 + 8 * b) := by
            rw [fa_le] at q3
            rw [fa_lt]
            omega
          rw [if_pos ⟨hw, hz⟩]
  exact ⟨c + 1, key c 0 (by omega)⟩
theorem Fo_seed (hF : Fo cm f M T n c o) (hn : n ≤ 11) (hc : c ≤ 60) (ho : o ≤ 60) {x j : Nat} (hx : 4 ≤ x ∧ x ≤ 8) (e : ad x = (0, j)) (v : Int32) : Fo (uI cm f j v) f (upd M x v) T n c o := by
  obtain ⟨g1, g2, g3, g4⟩ := hF
  refine ⟨RS_h g1 (DD_im hn hc ho) x (by omega) e v, fun r hr => ?_, fun i hi => ?_, ?_⟩
  · rw [gI_c (by omega), g2 r hr]
    congr 1
    exact (inR_cong (fun i hi => ⟨pk_un (by omega), pk_un (by omega)⟩)).symm
  · rw [gI_c (by omega)]
    exact g3 i hi
  · exact Bts_cong (cm := cm) (f := f) g4 (fun p hp => pk_un (by omega)) (fun x _ _ => pk_un (by omega)) hn
theorem Fo_en (hF : Fo cm f M T n c o) (hn : n ≤ 11) (hc : c ≤ 60) (ho : o ≤ 60) {i r : Nat} (hi : i < c) (hr : r ≤ n) (hs0 : M (330 + 8 * i) = 0) (hpl : M (331 + 8 * i) = nI r) {s g v : Int32} (hs : s = 1 ∨ s = 2) :
    Fo (uI (uI (uI (uI cm (f + 47 + i) 0 s) (f + 47 + i) 2 g) (f + 47 + i) 4 v) (f + 24 + 2 * r) 3 (gI cm (f + 24 + 2 * r) 3 + 1)) f (upd (upd (upd M (330 + 8 * i + 0) s) (330 + 8 * i + 2) g) (330 + 8 * i + 4) v) T n c o := by
  obtain ⟨g1, g2, g3, g4⟩ := hF
  have hD := DD_im (n := n) (c := c) (o := o) hn hc ho
  have i0 : upd (upd (upd M (330 + 8 * i + 0) s) (330 + 8 * i + 2) g) (330 + 8 * i + 4) v (330 + 8 * i) = s := by
    rw [pk_un (by omega), pk_un (by omega)]
    exact if_pos rfl
  have i1 : upd (upd (upd M (330 + 8 * i + 0) s) (330 + 8 * i + 2) g) (330 + 8 * i + 4) v (331 + 8 * i) = nI r := by
    rw [pk_un (by omega), pk_un (by omega), pk_un (by omega), hpl]
  have io : ∀ x, ¬ (330 + 8 * i ≤ x ∧ x < 336 + 8 * i) → upd (upd (upd M (330 + 8 * i + 0) s) (330 + 8 * i + 2) g) (330 + 8 * i + 4) v x = M x := by
    intro x hx
    rw [pk_un (by omega), pk_un (by omega), pk_un (by omega)]
  refine ⟨?_, fun q hq => ?_, fun j hj => ?_, ?_⟩
  · refine RFI_un (RS_c (RS_c (RS_c g1 hD (by omega) (by omega) _) hD (by omega) (by omega) _) hD (by omega) (by omega) _) hD (Or.inr ?_)
    rw [show f + 24 + 2 * r - f = 24 + 2 * r by omega]
    exact iv_in (by omega)
  · have cs := cntP_set (p := isIn M q) (q := isIn (upd (upd (upd M (330 + 8 * i + 0) s) (330 + 8 * i + 2) g) (330 + 8 * i + 4) v) q) hi (fun j hj => by
      unfold isIn
      rw [io _ (by omega), io _ (by omega)])
    have y2 : isIn M q i = false := by
      unfold isIn
      rw [hs0]
      exact decide_eq_false (fun z => z.1.elim (fun y => absurd y (by decide)) (fun y => absurd y (by decide)))
    by_cases er : q = r
    · subst er
      have y1 : isIn (upd (upd (upd M (330 + 8 * i + 0) s) (330 + 8 * i + 2) g) (330 + 8 * i + 4) v) q i = true := by
        unfold isIn
        rw [i0, i1]
        exact decide_eq_true ⟨hs, rfl⟩
      rw [y1, y2, if_pos rfl, if_neg (by decide)] at cs
      rw [gI_hit, g2 q hq, nI_1]
      congr 1
      show cntP (isIn M q) c + 1 = cntP _ c
      omega
    · have y1 : isIn (upd (upd (upd M (330 + 8 * i + 0) s) (330 + 8 * i + 2) g) (330 + 8 * i + 4) v) q i = false := by
        unfold isIn
        rw [i1]
        refine decide_eq_false (fun z => er ?_)
        exact (nI_inj z.2 (by omega) (by omega)).symm
      rw [y1, y2, if_neg (by decide)] at cs
      rw [gI_c (by omega), gI_c (by omega), gI_c (by omega), gI_c (by omega), g2 q hq]
      congr 1
      show cntP (isIn M q) c = cntP _ c
      omega
  · rw [gI_c (by omega), gI_f (by omega), gI_f (by omega), gI_f (by omega)]
    exact g3 j hj
  · exact Bts_cong (cm := cm) (f := f) g4 (fun q hq => io _ (by omega)) (fun x _ _ => io x (by omega)) hn
theorem en_eq1 {r i : Nat} {sd : Int32} : upd (upd (upd (upd M 8 sd) (330 + 8 * i + 0) 1) (330 + 8 * i + 2) (gtM M r i)) (330 + 8 * i + 4) (M 4) = upd (en0 M r i) 8 sd := by
  funext x
  unfold en0 upd
  by_cases c8 : x = 8
  · rw [if_neg (by omega), if_neg (by omega), if_neg (by omega), if_pos c8, if_pos c8]
  · by_cases c0 : x = 330 + 8 * i
    · rw [if_neg (by omega), if_neg (by omega), if_pos (by omega), if_neg c8, if_neg (by omega), if_neg (by omega), if_pos c0]
    · by_cases c2 : x = 332 + 8 * i
      · rw [if_neg (by omega), if_pos (by omega), if_neg c8, if_pos c2]
      · by_cases c4 : x = 334 + 8 * i
        · rw [if_pos (by omega), if_neg c8, if_neg (by omega), if_pos c4]
        · rw [if_neg (by omega), if_neg (by omega), if_neg (by omega), if_neg c8, if_neg c8, if_neg c2, if_neg c4, if_neg c0]
theorem en_eq2 {r i : Nat} {sd : Int32} : upd (upd (upd (upd M 8 sd) (330 + 8 * i + 0) 2) (330 + 8 * i + 2) (gtM M r i)) (330 + 8 * i + 4) (M 4) = upd (upd (en0 M r i) 8 sd) (330 + 8 * i) 2 := by
  funext x
  unfold en0 upd
  by_cases c8 : x = 8
  · rw [if_neg (by omega), if_neg (by omega), if_neg (by omega), if_pos c8, if_neg (by omega), if_pos c8]
  · by_cases c0 : x = 330 + 8 * i
    · rw [if_neg (by omega), if_neg (by omega), if_pos (by omega), if_pos c0]
    · by_cases c2 : x = 332 + 8 * i
      · rw [if_neg (by omega), if_pos (by omega), if_neg c0, if_neg c8, if_pos c2]
      · by_cases c4 : x = 334 + 8 * i
        · rw [if_pos (by omega), if_neg c0, if_neg c8, if_neg (by omega), if_pos c4]
        · rw [if_neg (by omega), if_neg (by omega), if_neg (by omega), if_neg c8, if_neg c0, if_neg c8, if_neg c2, if_neg c4, if_neg c0]
theorem en_eq0 {r i : Nat} : upd (upd (upd M (330 + 8 * i + 0) 1) (330 + 8 * i + 2) (gtM M r i)) (330 + 8 * i + 4) (M 4) = en0 M r i := by
  funext x
  unfold en0 upd
  by_cases c0 : x = 330 + 8 * i
  · rw [if_neg (by omega), if_neg (by omega), if_pos (by omega), if_neg (by omega), if_neg (by omega), if_pos c0]
  · by_cases c2 : x = 332 + 8 * i
    · rw [if_neg (by omega), if_pos (by omega), if_pos c2]
    · by_cases c4 : x = 334 + 8 * i
      · rw [if_pos (by omega), if_neg (by omega), if_pos c4]
      · rw [if_neg (by omega), if_neg (by omega), if_neg (by omega), if_neg c2, if_neg c4, if_neg c0]
theorem c_enter {r : Nat} (hr : r ≤ n) {post : CMu → Prop} (hM : Mid M T n c o K (fun _ => True)) (hF : Fo cm f M T n c o) (hp : ∀ cm', Fo cm' f (ensM c r 60 M) T n c o → FrC f cm cm' → post cm') : w_X3_enter post f (nI r) cm := by
  have hn : n ≤ 11 := hM.1.2.1
  have hc : c ≤ 60 := hM.1.2.2.2.1
  have ho : o ≤ 60 := by
    rw [hM.1.2.2.2.2.2.1]
    have := cntP_le (isOut M) c
    omega
  have key : ∀ (g k : Nat) (cm : CMu) (M : MR), k + g = 60 → Mid M T n c o K (fun _ => True) → Fo cm f M T n c o → (∀ cm', Fo cm' f (ensM c r g M) T n c o → FrC f cm cm' → post cm') → B_X3_enter_17 post (g + 1) f (nI r) (f + 24 + 2 * r) (oI (nxF M r c)) (nI k) cm := by
    intro g
    induction g with
    | zero =>
      intro k cm M hk hM hF hp
      unfold B_X3_enter_17 B_X3_enter_127
      exact ⟨fun _ => hp cm hF FrC_rf, fun q => absurd (nI_le (a := 60) (by omega) (by omega)) q⟩
    | succ g ih =>
      intro k cm M hk hM hF hp
      have hH := Fo_h hF
      unfold B_X3_enter_17
      refine ⟨fun q => ?_, fun _ => ?_⟩
      · rw [fa_lit 60, nI_leI (by omega) (by omega)] at q
        omega
      cases hb : nxF M r c with
      | none =>
        rw [ensM_none hb] at hp
        unfold B_X3_enter_127
        exact ⟨fun _ => hp cm hF FrC_rf, fun z => absurd rfl z⟩
      | some i =>
        obtain ⟨i1, i2⟩ := nxF_some hb
        have iw := of_decide_eq_true i2
        have eo : oI (some i) = nI i := rfl
        rw [eo]
        refine ⟨fun z => absurd z (nI_m1 (by omega)), fun _ => ?_⟩
        have e2 : gI cm (f + 24 + 2 * r) 2 = M (12 + 3 * r) := by
          rw [RF_r hF.1 hn hr (by omega)]
          congr 1
          omega
        have e1 : gI cm (f + 24 + 2 * r) 1 = M (11 + 3 * r) := by
          rw [RF_r hF.1 hn hr (by omega)]
          congr 1
          omega
        have e0 : gI cm (f + 24 + 2 * r) 0 = M (10 + 3 * r) := by
          rw [RF_r hF.1 hn hr (by omega)]
          rfl
        have e3 : gI cm (f + 24 + 2 * r) 3 = nI (inR M c r) := hF.2.1 r hr
        have f3 : gI cm (f + 47 + i) 3 = M (333 + 8 * i) := by
          rw [RF_c hF.1 i1 (by omega)]
          congr 1
          omega
        have e9 : gI cm f 9 = M 5 := hH.2.2.2.2.2.1
        have e12 : gI cm f 12 = M 4 := hH.2.2.2.2.1
        have e13 : gI cm f 13 = M 8 := hH.2.2.2.2.2.2.2.2.1
        obtain ⟨m1, m2⟩ := mid_en hM i1 i2 hr
        -- it enters
        have ent : ∀ (cm1 : CMu) (M1 : MR) (s : Int32), (s = 1 ∨ s = 2) → Fo cm1 f M1 T n c o → FrC f cm cm1 → (∀ x, x ≠ 8 → M1 x = M x) → (∀ b j, (b = f → j ≠ 13) → gI cm1 b j = gI cm b j) → roomM M c r = true → upd (upd (upd M1 (330 + 8 * i + 0) s) (330 + 8 * i + 2) (gtM M r i)) (330 + 8 * i + 4) (M 4) = enM M r i → B_X3_enter_71 post (B_X3_enter_17 post (g + 1)) f (nI r) (f + 24 + 2 * r) (nI k) (f + 47 + i) s (f + 47 + i) cm1 := by
          intro cm1 M1 s hs hF1 fr1 hM1 hc1 hroom heq
          rw [ensM_step hb hroom] at hp
          unfold B_X3_enter_71 w_X12_minutesFor
          have q0 : gI (uI cm1 (f + 47 + i) 0 s) (f + 24 + 2 * r) 0 = M (10 + 3 * r) := by rw [gI_c (by omega), hc1 _ _ (by omega), e0]
          have q3 : gI (uI cm1 (f + 47 + i) 0 s) (f + 47 + i) 3 = M (333 + 8 * i) := by rw [gI_f (by omega), hc1 _ _ (by omega), f3]
          have q9 : gI (uI cm1 (f + 47 + i) 0 s) f 9 = M 5 := by rw [gI_c (by omega), hc1 _ _ (by omega), e9]
          rw [q0, q3, q9]
          have eg : M (10 + 3 * r) * ((M (333 + 8 * i) + 10) - M 5) = gtM M r i := rfl
          rw [eg]
          have q12 : gI (uI (uI cm1 (f + 47 + i) 0 s) (f + 47 + i) 2 (gtM M r i)) f 12 = M 4 := by rw [gI_c (by omega), gI_c (by omega), hc1 _ _ (by omega), e12]
          simp only [q12]
          have q33 : gI (uI (uI (uI cm1 (f + 47 + i) 0 s) (f + 47 + i) 2 (gtM M r i)) (f + 47 + i) 4 (M 4)) (f + 24 + 2 * r) 3 = gI cm1 (f + 24 + 2 * r) 3 := by rw [gI_c (by omega), gI_c (by omega), gI_c (by omega)]
          rw [q33]
          have F2 := Fo_en hF1 hn hc ho i1 hr (by rw [hM1 _ (by omega)]; exact iw.1) (by rw [hM1 _ (by omega)]; exact iw.2) (g := gtM M r i) (v := M 4) hs
          rw [heq] at F2
          refine c_fw F2 m1.1.2.2.1 hc ?_
          rw [nI_1]
          exact ih (k + 1) _ _ (by omega) m1 F2 (fun cm' F' fr' => hp cm' F' (FrC_tr (FrC_tr fr1 (FrC_tr (FrC_tr (FrC_tr (FrC_uI (by omega)) (FrC_uI (by omega))) (FrC_uI (by omega))) (FrC_uI (by omega)))) fr'))
        have room : ∀ hroom : roomM M c r = true, (vp_in (nI i) 60) ∧ ((gI cm (f + 24 + 2 * r) 1) ≤ 0 → (B_X3_enter_70 post (B_X3_enter_17 post (g + 1)) f (nI r) (f + 24 + 2 * r) (nI k) (f + 47 + Int32.toNatClampNeg (nI i)) (f + 47 + Int32.toNatClampNeg (nI i)) cm)) ∧ (¬ (gI cm (f + 24 + 2 * r) 1) ≤ 0 → (w_X3_drawBelow (fun (r7 : Bool) (u8 : CMu) => ((r7 = false) → (B_X3_enter_70 post (B_X3_enter_17 post (g + 1)) f (nI r) (f + 24 + 2 * r) (nI k) (f + 47 + Int32.toNatClampNeg (nI i)) (f + 47 + Int32.toNatClampNeg (nI i)) u8)) ∧ (¬ (r7 = false) → (B_X3_enter_71 post (B_X3_enter_17 post (g + 1)) f (nI r) (f + 24 + 2 * r) (nI k) (f + 47 + Int32.toNatClampNeg (nI i)) 2 (f + 47 + Int32.toNatClampNeg (nI i)) u8))) f (gI cm (f + 24 + 2 * r) 1) cm)) := by
          intro hroom
          rw [e1, nI_clamp (by omega)]
          refine ⟨vp_in_nI (by omega) (by omega), fun q => ?_, fun q => ?_⟩
          · unfold B_X3_enter_70
            refine ent cm M 1 (Or.inl rfl) hF FrC_rf (fun _ _ => rfl) (fun _ _ _ => rfl) hroom ?_
            rw [en_eq0]
            unfold enM
            rw [if_pos q]
          · unfold w_X3_drawBelow
            rw [e13, gI_hit]
            have es : (1103515245 : Int32) * M 8 + 12345 = sdN (M 8) := rfl
            rw [es]
            have F1 := Fo_seed hF hn hc ho (x := 8) (j := 13) (by omega) rfl (sdN (M 8))
            have hc1 : ∀ b j, (b = f → j ≠ 13) → gI (uI cm f 13 (sdN (M 8))) b j = gI cm b j := by
              intro b j h
              refine up2_miss (fun z => h z.1 z.2)
            refine ⟨fun q2 => ⟨fun _ => ?_, fun z => absurd rfl z⟩, fun q2 => ⟨fun z => absurd z (by decide), fun _ => ?_⟩⟩
            · have q3 : M (11 + 3 * r) ≤ dr (sdN (M 8)) := q2
              unfold B_X3_enter_70
              refine ent _ _ 1 (Or.inl rfl) F1 (FrC_uI (by omega)) (fun x hx => pk_un hx) hc1 hroom ?_
              rw [en_eq1]
              unfold enM
              rw [if_neg q, if_pos q3]
            · have q3 : ¬ M (11 + 3 * r) ≤ dr (sdN (M 8)) := q2
              refine ent _ _ 2 (Or.inr rfl) F1 (FrC_uI (by omega)) (fun x hx => pk_un hx) hc1 hroom ?_
              rw [en_eq2]
              unfold enM
              rw [if_neg q, if_neg q3]
        unfold w_X7_hasRoom
        rw [e2, e3]
        refine ⟨fun q => ⟨fun z => absurd z (by decide), fun _ => room (decide_eq_true (Or.inl q))⟩, fun q => ⟨fun q2 => ⟨fun _ => ?_, fun z => absurd rfl z⟩, fun q2 => ⟨fun z => absurd z (by decide), fun _ => room (decide_eq_true (Or.inr ?_))⟩⟩⟩
        · have hroom : roomM M c r = false := by
            refine decide_eq_false (fun z => ?_)
            rcases z with z | z
            · exact q z
            · rw [fa_lt] at z
              rw [fa_le] at q2
              omega
          rw [ensM_full hb hroom] at hp
          unfold B_X3_enter_127
          exact hp cm hF FrC_rf
        · rw [fa_lt]
          rw [fa_le] at q2
          omega
  unfold w_X3_enter
  rw [nI_clamp (by omega)]
  refine ⟨vp_in_nI (by omega) (by omega), c_fw hF hM.1.2.2.1 hc ⟨61, ?_⟩⟩
  exact key 60 0 cm M rfl hM hF hp
/-- a chip has another time to go -/
theorem Fo_go (hF : Fo cm f M T n c o) (hn : n ≤ 11) (hc : c ≤ 60) (ho : o ≤ 60) {i : Nat} (hi : i < 60) (v : Int32) : Fo (uI cm (f + 47 + i) 2 v) f (upd M (332 + 8 * i) v) T n c o := by
  obtain ⟨g1, g2, g3, g4⟩ := hF
  refine ⟨?_, fun r hr => ?_, fun j hj => ?_, ?_⟩
  · have := RS_c g1 (DD_im hn hc ho) (i := i) (w := 2) hi (by omega) v
    rw [show 330 + 8 * i + 2 = 332 + 8 * i by omega] at this
    exact this
  · rw [gI_c (by omega), g2 r hr]
    congr 1
    exact (inR_cong (fun i hi => ⟨pk_un (by omega), pk_un (by omega)⟩)).symm
  · rw [gI_f (by omega)]
    exact g3 j hj
  · exact Bts_cong (cm := cm) (f := f) g4 (fun p hp => pk_un (by omega)) (fun x _ _ => pk_un (by omega)) hn
theorem c_minute (hf : 382 ≤ f) (hM : Mid M T n c o K (fun _ => True)) (hF : Fo cm f M T n c o) (hW : WRA cm T) {post : CMu → Prop} (hp : ∀ cm' c' o', Mid (entF (n + 1) (comF T n c (decF c M))) T n c' o' K (fun _ => True) → Fo cm' f (minN T M) T n c' o' → FrC f cm cm' → c ≤ c' → post cm') : w_X3_minute post f cm := by
  have hn : n ≤ 11 := hM.1.2.1
  have hc : c ≤ 60 := hM.1.2.2.2.1
  have ho : o ≤ 60 := by
    rw [hM.1.2.2.2.2.2.1]
    have := cntP_le (isOut M) c
    omega
  have h6 : gI cm f 6 = nI c := by rw [(Fo_h hF).2.2.1, hM.1.2.2.1]
  have hd := mid_dec hM c (Nat.le_refl _)
  have hd2 : Mid (decF c M) T n c o K (fun _ => False) := Mid_mono hd.1 (fun _ _ z => z.elim)
  have emin : ∀ M3, M3 = entF (n + 1) (comF T n c (decF c M)) → upd M3 4 (M3 4 + 1) = minN T M := by
    intro M3 h
    unfold minN
    rw [hM.1.1, hM.1.2.2.1, nI_clamp (by omega), nI_clamp (by omega), h]
  -- those that enter
  have ent : ∀ (r : Nat) (cm1 : CMu) (M1 : MR) (c1 o1 : Nat), r ≤ n + 1 → c ≤ c1 → FrC f cm cm1 → Mid M1 T n c1 o1 K (fun _ => True) → Fo cm1 f M1 T n c1 o1 → entF r M1 = entF (n + 1) (comF T n c (decF c M)) → ∀ v : Int32, v = (if r = 0 then -1 else nI (r - 1)) → B_X3_minute_95 post (r + 1) f v cm1 := by
    intro r
    induction r with
    | zero =>
      intro cm1 M1 c1 o1 _ hcc fr hm hF1 he v hv
      rw [if_pos rfl] at hv
      subst hv
      have he' : M1 = entF (n + 1) (comF T n c (decF c M)) := he
      have hc1 := hm.1.2.2.2.1
      have ho1 : o1 ≤ 60 := by
        rw [hm.1.2.2.2.2.2.1]
        have := cntP_le (isOut M1) c1
        omega
      unfold B_X3_minute_95
      refine ⟨fun _ => ?_, fun z => absurd (by decide) z⟩
      rw [(Fo_h hF1).2.2.2.2.1]
      refine hp _ c1 o1 (by rw [← he']; exact hm) ?_ (FrC_tr fr (FrC_uI (by omega))) hcc
      rw [← emin M1 he']
      exact Fo_seed hF1 hn hc1 ho1 (x := 4) (j := 12) (by omega) rfl _
    | succ r ih =>
      intro cm1 M1 c1 o1 hr hcc fr hm hF1 he v hv
      rw [if_neg (by omega), Nat.add_sub_cancel] at hv
      subst hv
      have hc1 := hm.1.2.2.2.1
      unfold B_X3_minute_95
      refine ⟨fun z => absurd z (nI_pos (by omega)), fun _ => ?_⟩
      refine c_enter (by omega) hm hF1 (fun cm2 F2 fr2 => ?_)
      refine ih cm2 _ c1 o1 (by omega) hcc (FrC_tr fr fr2) (mid_ens (by omega) 60 M1 hm) F2 ?_ _ ?_
      · rw [← he]
        show entF r (ensM c1 r 60 M1) = entF r (ensM (M1 2).toNatClampNeg r 60 M1)
        rw [hm.1.2.2.1, nI_clamp (by omega)]
      · cases r with
        | zero => rw [if_pos rfl]; decide
        | succ r =>
          rw [if_neg (by omega), Nat.add_sub_cancel]
          have : nI (r + 1) + (-1) = nI (r + 1) - 1 := (Int32.sub_eq_add_neg ..).symm
          rw [this, nI_pred]
  -- those that come
  have com : ∀ (g j : Nat) (cm1 : CMu) (c1 o1 : Nat), j + g = c → c ≤ c1 → FrC f cm cm1 → Mid (comF T n j (decF c M)) T n c1 o1 K (fun x => x < j ∨ c ≤ x) → Fo cm1 f (comF T n j (decF c M)) T n c1 o1 → B_X3_minute_48 post (g + 1) f (nI c) (nI j) cm1 := by
    intro g
    induction g with
    | zero =>
      intro j cm1 c1 o1 hj hcc fr hm hF1
      have ej : j = c := by omega
      subst ej
      unfold B_X3_minute_48
      refine ⟨fun _ => ?_, fun z => absurd (nI_le (Nat.le_refl _) (by omega)) z⟩
      have g3 := Mid_mono hm (Z' := fun _ => True) (fun x hx _ => by omega)
      rw [(Fo_h hF1).2.1, g3.1.1]
      exact ⟨n + 2, ent (n + 1) cm1 _ c1 o1 (Nat.le_refl _) hcc fr g3 hF1 rfl (nI n) (by rw [if_neg (by omega), Nat.add_sub_cancel])⟩
    | succ g ih =>
      intro j cm1 c1 o1 hj hcc fr hm hF1
      have es : comF T n (j + 1) (decF c M) = if comF T n j (decF c M) (330 + 8 * j) = 1 ∧ comF T n j (decF c M) (332 + 8 * j) = 0 then coM (T j) (comF T n j (decF c M)) n j (comF T n j (decF c M) (331 + 8 * j)).toNatClampNeg else comF T n j (decF c M) := rfl
      have b0 : gI cm1 (f + 47 + j) 0 = comF T n j (decF c M) (330 + 8 * j) := RF_c hF1.1 (by omega) (by omega)
      have b2' : gI cm1 (f + 47 + j) 2 = comF T n j (decF c M) (332 + 8 * j) := by
        rw [RF_c hF1.1 (by omega) (by omega)]
        congr 1
        omega
      generalize hMj : comF T n j (decF c M) = Mj at *
      have mono : ¬ (Mj (330 + 8 * j) = 1 ∧ Mj (332 + 8 * j) = 0) → Mid Mj T n c1 o1 K (fun x => x < j + 1 ∨ c ≤ x) := by
        intro hq
        obtain ⟨g1, g2, g3, g4⟩ := hm
        refine ⟨g1, g2, fun x hx => ⟨(g3 x hx).1, fun z => ?_⟩, g4⟩
        by_cases ex : x = j
        · subst ex
          exact ChG_O (g3 x hx).1 hq
        · refine (g3 x hx).2 ?_
          rcases z with z | z
          · exact Or.inl (by omega)
          · exact Or.inr z
      unfold B_X3_minute_48
      rw [nI_clamp (by omega), b0, b2']
      have skip : ¬ (Mj (330 + 8 * j) = 1 ∧ Mj (332 + 8 * j) = 0) → B_X3_minute_84 post (B_X3_minute_48 post (g + 1)) f (nI c) (nI j) cm1 := by
        intro hq
        rw [if_neg hq] at es
        unfold B_X3_minute_84
        rw [nI_1]
        exact ih (j + 1) cm1 c1 o1 (by omega) hcc fr (by rw [es]; exact mono hq) (by rw [es]; exact hF1)
      refine ⟨fun z => absurd z (nI_ge (by omega) (by omega)), fun _ => ⟨vp_in_nI (by omega) (by omega), fun q => skip (fun z => q z.1), fun q => ⟨vp_in_nI (by omega) (by omega), fun q2 => skip (fun z => ?_), fun q2 => ?_⟩⟩⟩
      · rw [z.2] at q2
        exact absurd q2 (by decide)
      · obtain ⟨p, a1, a2, a3, a4, a5, a6⟩ := (hm.2.2.1 j (by omega)).1
        have hpg : p ≤ n ∧ 0 ≤ (Mj (332 + 8 * j)).toInt := by
          rcases a5 with ⟨a5, a7⟩ | ⟨a5, a7, a8⟩ | ⟨a5, a7, _⟩ | ⟨a5, a7⟩ | ⟨a5, a7⟩
          · rw [q] at a5; exact absurd a5 (by decide)
          · exact ⟨a7, a8⟩
          · rw [q] at a5; exact absurd a5 (by decide)
          · rw [q] at a5; exact absurd a5 (by decide)
          · rw [q] at a5; exact absurd a5 (by decide)
        have hz : Mj (332 + 8 * j) = 0 := by
          rw [fa_lt] at q2
          have e0 : (0 : Int32).toInt = 0 := rfl
          rw [fa_eq, e0]
          omega
        rw [if_pos ⟨q, hz⟩, a1, nI_clamp (by omega)] at es
        refine c_come hf hm hF1 (by omega) q a1 hpg.1 (fun ht => WRA_fr hf fr hW j (by omega) ht) (fun cm2 c2 o2 m2 F2 fr2 hc2 => ?_)
        unfold B_X3_minute_84
        rw [nI_1]
        rw [← es] at m2 F2
        refine ih (j + 1) cm2 c2 o2 (by omega) (by omega) (FrC_tr fr fr2) (Mid_mono m2 (fun x hx z => ?_)) F2
        by_cases ex : x = j
        · exact Or.inr (Or.inl ex)
        · rcases z with z | z
          · exact Or.inl (Or.inl (by omega))
          · exact Or.inl (Or.inr z)
  -- a minute less
  have dec : ∀ (g j : Nat) (cm1 : CMu), j + g = c → FrC f cm cm1 → Fo cm1 f (decF j M) T n c o → B_X3_minute_7 post (g + 1) f (nI c) (nI j) cm1 := by
    intro g
    induction g with
    | zero =>
      intro j cm1 hj fr hF1
      have ej : j = c := by omega
      subst ej
      unfold B_X3_minute_7
      exact ⟨fun _ => ⟨j + 1, com j 0 cm1 j o (by omega) (Nat.le_refl _) fr (Mid_mono hd2 (fun x hx z => by omega)) hF1⟩, fun z => absurd (nI_le (Nat.le_refl _) (by omega)) z⟩
    | succ g ih =>
      intro j cm1 hj fr hF1
      have es : decF (j + 1) M = if decF j M (330 + 8 * j) = 1 then upd (decF j M) (332 + 8 * j) (decF j M (332 + 8 * j) - 1) else decF j M := rfl
      have b0 : gI cm1 (f + 47 + j) 0 = decF j M (330 + 8 * j) := RF_c hF1.1 (by omega) (by omega)
      have b2' : gI cm1 (f + 47 + j) 2 = decF j M (332 + 8 * j) := by
        rw [RF_c hF1.1 (by omega) (by omega)]
        congr 1
        omega
      unfold B_X3_minute_7
      rw [nI_clamp (by omega), b0, b2']
      refine ⟨fun z => absurd z (nI_ge (by omega) (by omega)), fun _ => ⟨vp_in_nI (by omega) (by omega), fun q => ?_, fun q => ⟨vp_in_nI (by omega) (by omega), ?_⟩⟩⟩
      · rw [if_neg q] at es
        unfold B_X3_minute_40
        rw [nI_1]
        exact ih (j + 1) cm1 (by omega) fr (by rw [es]; exact hF1)
      · rw [if_pos q] at es
        unfold B_X3_minute_40
        rw [nI_1]
        exact ih (j + 1) _ (by omega) (FrC_tr fr (FrC_uI (by omega))) (by rw [es]; exact Fo_go hF1 hn hc ho (by omega) _)
  unfold w_X3_minute
  rw [h6]
  exact ⟨c + 1, dec c 0 cm (by omega) FrC_rf hF⟩
end CM
