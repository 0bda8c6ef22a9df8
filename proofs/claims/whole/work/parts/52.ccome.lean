/-! ===== the class: one comes ===== -/
section CCO
variable {cm : CMu} {f : Nat} {M : MR} {T : Nat → Pg} {n c o K : Nat}
theorem mid_c1 {Z : Nat → Prop} (h : Mid M T n c o K Z) {i p : Nat} (hi : i < c) (hs : M (330 + 8 * i) = 1) (hp : M (331 + 8 * i) = nI p) (hpn : p < n) {v : Int32} (hv : v = 3 ∨ v = 0) : Mid (upd (co1 M i p) (330 + 8 * i) v) T n c o K (fun _ => False) := by
  have hn : n ≤ 11 := h.1.2.1
  obtain ⟨p0, a1, a2, a3, a4, a5, a6⟩ := (h.2.2.1 i hi).1
  have ep : p0 = p := by
    rw [hp, nI_eq (by omega) (by omega)] at a1
    exact a1.symm
  subst ep
  have no1 : isOut M i = false := by
    unfold isOut
    rw [hs]
    decide
  have c1o : ∀ x, ¬ (330 + 8 * i ≤ x ∧ x < 337 + 8 * i) → co1 M i p0 x = M x := by
    intro x hx
    unfold co1
    rw [pk_un (by omega), pk_un (by omega), pk_un (by omega)]
  have i0 : upd (co1 M i p0) (330 + 8 * i) v (330 + 8 * i) = v := if_pos rfl
  have i1 : upd (co1 M i p0) (330 + 8 * i) v (331 + 8 * i) = nI (p0 + 1) := by
    rw [pk_un (by omega)]
    unfold co1
    rw [pk_un (by omega), pk_un (by omega)]
    exact if_pos rfl
  have i3 : upd (co1 M i p0) (330 + 8 * i) v (333 + 8 * i) = M (333 + 8 * i) := by
    rw [pk_un (by omega)]
    unfold co1
    rw [pk_un (by omega), pk_un (by omega), pk_un (by omega)]
  have i6 : upd (co1 M i p0) (330 + 8 * i) v (336 + 8 * i) = M (336 + 8 * i) := by
    rw [pk_un (by omega)]
    unfold co1
    rw [pk_un (by omega), pk_un (by omega), pk_un (by omega)]
  have nC : ChG (upd (co1 M i p0) (330 + 8 * i) v) n i := by
    refine ⟨p0 + 1, i1, by omega, by rw [i3]; exact a3, by rw [i3]; exact a4, ?_, fun s h1 h2 hb => ?_⟩
    · rcases hv with rfl | rfl
      · exact Or.inr (Or.inr (Or.inr (Or.inl ⟨i0, by omega⟩)))
      · exact Or.inl ⟨i0, by omega⟩
    · rw [i6] at hb
      have := a6 s h1 h2 hb
      omega
  refine Mid_chip (i := i) h hi (fun x _ hx => by rw [pk_un (by omega), c1o x hx]) nC (fun z => z.elim) ?_ (fun j hj z => z.elim)
  rw [no1]
  unfold isOut
  rw [i0]
  rcases hv with rfl | rfl <;> decide
theorem iv_in {p : Nat} (hp : p ≤ 11) : iv (24 + 2 * p) 3 = 9999 := by
  have : ∀ p, p ≤ 11 → iv (24 + 2 * p) 3 = 9999 := by decide
  exact this p hp
theorem Fo_co (hF : Fo cm f M T n c o) (hn : n ≤ 11) (hc : c ≤ 60) (ho : o ≤ 60) {i p : Nat} (hi : i < c) (hs : M (330 + 8 * i) = 1) (hp : M (331 + 8 * i) = nI p) (hpn : p ≤ n) {s : Int32} (hs2 : s ≠ 1 ∧ s ≠ 2) :
    Fo (uI (uI (uI (uI (uI cm (f + 24 + 2 * p) 3 (gI cm (f + 24 + 2 * p) 3 - 1)) (f + 47 + i) 1 (nI (p + 1))) (f + 47 + i) 4 (M 4)) (f + 47 + i) 2 0) (f + 47 + i) 0 s) f (upd (co1 M i p) (330 + 8 * i) s) T n c o := by
  obtain ⟨g1, g2, g3, g4⟩ := hF
  have hD := DD_im (n := n) (c := c) (o := o) hn hc ho
  have eM : upd (upd (upd (upd M (330 + 8 * i + 1) (nI (p + 1))) (330 + 8 * i + 4) (M 4)) (330 + 8 * i + 2) 0) (330 + 8 * i + 0) s = upd (co1 M i p) (330 + 8 * i) s := by
    unfold co1
    rw [show 330 + 8 * i + 1 = 331 + 8 * i by omega, show 330 + 8 * i + 4 = 334 + 8 * i by omega, show 330 + 8 * i + 2 = 332 + 8 * i by omega, show 330 + 8 * i + 0 = 330 + 8 * i by omega]
  have i0 : upd (co1 M i p) (330 + 8 * i) s (330 + 8 * i) = s := if_pos rfl
  have io : ∀ x, ¬ (330 + 8 * i ≤ x ∧ x < 336 + 8 * i) → upd (co1 M i p) (330 + 8 * i) s x = M x := by
    intro x hx
    unfold co1
    rw [pk_un (by omega), pk_un (by omega), pk_un (by omega), pk_un (by omega)]
  refine ⟨?_, fun r hr => ?_, fun j hj => ?_, ?_⟩
  · rw [← eM]
    refine RS_c (RS_c (RS_c (RS_c (RFI_un g1 hD (Or.inr ?_)) hD (by omega) (by omega) _) hD (by omega) (by omega) _) hD (by omega) (by omega) _) hD (by omega) (by omega) _
    rw [show f + 24 + 2 * p - f = 24 + 2 * p by omega]
    exact iv_in (by omega)
  · rw [gI_c (by omega), gI_c (by omega), gI_c (by omega), gI_c (by omega)]
    have cs := fun q : Nat => cntP_set (p := isIn M q) (q := isIn (upd (co1 M i p) (330 + 8 * i) s) q) hi (fun j hj => by
      unfold isIn
      rw [io _ (by omega), io _ (by omega)])
    have y1 : isIn (upd (co1 M i p) (330 + 8 * i) s) r i = false := by
      unfold isIn
      rw [i0]
      exact decide_eq_false (fun z => z.1.elim hs2.1 hs2.2)
    by_cases er : r = p
    · subst er
      have y2 : isIn M r i = true := decide_eq_true ⟨Or.inl hs, hp⟩
      have := cs r
      rw [y1, y2, if_pos rfl, if_neg (by decide)] at this
      rw [gI_hit, g2 r hr]
      have e : inR M c r = inR (upd (co1 M i r) (330 + 8 * i) s) c r + 1 := by
        show cntP (isIn M r) c = cntP _ c + 1
        omega
      rw [e, nI_pred]
    · have y2 : isIn M r i = false := by
        refine decide_eq_false (fun z => er ?_)
        have z2 := z.2
        rw [hp, nI_eq (by omega) (by omega)] at z2
        exact z2.symm
      have := cs r
      rw [y1, y2, if_neg (by decide)] at this
      rw [gI_c (by omega), g2 r hr]
      congr 1
      show cntP (isIn M r) c = cntP _ c
      omega
  · rw [gI_f (by omega), gI_f (by omega), gI_f (by omega), gI_f (by omega), gI_f (by omega)]
    exact g3 j hj
  · exact Bts_cong (cm := cm) (f := f) g4 (fun q hq => io _ (by omega)) (fun x _ _ => io x (by omega)) hn
theorem Fo_out (hF : Fo cm f M T n c o) (hn : n ≤ 11) (hc : c ≤ 60) (ho : o < 60) {v : Int32} : Fo (uI (uI cm (f + 4) o v) f 7 (nI (o + 1))) f (upd (upd M (262 + o) v) 3 (nI (o + 1))) T n c (o + 1) := by
  obtain ⟨g1, g2, g3, g4⟩ := hF
  have hD := DD_im (n := n) (c := c) (o := o) hn hc (by omega)
  have io : ∀ x, x ≠ 3 → x ≠ 262 + o → upd (upd M (262 + o) v) 3 (nI (o + 1)) x = M x := fun x h1 h2 => by rw [pk_un h1, pk_un h2]
  refine ⟨?_, fun r hr => ?_, fun j hj => ?_, ?_⟩
  · have e1 := RFI_ext g1 hD (x := 262 + o) (decide_eq_true (by omega)) v
    rw [ad_o ho] at e1
    have e2 : RFI (uI cm (f + 4) o v) f (upd M (262 + o) v) (DD n c (o + 1)) := by
      refine RFI_mono e1 (fun x hx => ?_)
      unfold DD at hx ⊢
      omega
    exact RS_h e2 (DD_im hn hc (by omega)) 3 (by omega) rfl (nI (o + 1))
  · rw [gI_c (by omega), gI_c (by omega), g2 r hr]
    congr 1
    exact (inR_cong (fun i hi => ⟨io _ (by omega) (by omega), io _ (by omega) (by omega)⟩)).symm
  · rw [gI_c (by omega), gI_c (by omega)]
    exact g3 j hj
  · exact Bts_cong (cm := cm) (f := f) g4 (fun q hq => io _ (by omega) (by omega)) (fun x _ _ => io x (by omega) (by omega)) hn
theorem nI_inj {a b : Nat} (h : nI a = nI b) (ha : a < 2 ^ 31) (hb : b < 2 ^ 31) : a = b := (nI_eq ha hb).mp h
theorem c_doLoop {i h N : Nat} (hf : 382 ≤ f) (hN : N = 11 + 6 * i) (hi6 : i < 60) (h1 : 1 ≤ h) (h2 : h ≤ n) {post : CMu → Prop} : ∀ (l2 l1 : List PX1) (cm : CMu) (M : MR) (c : Nat), Mid M T n c o K (fun _ => False) → Fo cm f M T n c o → WRo cm N (l1 ++ l2) → (l1 ++ l2).length ≤ 8 → (pxS (l1 ++ l2)).length ≤ 400 → (∀ x ∈ l1 ++ l2, AcO x.1 x.2.1 ∧ Qok x.2.2) → i < c → M (331 + 8 * i) = nI h → bit32 (M (336 + 8 * i)) h = false →
    (∀ cm' c', Mid (l2.foldl (exM h i) M) T n c' o K (fun _ => False) → Fo cm' f (l2.foldl (exM h i) M) T n c' o → FrC f cm cm' → c ≤ c' → B_X3_doActs_182 post (nI i) (f + 23 + 2 * h) cm') →
    B_X3_doActs_44 post (l2.length + 1) f (nI i) (f + 47 + i) (f + 23 + 2 * h) N (nI l1.length) cm := by
  intro l2
  induction l2 with
  | nil =>
    intro l1 cm M c hM hF hW h8 h400 hpx hi hpl hb hp
    unfold B_X3_doActs_44
    rw [List.append_nil] at hW
    rw [hW.1]
    exact ⟨fun _ => hp cm c hM hF FrC_rf (Nat.le_refl _), fun q => absurd (nI_le (Nat.le_refl _) (by rw [List.append_nil] at h8; omega)) q⟩
  | cons x l2 ih =>
    intro l1 cm M c hM hF hW h8 h400 hpx hi hpl hb hp
    have hn : n ≤ 11 := hM.1.2.1
    have hM2 : M 2 = nI c := hM.1.2.2.1
    have hc : c ≤ 60 := hM.1.2.2.2.1
    have ho : o ≤ 60 := by
      rw [hM.1.2.2.2.2.2.1]
      have := cntP_le (isOut M) c
      omega
    have hx := hpx x (by simp)
    have hlen : l1.length < (l1 ++ x :: l2).length := by
      rw [List.length_append, List.length_cons]
      omega
    unfold B_X3_doActs_44
    rw [hW.1]
    refine ⟨fun q => ?_, fun _ => ⟨fun q => ?_, fun _ => ?_⟩⟩
    · rw [nI_leI (by omega) (by omega)] at q
      omega
    · rw [fa_lit 8, nI_leI (by omega) (by omega)] at q
      omega
    refine c_holds (T := T) (M := M) (by omega) hF hn hc ho hi hpl h1 h2 (by omega) hW h8 h400 hx.2 (fun S => ?_)
    have hF1 : Fo (stk cm S) f M T n c o := Fo_stk (by omega) hn hc ho hF
    have fr1 : FrC f cm (stk cm S) := FrC_stk
    have hW1 : WRo (stk cm S) N (l1 ++ x :: l2) := FrC_W (by omega) (by omega) fr1 hW
    generalize hC : stk cm S = C at *
    obtain ⟨a1, a2, a3⟩ := hW1.2.2.1 _ _ (pxA_at (l1 := l1) (l2 := l2) (x := x))
    -- the next act
    have nxt : ∀ (cm' : CMu) (c' : Nat), Mid (exM h i M x) T n c' o K (fun _ => False) → Fo cm' f (exM h i M x) T n c' o → FrC f C cm' → c ≤ c' → B_X3_doActs_176 post (B_X3_doActs_44 post (l2.length + 1)) f (nI i) (f + 47 + i) (f + 23 + 2 * h) N (nI l1.length) cm' := by
      intro cm' c' hm' hF' fr' hcc
      have hst : ∀ y, 330 ≤ y → y < 330 + 8 * c → exM h i M x y = M y := by
        unfold exM
        split
        · obtain ⟨_, _, _, g⟩ := mid_xM hM h1 h2 hx.1
          exact g
        · exact fun _ _ _ => rfl
      have app : l1 ++ x :: l2 = (l1 ++ [x]) ++ l2 := by rw [List.append_assoc]; rfl
      unfold B_X3_doActs_176
      rw [nI_1]
      have frt := FrC_tr fr1 fr'
      have := ih (l1 ++ [x]) cm' (exM h i M x) c' hm' hF' (by rw [← app]; exact FrC_W (by omega) (by omega) frt hW) (by rw [← app]; exact h8) (by rw [← app]; exact h400) (by rw [← app]; exact hpx) (by omega) (by rw [hst _ (by omega) (by omega)]; exact hpl) (by rw [hst _ (by omega) (by omega)]; exact hb) (fun cm2 c2 m2 f2 fr2 cc2 => hp cm2 c2 m2 f2 (FrC_tr frt fr2) (by omega))
      rw [List.length_append, List.length_cons, List.length_nil] at this
      exact this
    have tie : ∀ {M' : MR} {c1 c2 : Nat}, M' 2 = nI c1 → c1 ≤ 60 → Mid M' T n c2 o K (fun x => False ∨ c ≤ x) → c1 = c2 := by
      intro M' c1 c2 e1 e2 m
      exact nI_inj (by rw [← e1, m.1.2.2.1]) (by omega) (by have := m.1.2.2.2.1; omega)
    have hv8 : vp_in (nI l1.length) 8 := vp_in_nI (by omega) (by omega)
    rw [nI_clamp (by omega), a1, a2]
    refine ⟨fun q => ?_, fun q => ?_⟩
    · have hq : qOK (evM M h i) x.2.2 = true := by
        cases e : qOK (evM M h i) x.2.2
        · exact absurd e q
        · rfl
      have ex : exM h i M x = xM h x.1 x.2.1 M := by
        unfold exM
        rw [if_pos hq]
      rw [ex] at nxt
      obtain ⟨c2, d1, d2, d3⟩ := mid_xM hM h1 h2 hx.1
      obtain ⟨w, a, l⟩ := x
      simp only [] at *
      rcases hx.1 with ⟨rfl | rfl, _⟩ | rfl | ⟨rfl, j, rfl, hj⟩
      · have e2 : xM h 9 a M 2 = nI c := by rw [xM_9, pk_un (by omega), pk_un (by omega), hM2]
        have ec := tie e2 hc d2
        subst ec
        refine ⟨hv8, fun z => absurd rfl z, fun _ => ⟨hv8, ?_⟩⟩
        exact c_cut hF1 hn hc ho h1 h2 (fun cm' g1 g2 => nxt cm' c (Mid_mono d2 (fun _ _ z => z.elim)) g1 g2 (Nat.le_refl _))
      · have e2 : xM h 10 a M 2 = nI c := by rw [xM_10, pk_un (by omega), pk_un (by omega), hM2]
        have ec := tie e2 hc d2
        subst ec
        refine ⟨hv8, fun _ => ⟨fun z => absurd rfl z, fun _ => ⟨hv8, ?_⟩⟩, fun z => absurd z (by decide)⟩
        exact c_send hF1 hn hc ho h1 h2 (fun cm' g1 g2 => nxt cm' c (Mid_mono d2 (fun _ _ z => z.elim)) g1 g2 (Nat.le_refl _))
      · refine ⟨hv8, fun _ => ⟨fun _ => ⟨fun z => absurd rfl z, fun _ => ?_⟩, fun z => absurd z (by decide)⟩, fun z => absurd z (by decide)⟩
        have epl : gI C (f + 47 + i) 1 = nI h := by
          rw [RF_c hF1.1 hi (by omega), ← hpl]
          congr 1
          omega
        have elg : gI C (f + 23 + 2 * h) 1 = M (47 + 4 * h) := by
          rw [RF_k hF1.1 hn h1 h2 (by omega)]
          congr 1
          omega
        rw [epl, elg]
        by_cases q60 : M 2 = 60
        · have e60 : xM h 11 a M = M := by rw [xM_11, if_pos q60]
          rw [e60] at nxt
          have h6 : gI C f 6 = 60 := by rw [(Fo_h hF1).2.2.1, q60]
          unfold w_X4_throwChip
          rw [h6]
          exact ⟨fun z => absurd z (by decide), fun _ => nxt C c hM hF1 FrC_rf (Nat.le_refl _)⟩
        · have hc3 : c < 60 := by
            have : c ≠ 60 := fun e => q60 (by rw [hM2, e]; rfl)
            omega
          have e11 : xM h 11 a M = adM c (nI h) 1 (M (47 + 4 * h)) 0 M := by rw [xM_11, if_neg q60, hM2, nI_clamp (by omega)]
          rw [e11] at nxt d2
          have ec := tie (M' := adM c (nI h) 1 (M (47 + 4 * h)) 0 M) (c1 := c + 1) (if_pos rfl) (by omega) d2
          subst ec
          refine c_throw (T' := T) (sz := 0) hF1 hn hM2 hc3 ho (fun _ _ => rfl) (by rw [hM.2.2.2.2.2.2 c (Nat.le_refl _)]) (fun cm' g1 g2 => ?_)
          exact nxt cm' (c + 1) (Mid_mono d2 (fun _ _ z => z.elim)) g1 g2 (by omega)
      · have e2 : xM h 12 (nI j) M 2 = nI c := by
          rw [xM_12, nI_clamp (by omega)]
          split
          · rw [pk_un (by omega), hM2]
          · rw [pk_un (by omega), hM2]
        have ec := tie e2 hc d2
        subst ec
        refine ⟨hv8, fun _ => ⟨fun _ => ⟨fun _ => ⟨hv8, ?_⟩, fun z => absurd z (by decide)⟩, fun z => absurd z (by decide)⟩, fun z => absurd z (by decide)⟩
        exact c_annul hF1 hn hM2 hc ho h1 h2 hi hb hj (fun cm' g1 g2 => nxt cm' c (Mid_mono d2 (fun _ _ z => z.elim)) g1 g2 (Nat.le_refl _))
    · have ex : exM h i M x = M := by
        unfold exM
        rw [q]
        rfl
      rw [ex] at nxt
      exact nxt C c hM hF1 FrC_rf (Nat.le_refl _)
theorem c_doActs {i h : Nat} (hf : 382 ≤ f) (h1 : 1 ≤ h) (h2 : h ≤ n) (hM : Mid M T n c o K (fun _ => False)) (hF : Fo cm f M T n c o) (hW : WRo cm (11 + 6 * i) (T i).2) (hi : i < c) (hpl : M (331 + 8 * i) = nI h) (hb : bit32 (M (336 + 8 * i)) h = false) {post : CMu → Prop}
    (hp1 : M (810 + 60 * h + i) = 1 → post cm)
    (hp0 : ¬ M (810 + 60 * h + i) = 1 → ∀ cm' c', (T i).2.foldl (exM h i) M 2 = nI c' → c' ≤ 60 → Fo cm' f (upd ((T i).2.foldl (exM h i) M) (336 + 8 * i) ((T i).2.foldl (exM h i) M (336 + 8 * i) ||| ((1 : Int32) <<< (nI h &&& 31)))) T n c' o → FrC f cm cm' → post cm') : w_X3_doActs post f (nI i) cm := by
  have hn : n ≤ 11 := hM.1.2.1
  have hc : c ≤ 60 := hM.1.2.2.2.1
  have ho : o ≤ 60 := by
    rw [hM.1.2.2.2.2.2.1]
    have := cntP_le (isOut M) c
    omega
  have epl : gI cm (f + 47 + i) 1 = nI h := by
    rw [RF_c hF.1 hi (by omega), ← hpl]
    congr 1
    omega
  have hvo : bit64 (gL cm (f + 23 + 2 * h) 4) i = decide (M (810 + 60 * h + i) = 1) := by
    obtain ⟨e1, e2⟩ := hF.2.2.2 h i h1 h2 (by omega)
    exact e2 (by rw [e1, hb, Bool.and_false])
  have hPg := (hM.2.2.2.2.2.1 i hi).2
  unfold w_X3_doActs
  rw [nI_clamp (by omega), epl, nI_clamp (by omega), b64_and (by omega), hvo]
  refine ⟨vp_in_nI (by omega) (by omega), vp_in_nI (by omega) (by omega), vp_in_nI (by omega) (by omega), fun q => ⟨(T i).2.length + 1, ?_⟩, fun q => hp1 ?_⟩
  · have hne := of_decide_eq_false q
    refine c_doLoop (i := i) hf rfl (by omega) h1 h2 (T i).2 [] cm M c hM hF hW hPg.2.1 hPg.2.2.1 hPg.2.2.2 hi hpl hb (fun cm' c' m' F' fr' cc => ?_)
    unfold B_X3_doActs_182
    have hst : ∀ y, 330 ≤ y → y < 330 + 8 * c → (T i).2.foldl (exM h i) M y = M y := by
      obtain ⟨_, _, _, g⟩ := mid_fold (i := i) h1 h2 (T i).2 M c (fun _ => False) hM (fun x hx => (hPg.2.2.2 x hx).1)
      exact g
    generalize (T i).2.foldl (exM h i) M = M3 at *
    have hc' : c' ≤ 60 := m'.1.2.2.2.1
    refine hp0 hne _ c' m'.1.2.2.1 hc' ?_ (FrC_tr fr' (FrC_uL (by omega)))
    obtain ⟨g1, g2, g3, g4⟩ := F'
    refine ⟨?_, fun r hr => ?_, fun j hj => g3 j hj, ?_⟩
    · refine RFI_up (RFI_uL g1) ?_ _
      unfold DD
      omega
    · rw [gI_uL, g2 r hr]
      congr 1
      exact (inR_cong (fun i hi => ⟨pk_un (by omega), pk_un (by omega)⟩)).symm
    · intro i' p b1 b2 b3
      obtain ⟨e1, e2⟩ := g4 i' p b1 b2 b3
      rw [gL_f (j := 5) (i := 4) (by omega), pk_un (show 810 + 60 * i' + p ≠ 336 + 8 * i by omega)]
      by_cases q1 : p = i
      · subst q1
        have ehit : upd M3 (336 + 8 * p) (M3 (336 + 8 * p) ||| ((1 : Int32) <<< (nI h &&& 31))) (336 + 8 * p) = M3 (336 + 8 * p) ||| ((1 : Int32) <<< (nI h &&& 31)) := if_pos rfl
        rw [ehit, bit_set _ (by omega) (by omega)]
        by_cases q2 : i' = h
        · subst q2
          rw [gL_hit, b64_or (by omega) (by omega), decide_eq_true rfl, decide_eq_true rfl, decide_eq_true (show p < c' by omega), Bool.or_true, Bool.or_true]
          exact ⟨rfl, fun z => absurd z (by decide)⟩
        · rw [gL_c (by omega), decide_eq_false q2, Bool.or_false]
          exact ⟨e1, e2⟩
      · rw [pk_un (by omega)]
        by_cases q2 : i' = h
        · subst q2
          rw [gL_hit, b64_or (by omega) (by omega), decide_eq_false q1, Bool.or_false]
          exact ⟨e1, e2⟩
        · rw [gL_c (by omega)]
          exact ⟨e1, e2⟩
  · by_cases z : M (810 + 60 * h + i) = 1
    · exact z
    · exact absurd (decide_eq_false z) q
theorem c_come {Z : Nat → Prop} (hf : 382 ≤ f) (hM : Mid M T n c o K Z) (hF : Fo cm f M T n c o) {i p : Nat} (hi : i < c) (hs : M (330 + 8 * i) = 1) (hpl : M (331 + 8 * i) = nI p) (hpn : p ≤ n) (hW : (T i).1 ≠ -1 → WRo cm (11 + 6 * i) (T i).2) {post : CMu → Prop}
    (hp : ∀ cm' c' o', Mid (coM (T i) M n i p) T n c' o' K (fun x => Z x ∨ x = i ∨ c ≤ x) → Fo cm' f (coM (T i) M n i p) T n c' o' → FrC f cm cm' → c ≤ c' → post cm') : w_X3_come post f (nI i) cm := by
  have hn : n ≤ 11 := hM.1.2.1
  have hc : c ≤ 60 := hM.1.2.2.2.1
  have hM3 : M 3 = nI o := hM.1.2.2.2.2.1
  have hH := Fo_h hF
  have no1 : isOut M i = false := by
    unfold isOut
    rw [hs]
    decide
  have ho : o < c := by
    rw [hM.1.2.2.2.2.2.1]
    exact cntP_lt hi no1
  obtain ⟨c9, o9, hcc, hmid⟩ := mid_co hM hi hs hpl hpn
  have hp' : ∀ cm' c' o', coM (T i) M n i p 2 = nI c' → c' ≤ 60 → coM (T i) M n i p 3 = nI o' → o' ≤ 60 → Fo cm' f (coM (T i) M n i p) T n c' o' → FrC f cm cm' → post cm' := by
    intro cm' c' o' e1 e2 e3 e4 F' fr'
    have a1 : c' = c9 := nI_inj (by rw [← e1, hmid.1.2.2.1]) (by omega) (by have := hmid.1.2.2.2.1; omega)
    have ho9 : o9 ≤ 60 := by
      rw [hmid.1.2.2.2.2.2.1]
      have := cntP_le (isOut (coM (T i) M n i p)) c9
      have := hmid.1.2.2.2.1
      omega
    have a2 : o' = o9 := nI_inj (by rw [← e3, hmid.1.2.2.2.2.1]) (by omega) (by omega)
    subst a1
    subst a2
    exact hp cm' c' o' hmid F' fr' hcc
  clear hp
  have epl : gI cm (f + 47 + i) 1 = nI p := by
    rw [RF_c hF.1 hi (by omega), ← hpl]
    congr 1
    omega
  have e5 : gI cm f 5 = nI n := by rw [hH.2.1, hM.1.1]
  have e12 : gI cm f 12 = M 4 := hH.2.2.2.2.1
  have e7 : gI cm f 7 = nI o := by rw [hH.2.2.2.1, hM3]
  have e6 : gI cm (f + 47 + i) 6 = (T i).1 := hF.2.2.1 i hi
  have hFs := fun s hs2 => Fo_co hF hn hc (by omega) hi hs hpl hpn (s := s) hs2
  unfold w_X3_come
  rw [nI_clamp (by omega), epl, e5, nI_clamp (by omega)]
  generalize hA : uI cm (f + 24 + 2 * p) 3 (gI cm (f + 24 + 2 * p) 3 - 1) = cA at *
  have a1 : gI cA (f + 47 + i) 1 = nI p := by rw [← hA, gI_c (by omega), epl]
  rw [a1, nI_1]
  have fA : FrC f cm cA := by rw [← hA]; exact FrC_uI (by omega)
  have a12 : gI cA f 12 = M 4 := by rw [← hA, gI_c (by omega), e12]
  have a5 : gI cA f 5 = nI n := by rw [← hA, gI_c (by omega), e5]
  have a7 : gI cA f 7 = nI o := by rw [← hA, gI_c (by omega), e7]
  have a6 : gI cA (f + 47 + i) 6 = (T i).1 := by rw [← hA, gI_c (by omega), e6]
  clear hA
  have b12 : gI (uI cA (f + 47 + i) 1 (nI (p + 1))) f 12 = M 4 := by rw [gI_c (by omega), a12]
  rw [b12]
  generalize hC : uI (uI (uI cA (f + 47 + i) 1 (nI (p + 1))) (f + 47 + i) 4 (M 4)) (f + 47 + i) 2 0 = C at *
  have c1 : gI C (f + 47 + i) 1 = nI (p + 1) := by rw [← hC, gI_f (by omega), gI_f (by omega), gI_hit]
  have c5 : gI C f 5 = nI n := by rw [← hC, gI_c (by omega), gI_c (by omega), gI_c (by omega), a5]
  have c7 : gI C f 7 = nI o := by rw [← hC, gI_c (by omega), gI_c (by omega), gI_c (by omega), a7]
  have c6 : gI C (f + 47 + i) 6 = (T i).1 := by rw [← hC, gI_f (by omega), gI_f (by omega), gI_f (by omega), a6]
  have fC : FrC f cm C := by rw [← hC]; exact FrC_tr (FrC_tr (FrC_tr fA (FrC_uI (by omega))) (FrC_uI (by omega))) (FrC_uI (by omega))
  clear hC
  have c1o : ∀ x, ¬ (330 + 8 * i ≤ x ∧ x < 336 + 8 * i) → co1 M i p x = M x := by
    intro x hx
    unfold co1
    rw [pk_un (by omega), pk_un (by omega), pk_un (by omega)]
  rw [c1, c5, c6, gI_c (show f ≠ f + 47 + i by omega), c7, nI_clamp (show o < 2 ^ 31 by omega)]
  refine ⟨vp_in_nI (by omega) (by omega), fun q => absurd q (nI_pos (by omega)), fun _ => ⟨fun _ => ⟨vp_in_nI (by omega) (by omega), fun q => ?_, fun q => ?_⟩, fun q => absurd (nI_le (by omega) (by omega)) q⟩⟩
  · rw [nI_leI (by omega) (by omega)] at q
    have hpn2 : ¬ p = n := by omega
    have g130 : ∀ s : Int32, s = (if (T i).1 = nI (p + 1) then 3 else 0) → B_X3_come_130 post f (nI i) (f + 47 + i) s (f + 47 + i) C := by
      intro s hsv
      unfold B_X3_come_130
      have hs30 : s = 3 ∨ s = 0 := by
        rw [hsv]
        split
        · exact Or.inl rfl
        · exact Or.inr rfl
      have hs12 : s ≠ 1 ∧ s ≠ 2 := by
        rcases hs30 with rfl | rfl
        · exact ⟨by decide, by decide⟩
        · exact ⟨by decide, by decide⟩
      have hF2 := hFs s hs12
      have hm2 := mid_c1 hM hi hs hpl (by omega) hs30
      have eco : coM (T i) M n i p = if ((T i).1 = 0 ∨ (T i).1 = nI (p + 1)) ∧ ¬ M (810 + 60 * (p + 1) + i) = 1 then
          upd ((T i).2.foldl (exM (p + 1) i) (upd (co1 M i p) (330 + 8 * i) s)) (336 + 8 * i) ((T i).2.foldl (exM (p + 1) i) (upd (co1 M i p) (330 + 8 * i) s) (336 + 8 * i) ||| ((1 : Int32) <<< (nI (p + 1) &&& 31)))
          else upd (co1 M i p) (330 + 8 * i) s := by
        unfold coM
        rw [if_neg hpn2, ← hsv]
      generalize hM2 : upd (co1 M i p) (330 + 8 * i) s = M2 at *
      have m2o : ∀ x, ¬ (330 + 8 * i ≤ x ∧ x < 336 + 8 * i) → M2 x = M x := by
        intro x hx
        rw [← hM2, pk_un (by omega), c1o x hx]
      have m21 : M2 (331 + 8 * i) = nI (p + 1) := by
        rw [← hM2, pk_un (by omega)]
        unfold co1
        rw [pk_un (by omega), pk_un (by omega)]
        exact if_pos rfl
      have fr2 : FrC f cm (uI C (f + 47 + i) 0 s) := FrC_tr fC (FrC_uI (by omega))
      generalize uI C (f + 47 + i) 0 s = C2 at *
      have k6 : gI C2 (f + 47 + i) 6 = (T i).1 := hF2.2.2.1 i hi
      have k1 : gI C2 (f + 47 + i) 1 = nI (p + 1) := by
        rw [RF_c hF2.1 hi (by omega), ← m21]
        congr 1
        omega
      have stay : ¬ (((T i).1 = 0 ∨ (T i).1 = nI (p + 1)) ∧ ¬ M (810 + 60 * (p + 1) + i) = 1) → post C2 := by
        intro hno
        rw [if_neg hno] at eco
        rw [eco] at hp'
        exact hp' C2 c o (by rw [m2o 2 (by omega)]; exact hM.1.2.2.1) hc (by rw [m2o 3 (by omega)]; exact hM3) (by omega) hF2 fr2
      have acts : ((T i).1 = 0 ∨ (T i).1 = nI (p + 1)) → B_X3_come_151 post f (nI i) C2 := by
        intro hits
        have hne : (T i).1 ≠ -1 := by
          rcases hits with e | e
          · rw [e]; decide
          · rw [e]; exact nI_m1 (by omega)
        have hb : bit32 (M2 (336 + 8 * i)) (p + 1) = false := by
          rw [m2o _ (by omega)]
          obtain ⟨p0, a1, a2, a3, a4, a5, a6⟩ := (hM.2.2.1 i hi).1
          have ep : p0 = p := nI_inj (by rw [← a1, hpl]) (by omega) (by omega)
          subst ep
          cases e : bit32 (M (336 + 8 * i)) (p0 + 1)
          · rfl
          · have := a6 (p0 + 1) (by omega) (by omega) e
            omega
        unfold B_X3_come_151 B_X3_come_157
        have ev : M2 (810 + 60 * (p + 1) + i) = M (810 + 60 * (p + 1) + i) := m2o _ (by omega)
        refine c_doActs hf (by omega) (by omega) hm2 hF2 (FrC_W (by omega) (by omega) fr2 (hW hne)) hi m21 hb (fun e => stay (fun z => z.2 (by rw [← ev]; exact e))) (fun e cm' c' e1 e2 F' fr' => ?_)
        rw [if_pos ⟨hits, by rw [← ev]; exact e⟩] at eco
        rw [eco] at hp'
        have hst3 : (T i).2.foldl (exM (p + 1) i) M2 3 = nI o := by
          obtain ⟨_, _, g, _⟩ := mid_fold (i := i) (hh := p + 1) (by omega) (by omega) (T i).2 M2 c (fun _ => False) hm2 (fun x hx => ((hM.2.2.2.2.2.1 i hi).2.2.2.2 x hx).1)
          exact g.1.2.2.2.2.1
        exact hp' cm' c' o (by rw [pk_un (by omega)]; exact e1) e2 (by rw [pk_un (by omega)]; exact hst3) (by omega) F' (FrC_tr fr2 fr')
      rw [k6, k1]
      refine ⟨fun z => acts (Or.inr z), fun z => ⟨fun y => ?_, fun y => acts (Or.inl y)⟩⟩
      unfold B_X3_come_157
      exact stay (fun x => x.1.elim y z)
    refine ⟨fun z => g130 0 (by rw [if_neg z]), fun z => g130 3 (by rw [if_pos z])⟩
  · rw [nI_leI (by omega) (by omega)] at q
    have hpn2 : p = n := by omega
    have eco : coM (T i) M n i p = upd (upd (upd (co1 M i p) (330 + 8 * i) 4) (262 + o) (nI i)) 3 (nI (o + 1)) := by
      unfold coM
      rw [if_pos hpn2, hM3, nI_clamp (by omega), nI_1]
    have hF2 := hFs 4 ⟨by decide, by decide⟩
    have fr2 : FrC f cm (uI C (f + 47 + i) 0 4) := FrC_tr fC (FrC_uI (by omega))
    refine ⟨fun z => ?_, fun _ => ⟨vp_in_nI (by omega) (by omega), ?_⟩⟩
    · rw [fa_lit 60, nI_leI (by omega) (by omega)] at z
      omega
    · unfold B_X3_come_112
      rw [gI_c (show f ≠ f + 4 by omega), gI_c (show f ≠ f + 47 + i by omega), c7, nI_1]
      have hF3 := Fo_out hF2 hn hc (by omega) (v := nI i)
      rw [eco] at hp'
      refine hp' _ c (o + 1) ?_ hc (if_pos rfl) (by omega) hF3 (FrC_tr (FrC_tr fr2 (FrC_uI (by omega))) (FrC_uI (by omega)))
      rw [pk_un (by omega), pk_un (by omega), pk_un (by omega), c1o 2 (by omega)]
      exact hM.1.2.2.1
end CCO
