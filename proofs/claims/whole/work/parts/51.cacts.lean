/-! ===== the class's acts ===== -/
theorem m64 : ∀ k, k < 64 → ((1 : Int64) <<< (Int32.toInt64 (nI k) &&& 63)).toBitVec = BitVec.twoPow 64 k := by decide +kernel
theorem b64_or {x : Int64} {k p : Nat} (hk : k < 64) (hp : p < 64) : bit64 (x ||| ((1 : Int64) <<< (Int32.toInt64 (nI k) &&& 63))) p = (bit64 x p || decide (p = k)) := by
  unfold bit64
  rw [Int64.toBitVec_or, BitVec.getLsbD_or, m64 k hk, BitVec.getLsbD_twoPow]
  by_cases q : p = k
  · subst q
    simp [hp]
  · have q2 : ¬ k = p := fun e => q e.symm
    simp [q, q2]
theorem b64_and {x : Int64} {k : Nat} (hk : k < 64) : lg_cmp (x &&& ((1 : Int64) <<< (Int32.toInt64 (nI k) &&& 63))) 0 = 0 ↔ bit64 x k = false := by
  have e : (x &&& ((1 : Int64) <<< (Int32.toInt64 (nI k) &&& 63))) = 0 ↔ bit64 x k = false := by
    rw [← Int64.toBitVec_inj, Int64.toBitVec_and, m64 k hk]
    constructor
    · intro h
      have := congrArg (fun y => y.getLsbD k) h
      simp only [BitVec.getLsbD_and, BitVec.getLsbD_twoPow] at this
      unfold bit64
      have z : (0 : Int64).toBitVec.getLsbD k = false := BitVec.getLsbD_zero
      rw [z] at this
      simpa [hk] using this
    · intro h
      apply BitVec.eq_of_getLsbD_eq
      intro i hi
      have z : (0 : Int64).toBitVec.getLsbD i = false := BitVec.getLsbD_zero
      rw [z, BitVec.getLsbD_and, BitVec.getLsbD_twoPow]
      by_cases q : k = i
      · subst q
        unfold bit64 at h
        rw [h]
        rfl
      · simp [q]
  rw [← e]
  unfold lg_cmp
  generalize (x &&& ((1 : Int64) <<< (Int32.toInt64 (nI k) &&& 63))) = y
  by_cases q : y > 0
  · rw [if_pos q]
    constructor
    · intro h; exact absurd h (by decide)
    · intro h; rw [h] at q; exact absurd q (by decide)
  · rw [if_neg q]
    by_cases q2 : y = 0
    · rw [if_pos q2]
      exact ⟨fun _ => q2, fun _ => rfl⟩
    · rw [if_neg q2]
      exact ⟨fun h => absurd h (by decide), fun h => absurd h q2⟩
def FrC (f : Nat) (cm cm' : CMu) : Prop := (∀ b j, (b < f ∨ f + 107 ≤ b) → b ≠ 10 → gI cm' b j = gI cm b j) ∧ (∀ b j, (b < f ∨ f + 107 ≤ b) → gL cm' b j = gL cm b j) ∧ cm'.2.2 = cm.2.2
theorem FrC_rf {f : Nat} {cm : CMu} : FrC f cm cm := ⟨fun _ _ _ _ => rfl, fun _ _ _ => rfl, rfl⟩
theorem FrC_tr {f : Nat} {a b c : CMu} (h : FrC f a b) (g : FrC f b c) : FrC f a c :=
  ⟨fun x j h1 h2 => by rw [g.1 x j h1 h2, h.1 x j h1 h2], fun x j h1 => by rw [g.2.1 x j h1, h.2.1 x j h1], by rw [g.2.2, h.2.2]⟩
theorem FrC_uI {f : Nat} {cm : CMu} {a j : Nat} {v : Int32} (h : f ≤ a ∧ a < f + 107) : FrC f cm (uI cm a j v) :=
  ⟨fun b i h1 _ => gI_c (by omega), fun _ _ _ => rfl, rfl⟩
theorem FrC_uL {f : Nat} {cm : CMu} {a j : Nat} {v : Int64} (h : f ≤ a ∧ a < f + 107) : FrC f cm (uL cm a j v) :=
  ⟨fun _ _ _ _ => rfl, fun b i h1 => gL_c (by omega), rfl⟩
theorem FrC_stk {f : Nat} {cm : CMu} {S : MR} : FrC f cm (stk cm S) := ⟨fun _ _ _ h => stk_o h, fun _ _ _ => rfl, rfl⟩
theorem FrC_W {f N : Nat} {cm cm' : CMu} {px : List PX1} (hN : 11 ≤ N) (hf : N + 6 ≤ f) (h : FrC f cm cm') (hW : WRo cm N px) : WRo cm' N px :=
  WRo_fr hW (fun b j h1 h2 => h.1 b j (by omega) (by omega)) h.2.2
section CAC
variable {cm : CMu} {f : Nat} {M : MR} {T : Nat → Pg} {n c o K : Nat}
theorem Fo_camp (hF : Fo cm f M T n c o) (hn : n ≤ 11) (hc : c ≤ 60) (ho : o ≤ 60) {h w : Nat} (h2 : h ≤ n) (hw : w < 4) (v : Int32) : Fo (uI cm (f + 23 + 2 * h) w v) f (upd M (46 + 4 * h + w) v) T n c o := by
  obtain ⟨g1, g2, g3, g4⟩ := hF
  refine ⟨RS_k g1 (DD_im hn hc ho) (by omega) hw v, fun r hr => ?_, fun i hi => ?_, ?_⟩
  · rw [gI_c (by omega), g2 r hr]
    congr 1
    exact (inR_cong (fun i hi => ⟨pk_un (by omega), pk_un (by omega)⟩)).symm
  · rw [gI_c (by omega)]
    exact g3 i hi
  · exact Bts_cong (cm := cm) (f := f) g4 (fun p hp => pk_un (by omega)) (fun x _ _ => pk_un (by omega)) hn
theorem c_cut {post : CMu → Prop} (hF : Fo cm f M T n c o) (hn : n ≤ 11) (hc : c ≤ 60) (ho : o ≤ 60) {h : Nat} (h1 : 1 ≤ h) (h2 : h ≤ n) {a : Int32} (hp : ∀ cm', Fo cm' f (xM h 9 a M) T n c o → FrC f cm cm' → post cm') : w_X1_cut post (f + 23 + 2 * h) a cm := by
  have e0 : gI cm (f + 23 + 2 * h) 0 = M (46 + 4 * h) := RF_k hF.1 hn h1 h2 (by omega)
  have e1 : gI cm (f + 23 + 2 * h) 1 = M (47 + 4 * h) := by
    rw [RF_k hF.1 hn h1 h2 (by omega)]
    congr 1
    omega
  have em : jmin a (M (46 + 4 * h)) = minI (M (46 + 4 * h)) a := by
    unfold jmin minI
    by_cases q : M (46 + 4 * h) < a
    · rw [if_pos q, if_neg (by rw [fa_le]; rw [fa_lt] at q; omega)]
    · rw [if_neg q, if_pos (by rw [fa_le]; rw [fa_lt] at q; omega)]
  unfold w_X1_cut
  rw [e0, gI_f (by omega), e1, em]
  refine hp _ ?_ (FrC_tr (FrC_uI (by omega)) (FrC_uI (by omega)))
  have g := Fo_camp (Fo_camp hF hn hc ho (h := h) h2 (w := 0) (by omega) (M (46 + 4 * h) - minI (M (46 + 4 * h)) a)) hn hc ho (h := h) h2 (w := 1) (by omega) (M (47 + 4 * h) + minI (M (46 + 4 * h)) a)
  rw [xM_9]
  rw [show 46 + 4 * h + 1 = 47 + 4 * h by omega] at g
  exact g
theorem c_send {post : CMu → Prop} (hF : Fo cm f M T n c o) (hn : n ≤ 11) (hc : c ≤ 60) (ho : o ≤ 60) {h : Nat} (h1 : 1 ≤ h) (h2 : h ≤ n) {a : Int32} (hp : ∀ cm', Fo cm' f (xM h 10 a M) T n c o → FrC f cm cm' → post cm') : w_X1_send post (f + 23 + 2 * h) a cm := by
  have e0 : gI cm (f + 23 + 2 * h) 1 = M (47 + 4 * h) := by
    rw [RF_k hF.1 hn h1 h2 (by omega)]
    congr 1
    omega
  have e1 : gI cm (f + 23 + 2 * h) 2 = M (48 + 4 * h) := by
    rw [RF_k hF.1 hn h1 h2 (by omega)]
    congr 1
    omega
  have em : jmin a (M (47 + 4 * h)) = minI (M (47 + 4 * h)) a := by
    unfold jmin minI
    by_cases q : M (47 + 4 * h) < a
    · rw [if_pos q, if_neg (by rw [fa_le]; rw [fa_lt] at q; omega)]
    · rw [if_neg q, if_pos (by rw [fa_le]; rw [fa_lt] at q; omega)]
  unfold w_X1_send
  rw [e0, gI_f (by omega), e1, em]
  refine hp _ ?_ (FrC_tr (FrC_uI (by omega)) (FrC_uI (by omega)))
  have g := Fo_camp (Fo_camp hF hn hc ho (h := h) h2 (w := 1) (by omega) (M (47 + 4 * h) - minI (M (47 + 4 * h)) a)) hn hc ho (h := h) h2 (w := 2) (by omega) (M (48 + 4 * h) + minI (M (47 + 4 * h)) a)
  rw [xM_10]
  rw [show 46 + 4 * h + 1 = 47 + 4 * h by omega, show 46 + 4 * h + 2 = 48 + 4 * h by omega] at g
  exact g
theorem c_annul {post : CMu → Prop} (hF : Fo cm f M T n c o) (hn : n ≤ 11) (hM2 : M 2 = nI c) (hc : c ≤ 60) (ho : o ≤ 60) {h i k : Nat} (h1 : 1 ≤ h) (h2 : h ≤ n) (hi : i < c) (hb : bit32 (M (336 + 8 * i)) h = false) (hk : k < 60) (hp : ∀ cm', Fo cm' f (xM h 12 (nI k) M) T n c o → FrC f cm cm' → post cm') : w_X1_annul post (f + 23 + 2 * h) (nI k) (nI i) cm := by
  have hF0 := hF
  obtain ⟨g1, g2, g3, g4⟩ := hF
  have hD := DD_im (n := n) (c := c) (o := o) hn hc ho
  rw [xM_12, hM2, nI_clamp (by omega)] at hp
  have d1 := fun p hp => (g4 h p h1 h2 hp).1
  have d2 := fun p hp => (g4 h p h1 h2 hp).2
  -- nothing else than a mark
  have mark : ¬ (nI k < nI c ∧ bit32 (M (336 + 8 * k)) h = true) → B_X1_annul_40 post (uL cm (f + 23 + 2 * h) 4 (gL cm (f + 23 + 2 * h) 4 ||| ((1 : Int64) <<< (Int32.toInt64 (nI k) &&& 63)))) := by
    intro hno
    rw [if_neg hno] at hp
    unfold B_X1_annul_40
    refine hp _ ⟨?_, fun r hr => ?_, fun j hj => g3 j hj, ?_⟩ (FrC_uL (by omega))
    · refine RFI_up (RFI_uL g1) ?_ 1
      unfold DD
      omega
    · rw [gI_uL, g2 r hr]
      congr 1
      exact (inR_cong (fun i hi => ⟨pk_un (by omega), pk_un (by omega)⟩)).symm
    · intro i' p b1 b2 b3
      obtain ⟨e1, e2⟩ := g4 i' p b1 b2 b3
      rw [gL_f (by omega), pk_un (by omega)]
      refine ⟨e1, fun z => ?_⟩
      by_cases q : i' = h
      · subst q
        rw [gL_hit, b64_or (by omega) (by omega)]
        by_cases q2 : p = k
        · subst q2
          rw [decide_eq_true rfl, Bool.or_true]
          unfold upd
          rw [if_pos rfl]
          rfl
        · rw [decide_eq_false q2, Bool.or_false, pk_un (by omega)]
          exact e2 z
      · rw [gL_c (by omega), pk_un (by omega)]
        exact e2 z
  unfold w_X1_annul
  refine ⟨fun q => mark (fun z => ?_), fun q => ⟨fun q2 => mark (fun z => ?_), fun q2 => ?_⟩⟩
  · rw [nI_eq (by omega) (by omega)] at q
    subst q
    rw [hb] at z
    exact absurd z.2 (by decide)
  · rw [gL_f (by omega), b64_and (by omega), d1 k hk] at q2
    rw [nI_ltI (by omega) (by omega)] at z
    rw [z.2, decide_eq_true z.1] at q2
    exact absurd q2 (by decide)
  · rw [gL_f (by omega), b64_and (by omega), d1 k hk] at q2
    have hyes : k < c ∧ bit32 (M (336 + 8 * k)) h = true := by
      by_cases c1 : k < c
      · refine ⟨c1, ?_⟩
        cases e : bit32 (M (336 + 8 * k)) h
        · rw [e, Bool.and_false] at q2
          exact absurd rfl q2
        · rfl
      · rw [decide_eq_false c1, Bool.false_and] at q2
        exact absurd rfl q2
    rw [if_pos ⟨by rw [nI_ltI (by omega) (by omega)]; exact hyes.1, hyes.2⟩] at hp
    unfold B_X1_annul_40
    have hlate : gI cm (f + 23 + 2 * h) 3 = M (49 + 4 * h) := by
      rw [RF_k g1 hn h1 h2 (by omega)]
      congr 1
      omega
    rw [gI_uL, hlate]
    have hF1 : Fo (uL cm (f + 23 + 2 * h) 4 (gL cm (f + 23 + 2 * h) 4 ||| ((1 : Int64) <<< (Int32.toInt64 (nI k) &&& 63)))) f M T n c o := by
      refine ⟨RFI_uL g1, fun r hr => g2 r hr, fun j hj => g3 j hj, ?_⟩
      intro i' p b1 b2 b3
      obtain ⟨e1, e2⟩ := g4 i' p b1 b2 b3
      rw [gL_f (by omega)]
      refine ⟨e1, fun z => ?_⟩
      by_cases q3 : i' = h
      · subst q3
        rw [gL_hit, b64_or (by omega) (by omega)]
        by_cases q4 : p = k
        · subst q4
          rw [e1, hyes.2, decide_eq_true hyes.1] at z
          exact absurd z (by decide)
        · rw [decide_eq_false q4, Bool.or_false]
          exact e2 z
      · rw [gL_c (by omega)]
        exact e2 z
    have g := Fo_camp hF1 hn hc ho (h := h) h2 (w := 3) (by omega) (M (49 + 4 * h) + 1)
    rw [show 46 + 4 * h + 3 = 49 + 4 * h by omega] at g
    exact hp _ g (FrC_tr (FrC_uL (by omega)) (FrC_uI (by omega)))
/-- a chip more -/
theorem c_throw {post : Int32 → CMu → Prop} {T' : Nat → Pg} (hF : Fo cm f M T n c o) (hn : n ≤ 11) (hM2 : M 2 = nI c) (hc : c < 60) (ho : o ≤ 60) {st wt hd nu sz : Int32} (hT : ∀ j, j < c → T' j = T j) (hTc : (T' c).1 = hd) (hp : ∀ cm', Fo cm' f (adM c st wt nu sz M) T' n (c + 1) o → FrC f cm cm' → post (nI c) cm') : w_X4_throwChip post f st wt hd nu cm := by
  have hH := Fo_h hF
  obtain ⟨g1, g2, g3, g4⟩ := hF
  have h6 : gI cm f 6 = nI c := by rw [hH.2.2.1, hM2]
  have h12 : gI cm f 12 = M 4 := hH.2.2.2.2.1
  unfold w_X4_throwChip
  rw [h6, nI_clamp (by omega)]
  refine ⟨fun _ => ⟨vp_in_nI (by omega) (by omega), ?_⟩, fun q => absurd (nI_lt (b := 60) (by omega) (by omega)) q⟩
  have e12 : ∀ cm' : CMu, (∀ b j, b ≠ f + 47 + c → gI cm' b j = gI cm b j) → gI cm' f 12 = M 4 := fun cm' h => by rw [h f 12 (by omega), h12]
  have e6 : ∀ cm' : CMu, (∀ b j, b ≠ f + 47 + c → gI cm' b j = gI cm b j) → gI cm' f 6 = nI c := fun cm' h => by rw [h f 6 (by omega), h6]
  have o1 : ∀ (cm' : CMu) (j : Nat) (v : Int32), (∀ b j, b ≠ f + 47 + c → gI cm' b j = gI cm b j) → (∀ b i, b ≠ f + 47 + c → gI (uI cm' (f + 47 + c) j v) b i = gI cm b i) := fun cm' j v h b i hb => by rw [gI_c hb]; exact h b i hb
  have z0 : ∀ b j, b ≠ f + 47 + c → gI cm b j = gI cm b j := fun _ _ _ => rfl
  rw [e12 _ (o1 _ _ _ (o1 _ _ _ (o1 _ _ _ (o1 _ _ _ z0)))), e6 _ (o1 _ _ _ (o1 _ _ _ (o1 _ _ _ (o1 _ _ _ (o1 _ _ _ (o1 _ _ _ (o1 _ _ _ z0))))))), nI_1, gI_hit, nI_pred]
  generalize hC : uI (uI (uI (uI (uI (uI (uI cm (f + 47 + c) 0 0) (f + 47 + c) 1 st) (f + 47 + c) 2 0) (f + 47 + c) 3 wt) (f + 47 + c) 4 (M 4)) (f + 47 + c) 5 nu) (f + 47 + c) 6 hd = C
  have Co : ∀ b j, b ≠ f + 47 + c → gI C b j = gI cm b j := by
    rw [← hC]
    exact o1 _ _ _ (o1 _ _ _ (o1 _ _ _ (o1 _ _ _ (o1 _ _ _ (o1 _ _ _ (o1 _ _ _ z0))))))
  have Cl : ∀ b j, gL C b j = gL cm b j := by
    rw [← hC]
    intro b j
    rfl
  have C0 : gI C (f + 47 + c) 0 = 0 := by rw [← hC, gI_f (by omega), gI_f (by omega), gI_f (by omega), gI_f (by omega), gI_f (by omega), gI_f (by omega), gI_hit]
  have C1 : gI C (f + 47 + c) 1 = st := by rw [← hC, gI_f (by omega), gI_f (by omega), gI_f (by omega), gI_f (by omega), gI_f (by omega), gI_hit]
  have C2 : gI C (f + 47 + c) 2 = 0 := by rw [← hC, gI_f (by omega), gI_f (by omega), gI_f (by omega), gI_f (by omega), gI_hit]
  have C3 : gI C (f + 47 + c) 3 = wt := by rw [← hC, gI_f (by omega), gI_f (by omega), gI_f (by omega), gI_hit]
  have C4 : gI C (f + 47 + c) 4 = M 4 := by rw [← hC, gI_f (by omega), gI_f (by omega), gI_hit]
  have C5 : gI C (f + 47 + c) 5 = nu := by rw [← hC, gI_f (by omega), gI_hit]
  have C6 : gI C (f + 47 + c) 6 = hd := by rw [← hC, gI_hit]
  have CW : C.2.2 = cm.2.2 := by rw [← hC]; rfl
  clear hC
  have eo : ∀ x, x ≠ 2 → ¬ (330 + 8 * c ≤ x ∧ x < 338 + 8 * c) → adM c st wt nu sz M x = M x := by
    intro x hx hx2
    unfold adM
    rw [if_neg hx, if_neg hx2]
  refine hp _ ⟨?_, fun r hr => ?_, fun i hi => ?_, ?_⟩ ⟨fun b j hb _ => by rw [gI_c (by omega)]; exact Co b j (by omega), fun b j _ => Cl b j, CW⟩
  · intro y hy
    by_cases y2 : y = 2
    · subst y2
      have ea : ad 2 = (0, 6) := rfl
      rw [ea]
      show gI (uI C f 6 (nI (c + 1))) (f + 0) 6 = nI (c + 1)
      exact gI_hit
    · by_cases yb : 330 + 8 * c ≤ y ∧ y < 338 + 8 * c
      · have hw : (y - 330) % 8 < 6 := by
          unfold DD at hy
          omega
        obtain ⟨w, rfl⟩ : ∃ w, y = 330 + 8 * c + w := ⟨y - (330 + 8 * c), by omega⟩
        have hw2 : w < 6 := by omega
        rw [ad_c (by omega)]
        show gI (uI C f 6 (nI (c + 1))) (f + (47 + c)) w = _
        rw [gI_c (by omega), ← Nat.add_assoc]
        unfold adM
        rw [if_neg (by omega), if_pos (by omega)]
        have cs : w = 0 ∨ w = 1 ∨ w = 2 ∨ w = 3 ∨ w = 4 ∨ w = 5 := by omega
        rcases cs with rfl | rfl | rfl | rfl | rfl | rfl
        · rw [C0, if_neg (by omega), if_neg (by omega), if_neg (by omega), if_neg (by omega), if_neg (by omega)]
        · rw [C1, if_pos (by omega)]
        · rw [C2, if_neg (by omega), if_neg (by omega), if_neg (by omega), if_neg (by omega), if_neg (by omega)]
        · rw [C3, if_neg (by omega), if_pos (by omega)]
        · rw [C4, if_neg (by omega), if_neg (by omega), if_pos (by omega)]
        · rw [C5, if_neg (by omega), if_neg (by omega), if_neg (by omega), if_pos (by omega)]
      · have hD : DD n c o y := by
          unfold DD at hy ⊢
          omega
        have hv := iv_ad (DD_im hn (by omega) ho y hD)
        have hne : f + (ad y).1 ≠ f + 47 + c := by
          intro e
          have e1 : (ad y).1 = 47 + c := by omega
          have him := of_decide_eq_true (DD_im hn (by omega) ho y hD)
          have hiv := hv.1
          rw [e1] at hiv
          unfold iv at hiv
          rw [if_neg (by omega), if_neg (by omega), if_neg (by omega), if_neg (by omega), if_neg (by omega), if_neg (by omega), if_neg (by omega), if_neg (by omega), if_neg (by omega), if_pos (by omega)] at hiv
          split at hiv
          · omega
          · omega
        have h06 : ¬ (f + (ad y).1 = f ∧ (ad y).2 = 6) := by
          intro ⟨e1, e2⟩
          have e3 : (ad y).1 = 0 := by omega
          have hiv := hv.1
          rw [e3, e2] at hiv
          exact y2 hiv.symm
        rw [eo y y2 yb, ← g1 y hD, ← Co _ _ hne]
        exact up2_miss h06
  · rw [gI_c (by omega), Co _ _ (by omega), g2 r hr]
    congr 1
    show inR M c r = cntP (isIn (adM c st wt nu sz M) r) c + (if isIn (adM c st wt nu sz M) r c = true then 1 else 0)
    have e0 : adM c st wt nu sz M (330 + 8 * c) = 0 := by
      unfold adM
      rw [if_neg (by omega), if_pos (by omega), if_neg (by omega), if_neg (by omega), if_neg (by omega), if_neg (by omega), if_neg (by omega)]
    have n0 : isIn (adM c st wt nu sz M) r c = false := by
      unfold isIn
      rw [e0]
      exact decide_eq_false (fun z => z.1.elim (fun y => absurd y (by decide)) (fun y => absurd y (by decide)))
    rw [n0, if_neg (by decide)]
    exact (inR_cong (fun i hi => ⟨eo _ (by omega) (by omega), eo _ (by omega) (by omega)⟩)).symm
  · rw [gI_c (by omega)]
    by_cases ei : i = c
    · subst ei
      rw [C6, hTc]
    · rw [Co _ _ (by omega), hT i (by omega)]
      exact g3 i (by omega)
  · intro i' p b1 b2 b3
    obtain ⟨e1, e2⟩ := g4 i' p b1 b2 b3
    rw [gL_uI, gL_uI, Cl, Cl, eo (810 + 60 * i' + p) (by omega) (by omega)]
    refine ⟨?_, e2⟩
    rw [e1]
    by_cases q : p = c
    · subst q
      have e6' : adM p st wt nu sz M (336 + 8 * p) = 0 := by
        unfold adM
        rw [if_neg (by omega), if_pos (by omega), if_neg (by omega), if_neg (by omega), if_neg (by omega), if_neg (by omega), if_neg (by omega)]
      rw [e6', decide_eq_false (by omega), Bool.false_and]
      have : bt 0 i' = false := b_0 i'
      show false = (decide (p < p + 1) && bt 0 i')
      rw [this, Bool.and_false]
    · rw [eo _ (by omega) (by omega)]
      by_cases q2 : p < c
      · rw [decide_eq_true q2, decide_eq_true (by omega)]
      · rw [decide_eq_false q2, decide_eq_false (by omega)]
end CAC
