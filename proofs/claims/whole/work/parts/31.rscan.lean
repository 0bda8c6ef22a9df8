/-! ===== the reference's scanner ===== -/
abbrev MM : Type := Nat → Nat → Int32
/-- with another place, fault and depth -/
def stR (mm : MM) (a e d : Int32) : MM := fun b i => if b = 0 ∧ i = 9 then a else if b = 0 ∧ i = 10 then e else if b = 0 ∧ i = 11 then d else mm b i
theorem stR_9 {mm : MM} {a e d : Int32} : stR mm a e d 0 9 = a := rfl
theorem stR_10 {mm : MM} {a e d : Int32} : stR mm a e d 0 10 = e := rfl
theorem stR_11 {mm : MM} {a e d : Int32} : stR mm a e d 0 11 = d := rfl
theorem stR_o {mm : MM} {a e d : Int32} {b i : Nat} (h : ¬ (b = 0 ∧ (i = 9 ∨ i = 10 ∨ i = 11))) : stR mm a e d b i = mm b i := by
  unfold stR
  rw [if_neg (by omega), if_neg (by omega), if_neg (by omega)]
theorem stR_u9 {mm : MM} {a e d v : Int32} : up2 (stR mm a e d) 0 9 v = stR mm v e d := by
  funext b i
  unfold up2 stR
  by_cases h : b = 0 ∧ i = 9
  · rw [if_pos h, if_pos h]
  · rw [if_neg h, if_neg h, if_neg h]
theorem stR_u10 {mm : MM} {a e d v : Int32} : up2 (stR mm a e d) 0 10 v = stR mm a v d := by
  funext b i
  unfold up2 stR
  by_cases h : b = 0 ∧ i = 10
  · obtain ⟨rfl, rfl⟩ := h
    rfl
  · rw [if_neg h]
    simp only [h, if_false]
theorem stR_u11 {mm : MM} {a e d v : Int32} : up2 (stR mm a e d) 0 11 v = stR mm a e v := by
  funext b i
  unfold up2 stR
  by_cases h : b = 0 ∧ i = 11
  · obtain ⟨rfl, rfl⟩ := h
    rfl
  · rw [if_neg h]
    simp only [h, if_false]
/-- another cell -/
theorem stR_un {mm : MM} {a e d v : Int32} {x j : Nat} (h : ¬ (x = 0 ∧ (j = 9 ∨ j = 10 ∨ j = 11))) : up2 (stR mm a e d) x j v = stR (up2 mm x j v) a e d := by
  funext b i
  unfold up2 stR
  by_cases q : b = x ∧ i = j
  · obtain ⟨rfl, rfl⟩ := q
    rw [if_pos ⟨rfl, rfl⟩, if_neg (by omega), if_neg (by omega), if_neg (by omega)]
    show v = (if b = b ∧ i = i then v else mm b i)
    rw [if_pos ⟨rfl, rfl⟩]
  · rw [if_neg q]
    simp only [q, if_false]
/-- the bytes that are read -/
def BY (mm : MM) (b : Nat → Int32) (len : Nat) : Prop := mm 0 8 = nI len ∧ len ≤ 400 ∧ ((mm 0 7 = -1 ∧ ∀ i, i < len → mm 4 i = b i) ∨ ∃ B, mm 0 7 = nI B ∧ B + 400 ≤ 25530 ∧ ∀ i, i < len → mm 1 (B + i) = b i)
theorem nI_m1 {n : Nat} (h : n < 2 ^ 31) : ¬ nI n = -1 := by
  intro e
  rw [fa_eq, nI_toInt h] at e
  have e1 : (-1 : Int32).toInt = -1 := rfl
  omega
section RSC
variable {mm : MM} {b : Nat → Int32} {len : Nat} {e d : Int32}
theorem r_letter (hB : BY mm b len) {a : Int32} {i : Nat} (hi : i < len) {post : Int32 → MM → Prop} (h : post (b i) (stR mm a e d)) : w_X13_letter post (nI i) (stR mm a e d) := by
  obtain ⟨_, h2, h3⟩ := hB
  unfold w_X13_letter
  rw [stR_o (by omega)]
  rcases h3 with ⟨h3, h4⟩ | ⟨B, h3, h4, h5⟩
  · rw [h3]
    refine ⟨fun q => absurd rfl q, fun _ => ⟨vp_in_nI (by omega) (by omega), ?_⟩⟩
    rw [nI_clamp (by omega), stR_o (by omega), h4 i hi]
    exact h
  · rw [h3]
    refine ⟨fun _ => ?_, fun q => absurd q (nI_m1 (by omega))⟩
    rw [nI_add]
    refine ⟨vp_in_nI (by omega) (by omega), ?_⟩
    rw [nI_clamp (by omega), stR_o (by omega), h5 i hi]
    exact h
theorem r_isIn {x lo hi : Int32} {mm : MM} {post : Bool → MM → Prop} (h : post (decide (¬ x < lo ∧ ¬ hi < x)) mm) : w_X13_isIn post x lo hi mm := by
  unfold w_X13_isIn
  refine ⟨fun q => ?_, fun q => ⟨fun q2 => ?_, fun q2 => ?_⟩⟩
  · rw [decide_eq_false (fun z => z.1 q)] at h; exact h
  · rw [decide_eq_false (fun z => z.2 q2)] at h; exact h
  · rw [decide_eq_true ⟨q, q2⟩] at h; exact h
theorem r_skip (hB : BY mm b len) {p : Nat} (hp : p < 2 ^ 31) {post : MM → Prop} (h : post (stR mm (nI (skp b len p)) e d)) : w_X13_skip post (stR mm (nI p) e d) := by
  have h2 := hB.2.1
  have h8 : ∀ a : Int32, stR mm a e d 0 8 = nI len := fun a => by rw [stR_o (by omega)]; exact hB.1
  unfold w_X13_skip
  by_cases hpl : p < len
  · have key : ∀ (f p : Nat), p + f = len → post (stR mm (nI (rE isB b len f p)) e d) → B_X13_skip_0 post (f + 1) (stR mm (nI p) e d) := by
      intro f
      induction f with
      | zero =>
        intro p hp hh
        unfold B_X13_skip_0 B_X13_skip_37
        rw [h8, stR_9]
        exact ⟨fun _ => hh, fun q => absurd (nI_le (by omega) (by omega)) q⟩
      | succ f ih =>
        intro p hp hh
        unfold B_X13_skip_0 B_X13_skip_37
        rw [h8, stR_9]
        unfold rE at hh
        refine ⟨fun q => absurd q (nI_ge (by omega) (by omega)), fun _ => r_letter hB (by omega) ⟨fun q => ?_, fun q => ?_⟩⟩
        · rw [if_neg (fun z => q (of_decide_eq_true z.2))] at hh
          exact hh
        · rw [if_pos ⟨by omega, decide_eq_true q⟩] at hh
          rw [stR_9, nI_1, stR_u9]
          exact ih (p + 1) (by omega) hh
    exact ⟨_, key (len - p) p (by omega) h⟩
  · rw [skp_ge (by omega)] at h
    refine ⟨1, ?_⟩
    unfold B_X13_skip_0 B_X13_skip_37
    rw [h8, stR_9]
    exact ⟨fun _ => h, fun q => absurd (nI_le (by omega) (by omega)) q⟩
theorem r_wrong {a : Int32} {x : Int32} {post : MM → Prop} (h : post (stR mm a (if e = -1 then x else e) d)) : w_X13_wrong post x (stR mm a e d) := by
  unfold w_X13_wrong B_X13_wrong_13
  rw [stR_10, stR_u10]
  refine ⟨fun q => ?_, fun q => ?_⟩
  · rw [if_neg q] at h; exact h
  · rw [if_pos q] at h; exact h
theorem r_strlen {mm : MM} {post : Int32 → MM → Prop} {a : Nat} (ha : a < 30) (h : post (nI (slen.getD a 0)) mm) : w_MJ0_length_8abf5 post a mm := by
  unfold w_MJ0_length_8abf5 w_MJ0_coder_7d493
  refine ⟨rfl, ?_⟩
  rw [sl_len a ha]
  exact h
theorem r_charAt {mm : MM} {post : Int32 → MM → Prop} {a t : Nat} (ha : a < 30) (ht : t < slen.getD a 0) (h : post ((sbyt.getD a []).getD t 0) mm) : w_MJ0_charAt_5068e post a (nI t) mm := by
  have hm := sl_max a ha
  unfold w_MJ0_charAt_5068e w_MJ0_isLatin1_aae02 w_MJ1_charAt_3b067 w_MJ0_checkIndex_df160 w_MJ3_checkIndex_8e157
  refine ⟨rfl, fun nv1 _ => ⟨fun q => absurd q (nI_pos (by omega)), fun _ => ⟨fun _ => ?_, fun q => absurd (show nI t < nI (slen.getD a 0) from nI_lt ht (by omega)) q⟩⟩⟩
  rw [nI_clamp (by omega)]
  refine ⟨vp_in_nI ht (by omega), sl_nar a ha t ht, sl_nar a ha t ht, ?_⟩
  have := sl_chr a ha t ht
  unfold chE at this
  rw [this]
  exact h
theorem wsp_id {w : Nat} (h : w < 29) : wsp w = w := by
  unfold wsp
  rw [if_pos h]
/-- the word number w of letters stands at the next thing, or it doesn't -/
theorem r_has (hB : BY mm b len) {p : Nat} (hp : p < 2 ^ 31 - 1000) {w : Nat} (hw : w < 29) (hl : ltW w = true) {post : Bool → MM → Prop}
    (h1 : skp b len p < len → (tok1 b (skp b len p) (bhd b len (skp b len p))).2.1 = wAt w → post true (stR mm (nI (bhd b len (skp b len p))) e d))
    (h0 : ¬ (skp b len p < len ∧ (tok1 b (skp b len p) (bhd b len (skp b len p))).2.1 = wAt w) → post false (stR mm (nI (skp b len p)) e d)) : w_X13_has post w (stR mm (nI p) e d) := by
  have h2 := hB.2.1
  have h8 : ∀ a : Int32, stR mm a e d 0 8 = nI len := fun a => by rw [stR_o (by omega)]; exact hB.1
  have hm := sl_max w (by omega)
  have hps := sl_pos w hw
  rw [wsp_id hw] at hps
  unfold w_X13_has
  refine r_skip hB (by omega) ?_
  have hq : skp b len p < 2 ^ 31 - 1000 := by
    by_cases c : p < len
    · have := (skp_le (b := b) (len := len) (p := p) (by omega)).2
      omega
    · rw [skp_ge (by omega)]
      exact hp
  generalize skp b len p = q at *
  rw [stR_9]
  -- the run of letters has ended at v
  have tail : ∀ v : Nat, q ≤ v → v ≤ max q len → (v = (if q < len ∧ isL (b q) = true then bhd b len q else q)) → B_X13_has_38 post w (nI v) (stR mm (nI q) e d) := by
    intro v hv1 hv2 hv3
    unfold B_X13_has_38
    rw [stR_9, nI_sub hv1]
    have hvb : v < 2 ^ 31 := by omega
    refine r_strlen (by omega) ⟨fun g => ?_, fun g => ?_⟩
    · rw [nI_eq (by omega) (by omega)] at g
      have hql : q < len ∧ isL (b q) = true := by
        by_cases c : q < len ∧ isL (b q) = true
        · exact c
        · rw [if_neg c] at hv3
          omega
      rw [if_pos hql] at hv3
      have key : ∀ (n t : Nat), t + n = slen.getD w 0 → (∀ u, u < t → b (q + u) = (sbyt.getD w []).getD u 0) → B_X13_has_55 post (n + 1) w (nI v) (nI t) (stR mm (nI q) e d) := by
        intro n
        induction n with
        | zero =>
          intro t ht hu
          unfold B_X13_has_55
          refine r_strlen (by omega) ⟨fun _ => ?_, fun g2 => absurd (nI_le (by omega) (by omega)) g2⟩
          rw [stR_u9, hv3]
          refine h1 hql.1 ?_
          rw [tok_word hql.1 hw hl]
          refine ⟨hql.2, decide_eq_true ?_⟩
          rw [wsp_id hw, ← hv3]
          exact ⟨g, fun u hu2 => hu u (by omega)⟩
        | succ n ih =>
          intro t ht hu
          unfold B_X13_has_55
          refine r_strlen (by omega) ⟨fun g2 => absurd g2 (nI_ge (by omega) (by omega)), fun _ => ?_⟩
          rw [stR_9, nI_add]
          have hb := bhd_le (b := b) (len := len) (i := q) hql.1
          refine r_letter hB (by omega) (r_charAt (by omega) (by omega) ⟨fun g3 => ?_, fun g3 => ?_⟩)
          · rw [nI_1]
            refine ih (t + 1) (by omega) (fun u hu2 => ?_)
            by_cases c : u = t
            · rw [c]; exact g3
            · exact hu u (by omega)
          · refine h0 (fun z => ?_)
            have := ((tok_word hql.1 hw hl).mp z.2).2
            have := (of_decide_eq_true this).2 t (by rw [wsp_id hw]; omega)
            rw [wsp_id hw] at this
            exact g3 this
      exact ⟨_, key (slen.getD w 0) 0 (by omega) (fun u hu => by omega)⟩
    · rw [nI_eq (by omega) (by omega)] at g
      refine h0 (fun z => ?_)
      have c := (tok_word z.1 hw hl).mp z.2
      rw [if_pos ⟨z.1, c.1⟩] at hv3
      have := (of_decide_eq_true c.2).1
      rw [wsp_id hw] at this
      omega
  by_cases c : q < len
  · have run : ∀ (f v : Nat), v + f = len → q ≤ v → (rE isL b len f v = (if q < len ∧ isL (b q) = true then bhd b len q else q)) → B_X13_has_9 post (f + 1) w (nI v) (stR mm (nI q) e d) := by
      intro f
      induction f with
      | zero =>
        intro v hv hqv hr
        unfold B_X13_has_9
        rw [h8]
        exact ⟨fun _ => tail v hqv (by omega) hr, fun g => absurd (nI_le (by omega) (by omega)) g⟩
      | succ f ih =>
        intro v hv hqv hr
        unfold B_X13_has_9
        rw [h8]
        unfold rE at hr
        refine ⟨fun g => absurd g (nI_ge (by omega) (by omega)), fun _ => r_letter hB (by omega) (r_isIn ⟨fun g => ?_, fun g => ?_⟩)⟩
        · rw [if_neg (fun z => by have := z.2; unfold isL at this; rw [g] at this; exact absurd this (by decide))] at hr
          exact tail v hqv (by omega) hr
        · have gt : isL (b v) = true := by
            unfold isL
            revert g
            cases decide (¬ b v < 97 ∧ ¬ 122 < b v) <;> simp
          rw [if_pos ⟨by omega, gt⟩] at hr
          rw [nI_1]
          exact ih (v + 1) (by omega) (by omega) hr
    refine ⟨_, run (len - q) q (by omega) (Nat.le_refl _) ?_⟩
    obtain ⟨g, hg⟩ : ∃ g, len - q = g + 1 := ⟨len - q - 1, by omega⟩
    rw [hg]
    unfold rE
    by_cases c2 : q < len ∧ isL (b q) = true
    · rw [if_pos c2, if_pos c2]
      unfold bhd
      rw [if_pos c2.2, show len - (q + 1) = g by omega]
    · rw [if_neg c2, if_neg c2]
  · refine ⟨1, ?_⟩
    unfold B_X13_has_9
    rw [h8]
    refine ⟨fun _ => tail q (Nat.le_refl _) (by omega) ?_, fun g => absurd (nI_le (by omega) (by omega)) g⟩
    rw [if_neg (fun z => c z.1)]
theorem r_sign (hB : BY mm b len) {p : Nat} (hp : p < 2 ^ 31 - 1000) {w : Nat} (hw : w < 29) (hl : ltW w = false) {c : Int32} (hc : c = (sbyt.getD (wsp w) []).getD 0 0) {post : Bool → MM → Prop}
    (h1 : skp b len p < len → (tok1 b (skp b len p) (bhd b len (skp b len p))).2.1 = wAt w → bhd b len (skp b len p) = skp b len p + 1 → post true (stR mm (nI (skp b len p)) e d))
    (h0 : ¬ (skp b len p < len ∧ (tok1 b (skp b len p) (bhd b len (skp b len p))).2.1 = wAt w) → post false (stR mm (nI (skp b len p)) e d)) : w_X13_isSign post c (stR mm (nI p) e d) := by
  have h2 := hB.2.1
  have h8 : ∀ a : Int32, stR mm a e d 0 8 = nI len := fun a => by rw [stR_o (by omega)]; exact hB.1
  unfold w_X13_isSign
  refine r_skip hB (by omega) ?_
  have hq : skp b len p < 2 ^ 31 - 1000 := by
    by_cases c : p < len
    · have := (skp_le (b := b) (len := len) (p := p) (by omega)).2
      omega
    · rw [skp_ge (by omega)]
      exact hp
  generalize skp b len p = q at *
  rw [h8, stR_9]
  refine ⟨fun g => ?_, fun g => ?_⟩
  · rw [nI_leI (by omega) (by omega)] at g
    exact h0 (fun z => by omega)
  · rw [nI_leI (by omega) (by omega)] at g
    have ht := tok_sign (b := b) (len := len) (p := q) (by omega) hw hl
    rw [← hc] at ht
    refine r_letter hB (by omega) ⟨fun g2 => h0 (fun z => g2 (ht.mp z.2)), fun g2 => h1 (by omega) (ht.mpr g2) ?_⟩
    obtain ⟨s1, s2, s3, s4⟩ := sg_all w hw hl
    unfold bhd
    rw [g2, hc, s2, s3]
    rfl
end RSC
