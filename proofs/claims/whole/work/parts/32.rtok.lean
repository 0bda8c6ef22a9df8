/-! ===== the reference's scanner by tokens ===== -/
theorem rE_all {q : Int32 → Bool} {b : Nat → Int32} {len : Nat} : ∀ {f i : Nat} (u : Nat), i ≤ u → u < rE q b len f i → q (b u) = true := by
  intro f
  induction f with
  | zero =>
    intro i u h1 h2
    unfold rE at h2
    omega
  | succ f ih =>
    intro i u h1 h2
    unfold rE at h2
    by_cases c : i < len ∧ q (b i) = true
    · rw [if_pos c] at h2
      by_cases e : u = i
      · rw [e]; exact c.2
      · exact ih u (by omega) h2
    · rw [if_neg c] at h2
      omega
theorem bhd_D {b : Nat → Int32} {len q : Nat} (hd : isD (b q) = true) : (∀ u, q ≤ u → u < bhd b len q → isD (b u) = true) ∧ (bhd b len q < len → isD (b (bhd b len q)) = false) := by
  have hl : isL (b q) = false := by
    cases e : isL (b q)
    · rfl
    · rw [isL_D e] at hd
      exact absurd hd (by decide)
  unfold bhd
  rw [hl, hd]
  simp only [Bool.false_eq_true, if_false, if_true]
  refine ⟨fun u h1 h2 => ?_, fun h => rE_end (by omega) h⟩
  by_cases e : u = q
  · rw [e]; exact hd
  · exact rE_all u (by omega) h2
theorem vlF_snoc {b : Nat → Int32} : ∀ (n i : Nat) (v : Int32), vlF b (n + 1) i v = 10 * vlF b n i v + b (i + n) - 48 := by
  intro n
  induction n with
  | zero => intro i v; rfl
  | succ n ih =>
    intro i v
    rw [vlF, ih (i + 1), show i + 1 + n = i + (n + 1) by omega]
    conv => rhs; rw [vlF]
theorem wOf_n30 {b : Nat → Int32} {i j : Nat} (hij : i < j) : ∀ f v, v + f = 31 → ¬ wOf b i j f v = 30 := by
  intro f
  induction f with
  | zero => intro v _ h; unfold wOf at h; exact absurd h (by decide)
  | succ f ih =>
    intro v hv h
    unfold wOf at h
    by_cases c : spl b v i j = true
    · rw [if_pos c] at h
      have : wAt v = wAt 29 := h
      have e := wAt_inj (by omega) (by omega) this
      have g := (of_decide_eq_true c).1
      rw [e, sl_0 29 (by omega) (by omega)] at g
      omega
    · rw [if_neg c] at h
      exact ih (v + 1) (by omega) h
/-- the scanner at token t -/
def Sx (k : TK) (b : Nat → Int32) (len p t : Nat) : Prop := At b len p t ∧ p ≤ len ∧ t ≤ tN k
/-- and at its first letter -/
def Sy (k : TK) (b : Nat → Int32) (len p t : Nat) : Prop := Sx k b len p t ∧ nI p = (if t < tN k then tB k t else tL k)
section RT
variable {mm : MM} {b : Nat → Int32} {len : Nat} {e d : Int32} {k : TK}
theorem Sx_skp (hT : TKL k (tks b len 0) len) {p t : Nat} (h : Sx k b len p t) : Sy k b len (skp b len p) t ∧ (skp b len p < len ↔ t < tN k) ∧
    (skp b len p < len → tW k t = (tok1 b (skp b len p) (bhd b len (skp b len p))).2.1 ∧ tV k t = (tok1 b (skp b len p) (bhd b len (skp b len p))).2.2 ∧ Sx k b len (bhd b len (skp b len p)) (t + 1)) := by
  have h1 := At_skp h.1
  have h2 := (skp_le (b := b) h.2.1).2
  by_cases c : skp b len p < len
  · obtain ⟨a1, a2, a3, a4, a5⟩ := At_in h1 hT c (skp_nb c)
    have hb := bhd_le (b := b) (len := len) (i := skp b len p) c
    exact ⟨⟨⟨h1, h2, h.2.2⟩, by rw [if_pos a1, a3]⟩, ⟨fun _ => a1, fun _ => c⟩, fun _ => ⟨a2, a4, a5, hb.2, a1⟩⟩
  · have a1 := At_end h1 hT (by omega)
    refine ⟨⟨⟨h1, h2, h.2.2⟩, ?_⟩, ⟨fun z => absurd z c, fun z => by omega⟩, fun z => absurd z c⟩
    rw [if_neg (by omega), hT.2.1, show skp b len p = len by omega]
theorem t_skip (hB : BY mm b len) (hT : TKL k (tks b len 0) len) {p t : Nat} (h : Sx k b len p t) {post : MM → Prop} (hp : ∀ p', Sy k b len p' t → post (stR mm (nI p') e d)) : w_X13_skip post (stR mm (nI p) e d) := by
  have := hB.2.1
  have := h.2.1
  exact r_skip hB (by omega) (hp _ (Sx_skp hT h).1)
theorem t_has (hB : BY mm b len) (hT : TKL k (tks b len 0) len) {p t : Nat} (h : Sx k b len p t) {w : Nat} (hw : w < 29) (hl : ltW w = true) {nu : Int32} {post : Bool → MM → Prop}
    (h1 : pIs k (wAt w) (t, -1, nu) = true → ∀ p', Sx k b len p' (t + 1) → post true (stR mm (nI p') e d))
    (h0 : pIs k (wAt w) (t, -1, nu) = false → ∀ p', Sy k b len p' t → post false (stR mm (nI p') e d)) : w_X13_has post w (stR mm (nI p) e d) := by
  have hl2 := hB.2.1
  have hl3 := h.2.1
  obtain ⟨s1, s2, s3⟩ := Sx_skp hT h
  refine r_has hB (by omega) hw hl (fun q1 q2 => ?_) (fun q => ?_)
  · obtain ⟨a1, a2, a3⟩ := s3 q1
    exact h1 (decide_eq_true ⟨rfl, s2.mp q1, by rw [a1, q2]⟩) _ a3
  · refine h0 (decide_eq_false (fun z => q ?_)) _ s1
    have q1 := s2.mpr z.2.1
    exact ⟨q1, by rw [← (s3 q1).1]; exact z.2.2⟩
theorem t_sign (hB : BY mm b len) (hT : TKL k (tks b len 0) len) {p t : Nat} (h : Sx k b len p t) {w : Nat} (hw : w < 29) (hl : ltW w = false) {c : Int32} (hc : c = (sbyt.getD (wsp w) []).getD 0 0) {nu : Int32} {post : Bool → MM → Prop}
    (h1 : pIs k (wAt w) (t, -1, nu) = true → ∀ p', p' < len → Sx k b len (p' + 1) (t + 1) → post true (stR mm (nI p') e d))
    (h0 : pIs k (wAt w) (t, -1, nu) = false → ∀ p', Sy k b len p' t → post false (stR mm (nI p') e d)) : w_X13_isSign post c (stR mm (nI p) e d) := by
  have hl2 := hB.2.1
  have hl3 := h.2.1
  obtain ⟨s1, s2, s3⟩ := Sx_skp hT h
  refine r_sign hB (by omega) hw hl hc (fun q1 q2 q3 => ?_) (fun q => ?_)
  · obtain ⟨a1, a2, a3⟩ := s3 q1
    rw [q3] at a3
    exact h1 (decide_eq_true ⟨rfl, s2.mp q1, by rw [a1, q2]⟩) _ q1 a3
  · refine h0 (decide_eq_false (fun z => q ?_)) _ s1
    have q1 := s2.mpr z.2.1
    exact ⟨q1, by rw [← (s3 q1).1]; exact z.2.2⟩
/-- what a refusal at token t tells -/
def fV (k : TK) (t : Nat) : Int32 := if t < tN k then tB k t else tL k
theorem t_fig (hB : BY mm b len) (hT : TKL k (tks b len 0) len) {p t : Nat} (h : Sx k b len p t) {lo hi : Int32} {nu : Int32} {post : Int32 → MM → Prop}
    (h1 : pIsN k lo hi (t, -1, nu) = true → ∀ p', Sx k b len p' (t + 1) → post (tV k t) (stR mm (nI p') (-1) d))
    (h0 : pIsN k lo hi (t, -1, nu) = false → ∀ p' v, p' ≤ len → post v (stR mm (nI p') (fV k t) d)) : w_X13_figures post lo hi (stR mm (nI p) (-1) d) := by
  have hl2 := hB.2.1
  have hl3 := h.2.1
  have h8 : ∀ a e : Int32, stR mm a e d 0 8 = nI len := fun a e => by rw [stR_o (by omega)]; exact hB.1
  obtain ⟨s1, s2, s3⟩ := Sx_skp hT h
  unfold w_X13_figures
  rw [stR_10]
  refine ⟨fun _ => r_skip hB (by omega) ?_, fun q => absurd rfl q⟩
  generalize skp b len p = q at *
  have hq := s1.1.2.1
  have hfv : nI q = fV k t := s1.2
  have bad : ∀ (i : Nat) (v : Int32), i ≤ len → pIsN k lo hi (t, -1, nu) = false → B_X13_figures_123 post (nI q) v (stR mm (nI i) (-1) d) := by
    intro i v hi hf
    unfold B_X13_figures_123 B_X13_figures_128
    refine r_wrong ?_
    rw [if_pos rfl, hfv]
    exact h0 hf i v hi
  have fin : ∀ i : Nat, q ≤ i → i ≤ q + 4 → i ≤ len → (∀ u, q ≤ u → u < i → isD (b u) = true) → (i = q + 4 ∨ i = len ∨ isD (b i) = false) → B_X13_figures_93 post lo hi (nI q) (vlF b (i - q) q 0) (stR mm (nI i) (-1) d) := by
    intro i hi1 hi2 hi3 hu hend
    unfold B_X13_figures_93 B_X13_figures_128
    rw [stR_9, nI_sub hi1, fa_lit 3]
    have tokD : q < i → q < len ∧ isD (b q) = true := fun z => ⟨by omega, hu q (Nat.le_refl _) z⟩
    refine ⟨fun g => ?_, fun g => ⟨fun g2 => ?_, fun g2 => ?_⟩⟩
    · rw [nI_eq (by omega) (by omega)] at g
      subst g
      refine bad i _ hi3 (decide_eq_false (fun z => ?_))
      have c := s2.mpr z.2.1
      have hd : isD (b i) = false := by
        rcases hend with c2 | c2 | c2
        · omega
        · omega
        · exact c2
      have := z.2.2.1
      rw [(s3 c).1, tok_n hd] at this
      exact wOf_n30 (bhd_le c).1 31 0 rfl this
    · rw [nI_ltI (by omega) (by omega)] at g2
      have c := tokD (by omega)
      refine bad i _ hi3 (decide_eq_false (fun z => ?_))
      have := z.2.2.1
      rw [(s3 c.1).1] at this
      unfold tok1 at this
      rw [if_pos c.2] at this
      have hbd := bhd_D (len := len) c.2
      have hb := bhd_le (b := b) (len := len) c.1
      by_cases c3 : bhd b len q - q ≤ 3
      · have g4 := hbd.2 (by omega)
        rw [hu _ (by omega) (by omega)] at g4
        exact absurd g4 (by decide)
      · rw [if_neg c3] at this
        exact absurd this (show ¬ ((31 : Fin 32) = 30) by decide)
    · rw [nI_ltI (by omega) (by omega)] at g2
      have hne : ¬ i = q := fun z => g (by rw [z])
      have c := tokD (by omega)
      have hbd := bhd_D (len := len) c.2
      have hb := bhd_le (b := b) (len := len) c.1
      have hib : i = bhd b len q := by
        rcases hend with c2 | c2 | c2
        · omega
        · rcases Nat.lt_trichotomy i (bhd b len q) with c3 | c3 | c3
          · omega
          · exact c3
          · have g4 := hbd.2 (by omega)
            rw [hu _ (by omega) c3] at g4
            exact absurd g4 (by decide)
        · rcases Nat.lt_trichotomy i (bhd b len q) with c3 | c3 | c3
          · rw [hbd.1 i hi1 c3] at c2
            exact absurd c2 (by decide)
          · exact c3
          · have g4 := hbd.2 (by omega)
            rw [hu _ (by omega) c3] at g4
            exact absurd g4 (by decide)
      obtain ⟨a1, a2, a3⟩ := s3 c.1
      have ht : tok1 b q (bhd b len q) = (q, 30, vlF b (i - q) q 0) := by
        unfold tok1
        rw [if_pos c.2, ← hib, if_pos (by omega)]
      rw [ht] at a1 a2
      have hv : tV k t = vlF b (i - q) q 0 := a2
      rw [← hv]
      refine ⟨fun g3 => bad i _ hi3 (decide_eq_false (fun z => z.2.2.2.1 g3)), fun g3 => ⟨fun g4 => ?_, fun g4 => bad i _ hi3 (decide_eq_false (fun z => z.2.2.2.2 ?_))⟩⟩
      · rw [hib]
        refine h1 (decide_eq_true ⟨rfl, s2.mp c.1, a1, g3, fun z => ?_⟩) _ a3
        rw [fa_lt] at z
        rw [fa_le] at g4
        have z2 : hi.toInt < (tV k t).toInt := z
        omega
      · rw [fa_lt]
        rw [fa_le] at g4
        show hi.toInt < (tV k t).toInt
        omega
  rw [stR_9]
  have key : ∀ (f i : Nat), i + f = q + 4 → q ≤ i → i ≤ len → (∀ u, q ≤ u → u < i → isD (b u) = true) → B_X13_figures_22 post (f + 1) lo hi (nI q) (vlF b (i - q) q 0) (stR mm (nI i) (-1) d) := by
    intro f
    induction f with
    | zero =>
      intro i hif hqi hil hu
      unfold B_X13_figures_22
      have fi := fin i hqi (by omega) hil hu (Or.inl (by omega))
      rw [h8, stR_9]
      refine ⟨fun _ => fi, fun g => ?_⟩
      rw [nI_leI (by omega) (by omega)] at g
      refine r_letter hB (by omega) (r_isIn ⟨fun _ => fi, fun _ => ⟨fun _ => fi, fun g2 => absurd ?_ g2⟩⟩)
      rw [stR_9, nI_sub hqi, fa_lit 4, nI_leI (by omega) (by omega)]
      omega
    | succ f ih =>
      intro i hif hqi hil hu
      unfold B_X13_figures_22
      rw [h8, stR_9]
      refine ⟨fun g => ?_, fun g => ?_⟩
      · rw [nI_leI (by omega) (by omega)] at g
        exact fin i hqi (by omega) hil hu (Or.inr (Or.inl (by omega)))
      · rw [nI_leI (by omega) (by omega)] at g
        refine r_letter hB (by omega) (r_isIn ⟨fun g2 => fin i hqi (by omega) hil hu (Or.inr (Or.inr g2)), fun g2 => ?_⟩)
        have gt : isD (b i) = true := by
          unfold isD
          revert g2
          cases decide (¬ b i < 48 ∧ ¬ 57 < b i) <;> simp
        rw [stR_9, nI_sub hqi, fa_lit 4]
        refine ⟨fun g3 => ?_, fun _ => ?_⟩
        · rw [nI_leI (by omega) (by omega)] at g3
          omega
        · refine r_letter hB (by omega) ?_
          rw [stR_9, nI_1, stR_u9]
          have ev : (10 * vlF b (i - q) q 0 + b i) - 48 = vlF b (i + 1 - q) q 0 := by
            rw [show i + 1 - q = (i - q) + 1 by omega, vlF_snoc, show q + (i - q) = i by omega]
          rw [ev]
          refine ih (i + 1) (by omega) (by omega) (by omega) (fun u hu1 hu2 => ?_)
          by_cases c : u = i
          · rw [c]; exact gt
          · exact hu u hu1 (by omega)
  have := key 4 q rfl (Nat.le_refl _) hq (fun u h1 h2 => by omega)
  rw [Nat.sub_self] at this
  exact ⟨5, this⟩
end RT
