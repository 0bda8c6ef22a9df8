/-! ===== the text as a row of tokens; the class's open ===== -/
def isL (x : Int32) : Bool := decide (¬ x < 97 ∧ ¬ 122 < x)
def isD (x : Int32) : Bool := decide (¬ x < 48 ∧ ¬ 57 < x)
/-- where a run ends -/
def rE (p : Int32 → Bool) (b : Nat → Int32) (len : Nat) : Nat → Nat → Nat
  | 0, i => i
  | f + 1, i => if i < len ∧ p (b i) = true then rE p b len f (i + 1) else i
def bhd (b : Nat → Int32) (len i : Nat) : Nat := if isL (b i) then rE isL b len (len - (i + 1)) (i + 1) else if isD (b i) then rE isD b len (len - (i + 1)) (i + 1) else i + 1
def vlF (b : Nat → Int32) : Nat → Nat → Int32 → Int32
  | 0, _, v => v
  | n + 1, i, v => vlF b n (i + 1) (10 * v + b i - 48)
def spl (b : Nat → Int32) (w i j : Nat) : Bool := decide (j - i = slen.getD (wsp w) 0 ∧ ∀ t, t < slen.getD (wsp w) 0 → b (i + t) = (sbyt.getD (wsp w) []).getD t 0)
def wOf (b : Nat → Int32) (i j : Nat) : Nat → Nat → Fin 32
  | 0, _ => 31
  | f + 1, w => if spl b w i j then wAt w else wOf b i j f (w + 1)
def tok1 (b : Nat → Int32) (i j : Nat) : Nat × Fin 32 × Int32 :=
  if isD (b i) then (if j - i ≤ 3 then (i, 30, vlF b (j - i) i 0) else (i, 31, 0)) else (i, wOf b i j 31 0, 0)
def tkF (b : Nat → Int32) (len : Nat) : Nat → Nat → List (Nat × Fin 32 × Int32)
  | 0, _ => []
  | f + 1, i => if i < len then (if b i = 32 then tkF b len f (bhd b len i) else tok1 b i (bhd b len i) :: tkF b len f (bhd b len i)) else []
/-- that the parser's tokens are the text's -/
def TKL (k : TK) (l : List (Nat × Fin 32 × Int32)) (len : Nat) : Prop := tN k = l.length ∧ tL k = nI len ∧ ∀ t x, l[t]? = some x → tW k t = x.2.1 ∧ tB k t = nI x.1 ∧ tV k t = x.2.2
theorem rE_le {p : Int32 → Bool} {b : Nat → Int32} {len : Nat} : ∀ {f i : Nat}, i ≤ len → i ≤ rE p b len f i ∧ rE p b len f i ≤ len := by
  intro f
  induction f with
  | zero => intro i h; exact ⟨Nat.le_refl _, h⟩
  | succ f ih =>
    intro i h
    unfold rE
    split
    · rename_i q
      have := ih (i := i + 1) (by omega)
      omega
    · exact ⟨Nat.le_refl _, h⟩
theorem bhd_le {b : Nat → Int32} {len i : Nat} (h : i < len) : i < bhd b len i ∧ bhd b len i ≤ len := by
  unfold bhd
  split
  · have := rE_le (p := isL) (b := b) (len := len) (f := len - (i + 1)) (i := i + 1) (by omega)
    omega
  · split
    · have := rE_le (p := isD) (b := b) (len := len) (f := len - (i + 1)) (i := i + 1) (by omega)
      omega
    · omega
theorem c_isL {x : Int32} {cm : CMu} {post : Bool → CMu → Prop} (h : post (isL x) cm) : w_X10_isLetter post x cm := by
  unfold w_X10_isLetter
  unfold isL at h
  refine ⟨fun q => ?_, fun q => ⟨fun q2 => ?_, fun q2 => ?_⟩⟩
  · rw [decide_eq_false (fun z => z.1 q)] at h; exact h
  · rw [decide_eq_false (fun z => z.2 q2)] at h; exact h
  · rw [decide_eq_true ⟨q, q2⟩] at h; exact h
theorem c_isD {x : Int32} {cm : CMu} {post : Bool → CMu → Prop} (h : post (isD x) cm) : w_X10_isDigit post x cm := by
  unfold w_X10_isDigit
  unfold isD at h
  refine ⟨fun q => ?_, fun q => ⟨fun q2 => ?_, fun q2 => ?_⟩⟩
  · rw [decide_eq_false (fun z => z.1 q)] at h; exact h
  · rw [decide_eq_false (fun z => z.2 q2)] at h; exact h
  · rw [decide_eq_true ⟨q, q2⟩] at h; exact h
section CB
variable {cm : CMu} {len : Nat}
theorem c_bhd {post : Int32 → CMu → Prop} {i : Nat} (h5 : gI cm 4 5 = nI len) (hl : len ≤ 400) (hi : i < len) (h : post (nI (bhd (gI cm 3) len i)) cm) : w_X10_behindRun post (nI i) cm := by
  unfold w_X10_behindRun
  unfold bhd at h
  have hv : vp_in (nI i) 400 := vp_in_nI (by omega) (by omega)
  rw [nI_clamp (by omega), nI_1]
  refine ⟨hv, c_isL ?_⟩
  have loopL : ∀ (f v : Nat), v + f = len → post (nI (rE isL (gI cm 3) len f v)) cm → B_X10_behindRun_13 post (f + 1) (nI v) cm := by
    intro f
    induction f with
    | zero =>
      intro v hv hp
      unfold B_X10_behindRun_13 B_X10_behindRun_68
      rw [h5]
      exact ⟨fun _ => hp, fun q => absurd (nI_le (by omega) (by omega)) q⟩
    | succ f ih =>
      intro v hv hp
      unfold B_X10_behindRun_13 B_X10_behindRun_68
      rw [h5]
      unfold rE at hp
      refine ⟨fun q => absurd q (nI_ge (by omega) (by omega)), fun _ => ⟨vp_in_nI (by omega) (by omega), ?_⟩⟩
      rw [nI_clamp (by omega)]
      refine c_isL ⟨fun q => ?_, fun q => ?_⟩
      · rw [if_neg (fun z => by rw [q] at z; exact absurd z.2 (by decide))] at hp
        exact hp
      · rw [if_pos ⟨by omega, by revert q; cases isL (gI cm 3 v) <;> simp⟩] at hp
        rw [nI_1]
        exact ih (v + 1) (by omega) hp
  have loopD : ∀ (f v : Nat), v + f = len → post (nI (rE isD (gI cm 3) len f v)) cm → B_X10_behindRun_45 post (f + 1) (nI v) cm := by
    intro f
    induction f with
    | zero =>
      intro v hv hp
      unfold B_X10_behindRun_45 B_X10_behindRun_68
      rw [h5]
      exact ⟨fun _ => hp, fun q => absurd (nI_le (by omega) (by omega)) q⟩
    | succ f ih =>
      intro v hv hp
      unfold B_X10_behindRun_45 B_X10_behindRun_68
      rw [h5]
      unfold rE at hp
      refine ⟨fun q => absurd q (nI_ge (by omega) (by omega)), fun _ => ⟨vp_in_nI (by omega) (by omega), ?_⟩⟩
      rw [nI_clamp (by omega)]
      refine c_isD ⟨fun q => ?_, fun q => ?_⟩
      · rw [if_neg (fun z => by rw [q] at z; exact absurd z.2 (by decide))] at hp
        exact hp
      · rw [if_pos ⟨by omega, by revert q; cases isD (gI cm 3 v) <;> simp⟩] at hp
        rw [nI_1]
        exact ih (v + 1) (by omega) hp
  refine ⟨fun q => ⟨hv, c_isD ⟨fun q2 => ?_, fun q2 => ⟨_, loopD (len - (i + 1)) (i + 1) (by omega) ?_⟩⟩⟩, fun q => ⟨_, loopL (len - (i + 1)) (i + 1) (by omega) ?_⟩⟩
  · rw [q, q2] at h
    exact h
  · rw [if_neg (by rw [q]; decide), if_pos (by revert q2; cases isD (gI cm 3 i) <;> simp)] at h
    exact h
  · rw [if_pos (by revert q; cases isL (gI cm 3 i) <;> simp)] at h
    exact h
theorem c_val {post : Int32 → CMu → Prop} {i j : Nat} (hi : i ≤ j) (hj : j ≤ 400) (h : post (vlF (gI cm 3) (j - i) i 0) cm) : w_X10_valueOf post (nI i) (nI j) cm := by
  unfold w_X10_valueOf
  have key : ∀ (n i : Nat) (v : Int32), i + n = j → post (vlF (gI cm 3) n i v) cm → B_X10_valueOf_5 post (n + 1) (nI j) v (nI i) cm := by
    intro n
    induction n with
    | zero =>
      intro i v hi hp
      unfold B_X10_valueOf_5
      exact ⟨fun _ => hp, fun q => absurd (nI_le (by omega) (by omega)) q⟩
    | succ n ih =>
      intro i v hi hp
      unfold B_X10_valueOf_5
      refine ⟨fun q => absurd q (nI_ge (by omega) (by omega)), fun _ => ⟨vp_in_nI (by omega) (by omega), ?_⟩⟩
      rw [nI_clamp (by omega), nI_1]
      exact ih (i + 1) _ (by omega) hp
  exact ⟨_, key (j - i) i 0 (by omega) h⟩
theorem sl_len : ∀ a, a < 30 → (Int32.ofNat (slen.getD a 0)) >>> (0 &&& 31) = nI (slen.getD a 0) := by decide +kernel
theorem sl_max : ∀ a, a < 30 → slen.getD a 0 ≤ 6 := by decide +kernel
def chE (a t : Nat) : Int32 := UInt32.toInt32 (Int32.toUInt32 (((sbyt.getD a []).getD t 0) &&& 255) % 65536)
theorem sl_chr : ∀ a, a < 30 → ∀ t, t < slen.getD a 0 → chE a t = (sbyt.getD a []).getD t 0 := by decide +kernel
theorem sl_nar : ∀ a, a < 30 → ∀ t, t < slen.getD a 0 → narrow .char (.int (chE a t)) = .int (chE a t) := by decide +kernel
theorem c_strlen {post : Int32 → CMu → Prop} {a : Nat} (ha : a < 30) (h : post (nI (slen.getD a 0)) cm) : w_J0_length_8abf5 post a cm := by
  unfold w_J0_length_8abf5 w_J0_coder_7d493
  refine ⟨rfl, ?_⟩
  rw [sl_len a ha]
  exact h
theorem c_charAt {post : Int32 → CMu → Prop} {a t : Nat} (ha : a < 30) (ht : t < slen.getD a 0) (h : post ((sbyt.getD a []).getD t 0) cm) : w_J0_charAt_5068e post a (nI t) cm := by
  have hm := sl_max a ha
  unfold w_J0_charAt_5068e w_J0_isLatin1_aae02 w_J1_charAt_3b067 w_J0_checkIndex_df160 w_J3_checkIndex_8e157
  refine ⟨rfl, fun nv1 _ => ⟨fun q => absurd q (nI_pos (by omega)), fun _ => ⟨fun _ => ?_, fun q => absurd (show nI t < nI (slen.getD a 0) from nI_lt ht (by omega)) q⟩⟩⟩
  rw [nI_clamp (by omega)]
  refine ⟨vp_in_nI ht (by omega), sl_nar a ha t ht, sl_nar a ha t ht, ?_⟩
  have := sl_chr a ha t ht
  unfold chE at this
  rw [this]
  exact h
theorem wAt_val {w : Nat} (h : w < 31) : (wAt w).val = w + 1 := by
  unfold wAt
  show (w + 1) % 32 = w + 1
  omega
theorem wAt_ne {w : Nat} (h : w < 31) : wAt w ≠ 0 := by
  intro e
  have := congrArg Fin.val e
  rw [wAt_val h] at this
  exact absurd this (by simp)
theorem c_spelled {post : Bool → CMu → Prop} {w i j : Nat} (hw : w < 31) (hi : i < j) (hj : j ≤ 400) (h : post (spl (gI cm 3) w i j) cm) : w_X11_isSpelled post (wAt w) (nI i) (nI j) cm := by
  unfold w_X11_isSpelled B_X11_isSpelled_23
  rw [wAt_val hw, Nat.add_sub_cancel, fa_lit 400, nI_sub (by omega)]
  have hm := sl_max (wsp w) (wsp_lt _)
  refine ⟨fun q => absurd q (nI_pos (by omega)), fun _ => ⟨fun q => absurd q (nI_nlt (by omega) (by omega)), fun _ => ⟨wAt_ne hw, c_strlen (wsp_lt _) ⟨fun q => ?_, fun q => ?_⟩⟩⟩⟩
  · rw [nI_eq (by omega) (by omega)] at q
    have key : ∀ (n t : Nat), t + n = slen.getD (wsp w) 0 → (∀ u, u < t → gI cm 3 (i + u) = (sbyt.getD (wsp w) []).getD u 0) → B_X11_isSpelled_28 post (n + 1) (wAt w) (nI i) (nI t) cm := by
      intro n
      induction n with
      | zero =>
        intro t ht hu
        unfold B_X11_isSpelled_28
        rw [wAt_val hw, Nat.add_sub_cancel]
        refine ⟨wAt_ne hw, c_strlen (wsp_lt _) ⟨fun _ => ?_, fun q2 => absurd (nI_le (by omega) (by omega)) q2⟩⟩
        unfold spl at h
        rw [decide_eq_true ⟨q, fun u hu2 => hu u (by omega)⟩] at h
        exact h
      | succ n ih =>
        intro t ht hu
        unfold B_X11_isSpelled_28
        rw [wAt_val hw, Nat.add_sub_cancel, nI_add, nI_clamp (by omega)]
        refine ⟨wAt_ne hw, c_strlen (wsp_lt _) ⟨fun q2 => absurd q2 (nI_ge (by omega) (by omega)), fun _ => ⟨vp_in_nI (by omega) (by omega), wAt_ne hw, c_charAt (wsp_lt _) (by omega) ⟨fun q3 => ?_, fun q3 => ?_⟩⟩⟩⟩
        · rw [nI_1]
          refine ih (t + 1) (by omega) (fun u hu2 => ?_)
          by_cases e : u = t
          · rw [e]; exact q3
          · exact hu u (by omega)
        · unfold spl at h
          rw [decide_eq_false (fun z => q3 (z.2 t (by omega)))] at h
          exact h
    exact ⟨_, key (slen.getD (wsp w) 0) 0 (by omega) (fun u hu => by omega)⟩
  · rw [nI_eq (by omega) (by omega)] at q
    unfold spl at h
    rw [decide_eq_false (fun z => q z.1)] at h
    exact h
theorem c_of {post : Fin 32 → CMu → Prop} {i j : Nat} (hi : i < j) (hj : j ≤ 400) (h : post (wOf (gI cm 3) i j 31 0) cm) : w_X11_of post (nI i) (nI j) cm := by
  unfold w_X11_of
  have key : ∀ (f w : Nat), w + f = 31 → post (wOf (gI cm 3) i j f w) cm → B_X11_of_2 post (f + 1) (nI i) (nI j) (nI w) cm := by
    intro f
    induction f with
    | zero =>
      intro w hw hp
      unfold B_X11_of_2
      rw [fa_lit 31]
      exact ⟨fun _ => hp, fun q => absurd (nI_le (by omega) (by omega)) q⟩
    | succ f ih =>
      intro w hw hp
      unfold B_X11_of_2
      unfold wOf at hp
      rw [fa_lit 31, nI_clamp (by omega)]
      have hv : vp_in (nI w) 31 := vp_in_nI (by omega) (by omega)
      refine ⟨fun q => absurd q (nI_ge (by omega) (by omega)), fun _ => ⟨hv, wAt_ne (by omega), c_spelled (by omega) hi hj ⟨fun q => ?_, fun q => ⟨hv, ?_⟩⟩⟩⟩
      · rw [if_neg (by rw [q]; decide)] at hp
        rw [nI_1]
        exact ih (w + 1) (by omega) hp
      · rw [if_pos (by revert q; cases spl (gI cm 3) w i j <;> simp)] at hp
        exact hp
  exact ⟨_, key 31 0 rfl h⟩
theorem wOf_ne {b : Nat → Int32} {i j : Nat} : ∀ f w, w + f = 31 → wOf b i j f w ≠ 0 := by
  intro f
  induction f with
  | zero => intro w _; unfold wOf; decide
  | succ f ih =>
    intro w hw
    unfold wOf
    split
    · exact wAt_ne (by omega)
    · exact ih (w + 1) (by omega)
end CB
