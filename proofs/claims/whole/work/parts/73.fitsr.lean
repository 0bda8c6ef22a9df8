/-! ===== fits: the reference's ===== -/
theorem bsF_none {A : Nat → Int32} {m : Int32} : ∀ {j : Nat}, bsF A m j = none → ∀ k, k < j → bt m k = true := by
  intro j
  induction j with
  | zero => intro _ k hk; omega
  | succ j ih =>
    intro h k hk
    unfold bsF at h
    by_cases q : bt m j = true
    · rw [if_pos q] at h
      by_cases e : k = j
      · rw [e]; exact q
      · exact ih h k (by omega)
    · rw [if_neg q] at h
      cases e : bsF A m j with
      | none =>
        rw [e] at h
        exact absurd h (by simp)
      | some b =>
        rw [e] at h
        simp only [] at h
        split at h
        · exact absurd h (by simp)
        · exact absurd h (by simp)
theorem bsF_free {A : Nat → Int32} {m : Int32} : ∀ {j b : Nat}, bsF A m j = some b → bt m b = false := by
  intro j
  induction j with
  | zero => intro b h; exact absurd h (by unfold bsF; simp)
  | succ j ih =>
    intro b h
    unfold bsF at h
    by_cases q : bt m j = true
    · rw [if_pos q] at h
      exact ih h
    · rw [if_neg q] at h
      have qf : bt m j = false := by
        cases e : bt m j
        · rfl
        · exact absurd e q
      cases e : bsF A m j with
      | none =>
        rw [e] at h
        rw [← Option.some.inj h]
        exact qf
      | some b' =>
        rw [e] at h
        simp only [] at h
        split at h
        · rw [← Option.some.inj h]
          exact ih e
        · rw [← Option.some.inj h]
          exact qf
theorem bt_set {m : Int32} {b t : Nat} (hb : b < 32) (ht : t < 32) : bt (m ||| ((1 : Int32) <<< (nI b &&& 31))) t = (bt m t || decide (t = b)) := bit_set m hb ht
theorem cntP_add {p q : Nat → Bool} {i : Nat} : ∀ {n : Nat}, i < n → (∀ j, j ≠ i → q j = p j) → p i = false → q i = true → cntP q n = cntP p n + 1 := by
  intro n hi h1 h2 h3
  have := cntP_set (p := p) (q := q) hi h1
  rw [h2, h3] at this
  simpa using this
theorem cntP_all {p : Nat → Bool} : ∀ {n : Nat}, (∀ k, k < n → p k = true) → cntP p n = n := by
  intro n
  induction n with
  | zero => intro _; rfl
  | succ n ih =>
    intro h
    rw [cntP_S, ih (fun k hk => h k (by omega)), h n (by omega)]
    rfl
def RS (mm0 mm : MM) (l : Nat) (pre : NL) (cnt : Nat) (fs : NL) : Prop :=
  (∀ b, b ≠ 0 → b ≠ 7 → b ≠ 8 → mm b = mm0 b) ∧ (∀ i, i ≠ 21 → mm 0 i = mm0 0 i) ∧ mm 0 21 = nI cnt ∧ (∀ k, k < pre.length → mm 7 k = nI (gD pre k)) ∧ (0 < cnt → ∀ i, i < l → mm 8 i = nI (gD fs i))
section FR
variable {mm0 : MM} {td : Nat → Nat} {l n : Nat} {M : MR}
theorem r_best {mm : MM} {a : NL} {L : Int32} (hl : l ≤ 6) (hM : mm 1 = M) (hn : M 1 = nI n) (hn11 : n ≤ 11) (hL : L = lenS M 0 (n + 1)) (h20 : mm 0 20 = nI l) (h7 : ∀ k, k < l → mm 7 k = nI (gD a k)) (h6 : ∀ k, k < l → mm 6 k = nI (td k)) (ha9 : ∀ k, k < l → gD a k ≤ 9) (ht9 : ∀ k, k < l → td k ≤ 9) {m : Int32} {v : Nat} (hv : v < l) {post : Bool → MM → Prop} {k4 : Int32 → Int32 → MM → Prop}
    (h0 : bsF (atF L (M 5) a) m l ≠ none) (h1 : ∀ b, bsF (atF L (M 5) a) m l = some b → gD a b = td v → k4 (m ||| ((1 : Int32) <<< (nI b &&& 31))) (nI (v + 1)) mm) (h2 : ∀ b, bsF (atF L (M 5) a) m l = some b → ¬ gD a b = td v → post false mm) :
    ∀ (g j : Nat) (w : Int32), j + g = l → (∀ b, bsF (atF L (M 5) a) m j = some b → w = atF L (M 5) a b) → B_X13_comesSo_20 post k4 (g + 1) m (nI v) (oN (bsF (atF L (M 5) a) m j)) w (nI j) mm := by
  intro g
  induction g with
  | zero =>
    intro j w hj hw
    have e : j = l := by omega
    subst e
    unfold B_X13_comesSo_20
    rw [h20]
    refine ⟨fun _ => ?_, fun z => absurd (nI_le (Nat.le_refl _) (by omega)) z⟩
    cases e : bsF (atF L (M 5) a) m j with
    | none => exact absurd e h0
    | some b =>
      have hb := bsF_lt e
      show (vp_in (nI b) 6) ∧ (vp_in (nI v) 6) ∧ (mm 7 (Int32.toNatClampNeg (nI b)) = mm 6 (Int32.toNatClampNeg (nI v)) → k4 (m ||| (1 <<< (nI b &&& 31))) (nI v + 1) mm) ∧ (¬ mm 7 (Int32.toNatClampNeg (nI b)) = mm 6 (Int32.toNatClampNeg (nI v)) → post false mm)
      rw [nI_clamp (by omega), nI_clamp (by omega), h7 b hb, h6 v hv, nI_eq (by have := ha9 b hb; omega) (by have := ht9 v hv; omega), nI_1]
      exact ⟨vp_in_nI (by omega) (by omega), vp_in_nI (by omega) (by omega), fun z => h1 b e z, fun z => h2 b e z⟩
  | succ g ih =>
    intro j w hj hw
    have ih' := ih (j + 1)
    have es : bsF (atF L (M 5) a) m (j + 1) = if bt m j then bsF (atF L (M 5) a) m j else match bsF (atF L (M 5) a) m j with | none => some j | some b => if atF L (M 5) a b ≤ atF L (M 5) a j then some b else some j := rfl
    rw [es, ← nI_1] at ih'
    unfold B_X13_comesSo_20 B_X13_comesSo_85 B_X13_comesSo_92
    rw [h20, cl_1, cl_5, hM, hn, show nI n + 1 = nI (n + 1) by rw [nI_1], nI_clamp (show j < 2 ^ 31 by omega), h7 j (by omega)]
    refine ⟨fun z => absurd z (nI_ge (by omega) (by omega)), fun _ => ⟨vp_in_nI (by omega) (by omega), ?_⟩⟩
    refine r_way (M := M) hM.symm (a := 0) (by omega) (Nat.zero_le _) ?_
    have eA : nI j + (lenS M 0 (n + 1 - 0) * ((nI (gD a j) + 10) - M 5)) = atF L (M 5) a j := by
      rw [hL]
      rfl
    rw [eA, bit_sh m (by omega)]
    refine ⟨fun z => ?_, fun z => ?_⟩
    · have z' : bt m j = true := z
      rw [if_pos z'] at ih'
      exact ih' w (by omega) hw
    · have z' : ¬ bt m j = true := z
      rw [if_neg z'] at ih'
      cases e : bsF (atF L (M 5) a) m j with
      | none =>
        rw [e] at ih'
        exact ⟨fun _ => ih' _ (by omega) (fun b hb => by rw [← Option.some.inj hb]), fun y => absurd rfl y⟩
      | some b =>
        have hb := bsF_lt e
        have hwb := hw b e
        rw [e] at ih'
        show (nI b = -1 → _) ∧ (¬ nI b = -1 → (atF L (M 5) a j < w → B_X13_comesSo_20 post k4 (g + 1) m (nI v) (nI j) (atF L (M 5) a j) (nI j + 1) mm) ∧ (¬ atF L (M 5) a j < w → B_X13_comesSo_20 post k4 (g + 1) m (nI v) (nI b) w (nI j + 1) mm))
        rw [hwb]
        rw [hwb] at hw
        refine ⟨fun y => absurd y (nI_m1 (by omega)), fun _ => ⟨fun y => ?_, fun y => ?_⟩⟩
        · have y2 : ¬ atF L (M 5) a b ≤ atF L (M 5) a j := fun q => le_lt.mp q y
          simp only [if_neg y2] at ih'
          exact ih' _ (by omega) (fun b hb => by rw [← Option.some.inj hb])
        · have y2 : atF L (M 5) a b ≤ atF L (M 5) a j := le_lt.mpr y
          simp only [if_pos y2] at ih'
          exact ih' _ (by omega) (fun b' hb' => by rw [← Option.some.inj hb'])
theorem r_told {mm : MM} {a : NL} {L : Int32} (hl : l ≤ 6) (hM : mm 1 = M) (hn : M 1 = nI n) (hn11 : n ≤ 11) (hL : L = lenS M 0 (n + 1)) (h20 : mm 0 20 = nI l) (h7 : ∀ k, k < l → mm 7 k = nI (gD a k)) (h6 : ∀ k, k < l → mm 6 k = nI (td k)) (ha9 : ∀ k, k < l → gD a k ≤ 9) (ht9 : ∀ k, k < l → td k ≤ 9) {post : Bool → MM → Prop} (hp : post (PFT L (M 5) td l a) mm) : w_X13_comesSo post mm := by
  unfold w_X13_comesSo
  have steps : ∀ (f v : Nat) (m : Int32), v + f = l → cntP (bt m) l = v → (csF (atF L (M 5) a) td a l f v m = PFT L (M 5) td l a) → B_X13_comesSo_4 post (f + 1) m (nI v) mm := by
    intro f
    induction f with
    | zero =>
      intro v m hv _ hc
      have e : v = l := by omega
      subst e
      unfold B_X13_comesSo_4
      rw [h20]
      refine ⟨fun _ => ?_, fun z => absurd (nI_le (Nat.le_refl _) (by omega)) z⟩
      rw [← hc] at hp
      exact hp
    | succ f ih =>
      intro v m hv hcnt hc
      unfold B_X13_comesSo_4
      rw [h20]
      refine ⟨fun z => absurd z (nI_ge (by omega) (by omega)), fun _ => ⟨l + 1, ?_⟩⟩
      have ec : csF (atF L (M 5) a) td a l (f + 1) v m = match bsF (atF L (M 5) a) m l with | none => false | some b => if gD a b = td v then csF (atF L (M 5) a) td a l f (v + 1) (m ||| ((1 : Int32) <<< (nI b &&& 31))) else false := rfl
      rw [ec] at hc
      refine r_best hl hM hn hn11 hL h20 h7 h6 ha9 ht9 (by omega) (fun e => ?_) (fun b e y => ?_) (fun b e y => ?_) l 0 0 (by omega) (fun b hb => absurd hb (by unfold bsF; simp))
      · have := cntP_all (bsF_none e)
        omega
      · rw [e] at hc
        simp only [if_pos y] at hc
        refine ih (v + 1) _ (by omega) ?_ hc
        have hb := bsF_lt e
        have hcong : cntP (bt (m ||| ((1 : Int32) <<< (nI b &&& 31)))) l = cntP (fun t => bt m t || decide (t = b)) l := cntP_cong (fun t ht => bt_set (by omega) (by omega))
        rw [hcong, cntP_add (p := bt m) (i := b) hb (fun j hj => by rw [decide_eq_false hj, Bool.or_false]) (bsF_free e) (by simp), hcnt]
      · rw [e] at hc
        simp only [if_neg y] at hc
        rw [← hc] at hp
        exact hp
  refine ⟨l + 1, steps l 0 0 (by omega) ?_ rfl⟩
  have : cntP (bt 0) l = cntP (fun _ => false) l := cntP_cong (fun t _ => b_0 t)
  rw [this]
  have z : ∀ k, cntP (fun _ => false) k = 0 := by
    intro k
    induction k with
    | zero => rfl
    | succ k ih => rw [cntP_S, ih]; rfl
  exact z l
def cM (td : Nat → Nat) (l : Nat) (m : Int32) (w : Nat) : Nat := cntP (fun k => decide (td k = w) && !bt m k) l
theorem cM_set {m : Int32} {i : Nat} (hl : l ≤ 6) (hi : i < l) (hm : bt m i = false) : cM td l (m ||| ((1 : Int32) <<< (nI i &&& 31))) = dcr (cM td l m) (td i) := by
  funext w
  have hcong : cM td l (m ||| ((1 : Int32) <<< (nI i &&& 31))) w = cntP (fun k => decide (td k = w) && !(bt m k || decide (k = i))) l := cntP_cong (fun t ht => by rw [bt_set (by omega) (by omega)])
  rw [hcong]
  unfold dcr
  by_cases q : w = td i
  · rw [if_pos q]
    have := cntP_add (p := fun k => decide (td k = w) && !(bt m k || decide (k = i))) (q := fun k => decide (td k = w) && !bt m k) (i := i) hi (fun j hj => by simp [hj]) (by simp) (by simp [hm, q])
    unfold cM
    omega
  · rw [if_neg q]
    refine cntP_cong (fun t ht => ?_)
    by_cases e : t = i
    · subst e
      rw [decide_eq_false (fun z => q z.symm), Bool.false_and, Bool.false_and]
    · rw [decide_eq_false e, Bool.or_false]
theorem fold_le {P : NL → Bool} : ∀ (L : List NL) (st : Nat × NL), (L.foldl (upT P) st).1 ≤ st.1 + L.length := by
  intro L
  induction L with
  | nil => intro st; exact Nat.le_refl _
  | cons a L ih =>
    intro st
    have := ih (upT P st a)
    have h2 : (upT P st a).1 ≤ st.1 + 1 := by
      unfold upT
      split
      · exact Nat.le_refl _
      · omega
    show (L.foldl (upT P) (upT P st a)).1 ≤ st.1 + (L.length + 1)
    omega
/-- the row of the first kept -/
theorem r_keep {mm : MM} {g0 : MM → Prop} {rr : (MM → Prop) → Int32 → Int32 → MM → Prop} (hl : l ≤ 6) (h20 : mm 0 20 = nI l) : ∀ (g j : Nat) (mm1 : MM), j + g = l → (∀ b, b ≠ 8 → mm1 b = mm b) → (∀ k, k < j → mm1 8 k = mm 7 k) → (∀ mm2, (∀ b, b ≠ 8 → mm2 b = mm b) → (∀ k, k < l → mm2 8 k = mm 7 k) → g0 mm2) → B_X13_tries_36 rr g0 (g + 1) (nI j) mm1 := by
  intro g
  induction g with
  | zero =>
    intro j mm1 hj ho h8 hp
    have e : j = l := by omega
    subst e
    unfold B_X13_tries_36 B_X13_tries_62
    rw [ho 0 (by omega), h20]
    exact ⟨fun _ => hp mm1 ho h8, fun z => absurd (nI_le (Nat.le_refl _) (by omega)) z⟩
  | succ g ih =>
    intro j mm1 hj ho h8 hp
    unfold B_X13_tries_36
    rw [ho 0 (by omega), h20, nI_clamp (by omega), nI_1]
    refine ⟨fun z => absurd z (nI_ge (by omega) (by omega)), fun _ => ⟨vp_in_nI (by omega) (by omega), vp_in_nI (by omega) (by omega), ?_⟩⟩
    refine ih (j + 1) _ (by omega) (fun b hb => by rw [up2_ne hb, ho b hb]) (fun k hk => ?_) hp
    by_cases q : k = j
    · subst q
      rw [up2_hit, ho 7 (by omega)]
    · rw [up2_miss (by omega)]
      exact h8 k (by omega)
theorem r_tries (hl : l ≤ 6) (hM : mm0 1 = M) (hn : M 1 = nI n) (hn11 : n ≤ 11) {L : Int32} (hL : L = lenS M 0 (n + 1)) (h20 : mm0 0 20 = nI l) (h6 : ∀ k, k < l → mm0 6 k = nI (td k)) (ht9 : ∀ k, k < l → 1 ≤ td k ∧ td k ≤ 9) :
    ∀ (lr d : Nat) (pre : NL) (m : Int32) (mm : MM) (st : Nat × NL) (post : MM → Prop), pre.length + lr = l → lr < d → (∀ z ∈ pre, z ≤ 9) → RS mm0 mm l pre st.1 st.2 → OKc (cM td l m) lr → st.1 + (enF lr (cM td l m)).length ≤ 1000 →
    (∀ mm', RS mm0 mm' l pre (((enF lr (cM td l m)).map (fun e => pre ++ e)).foldl (upT (PFT L (M 5) td l)) st).1 (((enF lr (cM td l m)).map (fun e => pre ++ e)).foldl (upT (PFT L (M 5) td l)) st).2 → post mm') → WG_tries d post (nI pre.length) m mm := by
  intro lr
  induction lr with
  | zero =>
    intro d pre m mm st post hlen hd hp9 h hok hbd hp
    obtain ⟨d, rfl⟩ : ∃ d', d = d' + 1 := ⟨d - 1, by omega⟩
    have hpl : pre.length = l := by omega
    obtain ⟨g1, g2, g3, g4, g5⟩ := id h
    have m20 : mm 0 20 = nI l := by rw [g2 20 (by omega)]; exact h20
    have ha9 : ∀ k, k < l → gD pre k ≤ 9 := fun k hk => hp9 _ (gD_mem (by omega))
    have hp' : ∀ mm', RS mm0 mm' l pre (upT (PFT L (M 5) td l) st pre).1 (upT (PFT L (M 5) td l) st pre).2 → post mm' := by
      intro mm' h'
      refine hp mm' ?_
      show RS mm0 mm' l pre (upT (PFT L (M 5) td l) st (pre ++ [])).1 (upT (PFT L (M 5) td l) st (pre ++ [])).2
      rw [List.append_nil]
      exact h'
    show wb_X13_tries (WG_tries d) post (nI pre.length) m mm
    unfold wb_X13_tries
    rw [m20, hpl]
    refine ⟨fun z => absurd rfl z, fun _ => ?_⟩
    refine r_told (M := M) (a := pre) hl (by rw [g1 1 (by omega) (by omega) (by omega)]; exact hM) hn hn11 hL m20 (fun k hk => g4 k (by omega)) (fun k hk => by rw [g1 6 (by omega) (by omega) (by omega)]; exact h6 k hk) ha9 (fun k hk => (ht9 k hk).2) ⟨fun z => ?_, fun z => ?_⟩
    · have zt : PFT L (M 5) td l pre = true := by
        cases e : PFT L (M 5) td l pre
        · exact absurd e z
        · rfl
      have eu : upT (PFT L (M 5) td l) st pre = (st.1 + 1, if st.1 = 0 then pre else st.2) := by
        unfold upT
        rw [if_pos zt]
      rw [eu] at hp'
      have hb1 : st.1 + 1 ≤ 1000 := by
        have : (enF 0 (cM td l m)).length = 1 := rfl
        omega
      have e21 : up2 mm 0 21 (mm 0 21 + 1) 0 21 = nI (st.1 + 1) := by
        rw [up2_hit, g3, nI_1]
      rw [e21, fa_lit 1, nI_eq (by omega) (by omega)]
      refine ⟨fun y => ?_, fun y => ⟨l + 1, ?_⟩⟩
      · unfold B_X13_tries_62
        rw [if_neg (by omega)] at hp'
        refine hp' _ ⟨fun b h0 h7 h8 => by rw [up2_ne h0]; exact g1 b h0 h7 h8, fun i hi => by rw [up2_miss (by omega)]; exact g2 i hi, e21, fun k hk => by rw [up2_ne (by omega)]; exact g4 k hk, fun _ i hi => by rw [up2_ne (by omega)]; exact g5 (by omega) i hi⟩
      · rw [if_pos (by omega)] at hp'
        refine r_keep (mm := up2 mm 0 21 (mm 0 21 + 1)) hl (by rw [up2_miss (by omega)]; exact m20) l 0 _ (by omega) (fun _ _ => rfl) (fun k hk => absurd hk (by omega)) (fun mm2 ho h8 => ?_)
        refine hp' mm2 ⟨fun b h0 h7 h8 => by rw [ho b h8, up2_ne h0]; exact g1 b h0 h7 h8, fun i hi => by rw [ho 0 (by omega), up2_miss (by omega)]; exact g2 i hi, by rw [ho 0 (by omega)]; exact e21, fun k hk => by rw [ho 7 (by omega), up2_ne (by omega)]; exact g4 k hk, fun _ i hi => ?_⟩
        rw [h8 i hi, up2_ne (by omega)]
        exact g4 i (by omega)
    · refine hp' mm ?_
      have eu : upT (PFT L (M 5) td l) st pre = st := by
        unfold upT
        rw [if_neg (by rw [z]; decide)]
      rw [eu]
      exact h
  | succ lr ih =>
    intro d pre m mm st post hlen hd hp9 h hok hbd hp
    obtain ⟨d, rfl⟩ : ∃ d', d = d' + 1 := ⟨d - 1, by omega⟩
    have m20 : ∀ {mm : MM} {pre : NL} {c : Nat} {fs : NL}, RS mm0 mm l pre c fs → mm 0 20 = nI l := fun h => by rw [h.2.1 20 (by omega)]; exact h20
    have m6 : ∀ {mm : MM} {pre : NL} {c : Nat} {fs : NL}, RS mm0 mm l pre c fs → ∀ k, k < l → mm 6 k = nI (td k) := fun h k hk => by rw [h.1 6 (by omega) (by omega) (by omega)]; exact h6 k hk
    show wb_X13_tries (WG_tries d) post (nI pre.length) m mm
    unfold wb_X13_tries
    rw [m20 h]
    refine ⟨fun _ => ⟨10, ?_⟩, fun z => ?_⟩
    · have key : ∀ (f w : Nat) (st : Nat × NL) (mm : MM), w + f = 10 → 1 ≤ w → RS mm0 mm l pre st.1 st.2 → st.1 + (blF (enF lr) (cM td l m) f w).length ≤ 1000 →
          (∀ mm', RS mm0 mm' l pre (((blF (enF lr) (cM td l m) f w).map (fun e => pre ++ e)).foldl (upT (PFT L (M 5) td l)) st).1 (((blF (enF lr) (cM td l m) f w).map (fun e => pre ++ e)).foldl (upT (PFT L (M 5) td l)) st).2 → post mm') → B_X13_tries_65 (WG_tries d) post (f + 1) (nI pre.length) m (nI w) mm := by
        intro f
        induction f with
        | zero =>
          intro w st mm hw hw1 h hbd hp
          have e : w = 10 := by omega
          subst e
          unfold B_X13_tries_65
          exact ⟨fun _ => hp mm h, fun z => absurd (by decide) z⟩
        | succ f ihf =>
          intro w st mm hw hw1 h hbd hp
          unfold B_X13_tries_65
          rw [fa_lit 10, nI_leI (by omega) (by omega)]
          refine ⟨fun z => absurd z (by omega), fun _ => ⟨l + 1, ?_⟩⟩
          have eb : blF (enF lr) (cM td l m) (f + 1) w = (if 0 < cM td l m w then (enF lr (dcr (cM td l m) w)).map (fun e => w :: e) else []) ++ blF (enF lr) (cM td l m) f (w + 1) := rfl
          have find : ∀ (g i : Nat), i + g = l → (∀ k, k < i → ¬ (td k = w ∧ bt m k = false)) → B_X13_tries_74 (WG_tries d) post (B_X13_tries_65 (WG_tries d) post (f + 1)) (g + 1) (nI pre.length) m (nI w) (nI i) mm := by
            intro g
            induction g with
            | zero =>
              intro i hi hno
              have e : i = l := by omega
              subst e
              unfold B_X13_tries_74 B_X13_tries_110 B_X13_tries_142
              rw [m20 h, nI_1]
              refine ⟨fun _ => ⟨fun z => absurd rfl z, fun _ => ?_⟩, fun z => absurd (nI_le (Nat.le_refl _) (by omega)) z⟩
              have c0 : cM td i m w = 0 := by
                unfold cM
                have : cntP (fun k => decide (td k = w) && !bt m k) i = cntP (fun _ => false) i := cntP_cong (fun k hk => by
                  have := hno k hk
                  cases e : bt m k with
                  | true => simp
                  | false =>
                    rw [decide_eq_false (fun z => this ⟨z, e⟩)]
                    rfl)
                rw [this]
                have z : ∀ k, cntP (fun _ => false) k = 0 := by
                  intro k
                  induction k with
                  | zero => rfl
                  | succ k ih => rw [cntP_S, ih]; rfl
                exact z i
              rw [eb, c0, if_neg (by omega), List.nil_append] at hp hbd
              exact ihf (w + 1) st mm (by omega) (by omega) h hbd hp
            | succ g ihg =>
              intro i hi hno
              unfold B_X13_tries_74 B_X13_tries_104
              rw [m20 h, nI_clamp (by omega), m6 h i (by omega), nI_eq (by have := ht9 i (by omega); omega) (by omega), bit_sh m (by omega), nI_1]
              refine ⟨fun z => absurd z (nI_ge (by omega) (by omega)), fun _ => ⟨vp_in_nI (by omega) (by omega), fun z => ?_, fun z => ⟨fun z2 => ?_, fun z2 => ?_⟩⟩⟩
              · refine ihg (i + 1) (by omega) (fun k hk => ?_)
                by_cases q : k = i
                · subst q
                  exact fun y => z y.1
                · exact hno k (by omega)
              · have z3 : bt m i = false := by
                  cases e : bt m i
                  · rfl
                  · exact absurd e z2
                unfold B_X13_tries_110 B_X13_tries_142
                have hne : ¬ nI i = mm 0 20 := by
                  rw [m20 h, nI_eq (by omega) (by omega)]
                  omega
                refine ⟨fun _ => ⟨vp_in_nI (by omega) (by omega), ?_⟩, fun y => absurd y hne⟩
                rw [nI_clamp (by omega), nI_1]
                have cpos : 0 < cM td l m w := by
                  unfold cM
                  exact cntP_pos (i := i) (by omega) (by rw [z3, decide_eq_true z]; rfl)
                have ec : cM td l (m ||| ((1 : Int32) <<< (nI i &&& 31))) = dcr (cM td l m) w := by
                  rw [cM_set hl (by omega) z3, z]
                have el : (pre ++ [w]).length = pre.length + 1 := by simp
                rw [eb, if_pos cpos] at hp hbd
                rw [List.length_append, List.length_map] at hbd
                rw [show nI pre.length + 1 = nI (pre.length + 1) by rw [nI_1], ← el]
                refine ih d (pre ++ [w]) _ _ st _ (by rw [el]; omega) (by omega) (fun y hy => ?_) ?_ (by rw [ec]; exact (OKc_dcr hok cpos).1) (by rw [ec]; omega) (fun mm' h' => ?_)
                · rcases List.mem_append.mp hy with e | e
                  · exact hp9 y e
                  · rw [List.mem_singleton.mp e]
                    omega
                · obtain ⟨g1, g2, g3, g4, g5⟩ := h
                  refine ⟨fun b h0 h7 h8 => by rw [up2_ne h7]; exact g1 b h0 h7 h8, fun i hi => by rw [up2_ne (by omega)]; exact g2 i hi, by rw [up2_ne (by omega)]; exact g3, fun k hk => ?_, fun y i hi => by rw [up2_ne (by omega)]; exact g5 y i hi⟩
                  rw [el] at hk
                  by_cases q : k = pre.length
                  · subst q
                    rw [up2_hit, gD_at]
                  · rw [up2_miss (by omega), gD_l (by omega)]
                    exact g4 k (by omega)
                · rw [ec] at h'
                  have em : (enF lr (dcr (cM td l m) w)).map (fun e => (pre ++ [w]) ++ e) = ((enF lr (dcr (cM td l m) w)).map (fun e => w :: e)).map (fun e => pre ++ e) := by
                    rw [List.map_map]
                    refine List.map_congr_left (fun e _ => ?_)
                    show (pre ++ [w]) ++ e = pre ++ (w :: e)
                    simp
                  rw [em] at h'
                  rw [List.map_append, List.foldl_append] at hp
                  have hle := fold_le (P := PFT L (M 5) td l) (((enF lr (dcr (cM td l m) w)).map (fun e => w :: e)).map (fun e => pre ++ e)) st
                  rw [List.length_map, List.length_map] at hle
                  refine ihf (w + 1) _ mm' (by omega) (by omega) ?_ (by omega) hp
                  obtain ⟨g1, g2, g3, g4, g5⟩ := h'
                  refine ⟨g1, g2, g3, fun k hk => ?_, g5⟩
                  rw [g4 k (by rw [el]; omega), gD_l hk]
              · refine ihg (i + 1) (by omega) (fun k hk => ?_)
                by_cases q : k = i
                · subst q
                  intro y
                  have z3 : bt m k = true := z2
                  rw [y.2] at z3
                  exact absurd z3 (by decide)
                · exact hno k (by omega)
          exact find l 0 (by omega) (fun k hk => absurd hk (by omega))
      exact key 9 1 st mm (by omega) (by omega) h hbd hp
    · rw [nI_eq (by omega) (by omega)] at z
      omega
end FR
