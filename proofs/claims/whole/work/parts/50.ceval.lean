/-! ===== the class works a question out ===== -/
section FH
variable {cm : CMu} {f : Nat} {M : MR} {T : Nat → Pg} {n c o : Nat}
theorem Fo_h (h : Fo cm f M T n c o) : gI cm f 8 = M 0 ∧ gI cm f 5 = M 1 ∧ gI cm f 6 = M 2 ∧ gI cm f 7 = M 3 ∧ gI cm f 12 = M 4 ∧ gI cm f 9 = M 5 ∧ gI cm f 10 = M 6 ∧ gI cm f 11 = M 7 ∧ gI cm f 13 = M 8 ∧ gI cm (f + 5) 3 = M 9 :=
  ⟨RF_h h.1 0 (by omega) rfl, RF_h h.1 1 (by omega) rfl, RF_h h.1 2 (by omega) rfl, RF_h h.1 3 (by omega) rfl, RF_h h.1 4 (by omega) rfl, RF_h h.1 5 (by omega) rfl, RF_h h.1 6 (by omega) rfl, RF_h h.1 7 (by omega) rfl, RF_h h.1 8 (by omega) rfl, RF_h h.1 9 (by omega) rfl⟩
theorem c_hour {post : Int32 → CMu → Prop} (h4 : gI cm f 12 = M 4) (h : post (hourM M) cm) : w_X4_hour post f cm := by
  unfold w_X4_hour
  rw [h4]
  exact h
theorem c_frostAt {post : Bool → CMu → Prop} (h6 : gI cm f 10 = M 6) (h7 : gI cm f 11 = M 7) (h : post (frostM M) cm) : w_X4_isFrostyAt post f (hourM M) cm := by
  unfold w_X4_isFrostyAt
  rw [h6, h7]
  unfold frostM at h
  generalize hourM M = hh at *
  generalize M 6 = a at *
  generalize M 7 = g at *
  simp only [fa_lt, fa_le] at h ⊢
  refine ⟨fun q => ⟨fun q2 => ?_, fun q2 => ⟨fun q3 => ?_, fun q3 => ?_⟩⟩, fun q => ⟨fun q2 => ?_, fun q2 => ⟨fun q3 => ?_, fun q3 => ?_⟩⟩⟩
  · rw [if_neg (by omega), decide_eq_true (by omega)] at h; exact h
  · rw [if_neg (by omega), decide_eq_false (by omega)] at h; exact h
  · rw [if_neg (by omega), decide_eq_true (by omega)] at h; exact h
  · rw [if_pos (by omega), decide_eq_false (by omega)] at h; exact h
  · rw [if_pos (by omega), decide_eq_false (by omega)] at h; exact h
  · rw [if_pos (by omega), decide_eq_true (by omega)] at h; exact h
theorem c_frost {post : Bool → CMu → Prop} (hF : Fo cm f M T n c o) (h : post (frostM M) cm) : w_X4_hasFrost post f cm := by
  obtain ⟨_, _, _, _, h4, _, h6, h7, _⟩ := Fo_h hF
  unfold w_X4_hasFrost
  exact c_hour h4 (c_frostAt h6 h7 h)
end FH
def swn (w : Fin 32) : Int := Int32.toInt (swm.getD (Int32.toNatClampNeg (wOrd w)) 0)
theorem sw_val : ∀ w : Fin 32, w ≠ 0 → ((swn w < 1 ∨ 6 < swn w) → ¬ (19 ≤ w.val ∧ w.val < 25)) ∧ (swn w = 1 → w = 19) ∧ (swn w = 2 → w = 20) ∧ (swn w = 3 → w = 21) ∧ (swn w = 4 → w = 22) ∧ (swn w = 5 → w = 23) ∧ (swn w = 6 → w = 24) := by decide +kernel
theorem sw_joi : ∀ w : Fin 32, w ≠ 0 → ((swn w < 7 ∨ 10 < swn w) → w ≠ 27 ∧ w ≠ 26 ∧ w ≠ 25 ∧ w ≠ 28) ∧ (swn w = 7 → w = 27) ∧ (swn w = 8 → w = 26) ∧ (swn w = 9 → w = 25) ∧ (swn w = 10 → w = 28) := by decide +kernel
theorem wOrd_in : ∀ w : Fin 32, w ≠ 0 → vp_in (wOrd w) 31 := by
  intro w hw
  unfold wOrd
  have := w.isLt
  have hv : w.val ≠ 0 := fun e => hw (Fin.ext e)
  exact vp_in_nI (by omega) (by omega)
section CE
variable {cm : CMu} {f : Nat} {M : MR} {T : Nat → Pg} {n c o : Nat}
theorem c_join {post : Int32 → CMu → Prop} {w : Fin 32} (hw : w ≠ 0) {x y : Int32} (h : post (joi w x y) cm) : w_X3_join post w x y cm := by
  obtain ⟨k0, k7, k8, k9, k10⟩ := sw_joi w hw
  unfold w_X3_join
  refine ⟨hw, wOrd_in w hw, fun q => ?_, fun q => ?_, fun q => ?_, fun q => ?_, fun q => ?_⟩
  · obtain ⟨a, b, d, e⟩ := k0 q
    unfold joi at h
    rw [if_neg a, if_neg b, if_neg d, if_neg e] at h
    refine ⟨fun z => ?_, fun z => ?_⟩
    · rw [if_neg (by rw [fa_lt]; rw [fa_le] at z; omega)] at h
      exact h
    · rw [if_pos (by rw [fa_lt]; rw [fa_le] at z; omega)] at h
      exact h
  · have := k7 q
    subst this
    exact h
  · have := k8 q
    subst this
    exact h
  · have := k9 q
    subst this
    exact h
  · have := k10 q
    subst this
    have e : joi 28 x y = if x < y then 1 else 0 := rfl
    rw [e] at h
    refine ⟨fun z => ?_, fun z => ?_⟩
    · rw [if_neg (by rw [fa_lt]; rw [fa_le] at z; omega)] at h
      exact h
    · rw [if_pos (by rw [fa_lt]; rw [fa_le] at z; omega)] at h
      exact h
theorem c_valueOf {post : Int32 → CMu → Prop} (hF : Fo cm f M T n c o) (hn : n ≤ 11) {i h : Nat} (hi : i < c) (hpl : M (331 + 8 * i) = nI h) (h1 : 1 ≤ h) (h2 : h ≤ n) {w : Fin 32} (hw : w ≠ 0) (hp : post (evM M h i w) cm) : w_X3_valueOf post w f (f + 47 + i) cm := by
  obtain ⟨_, _, _, _, g4, g5, g6, g7, _⟩ := Fo_h hF
  obtain ⟨k0, k1, k2, k3, k4, k5, k6⟩ := sw_val w hw
  have ep : gI cm (f + 47 + i) 1 = nI h := by
    rw [RF_c hF.1 hi (by omega), ← hpl]
    congr 1
    omega
  have e3 : gI cm (f + 47 + i) 3 = M (333 + 8 * i) := by
    rw [RF_c hF.1 hi (by omega)]
    congr 1
    omega
  have ec : ∀ w, w < 4 → gI cm (f + 23 + 2 * h) w = M (46 + 4 * h + w) := fun w hw => RF_k hF.1 hn h1 h2 hw
  unfold evM at hp
  unfold w_X3_valueOf
  rw [ep, nI_clamp (by omega), ec 0 (by omega), ec 1 (by omega), ec 2 (by omega), g5, e3]
  refine ⟨vp_in_nI (by omega) (by omega), hw, wOrd_in w hw, fun q => ?_, fun q => ?_, fun q => ?_, fun q => ?_, fun q => ?_, fun q => ?_, fun q => ?_⟩
  · rw [if_neg (k0 q)] at hp
    refine c_hour g4 (c_frostAt g6 g7 ⟨fun z => ?_, fun z => ?_⟩)
    · unfold B_X3_valueOf_102
      rw [z] at hp
      exact hp
    · unfold B_X3_valueOf_102
      have z2 : frostM M = true := by
        cases e : frostM M
        · exact absurd e z
        · rfl
      rw [z2] at hp
      exact hp
  · have := k1 q
    subst this
    exact hp
  · have := k2 q
    subst this
    exact hp
  · have := k3 q
    subst this
    exact hp
  · have := k4 q
    subst this
    exact hp
  · have := k5 q
    subst this
    exact c_hour g4 hp
  · have := k6 q
    subst this
    exact hp
/-! the stack -/
def stk (cm : CMu) (S : MR) : CMu := (fun b j => if b = 10 then S j else cm.1 b j, cm.2)
theorem stk_10 {S : MR} {j : Nat} : gI (stk cm S) 10 j = S j := rfl
theorem stk_o {S : MR} {b j : Nat} (h : b ≠ 10) : gI (stk cm S) b j = gI cm b j := if_neg h
theorem stk_W {S : MR} {b j : Nat} : gW (stk cm S) b j = gW cm b j := rfl
theorem stk_L {S : MR} {b j : Nat} : gL (stk cm S) b j = gL cm b j := rfl
theorem stk_u {S : MR} {j : Nat} {v : Int32} : uI (stk cm S) 10 j v = stk cm (upd S j v) := by
  refine Prod.ext ?_ rfl
  funext b i
  show up2 (stk cm S).1 10 j v b i = if b = 10 then upd S j v i else cm.1 b i
  unfold up2 stk upd
  by_cases q : b = 10
  · subst q
    by_cases q2 : i = j
    · rw [if_pos ⟨rfl, q2⟩, if_pos rfl, if_pos q2]
    · rw [if_neg (fun z => q2 z.2), if_pos rfl, if_neg q2]
      rfl
  · rw [if_neg (fun z => q z.1), if_neg q]
    exact if_neg q
theorem stk_id : stk cm (cm.1 10) = cm := by
  refine Prod.ext ?_ rfl
  funext b i
  show (if b = 10 then cm.1 10 i else cm.1 b i) = cm.1 b i
  by_cases q : b = 10
  · rw [if_pos q, q]
  · rw [if_neg q]
theorem Fo_stk {S : MR} (hf : 11 ≤ f) (hn : n ≤ 11) (hc : c ≤ 60) (ho : o ≤ 60) (h : Fo cm f M T n c o) : Fo (stk cm S) f M T n c o :=
  Fo_fr h hn hc ho (fun b j h1 _ => stk_o (by omega)) (fun b j _ _ => rfl)
def RSt (S : MR) : List Int32 → Prop
  | [] => True
  | a :: st => S st.length = a ∧ RSt S st
theorem RSt_up {S : MR} {j : Nat} {v : Int32} : ∀ {st : List Int32}, st.length ≤ j → RSt S st → RSt (upd S j v) st := by
  intro st
  induction st with
  | nil => intro _ _; trivial
  | cons a st ih =>
    intro h1 h2
    rw [List.length_cons] at h1
    exact ⟨by rw [pk_un (by omega)]; exact h2.1, ih (by omega) h2.2⟩
theorem RSt_push {S : MR} {st : List Int32} {v : Int32} (h : RSt S st) : RSt (upd S st.length v) (v :: st) := ⟨if_pos rfl, RSt_up (Nat.le_refl _) h⟩
/-- what the class's rows of a chip's text hold -/
def WRo (cm : CMu) (N : Nat) (px : List PX1) : Prop := gI cm N 6 = nI px.length ∧ gI cm N 7 = nI (pxS px).length ∧
  (∀ j x, (pxA 0 px)[j]? = some x → gW cm (N + 1) j = x.1 ∧ gI cm (N + 2) j = x.2.1 ∧ gI cm (N + 3) j = nI x.2.2) ∧
  (∀ j x, (pxS px)[j]? = some x → gW cm (N + 4) j = x.1 ∧ gI cm (N + 5) j = x.2 ∧ x.1 ≠ 0)
theorem WRo_fr {cm' : CMu} {N : Nat} {px : List PX1} (h : WRo cm N px) (hI : ∀ b j, N ≤ b → b ≤ N + 5 → gI cm' b j = gI cm b j) (hW : cm'.2.2 = cm.2.2) : WRo cm' N px := by
  have hW2 : ∀ b j, gW cm' b j = gW cm b j := fun b j => by unfold gW; rw [hW]
  obtain ⟨h1, h2, h3, h4⟩ := h
  refine ⟨by rw [hI _ _ (by omega) (by omega)]; exact h1, by rw [hI _ _ (by omega) (by omega)]; exact h2, fun j x hx => ?_, fun j x hx => ?_⟩
  · rw [hW2, hI _ _ (by omega) (by omega), hI _ _ (by omega) (by omega)]
    exact h3 j x hx
  · rw [hW2, hI _ _ (by omega) (by omega)]
    exact h4 j x hx
theorem pxS_app (l1 l2 : List PX1) : pxS (l1 ++ l2) = pxS l1 ++ pxS l2 := by
  induction l1 with
  | nil => rfl
  | cons y r ih =>
    show y.2.2 ++ pxS (r ++ l2) = (y.2.2 ++ pxS r) ++ pxS l2
    rw [ih, List.append_assoc]
theorem pxA_app (l2 : List PX1) : ∀ (l1 : List PX1) (o : Nat), pxA o (l1 ++ l2) = pxA o l1 ++ pxA (o + (pxS l1).length) l2 := by
  intro l1
  induction l1 with
  | nil => intro o; rfl
  | cons y r ih =>
    intro o
    show (y.1, y.2.1, o) :: pxA (o + y.2.2.length) (r ++ l2) = (y.1, y.2.1, o) :: (pxA (o + y.2.2.length) r ++ pxA (o + (y.2.2 ++ pxS r).length) l2)
    rw [ih, List.length_append, Nat.add_assoc]
theorem pxA_at {l1 l2 : List PX1} {x : PX1} : (pxA 0 (l1 ++ x :: l2))[l1.length]? = some (x.1, x.2.1, (pxS l1).length) := by
  rw [pxA_app, List.getElem?_append_right (by rw [pxA_len]; omega), pxA_len, Nat.sub_self, Nat.zero_add]
  rfl
theorem pxA_nx {l1 l2 : List PX1} {x y : PX1} : (pxA 0 (l1 ++ x :: y :: l2))[l1.length + 1]? = some (y.1, y.2.1, (pxS l1).length + x.2.2.length) := by
  rw [pxA_app, List.getElem?_append_right (by rw [pxA_len]; omega), pxA_len, Nat.zero_add, show l1.length + 1 - l1.length = 1 by omega]
  rfl
theorem pxS_at {l1 l2 : List PX1} {x : PX1} {t : Nat} (ht : t < x.2.2.length) : (pxS (l1 ++ x :: l2))[(pxS l1).length + t]? = x.2.2[t]? := by
  rw [pxS_app, List.getElem?_append_right (by omega), show (pxS l1).length + t - (pxS l1).length = t by omega]
  show (x.2.2 ++ pxS l2)[t]? = _
  rw [List.getElem?_append_left ht]
theorem stp_len {ev : Fin 32 → Int32} {x : Fin 32 × Int32} {st : List Int32} : (stp ev x st).length ≤ st.length + 1 := by
  cases st with
  | nil => show 1 ≤ 1; omega
  | cons a st =>
    cases st with
    | nil =>
      show (if x.1 = 14 then [1 - a] else [pv ev x, a]).length ≤ 2
      split <;> simp
    | cons b st =>
      show (if x.1 = 14 then (1 - a) :: b :: st else if wJ x.1 then joi x.1 b a :: st else pv ev x :: a :: b :: st).length ≤ (a :: b :: st).length + 1
      split
      · simp
      · split <;> simp <;> omega
theorem c_holds {post : Bool → CMu → Prop} (hf : 11 ≤ f) (hF : Fo cm f M T n c o) (hn : n ≤ 11) (hc : c ≤ 60) (ho : o ≤ 60) {i h : Nat} (hi : i < c) (hpl : M (331 + 8 * i) = nI h) (h1 : 1 ≤ h) (h2 : h ≤ n)
    {N : Nat} (hN : 11 ≤ N) {l1 l2 : List PX1} {x : PX1} (hW : WRo cm N (l1 ++ x :: l2)) (h8 : (l1 ++ x :: l2).length ≤ 8) (h400 : (pxS (l1 ++ x :: l2)).length ≤ 400) (hq : Qok x.2.2)
    (hp : ∀ S : MR, post (qOK (evM M h i) x.2.2) (stk cm S)) : w_X3_holds post f (f + 47 + i) N (nI l1.length) cm := by
  obtain ⟨w1, w2, w3, w4⟩ := hW
  have hl1 : l1.length < 8 := by
    rw [List.length_append, List.length_cons] at h8
    omega
  have hS4 : (pxS (l1 ++ x :: l2)).length = (pxS l1).length + (x.2.2.length + (pxS l2).length) := by
    rw [pxS_app, List.length_append]
    show _ + (x.2.2 ++ pxS l2).length = _
    rw [List.length_append]
  -- the loop over the steps
  have key : ∀ (s2 s1 : SL) (S : MR), x.2.2 = s1 ++ s2 → RSt S (runS (evM M h i) s1 []) → (∀ a b, x.2.2 = a ++ b → (runS (evM M h i) a []).length ≤ 17) →
      B_X3_holds_20 post (s2.length + 1) f (f + 47 + i) N (nI ((pxS l1).length + x.2.2.length)) (nI (runS (evM M h i) s1 []).length) (nI ((pxS l1).length + s1.length)) (stk cm S) := by
    intro s2
    induction s2 with
    | nil =>
      intro s1 S hs hR hb
      have e : x.2.2 = s1 := by rw [hs, List.append_nil]
      have hlen := hb s1 [] hs
      have es : x.2.2.length = s1.length := by rw [e]
      unfold B_X3_holds_20 B_X3_holds_188 B_X3_holds_193
      refine ⟨fun _ => ?_, fun q => absurd (nI_le (by omega) (by omega)) q⟩
      have hp2 := hp S
      unfold qOK at hp2
      rw [e] at hp2
      cases hq : runS (evM M h i) s1 [] with
      | nil =>
        rw [hq] at hp2
        exact ⟨fun _ => hp2, fun z => absurd rfl z⟩
      | cons v r =>
        rw [hq] at hp2 hR hlen
        refine ⟨fun z => absurd z (nI_ne0 (by rw [List.length_cons]; omega) (by omega)), fun _ => ?_⟩
        -- the bottom is the value: one value alone stands there
        have hr : r = [] := by
          rcases hqok : (‹Qok x.2.2›) with g | g
          · rw [e] at g
            rw [g] at hq
            exact absurd hq (by simp [runS])
          · obtain ⟨v2, g2⟩ := g (evM M h i) ⟨frostM M, by unfold evM; rw [if_neg (by decide)]⟩
            have := (g2 []).1
            rw [e, hq] at this
            injection this
        subst hr
        have hv : S 0 = v := hR.1
        rw [cl_0, stk_10, hv]
        simp only [] at hp2
        refine ⟨fun z => ?_, fun z => ?_⟩
        · rw [decide_eq_false (fun y => y z)] at hp2
          exact hp2
        · rw [decide_eq_true z] at hp2
          exact hp2
    | cons y r ih =>
      intro s1 S hs hR hb
      have hlt : s1.length < x.2.2.length := by
        rw [hs, List.length_append, List.length_cons]
        omega
      have hlen := hb s1 (y :: r) hs
      have hget : (pxS (l1 ++ x :: l2))[(pxS l1).length + s1.length]? = some y := by
        rw [pxS_at hlt, hs, List.getElem?_append_right (Nat.le_refl _), Nat.sub_self]
        rfl
      obtain ⟨y1, y2, y3⟩ := w4 _ _ hget
      have eW : gW (stk cm S) (N + 4) ((pxS l1).length + s1.length) = y.1 := y1
      have eI : gI (stk cm S) (N + 5) ((pxS l1).length + s1.length) = y.2 := by rw [stk_o (by omega), y2]
      have hidx : (pxS l1).length + s1.length < 400 := by omega
      have erun : runS (evM M h i) (s1 ++ [y]) [] = stp (evM M h i) y (runS (evM M h i) s1 []) := by
        rw [runS_app]
        rfl
      have nxt : ∀ S' : MR, RSt S' (stp (evM M h i) y (runS (evM M h i) s1 [])) → B_X3_holds_20 post (r.length + 1) f (f + 47 + i) N (nI ((pxS l1).length + x.2.2.length)) (nI (stp (evM M h i) y (runS (evM M h i) s1 [])).length) (nI ((pxS l1).length + s1.length) + 1) (stk cm S') := by
        intro S' hR'
        have := ih (s1 ++ [y]) S' (by rw [hs, List.append_assoc]; rfl) (by rw [erun]; exact hR') hb
        rw [erun] at this
        rw [nI_1]
        rw [List.length_append, List.length_cons, List.length_nil] at this
        exact this
      have hvi : vp_in (nI ((pxS l1).length + s1.length)) 400 := vp_in_nI hidx (by omega)
      -- a push
      have push : stp (evM M h i) y (runS (evM M h i) s1 []) = pv (evM M h i) y :: runS (evM M h i) s1 [] → B_X3_holds_123 post (B_X3_holds_20 post (r.length + 1)) f (f + 47 + i) N (nI ((pxS l1).length + x.2.2.length)) (nI (runS (evM M h i) s1 []).length) (nI ((pxS l1).length + s1.length)) y.1 (stk cm S) := by
        intro hpush
        unfold B_X3_holds_123
        have fin : B_X3_holds_164 post (B_X3_holds_20 post (r.length + 1)) f (f + 47 + i) N (nI ((pxS l1).length + x.2.2.length)) (nI (runS (evM M h i) s1 []).length) (nI ((pxS l1).length + s1.length)) (pv (evM M h i) y) (nI (runS (evM M h i) s1 []).length) (stk cm S) := by
          unfold B_X3_holds_164 B_X3_holds_168
          rw [nI_clamp (by omega), stk_u, nI_1]
          refine ⟨vp_in_nI (by omega) (by omega), ?_⟩
          have := nxt (upd S (runS (evM M h i) s1 []).length (pv (evM M h i) y)) (by rw [hpush]; exact RSt_push hR)
          rw [hpush, List.length_cons] at this
          exact this
        refine ⟨fun q => ?_, fun _ => ⟨fun q => ?_, fun q => ?_⟩⟩
        · rw [fa_lit 32, nI_leI (by omega) (by omega)] at q
          omega
        · have ev : pv (evM M h i) y = evM M h i y.1 := if_neg q
          rw [ev] at fin
          exact c_valueOf (Fo_stk hf hn hc ho hF) hn hi hpl h1 h2 y3 fin
        · have ev : pv (evM M h i) y = y.2 := if_pos q
          rw [ev] at fin
          rw [nI_clamp (by omega), eI]
          exact ⟨hvi, fin⟩
      have j73 : (y.1 ≠ 14 ∨ runS (evM M h i) s1 [] = []) → B_X3_holds_73 post (B_X3_holds_20 post (r.length + 1)) f (f + 47 + i) N (nI ((pxS l1).length + x.2.2.length)) (nI (runS (evM M h i) s1 []).length) (nI ((pxS l1).length + s1.length)) y.1 (stk cm S) := by
        intro h14
        unfold B_X3_holds_73
        cases hst : runS (evM M h i) s1 [] with
        | nil =>
          rw [hst] at push
          refine ⟨y3, fun _ => push rfl, fun _ => ⟨fun _ => push rfl, fun z => absurd (by decide) z⟩⟩
        | cons a st =>
          have h14' : y.1 ≠ 14 := by
            rcases h14 with g | g
            · exact g
            · rw [hst] at g
              exact absurd g (by simp)
          cases st with
          | nil =>
            rw [hst] at push
            have hpu : stp (evM M h i) y [a] = pv (evM M h i) y :: [a] := if_neg h14'
            refine ⟨y3, fun _ => push hpu, fun _ => ⟨fun _ => push hpu, fun z => absurd (show nI 1 < 2 by decide) z⟩⟩
          | cons b st =>
            rw [hst] at push nxt hR hlen
            refine ⟨y3, fun q => push ?_, fun q => ⟨fun z => ?_, fun _ => ?_⟩⟩
            · show (if y.1 = 14 then _ else if wJ y.1 then _ else _) = _
              rw [if_neg h14', q]
              rfl
            · rw [fa_lit 2, nI_ltI (by rw [List.length_cons, List.length_cons] at *; omega) (by omega), List.length_cons, List.length_cons] at z
              omega
            · have hj : wJ y.1 = true := by
                cases e : wJ y.1
                · exact absurd e q
                · rfl
              have hjo : stp (evM M h i) y (a :: b :: st) = joi y.1 b a :: st := by
                show (if y.1 = 14 then _ else if wJ y.1 then _ else _) = _
                rw [if_neg h14', hj]
                rfl
              have el : (nI (a :: b :: st).length + (-1) : Int32) = nI (st.length + 1) := by
                rw [List.length_cons, List.length_cons, ← Int32.sub_eq_add_neg, nI_pred]
              have hll : st.length + 2 ≤ 17 := by rw [List.length_cons, List.length_cons] at hlen; exact hlen
              rw [el, nI_pred, nI_clamp (by omega), nI_clamp (by omega), stk_10, stk_10]
              refine ⟨vp_in_nI (by omega) (by omega), vp_in_nI (by omega) (by omega), ?_⟩
              have ea : S (st.length + 1) = a := hR.1
              have eb : S st.length = b := hR.2.1
              rw [ea, eb]
              refine c_join y3 ⟨vp_in_nI (by omega) (by omega), ?_⟩
              unfold B_X3_holds_168
              rw [stk_u]
              have := nxt (upd S st.length (joi y.1 b a)) (by rw [hjo]; exact RSt_push hR.2.2)
              rw [hjo, List.length_cons] at this
              exact this
      unfold B_X3_holds_20
      rw [nI_clamp (by omega), eW]
      refine ⟨fun q => ?_, fun _ => ⟨hvi, fun q => j73 (Or.inl q), fun q => ⟨fun q2 => ?_, fun q2 => ?_⟩⟩⟩
      · rw [nI_leI (by omega) (by omega)] at q
        omega
      · refine j73 (Or.inr ?_)
        rw [fa_lit 1, nI_ltI (by omega) (by omega)] at q2
        exact List.length_eq_zero_iff.mp (by omega)
      · cases hst : runS (evM M h i) s1 [] with
        | nil => rw [hst] at q2; exact absurd (by decide) q2
        | cons a st =>
          rw [hst] at nxt hR hlen
          have hno : stp (evM M h i) y (a :: st) = (1 - a) :: st := by
            cases st with
            | nil => exact if_pos q
            | cons b st => exact if_pos q
          rw [List.length_cons] at hlen
          rw [List.length_cons, nI_pred, nI_clamp (by omega), stk_10]
          refine ⟨vp_in_nI (by omega) (by omega), vp_in_nI (by omega) (by omega), ?_⟩
          have ea : S st.length = a := hR.1
          rw [ea, stk_u]
          unfold B_X3_holds_168
          have := nxt (upd S st.length (1 - a)) (by rw [hno]; exact RSt_push hR.2)
          rw [hno, List.length_cons] at this
          exact this
  have hbound : ∀ a b, x.2.2 = a ++ b → (runS (evM M h i) a []).length ≤ 17 := by
    intro a b hab
    rcases hq with g | g
    · rw [g] at hab
      have : a = [] := by
        cases a with
        | nil => rfl
        | cons z a => exact absurd hab (by simp)
      rw [this]
      show 0 ≤ 17
      omega
    · obtain ⟨v2, g2⟩ := g (evM M h i) ⟨frostM M, by unfold evM; rw [if_neg (by decide)]⟩
      have := (g2 []).2 a b hab
      rw [List.length_nil] at this
      omega
  obtain ⟨a1, a2, a3⟩ := w3 _ _ (pxA_at (l1 := l1) (l2 := l2) (x := x))
  unfold w_X3_holds w_X5_behindQuestion
  have start : ∀ v : Int32, v = nI ((pxS l1).length + x.2.2.length) → (vp_in (nI l1.length) 8) ∧ ∃ n20, B_X3_holds_20 post n20 f (f + 47 + i) N v 0 (gI cm (N + 3) (Int32.toNatClampNeg (nI l1.length))) cm := by
    intro v hv
    rw [hv, nI_clamp (by omega), a3]
    refine ⟨vp_in_nI (by omega) (by omega), x.2.2.length + 1, ?_⟩
    have := key x.2.2 [] (cm.1 10) rfl trivial hbound
    rw [stk_id] at this
    exact this
  rw [w1, w2, nI_1]
  cases l2 with
  | nil =>
    have e : (pxS (l1 ++ [x])).length = (pxS l1).length + x.2.2.length := by
      rw [hS4]
      rfl
    refine ⟨fun _ => start _ (by rw [e]), fun q => absurd ?_ q⟩
    rw [List.length_append, List.length_cons, List.length_nil]
    exact nI_le (Nat.le_refl _) (by omega)
  | cons y r =>
    obtain ⟨b1, b2', b3⟩ := w3 _ _ (pxA_nx (l1 := l1) (l2 := r) (x := x) (y := y))
    have hlr : l1.length + 1 < 8 := by
      rw [List.length_append, List.length_cons, List.length_cons] at h8
      omega
    refine ⟨fun q => ?_, fun _ => ⟨fun q => ?_, fun _ => ?_⟩⟩
    · rw [nI_leI (by omega) (by omega), List.length_append, List.length_cons, List.length_cons] at q
      omega
    · rw [fa_lit 8, nI_leI (by omega) (by omega)] at q
      omega
    · rw [nI_clamp (show l1.length + 1 < 2 ^ 31 by omega), b3]
      exact ⟨vp_in_nI (by omega) (by omega), start _ rfl⟩
end CE
