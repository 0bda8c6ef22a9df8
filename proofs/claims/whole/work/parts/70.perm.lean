/-! ===== arrangements, as plain lists ===== -/
abbrev NL : Type := List Nat
def cn (l : NL) (w : Nat) : Nat := l.count w
def dcr (c : Nat → Nat) (w : Nat) : Nat → Nat := fun v => if v = w then c v - 1 else c v
def upF (c : Nat → Nat) : Nat → Nat → Option Nat
  | 0, _ => none
  | f + 1, y => if 0 < c y then some y else upF c f (y + 1)
def ascF : Nat → (Nat → Nat) → NL
  | 0, _ => []
  | l + 1, c => match upF c 9 1 with
    | none => []
    | some w => w :: ascF l (dcr c w)
def blF (E : (Nat → Nat) → List NL) (c : Nat → Nat) : Nat → Nat → List NL
  | 0, _ => []
  | f + 1, w => (if 0 < c w then (E (dcr c w)).map (fun e => w :: e) else []) ++ blF E c f (w + 1)
def enF : Nat → (Nat → Nat) → List NL
  | 0, _ => [[]]
  | l + 1, c => blF (enF l) c 9 1
def nxt : NL → Option NL
  | [] => none
  | x :: r => match nxt r with
    | some r' => some (x :: r')
    | none => match upF (cn r) (9 - x) (x + 1) with
      | none => none
      | some y => some (y :: ascF r.length (dcr (cn (x :: r)) y))
def ChL : List NL → Option NL → Prop
  | [], _ => True
  | [a], t => nxt a = t
  | a :: b :: r, t => nxt a = some b ∧ ChL (b :: r) t
def smF (c : Nat → Nat) : Nat → Nat → Nat
  | 0, _ => 0
  | f + 1, w => c w + smF c f (w + 1)
def fct : Nat → Nat
  | 0 => 1
  | l + 1 => (l + 1) * fct l
theorem upF_some {c : Nat → Nat} {y : Nat} : ∀ (f w : Nat), upF c f w = some y → w ≤ y ∧ y < w + f ∧ 0 < c y ∧ ∀ z, w ≤ z → z < y → c z = 0 := by
  intro f
  induction f with
  | zero => intro w h; exact absurd h (by unfold upF; simp)
  | succ f ih =>
    intro w h
    unfold upF at h
    by_cases q : 0 < c w
    · rw [if_pos q] at h
      have e : w = y := Option.some.inj h
      subst e
      exact ⟨Nat.le_refl _, by omega, q, fun z h1 h2 => by omega⟩
    · rw [if_neg q] at h
      obtain ⟨h1, h2, h3, h4⟩ := ih _ h
      refine ⟨by omega, by omega, h3, fun z h5 h6 => ?_⟩
      by_cases e : z = w
      · subst e; omega
      · exact h4 z (by omega) h6
theorem upF_none {c : Nat → Nat} : ∀ (f w : Nat), upF c f w = none → ∀ z, w ≤ z → z < w + f → c z = 0 := by
  intro f
  induction f with
  | zero => intro w _ z h1 h2; omega
  | succ f ih =>
    intro w h z h1 h2
    unfold upF at h
    by_cases q : 0 < c w
    · rw [if_pos q] at h
      exact absurd h (by simp)
    · rw [if_neg q] at h
      by_cases e : z = w
      · subst e; omega
      · exact ih _ h z (by omega) (by omega)
theorem upF_n {c : Nat → Nat} : ∀ (f w : Nat), (∀ z, w ≤ z → z < w + f → c z = 0) → upF c f w = none := by
  intro f
  induction f with
  | zero => intro w _; rfl
  | succ f ih =>
    intro w h
    unfold upF
    rw [if_neg (by rw [h w (Nat.le_refl _) (by omega)]; omega)]
    exact ih _ (fun z h1 h2 => h z (by omega) (by omega))
theorem upF_s {c : Nat → Nat} {y : Nat} : ∀ (f w : Nat), w ≤ y → y < w + f → 0 < c y → (∀ z, w ≤ z → z < y → c z = 0) → upF c f w = some y := by
  intro f
  induction f with
  | zero => intro w h1 h2; omega
  | succ f ih =>
    intro w h1 h2 h3 h4
    unfold upF
    by_cases e : w = y
    · subst e
      rw [if_pos h3]
    · rw [if_neg (by rw [h4 w (Nat.le_refl _) (by omega)]; omega)]
      exact ih _ (by omega) (by omega) h3 (fun z h5 h6 => h4 z (by omega) h6)
theorem upF_cong {c c' : Nat → Nat} : ∀ (f w : Nat), (∀ z, w ≤ z → z < w + f → c' z = c z) → upF c' f w = upF c f w := by
  intro f
  induction f with
  | zero => intro w _; rfl
  | succ f ih =>
    intro w h
    unfold upF
    rw [h w (Nat.le_refl _) (by omega), ih _ (fun z h1 h2 => h z (by omega) (by omega))]
theorem smF_cong {c c' : Nat → Nat} : ∀ (f w : Nat), (∀ z, w ≤ z → z < w + f → c' z = c z) → smF c' f w = smF c f w := by
  intro f
  induction f with
  | zero => intro w _; rfl
  | succ f ih =>
    intro w h
    unfold smF
    rw [h w (Nat.le_refl _) (by omega), ih _ (fun z h1 h2 => h z (by omega) (by omega))]
theorem smF_dcr {c : Nat → Nat} {v : Nat} (hv : 0 < c v) : ∀ (f w : Nat), w ≤ v → v < w + f → smF (dcr c v) f w + 1 = smF c f w := by
  intro f
  induction f with
  | zero => intro w h1 h2; omega
  | succ f ih =>
    intro w h1 h2
    unfold smF
    by_cases e : w = v
    · subst e
      have e1 : dcr c w w = c w - 1 := if_pos rfl
      rw [e1, smF_cong (c := c) (c' := dcr c w) f (w + 1) (fun z h3 h4 => if_neg (by omega))]
      omega
    · have e1 : dcr c v w = c w := if_neg e
      have := ih (w + 1) (by omega) (by omega)
      rw [e1]
      omega
theorem smF_0 {c : Nat → Nat} : ∀ (f w : Nat), smF c f w = 0 → ∀ z, w ≤ z → z < w + f → c z = 0 := by
  intro f
  induction f with
  | zero => intro w _ z h1 h2; omega
  | succ f ih =>
    intro w h z h1 h2
    unfold smF at h
    by_cases e : z = w
    · subst e; omega
    · exact ih (w + 1) (by omega) z (by omega) (by omega)
def OKc (c : Nat → Nat) (l : Nat) : Prop := (∀ v, v = 0 ∨ 9 < v → c v = 0) ∧ smF c 9 1 = l
theorem OKc_dcr {c : Nat → Nat} {l w : Nat} (h : OKc c (l + 1)) (hw : 0 < c w) : OKc (dcr c w) l ∧ 1 ≤ w ∧ w ≤ 9 := by
  have hr : 1 ≤ w ∧ w ≤ 9 := by
    by_cases q : w = 0 ∨ 9 < w
    · rw [h.1 w q] at hw
      omega
    · omega
  refine ⟨⟨fun v hv => ?_, ?_⟩, hr⟩
  · unfold dcr
    rw [if_neg (by omega)]
    exact h.1 v hv
  · have := smF_dcr hw 9 1 (by omega) (by omega)
    have := h.2
    omega
theorem OKc_0 {c : Nat → Nat} (h : OKc c 0) (v : Nat) : c v = 0 := by
  by_cases q : v = 0 ∨ 9 < v
  · exact h.1 v q
  · exact smF_0 9 1 h.2 v (by omega) (by omega)
theorem OKc_up {c : Nat → Nat} {l : Nat} (h : OKc c (l + 1)) : ∃ w, upF c 9 1 = some w ∧ 0 < c w := by
  cases e : upF c 9 1 with
  | some w => exact ⟨w, rfl, (upF_some 9 1 e).2.2.1⟩
  | none =>
    have z := upF_none 9 1 e
    have : ∀ f w, 1 ≤ w → w + f ≤ 10 → smF c f w = 0 := by
      intro f
      induction f with
      | zero => intro w _ _; rfl
      | succ f ih =>
        intro w h1 h2
        unfold smF
        rw [z w h1 (by omega), ih (w + 1) (by omega) (by omega)]
    have := this 9 1 (by omega) (by omega)
    have := h.2
    omega
/-! chains -/
theorem ChL_app {B : List NL} {u : Option NL} {b : NL} {r : List NL} (hB : B = b :: r) (h2 : ChL B u) : ∀ (A : List NL), ChL A (some b) → ChL (A ++ B) u := by
  intro A
  induction A with
  | nil => intro _; exact h2
  | cons a A ih =>
    intro h1
    cases A with
    | nil =>
      subst hB
      exact ⟨h1, h2⟩
    | cons a2 A => exact ⟨h1.1, ih h1.2⟩
theorem nxt_some {x : Nat} {r r' : NL} (h : nxt r = some r') : nxt (x :: r) = some (x :: r') := by
  show (match nxt r with | some r' => some (x :: r') | none => _) = _
  rw [h]
theorem nxt_none {x : Nat} {r : NL} (h : nxt r = none) : nxt (x :: r) = match upF (cn r) (9 - x) (x + 1) with | none => none | some y => some (y :: ascF r.length (dcr (cn (x :: r)) y)) := by
  show (match nxt r with | some r' => some (x :: r') | none => match upF (cn r) (9 - x) (x + 1) with | none => none | some y => some (y :: ascF r.length (dcr (cn (x :: r)) y))) = _
  rw [h]
theorem ChL_map {w : Nat} {t : Option NL} : ∀ (E : List NL), ChL E none → (∀ e ∈ E, nxt e = none → nxt (w :: e) = t) → ChL (E.map (fun e => w :: e)) t := by
  intro E
  induction E with
  | nil => intro _ _; trivial
  | cons a E ih =>
    intro h hE
    cases E with
    | nil => exact hE a (List.mem_cons_self ..) h
    | cons b E => exact ⟨nxt_some h.1, ih h.2 (fun e he => hE e (List.mem_cons_of_mem _ he))⟩
theorem cn_cons {x v : Nat} {r : NL} : cn (x :: r) v = cn r v + (if v = x then 1 else 0) := by
  unfold cn
  rw [List.count_cons]
  by_cases q : v = x
  · subst q
    rw [if_pos rfl, if_pos (by simp)]
  · rw [if_neg q, if_neg (by simp; exact fun z => q z.symm)]
theorem cn_dcr {c : Nat → Nat} {w : Nat} {e : NL} (hw : 0 < c w) (h : ∀ v, cn e v = dcr c w v) : cn (w :: e) = c := by
  funext v
  rw [cn_cons, h v]
  unfold dcr
  by_cases q : v = w
  · subst q
    rw [if_pos rfl, if_pos rfl]
    omega
  · rw [if_neg q, if_neg q]
    rfl
theorem enF_all : ∀ (l : Nat) (c : Nat → Nat), OKc c l → (∀ e ∈ enF l c, e.length = l ∧ ∀ v, cn e v = c v) ∧ (∃ r, enF l c = ascF l c :: r) ∧ ChL (enF l c) none := by
  intro l
  induction l with
  | zero =>
    intro c h
    refine ⟨fun e he => ?_, ⟨[], rfl⟩, rfl⟩
    have e0 : e = [] := List.mem_singleton.mp he
    subst e0
    exact ⟨rfl, fun v => by rw [OKc_0 h v]; rfl⟩
  | succ l ih =>
    intro c h
    have bl : ∀ (f w : Nat), w + f = 10 → 1 ≤ w → (∀ e ∈ blF (enF l) c f w, e.length = l + 1 ∧ ∀ v, cn e v = c v) ∧ (match upF c f w with | none => blF (enF l) c f w = [] | some y => ∃ r, blF (enF l) c f w = (y :: ascF l (dcr c y)) :: r) ∧ ChL (blF (enF l) c f w) none := by
      intro f
      induction f with
      | zero => intro w _ _; exact ⟨fun e he => absurd he (by unfold blF; simp), rfl, trivial⟩
      | succ f ihf =>
        intro w hw h1
        obtain ⟨b1, b2, b3⟩ := ihf (w + 1) (by omega) (by omega)
        by_cases q : 0 < c w
        · have eb : blF (enF l) c (f + 1) w = (enF l (dcr c w)).map (fun e => w :: e) ++ blF (enF l) c f (w + 1) := by
            show (if 0 < c w then _ else _) ++ _ = _
            rw [if_pos q]
          have eu : upF c (f + 1) w = some w := by
            show (if 0 < c w then _ else _) = _
            rw [if_pos q]
          obtain ⟨a1, ⟨r, a2⟩, a3⟩ := ih (dcr c w) (OKc_dcr h q).1
          rw [eb, eu]
          refine ⟨fun e he => ?_, ?_, ?_⟩
          · rcases List.mem_append.mp he with z | z
            · obtain ⟨e', he', rfl⟩ := List.mem_map.mp z
              obtain ⟨z1, z2⟩ := a1 e' he'
              exact ⟨by rw [List.length_cons, z1], fun v => by rw [cn_dcr q z2]⟩
            · exact b1 e z
          · show ∃ r, _ = _
            rw [a2]
            exact ⟨_, rfl⟩
          · have key : ∀ e ∈ enF l (dcr c w), nxt e = none → nxt (w :: e) = match upF c f (w + 1) with | none => none | some y => some (y :: ascF l (dcr c y)) := by
              intro e he hn
              obtain ⟨z1, z2⟩ := a1 e he
              rw [nxt_none hn, cn_dcr q z2, z1, show 9 - w = f by omega]
              have eq : upF (cn e) f (w + 1) = upF c f (w + 1) := by
                refine upF_cong f (w + 1) (fun z h3 h4 => ?_)
                rw [z2 z]
                exact if_neg (by omega)
              rw [eq]
            cases ue : upF c f (w + 1) with
            | none =>
              rw [ue] at b2 key
              have b2' : blF (enF l) c f (w + 1) = [] := b2
              rw [b2', List.append_nil]
              exact ChL_map _ a3 key
            | some y =>
              rw [ue] at b2 key
              obtain ⟨r2, b2'⟩ : ∃ r, blF (enF l) c f (w + 1) = (y :: ascF l (dcr c y)) :: r := b2
              exact ChL_app b2' b3 _ (ChL_map _ a3 key)
        · have eb : blF (enF l) c (f + 1) w = blF (enF l) c f (w + 1) := by
            show (if 0 < c w then _ else []) ++ _ = _
            rw [if_neg q]
            rfl
          have eu : upF c (f + 1) w = upF c f (w + 1) := by
            show (if 0 < c w then _ else _) = _
            rw [if_neg q]
          rw [eb, eu]
          exact ⟨b1, b2, b3⟩
    obtain ⟨b1, b2, b3⟩ := bl 9 1 (by omega) (by omega)
    refine ⟨b1, ?_, b3⟩
    obtain ⟨w, hw, hw2⟩ := OKc_up h
    rw [hw] at b2
    obtain ⟨r, b2'⟩ : ∃ r, blF (enF l) c 9 1 = (w :: ascF l (dcr c w)) :: r := b2
    refine ⟨r, ?_⟩
    show blF (enF l) c 9 1 = ascF (l + 1) c :: r
    rw [b2']
    congr 1
    show _ = match upF c 9 1 with | none => [] | some w => w :: ascF l (dcr c w)
    rw [hw]
theorem enF_len : ∀ (l : Nat) (c : Nat → Nat), OKc c l → (enF l c).length ≤ fct l := by
  intro l
  induction l with
  | zero => intro c _; exact Nat.le_refl _
  | succ l ih =>
    intro c h
    have bl : ∀ (f w : Nat), (blF (enF l) c f w).length ≤ smF c f w * fct l := by
      intro f
      induction f with
      | zero => intro w; exact Nat.zero_le _
      | succ f ihf =>
        intro w
        have i := ihf (w + 1)
        show ((if 0 < c w then (enF l (dcr c w)).map (fun e => w :: e) else []) ++ blF (enF l) c f (w + 1)).length ≤ (c w + smF c f (w + 1)) * fct l
        rw [List.length_append, Nat.add_mul]
        by_cases q : 0 < c w
        · rw [if_pos q, List.length_map]
          have a := ih (dcr c w) (OKc_dcr h q).1
          have b : fct l ≤ c w * fct l := Nat.le_mul_of_pos_left _ q
          omega
        · rw [if_neg q]
          show 0 + _ ≤ _
          omega
    have := bl 9 1
    rw [h.2] at this
    exact this
/-! the next one, by places -/
theorem nxt_down : ∀ (r : NL), r.Pairwise (fun a b => b ≤ a) → nxt r = none := by
  intro r
  induction r with
  | nil => intro _; rfl
  | cons x r ih =>
    intro h
    obtain ⟨h1, h2⟩ := List.pairwise_cons.mp h
    rw [nxt_none (ih h2), upF_n]
    intro z z1 z2
    unfold cn
    refine List.count_eq_zero.mpr (fun hz => ?_)
    have := h1 z hz
    omega
theorem nxt_app {s s' : NL} (h : nxt s = some s') : ∀ (p : NL), nxt (p ++ s) = some (p ++ s') := by
  intro p
  induction p with
  | nil => exact h
  | cons x p ih => exact nxt_some ih
theorem asc_up : ∀ (s : NL), s.Pairwise (fun a b => a ≤ b) → (∀ z ∈ s, 1 ≤ z ∧ z ≤ 9) → ascF s.length (cn s) = s := by
  intro s
  induction s with
  | nil => intro _ _; rfl
  | cons x r ih =>
    intro h hz
    obtain ⟨h1, h2⟩ := List.pairwise_cons.mp h
    have hx := hz x (List.mem_cons_self ..)
    have eu : upF (cn (x :: r)) 9 1 = some x := by
      refine upF_s 9 1 hx.1 (by omega) ?_ (fun z z1 z2 => ?_)
      · rw [cn_cons, if_pos rfl]
        omega
      · unfold cn
        refine List.count_eq_zero.mpr (fun hm => ?_)
        rcases List.mem_cons.mp hm with e | e
        · omega
        · have := h1 z e
          omega
    show (match upF (cn (x :: r)) 9 1 with | none => [] | some w => w :: ascF r.length (dcr (cn (x :: r)) w)) = x :: r
    rw [eu]
    show x :: ascF r.length (dcr (cn (x :: r)) x) = x :: r
    have ed : dcr (cn (x :: r)) x = cn r := by
      funext v
      unfold dcr
      rw [cn_cons]
      by_cases q : v = x
      · rw [if_pos q, if_pos q]
        omega
      · rw [if_neg q, if_neg q]
        rfl
    rw [ed, ih h2 (fun z hm => hz z (List.mem_cons_of_mem _ hm))]
theorem nxt_step {x y : Nat} {r1 r2 : NL} (hd : (r1 ++ y :: r2).Pairwise (fun a b => b ≤ a)) (hxy : x < y) (h2 : ∀ z ∈ r2, z ≤ x) (hz : ∀ z ∈ x :: (r1 ++ y :: r2), 1 ≤ z ∧ z ≤ 9) : nxt (x :: (r1 ++ y :: r2)) = some (y :: (r1 ++ x :: r2).reverse) := by
  obtain ⟨d1, d2, d3⟩ := List.pairwise_append.mp hd
  obtain ⟨d4, d5⟩ := List.pairwise_cons.mp d2
  have hr1 : ∀ z ∈ r1, y ≤ z := fun z hm => d3 z hm y (List.mem_cons_self ..)
  have hy := (hz y (by simp)).2
  rw [nxt_none (nxt_down _ hd)]
  have eu : upF (cn (r1 ++ y :: r2)) (9 - x) (x + 1) = some y := by
    refine upF_s _ _ (by omega) (by omega) ?_ (fun z z1 z2 => ?_)
    · unfold cn
      exact List.count_pos_iff.mpr (by simp)
    · unfold cn
      refine List.count_eq_zero.mpr (fun hm => ?_)
      rcases List.mem_append.mp hm with e | e
      · have := hr1 z e
        omega
      · rcases List.mem_cons.mp e with e | e
        · omega
        · have := h2 z e
          omega
  rw [eu]
  show some (y :: ascF (r1 ++ y :: r2).length (dcr (cn (x :: (r1 ++ y :: r2))) y)) = _
  have el : (r1 ++ y :: r2).length = ((r1 ++ x :: r2).reverse).length := by
    simp
    omega
  have ec : dcr (cn (x :: (r1 ++ y :: r2))) y = cn ((r1 ++ x :: r2).reverse) := by
    funext v
    unfold dcr
    have e1 : cn (x :: (r1 ++ y :: r2)) v = cn r1 v + cn r2 v + (if v = y then 1 else 0) + (if v = x then 1 else 0) := by
      rw [cn_cons]
      have : cn (r1 ++ y :: r2) v = cn r1 v + cn (y :: r2) v := List.count_append
      rw [this, cn_cons]
      omega
    have e2 : cn ((r1 ++ x :: r2).reverse) v = cn r1 v + cn r2 v + (if v = x then 1 else 0) := by
      have : cn ((r1 ++ x :: r2).reverse) v = cn r1 v + cn (x :: r2) v := by
        unfold cn
        rw [List.count_reverse, List.count_append]
      rw [this, cn_cons]
      omega
    rw [e1, e2]
    by_cases q : v = y
    · subst q
      rw [if_pos rfl, if_pos rfl]
      omega
    · rw [if_neg q, if_neg q]
      omega
  rw [el, ec, asc_up]
  · refine List.pairwise_reverse.mpr (List.pairwise_append.mpr ⟨d1, List.pairwise_cons.mpr ⟨h2, d5⟩, fun a ha b hb => ?_⟩)
    have := hr1 a ha
    rcases List.mem_cons.mp hb with e | e
    · omega
    · have := h2 b e
      omega
  · intro z hm
    refine hz z ?_
    have hm2 : z ∈ r1 ++ x :: r2 := List.mem_reverse.mp hm
    rcases List.mem_append.mp hm2 with e | e
    · simp [e]
    · rcases List.mem_cons.mp e with e | e
      · simp [e]
      · simp [e]
