/-! ===== ways: time, waits, chance, repeats ===== -/
def lenS (M : MR) (a : Nat) : Nat → Int32
  | 0 => 0
  | j + 1 => lenS M a j + M (10 + 3 * (a + j))
def bilS (M : MR) (a : Nat) : Nat → Int64
  | 0 => 1000000000
  | j + 1 => (bilS M a j * (Int32.toInt64 (100 - M (11 + 3 * (a + j))))) / 100
def stO (n : Nat) (x : Int32) : Bool := decide (¬ x < 0 ∧ ¬ nI (n + 1) < x)
def wayC (n : Nat) (x1 x2 : Int32) : Int32 := if stO n x1 && stO n x2 then (if x1 ≤ x2 then 0 else 2) else 1
theorem jmax_0 {a : Nat} (ha : a < 2 ^ 31) : jmax (nI a) 0 = nI a := by
  unfold jmax
  exact if_neg (nI_pos ha)
section WY
variable {cm : CMu} {mm : MM} {f n c o : Nat} {M : MR} {T : Nat → Pg}
theorem c_len (hF : Fo cm f M T n c o) (hn : n ≤ 11) {a b : Nat} (hb : b ≤ n + 1) (hab : a ≤ b) {post : Int32 → CMu → Prop} (hp : post (lenS M a (b - a)) cm) : w_X4_lengthBetween post f (nI a) (nI b) cm := by
  unfold w_X4_lengthBetween
  rw [jmax_0 (by omega)]
  have key : ∀ (g j : Nat), a + j + g = b → B_X4_lengthBetween_9 post (g + 1) f (nI b) (lenS M a j) (nI (a + j)) cm := by
    intro g
    induction g with
    | zero =>
      intro j hj
      have e : j = b - a := by omega
      subst e
      unfold B_X4_lengthBetween_9 B_X4_lengthBetween_44
      exact ⟨fun _ => hp, fun z => absurd (nI_le (by omega) (by omega)) z⟩
    | succ g ih =>
      intro j hj
      unfold B_X4_lengthBetween_9
      refine ⟨fun z => absurd z (nI_ge (by omega) (by omega)), fun _ => ⟨fun z => ?_, fun _ => ?_⟩⟩
      · rw [fa_lit 12, nI_leI (by omega) (by omega)] at z
        omega
      · have e : gI cm (f + 24 + 2 * (a + j)) 0 = M (10 + 3 * (a + j)) := RF_r hF.1 hn (by omega) (by omega)
        rw [nI_clamp (by omega), e, nI_1]
        exact ⟨vp_in_nI (by omega) (by omega), ih (j + 1) (by omega)⟩
  exact ⟨b - a + 1, key (b - a) 0 (by omega)⟩
theorem r_way (hM1 : M = mm 1) {a b : Nat} (hb : b ≤ 12) (ha : a ≤ b) {wt wa : Int32} {post : Int32 → MM → Prop} (hp : post (lenS M a (b - a) * ((wt + 10) - wa)) mm) : w_X13_wayOf post (nI a) (nI b) wt wa mm := by
  unfold w_X13_wayOf
  subst hM1
  have key : ∀ (g j : Nat), a + j + g = b → B_X13_wayOf_6 post (g + 1) (nI b) wt wa (lenS (mm 1) a j * ((wt + 10) - wa)) (nI (a + j)) mm := by
    intro g
    induction g with
    | zero =>
      intro j hj
      have e : j = b - a := by omega
      subst e
      unfold B_X13_wayOf_6
      exact ⟨fun _ => hp, fun z => absurd (nI_le (by omega) (by omega)) z⟩
    | succ g ih =>
      intro j hj
      unfold B_X13_wayOf_6
      refine ⟨fun z => absurd z (nI_ge (by omega) (by omega)), fun _ => ?_⟩
      refine r_reachOf (w := 0) rfl (by omega) (by omega) ?_
      unfold w_X13_timeOf
      have e : lenS (mm 1) a j * ((wt + 10) - wa) + mm 1 (10 + 3 * (a + j) + 0) * ((wt + 10) - wa) = lenS (mm 1) a (j + 1) * ((wt + 10) - wa) := by
        rw [← Int32.add_mul]
        rfl
      show B_X13_wayOf_6 post (g + 1) (nI b) wt wa (lenS (mm 1) a j * ((wt + 10) - wa) + mm 1 (10 + 3 * (a + j) + 0) * ((wt + 10) - wa)) (nI (a + j) + 1) mm
      rw [e, nI_1]
      exact ih (j + 1) (by omega)
  have := key (b - a) 0 (by omega)
  have e0 : lenS (mm 1) a 0 * ((wt + 10) - wa) = 0 := Int32.zero_mul
  rw [e0] at this
  exact ⟨_, this⟩
theorem c_bil (hF : Fo cm f M T n c o) (hn : n ≤ 11) {a b : Nat} (hab : a ≤ b) (hb : b ≤ n + 1) {post : Int32 → CMu → Prop} (hp : post (Int64.toInt32 (bilS M a (b - a))) cm) : w_X4_billionths post f (nI a) (nI b) cm := by
  unfold w_X4_billionths
  rw [jmax_0 (by omega)]
  have key : ∀ (g j : Nat), a + j + g = b → B_X4_billionths_11 post (g + 1) f (nI b) (bilS M a j) (nI (a + j)) cm := by
    intro g
    induction g with
    | zero =>
      intro j hj
      have e : j = b - a := by omega
      subst e
      unfold B_X4_billionths_11 B_X4_billionths_54
      exact ⟨fun _ => hp, fun z => absurd (nI_le (by omega) (by omega)) z⟩
    | succ g ih =>
      intro j hj
      unfold B_X4_billionths_11
      refine ⟨fun z => absurd z (nI_ge (by omega) (by omega)), fun _ => ⟨fun z => ?_, fun _ => ?_⟩⟩
      · rw [fa_lit 12, nI_leI (by omega) (by omega)] at z
        omega
      · have e : gI cm (f + 24 + 2 * (a + j)) 1 = M (11 + 3 * (a + j)) := by
          rw [RF_r hF.1 hn (by omega) (by omega)]
          congr 1
          omega
        rw [nI_clamp (by omega), e, nI_1]
        exact ⟨vp_in_nI (by omega) (by omega), ih (j + 1) (by omega)⟩
  exact ⟨b - a + 1, key (b - a) 0 (by omega)⟩
theorem r_bil (hM1 : M = mm 1) {a b : Nat} (hb : b ≤ 12) (ha : a ≤ b) {post : Int32 → MM → Prop} (hp : post (Int64.toInt32 (bilS M a (b - a))) mm) : w_X13_chanceOf post (nI a) (nI b) mm := by
  unfold w_X13_chanceOf
  subst hM1
  have key : ∀ (g j : Nat), a + j + g = b → B_X13_chanceOf_7 post (g + 1) (nI b) (bilS (mm 1) a j) (nI (a + j)) mm := by
    intro g
    induction g with
    | zero =>
      intro j hj
      have e : j = b - a := by omega
      subst e
      unfold B_X13_chanceOf_7
      exact ⟨fun _ => hp, fun z => absurd (nI_le (by omega) (by omega)) z⟩
    | succ g ih =>
      intro j hj
      unfold B_X13_chanceOf_7
      refine ⟨fun z => absurd z (nI_ge (by omega) (by omega)), fun _ => ?_⟩
      refine r_reachOf (w := 1) rfl (by omega) (by omega) ?_
      rw [show 10 + 3 * (a + j) + 1 = 11 + 3 * (a + j) by omega, nI_1]
      exact ih (j + 1) (by omega)
  exact ⟨b - a + 1, key (b - a) 0 (by omega)⟩
theorem r_two (h1 : mm 1 1 = nI n) (hn : n ≤ 11) {x1 x2 : Int32} {post : Int32 → MM → Prop} (hp : post (wayC n x1 x2) mm) : w_X13_twoStations post x1 x2 mm := by
  unfold w_X13_twoStations w_X13_isStation
  rw [cl_1, h1, nI_1]
  unfold wayC at hp
  refine r_isIn2 (fun a b => ⟨fun z => absurd z (by decide), fun _ => r_isIn2 (fun a2 b2' => ⟨fun _ => ?_, fun z => absurd z (by decide)⟩) (fun z => ⟨fun y => absurd rfl y, fun _ => ?_⟩)⟩) (fun z => ⟨fun _ => ?_, fun y => absurd rfl y⟩)
  · rw [h1, nI_1] at b2'
    have e : (stO n x1 && stO n x2) = true := by
      unfold stO
      rw [decide_eq_true ⟨a, b⟩, decide_eq_true ⟨a2, b2'⟩]
      rfl
    rw [if_pos e] at hp
    refine ⟨fun q => ?_, fun q => ?_⟩
    · rw [if_pos q] at hp; exact hp
    · rw [if_neg q] at hp; exact hp
  · rw [h1, nI_1] at z
    have e : (stO n x1 && stO n x2) = false := by
      unfold stO
      rw [decide_eq_false z, Bool.and_false]
    rw [if_neg (by rw [e]; decide)] at hp
    exact hp
  · have e : (stO n x1 && stO n x2) = false := by
      unfold stO
      rw [decide_eq_false z, Bool.false_and]
    rw [if_neg (by rw [e]; decide)] at hp
    exact hp
theorem c_station (h5 : gI cm 382 5 = nI n) {x : Int32} {post : CMu → Prop} {px : Nat → CMu → Prop} (h1 : stO n x = true → post cm) (h0 : stO n x = false → px 1 cm) : w_X12_demandStation post px x cm := by
  unfold w_X12_demandStation B_X12_demandStation_17
  rw [h5, nI_1]
  refine ⟨fun q => h0 (decide_eq_false (fun z => z.1 q)), fun q => ⟨fun q2 => h1 (decide_eq_true ⟨q, le_lt.mp q2⟩), fun q2 => h0 (decide_eq_false (fun z => q2 (le_lt.mpr z.2)))⟩⟩
theorem stO_of (hn : n ≤ 11) {x : Int32} (h : stO n x = true) : ∃ a, a ≤ n + 1 ∧ x = nI a := by
  have z := of_decide_eq_true h
  exact in_of (by omega) z.1 z.2
theorem c_way2 (h5 : gI cm 382 5 = nI n) (hn : n ≤ 11) {x1 x2 : Int32} {post : CMu → Prop} {px : Nat → CMu → Prop} (h0 : ∀ a b, x1 = nI a → x2 = nI b → a ≤ b → b ≤ n + 1 → wayC n x1 x2 = 0 → post cm) (h1 : wayC n x1 x2 = 1 → px 1 cm) (h2 : wayC n x1 x2 = 2 → px 0 cm) : w_X12_demandWay post px x1 x2 cm := by
  unfold w_X12_demandWay
  refine c_station h5 (fun a => c_station h5 (fun b => ⟨fun q => ?_, fun q => h2 ?_⟩) (fun b => h1 ?_)) (fun a => h1 ?_)
  · obtain ⟨a1, ha, e1⟩ := stO_of hn a
    obtain ⟨b1, hb, e2⟩ := stO_of hn b
    refine h0 a1 b1 e1 e2 ?_ hb ?_
    · rw [e1, e2, nI_leI (by omega) (by omega)] at q
      exact q
    · unfold wayC
      rw [a, b, if_pos (show (true && true) = true from rfl), if_pos q]
  · unfold wayC
    rw [a, b, if_pos (show (true && true) = true from rfl), if_neg q]
  · unfold wayC
    rw [b, Bool.and_false, if_neg (by decide)]
  · unfold wayC
    rw [a, Bool.false_and, if_neg (by decide)]
def inN (x : Int32) : Bool := decide (¬ x < 1 ∧ ¬ 9 < x)
theorem c_weight {x : Int32} {post : CMu → Prop} {px : Nat → CMu → Prop} (h1 : inN x = true → post cm) (h0 : inN x = false → px 0 cm) : w_X12_demandWeight post px x cm := by
  unfold w_X12_demandWeight B_X12_demandWeight_11
  refine ⟨fun q => h0 (decide_eq_false (fun z => z.1 q)), fun q => ⟨fun q2 => h1 (decide_eq_true ⟨q, le_lt.mp q2⟩), fun q2 => h0 (decide_eq_false (fun z => q2 (le_lt.mpr z.2)))⟩⟩
theorem c_waterD {x : Int32} {post : CMu → Prop} {px : Nat → CMu → Prop} (h1 : inN x = true → post cm) (h0 : inN x = false → px 0 cm) : w_X12_demandWater post px x cm := by
  unfold w_X12_demandWater B_X12_demandWater_11
  refine ⟨fun q => h0 (decide_eq_false (fun z => z.1 q)), fun q => ⟨fun q2 => h1 (decide_eq_true ⟨q, le_lt.mp q2⟩), fun q2 => h0 (decide_eq_false (fun z => q2 (le_lt.mpr z.2)))⟩⟩
theorem r_inN {x : Int32} {post : Bool → MM → Prop} (h : post (inN x) mm) : w_X13_isIn post x 1 9 mm := r_isIn h
end WY
section SW
variable {q : Nat} {cm : CMu} {mm : MM} {oo : Nat → Int64} {kk : KKt} {v : Int32}
/-- what a call reads -/
theorem SI_rd (h : SI q cm mm) : ∃ n c o T, Fo cm 382 (mm 1) T n c o ∧ n ≤ 11 ∧ c ≤ 60 ∧ o ≤ 60 ∧ mm 1 1 = nI n ∧ gI cm 382 5 = nI n ∧ Mid (mm 1) T n c o (2000 * q) (fun _ => True) := by
  obtain ⟨n, c, o, T, g1, g2, g3, g4, g5, g6⟩ := h
  obtain ⟨o1, o2, o3⟩ := mid_o g2
  exact ⟨n, c, o, T, g1, o1, o2, o3, g2.1.1, by rw [(Fo_h g1).2.1, g2.1.1], g2⟩
theorem s_time (h : SI q cm mm) {x1 x2 x3 x4 : Int32} (hk : ∀ cm' mm' oo', SI (q + 1) cm' mm' → kk v cm' mm' oo') {post : Int32 → CMu × (Nat → Int64) → Prop} (hpost : ∀ r u, w_X13_time (EX kk v r u) x1 x2 x3 x4 mm → post r u) : w_L_time post x1 x2 x3 x4 cm oo := by
  obtain ⟨n, c, o, T, g1, o1, o2, o3, e1, e5, g2⟩ := SI_rd h
  unfold w_L_time w_X12_time
  -- the reference throws
  have bad : ∀ r : Int32, (r = 1 ∨ r = 2) → wayC n x1 x2 = r → post r (cm, oo) := by
    intro r hr hw
    refine hpost _ _ ?_
    unfold w_X13_time
    refine r_two e1 o1 ?_
    rw [hw]
    have e00 : up2 mm 0 0 r 0 0 = r := up2_hit
    rw [e00]
    have hr0 : ¬ r = 0 := by rcases hr with rfl | rfl <;> decide
    have hr1 : ¬ r ≤ 0 := by rcases hr with rfl | rfl <;> decide
    refine ⟨fun _ => ?_, fun z => absurd z hr0⟩
    unfold B_X13_time_43
    rw [e00]
    exact ⟨fun z => absurd z hr1, fun _ => EX_th up2_hit hr0 (hk _ _ _ (SI_t h r))⟩
  have ref : wayC n x1 x2 = 0 → ∀ (r : Int32) (u : CMu × (Nat → Int64)), ((inN x3 && inN x4) = false → EX kk v r u 0 (up2 (up2 mm 0 0 0) 0 0 2)) → ((inN x3 && inN x4) = true → w_X13_wayOf (EX kk v r u) x1 x2 x3 x4 (up2 mm 0 0 0)) → post r u := by
    intro hw r u h0 h1
    refine hpost _ _ ?_
    unfold w_X13_time
    refine r_two e1 o1 ?_
    rw [hw]
    refine ⟨fun z => absurd rfl z, fun _ => r_inN ⟨fun z => ?_, fun z => r_inN ⟨fun z2 => ?_, fun z2 => ?_⟩⟩⟩
    · unfold B_X13_time_38 B_X13_time_43
      exact ⟨fun y => absurd y th2, fun _ => h0 (by rw [z]; rfl)⟩
    · have y3 : inN x3 = true := by
        cases e : inN x3
        · exact absurd e z
        · rfl
      have y4 : inN x4 = true := by
        cases e : inN x4
        · exact absurd e z2
        · rfl
      unfold B_X13_time_43
      exact ⟨fun _ => h1 (by rw [y3, y4]; rfl), fun y => absurd th0 y⟩
    · unfold B_X13_time_38 B_X13_time_43
      exact ⟨fun y => absurd y th2, fun _ => h0 (by rw [z2, Bool.and_false])⟩
  refine c_way2 e5 o1 (fun a b ha hb hab hbn hw => ?_) (fun hw => Or.inl ⟨rfl, bad 1 (Or.inl rfl) hw⟩) (fun hw => Or.inr ⟨rfl, bad 2 (Or.inr rfl) hw⟩)
  have t2 : SI (q + 1) cm (up2 (up2 mm 0 0 0) 0 0 2) := SI_mm h (by funext i; rfl) (by funext i; rfl) (by funext i; rfl) rfl rfl rfl
  refine c_weight (fun y3 => c_waterD (fun y4 => ?_) (fun y4 => Or.inr ⟨rfl, ?_⟩)) (fun y3 => Or.inr ⟨rfl, ?_⟩)
  · subst ha
    subst hb
    refine c_len g1 o1 hbn hab ?_
    unfold w_X12_minutesFor
    refine ref hw _ _ (fun z => by rw [y3, y4] at z; exact absurd z (by decide)) (fun _ => ?_)
    refine r_way (mm := up2 mm 0 0 0) (M := mm 1) (by funext i; rfl) (by omega) hab ?_
    exact EX_ok rfl (hk _ _ _ (SI_t h 0))
  · exact ref hw _ _ (fun _ => EX_th rfl (by decide) (hk _ _ _ t2)) (fun z => by rw [y3, y4] at z; exact absurd z (by decide))
  · exact ref hw _ _ (fun _ => EX_th rfl (by decide) (hk _ _ _ t2)) (fun z => by rw [y3, Bool.false_and] at z; exact absurd z (by decide))
theorem s_chance (h : SI q cm mm) {x1 x2 : Int32} (hk : ∀ cm' mm' oo', SI (q + 1) cm' mm' → kk v cm' mm' oo') {post : Int32 → CMu × (Nat → Int64) → Prop} (hpost : ∀ r u, w_X13_chance (EX kk v r u) x1 x2 mm → post r u) : w_L_chance post x1 x2 cm oo := by
  obtain ⟨n, c, o, T, g1, o1, o2, o3, e1, e5, g2⟩ := SI_rd h
  unfold w_L_chance w_X12_chance
  have bad : ∀ r : Int32, (r = 1 ∨ r = 2) → wayC n x1 x2 = r → post r (cm, oo) := by
    intro r hr hw
    refine hpost _ _ ?_
    unfold w_X13_chance
    refine r_two e1 o1 ?_
    rw [hw]
    have e00 : up2 mm 0 0 r 0 0 = r := up2_hit
    rw [e00]
    have hr0 : ¬ r = 0 := by rcases hr with rfl | rfl <;> decide
    have hr1 : ¬ r ≤ 0 := by rcases hr with rfl | rfl <;> decide
    exact ⟨fun z => absurd z hr1, fun _ => EX_th up2_hit hr0 (hk _ _ _ (SI_t h r))⟩
  refine c_way2 e5 o1 (fun a b ha hb hab hbn hw => ?_) (fun hw => Or.inl ⟨rfl, bad 1 (Or.inl rfl) hw⟩) (fun hw => Or.inr ⟨rfl, bad 2 (Or.inr rfl) hw⟩)
  subst ha
  subst hb
  refine c_bil g1 o1 hab hbn ?_
  refine hpost _ _ ?_
  unfold w_X13_chance
  refine r_two e1 o1 ?_
  rw [hw]
  refine ⟨fun _ => ?_, fun z => absurd th0 z⟩
  refine r_bil (mm := up2 mm 0 0 0) (M := mm 1) (by funext i; rfl) (by omega) hab ?_
  exact EX_ok rfl (hk _ _ _ (SI_t h 0))
theorem s_repeats (h : SI q cm mm) {x1 x2 x3 : Int32} (hk : ∀ cm' mm' oo', SI (q + 1) cm' mm' → kk v cm' mm' oo') {post : Int32 → CMu × (Nat → Int64) → Prop} (hpost : ∀ r u, w_X13_repeats (EX kk v r u) x1 x2 x3 mm → post r u) : w_L_repeats post x1 x2 x3 cm oo := by
  obtain ⟨n, c, o, T, g1, o1, o2, o3, e1, e5, g2⟩ := SI_rd h
  unfold w_L_repeats w_X12_repeats B_X12_repeats_17
  have bad : ∀ r : Int32, (r = 1 ∨ r = 2) → wayC n x1 x2 = r → post r (cm, oo) := by
    intro r hr hw
    refine hpost _ _ ?_
    unfold w_X13_repeats
    refine r_two e1 o1 ?_
    rw [hw]
    have e00 : up2 mm 0 0 r 0 0 = r := up2_hit
    rw [e00]
    have hr0 : ¬ r = 0 := by rcases hr with rfl | rfl <;> decide
    have hr1 : ¬ r ≤ 0 := by rcases hr with rfl | rfl <;> decide
    refine ⟨fun _ => ?_, fun z => absurd z hr0⟩
    unfold B_X13_repeats_33
    rw [e00]
    exact ⟨fun z => absurd z hr1, fun _ => EX_th up2_hit hr0 (hk _ _ _ (SI_t h r))⟩
  refine c_way2 e5 o1 (fun a b ha hb hab hbn hw => ?_) (fun hw => Or.inl ⟨rfl, bad 1 (Or.inl rfl) hw⟩) (fun hw => Or.inr ⟨rfl, bad 2 (Or.inr rfl) hw⟩)
  have t2 : SI (q + 1) cm (up2 (up2 mm 0 0 0) 0 0 2) := SI_mm h (by funext i; rfl) (by funext i; rfl) (by funext i; rfl) rfl rfl rfl
  have th : ¬ (¬ x3 < 0 ∧ ¬ 1000000 < x3) → post 2 (cm, oo) := by
    intro hno
    refine hpost _ _ ?_
    unfold w_X13_repeats
    refine r_two e1 o1 ?_
    rw [hw]
    refine ⟨fun z => absurd rfl z, fun _ => r_isIn2 (fun a b => absurd ⟨a, b⟩ hno) (fun _ => ⟨fun z => absurd rfl z, fun _ => ?_⟩)⟩
    unfold B_X13_repeats_33
    exact ⟨fun y => absurd y th2, fun _ => EX_th rfl (by decide) (hk _ _ _ t2)⟩
  refine ⟨fun q1 => Or.inr ⟨rfl, th (fun z => z.1 q1)⟩, fun q1 => ⟨fun q2 => ?_, fun q2 => Or.inr ⟨rfl, th (fun z => q2 (le_lt.mpr z.2))⟩⟩⟩
  subst ha
  subst hb
  refine c_bil g1 o1 hab hbn ?_
  generalize hB : Int64.toInt32 (bilS (mm 1) a (b - a)) = B
  have hm : Int32.toInt64 x3 * 1000 = 1000 * Int32.toInt64 x3 := Int64.mul_comm ..
  rw [hm]
  -- both go the same way
  have ref : ∀ r, (∀ P : Int32 → MM → Prop, P r (up2 mm 0 0 0) → ∃ n63, B_X13_repeats_63 P n63 x3 1000000000 (Int32.toInt64 (1000000000 - B)) 0 (up2 mm 0 0 0)) → post 0 (cm, vp_updL oo (Int32.toNatClampNeg (0 : Int32)) (Int32.toInt64 r)) := by
    intro r hr
    refine hpost _ _ ?_
    unfold w_X13_repeats
    refine r_two e1 o1 ?_
    rw [hw]
    refine ⟨fun z => absurd rfl z, fun _ => r_isIn2 (fun _ _ => ⟨fun _ => ?_, fun z => absurd z (by decide)⟩) (fun z => absurd ⟨q1, le_lt.mp q2⟩ z)⟩
    unfold B_X13_repeats_33
    refine ⟨fun _ => ?_, fun z => absurd th0 z⟩
    refine r_bil (mm := up2 mm 0 0 0) (M := mm 1) (by funext i; rfl) (by omega) hab ?_
    rw [hB]
    exact hr _ (EX_ok rfl (hk _ _ _ (SI_t h 0)))
  have key : ∀ (g j : Nat) (d : Int64), j + g = 100 → (∀ r, (∀ P : Int32 → MM → Prop, P r (up2 mm 0 0 0) → ∃ n63, B_X13_repeats_63 P n63 x3 d (Int32.toInt64 (1000000000 - B)) (nI j) (up2 mm 0 0 0)) → post 0 (cm, vp_updL oo (Int32.toNatClampNeg (0 : Int32)) (Int32.toInt64 r))) →
      B_X12_repeats_57 (fun r u => post 0 (u, vp_updL oo (Int32.toNatClampNeg (0 : Int32)) (Int32.toInt64 r))) (fun x u => (x = 1 ∧ post 1 (u, oo)) ∨ (x = 0 ∧ post 2 (u, oo))) (g + 1) (1000 * Int32.toInt64 x3) (Int32.toInt64 (1000000000 - B)) d (nI j) cm := by
    intro g
    induction g with
    | zero =>
      intro j d hj hr
      have e : j = 100 := by omega
      subst e
      unfold B_X12_repeats_57
      refine ⟨fun _ => hr (-1) (fun P hP => ⟨1, ?_⟩), fun z => absurd (by decide) z⟩
      unfold B_X13_repeats_63
      exact ⟨fun _ => hP, fun z => absurd (by decide) z⟩
    | succ g ih =>
      intro j d hj hr
      unfold B_X12_repeats_57
      refine ⟨fun z => ?_, fun _ => ⟨fun z => ?_, fun z => hr (nI j) (fun P hP => ⟨1, ?_⟩)⟩⟩
      · rw [fa_lit 99, nI_ltI (by omega) (by omega)] at z
        omega
      · rw [nI_1]
        refine ih (j + 1) _ (by omega) (fun r hr2 => hr r (fun P hP => ?_))
        obtain ⟨m, hm2⟩ := hr2 P hP
        refine ⟨m + 1, ?_⟩
        unfold B_X13_repeats_63
        refine ⟨fun y => ?_, fun _ => ⟨fun _ => by rw [nI_1]; exact hm2, fun y => absurd z y⟩⟩
        rw [fa_lit 100, nI_leI (by omega) (by omega)] at y
        omega
      · unfold B_X13_repeats_63
        refine ⟨fun y => ?_, fun _ => ⟨fun y => absurd y z, fun _ => hP⟩⟩
        rw [fa_lit 100, nI_leI (by omega) (by omega)] at y
        omega
  exact ⟨101, key 100 0 1000000000 rfl ref⟩
end SW
