/-! ===== the class reads a forest's text ===== -/
section CD
variable {cm0 cm : CMu} {M : Nat → Int32} {T : Nat → Pg} {n c o K : Nat} {k : TK} {post : CMu → Prop}
theorem k_wrong {cm : CMu} {s : PT} {post : Bool → CMu → Prop} (h1 : s.2.1 = -1 → post false (putT cm s)) (h0 : ¬ s.2.1 = -1 → post true (putT cm s)) : w_X10_isWrong post (putT cm s) := by
  unfold w_X10_isWrong
  rw [putT_7]
  exact ⟨h1, h0⟩
/-- what is wanted of the end of a line -/
def RLn (cm0 : CMu) (T : Nat → Pg) (c o K : Nat) (k : TK) (post : CMu → Prop) (s : PM) : Prop := ∀ cm' n', RT cm0 cm' s.2 T n' c o K → s.1.1 ≤ tN k → post (putT cm' s.1)
theorem k_readCamp (hk : TOK cm0 k) (hR : RT cm0 cm M T n c o K) (hn : n < 11) (hc : c = 0) {s : PT} (hs : s.1 ≤ tN k) (hp : RLn cm0 T c o K k post (lnCamp k (s, M))) : w_X4_readCamp post 596 (putT cm s) := by
  unfold w_X4_readCamp
  refine k_number (RT_TOK hR hk) hs (fun q1 => k_number (RT_TOK hR hk) q1 (fun q2 => k_wrong (fun q3 => ⟨fun z => absurd rfl z, fun _ => ?_⟩) (fun q3 => ⟨fun _ => ?_, fun z => absurd z (by decide)⟩)))
  · have ho : o = 0 := by
      have := hR.2.2.2.2.1.1.2.2.2.2.2.1
      rw [hc] at this
      exact this
    subst hc
    subst ho
    have hin := pNum_in (k := k) (s := s) (lo := 1) (hi := 20) (by decide)
    rw [fa_le, fa_le] at hin
    refine k_addCamp hR hn ⟨hin.1, hin.2⟩ (fun cm' h' => ?_)
    unfold B_X4_readCamp_30
    unfold RLn lnCamp at hp
    simp only [q3, if_true] at hp
    exact hp cm' (n + 1) h' q2
  · unfold B_X4_readCamp_30
    unfold RLn lnCamp at hp
    simp only [q3, if_false] at hp
    exact hp cm n hR q2
theorem k_opt (hk : TOK cm k) {s : PT} (hs : s.1 ≤ tN k) {w : Fin 32} {hi : Int32} {P : Int32 → CMu → Prop} (hp : (lnOpt k w hi s).2.1 ≤ tN k → P (lnOpt k w hi s).1 (putT cm (lnOpt k w hi s).2)) : w_X10_take (fun r5 u6 => ((r5 = false) → P 0 u6) ∧ (¬ (r5 = false) → (w_X10_takeNumber (fun r7 u8 => P r7 u8) 0 hi u6))) w (putT cm s) := by
  unfold lnOpt at hp
  refine k_take hk hs (fun q1 q2 => ⟨fun z => absurd z (by decide), fun _ => ?_⟩) (fun q1 => ⟨fun _ => ?_, fun z => absurd rfl z⟩)
  · rw [if_pos q1] at hp
    exact k_number hk q2 hp
  · rw [if_neg (by rw [q1]; decide)] at hp
    exact hp hs
theorem k_readReach (hk : TOK cm0 k) (hR : RT cm0 cm M T n c o K) {s : PT} (hs : s.1 ≤ tN k) (hp : RLn cm0 T c o K k post (lnReach k (s, M))) : w_X4_readReach post 596 (putT cm s) := by
  have hT := RT_TOK hR hk
  obtain ⟨g5, _, m1, _, hn, _⟩ := RT_head hR
  unfold w_X4_readReach
  rw [gI_putT (by omega), g5, ← m1]
  refine k_number hT hs (fun q1 => k_number hT q1 (fun q2 => ?_))
  refine k_opt (P := fun r u => B_X4_readReach_39 post 596 (pNum k 0 (M 1) s).1 (pNum k 1 20 (pNum k 0 (M 1) s).2).1 r u) hT q2 (fun q3 => ?_)
  unfold B_X4_readReach_39
  refine k_opt (P := fun r u => B_X4_readReach_62 post 596 (pNum k 0 (M 1) s).1 (pNum k 1 20 (pNum k 0 (M 1) s).2).1 (lnOpt k 3 99 (pNum k 1 20 (pNum k 0 (M 1) s).2).2).1 r u) hT q3 (fun q4 => ?_)
  unfold B_X4_readReach_62 B_X4_readReach_81
  unfold RLn lnReach at hp
  refine k_wrong (fun q5 => ⟨fun z => absurd rfl z, fun _ => ?_⟩) (fun q5 => ⟨fun _ => ?_, fun z => absurd z (by decide)⟩)
  · simp only [q5, if_true] at hp
    have hr := pNum_in (k := k) (s := s) (lo := 0) (hi := M 1) (by rw [m1]; exact nI_pos' (by omega))
    rw [m1] at hr
    obtain ⟨r, hr1, hr2⟩ := nI_of2 (M := nI n) (n := n) (x := (pNum k 0 (nI n) s).1) (nI_toInt (by omega)) (by
      have := hr.1
      rw [fa_le] at this
      rw [fa_lt]
      omega) hr.2
    have hl := pNum_in (k := k) (s := (pNum k 0 (M 1) s).2) (lo := 1) (hi := 20) (by decide)
    have hst := lnOpt_in (k := k) (w := 3) (hi := 99) (s := (pNum k 1 20 (pNum k 0 (M 1) s).2).2) (by decide)
    have hbe := lnOpt_in (k := k) (w := 4) (hi := 9) (s := (lnOpt k 3 99 (pNum k 1 20 (pNum k 0 (M 1) s).2).2).2) (by decide)
    rw [fa_le, fa_le] at hl hst hbe
    have e : (pNum k 0 (M 1) s).1 = nI r := by rw [m1]; exact hr2
    rw [e]
    rw [e, nI_clamp (by omega)] at hp
    exact k_setReach hR hr1 ⟨hl.1, hl.2⟩ ⟨hst.1, hst.2⟩ ⟨hbe.1, hbe.2⟩ (fun cm' h' => hp cm' n h' q4)
  · simp only [q5, if_false] at hp
    exact hp cm n hR q4
theorem k_line25 (hk : TOK cm0 k) (hR : RT cm0 cm M T n c o K) {s : PT} (hs : s.1 ≤ tN k) (hp : RLn cm0 T c o K k post (if pIs k 2 s then lnReach k (pmNx (s, M))
  else if pIs k 22 s then lnNum k 1 9 5 (pmNx (s, M))
  else if pIs k 15 s then lnNum k 0 23 7 (lnNum k 0 23 6 (pmNx (s, M)))
  else if pIs k 5 s then lnNum k 0 999 8 (pmNx (s, M))
  else (pRef k s, M))) : B_X4_readLine_25 post 596 (putT cm s) := by
  have hT := RT_TOK hR hk
  unfold B_X4_readLine_25 B_X4_readLine_131
  refine k_take hT hs (fun q1 q2 => ⟨fun z => absurd z (by decide), fun _ => ?_⟩) (fun q1 => ⟨fun _ => ?_, fun z => absurd rfl z⟩)
  · rw [if_pos q1] at hp
    exact k_readReach hk hR q2 hp
  rw [if_neg (by rw [q1]; decide)] at hp
  refine k_take hT hs (fun q1 q2 => ⟨fun z => absurd z (by decide), fun _ => ?_⟩) (fun q1 => ⟨fun _ => ?_, fun z => absurd rfl z⟩)
  · rw [if_pos q1] at hp
    exact RT_num hk hR q2 (by omega) rfl (by decide) (fun _ => ⟨by decide, by decide⟩) (fun cm' h' => hp cm' n h')
  rw [if_neg (by rw [q1]; decide)] at hp
  refine k_take hT hs (fun q1 q2 => ⟨fun z => absurd z (by decide), fun _ => ?_⟩) (fun q1 => ⟨fun _ => ?_, fun z => absurd rfl z⟩)
  · rw [if_pos q1] at hp
    exact RT_num (post := fun u => w_X10_takeNumber (fun r21 u22 => post (uI u22 596 11 r21)) 0 23 u) (x := 6) hk hR q2 (by omega) rfl (by decide) (fun z => by omega) (fun cm' h' q3 => RT_num hk h' q3 (x := 7) (by omega) rfl (by decide) (fun z => by omega) (fun cm2 h2 => hp cm2 n h2))
  rw [if_neg (by rw [q1]; decide)] at hp
  refine k_take hT hs (fun q1 q2 => ⟨fun z => absurd z (by decide), fun _ => ?_⟩) (fun q1 => ⟨fun _ => ?_, fun z => absurd rfl z⟩)
  · rw [if_pos q1] at hp
    exact RT_num (x := 8) hk hR q2 (by omega) rfl (by decide) (fun z => by omega) (fun cm' h' => hp cm' n h')
  rw [if_neg (by rw [q1]; decide)] at hp
  exact k_refuse hT hs (hp cm n hR (by rw [pRef_1]; exact hs))
theorem k_readLine (hk : TOK cm0 k) (hR : RT cm0 cm M T n c o K) {s : PT} (hs : s.1 ≤ tN k) (hp : RLn cm0 T c o K k post (pLine k (s, M))) : w_X4_readLine post 596 (putT cm s) := by
  have hT := RT_TOK hR hk
  obtain ⟨g5, g6, m1, m2, hn, hc⟩ := RT_head hR
  unfold w_X4_readLine w_X4_mayGrow
  rw [gI_putT (by omega), gI_putT (by omega), g5, g6]
  unfold pLine at hp
  simp only [m1, m2] at hp
  refine ⟨fun q => ⟨fun _ => ?_, fun z => absurd rfl z⟩, fun q => ⟨fun q2 => ⟨fun _ => ?_, fun z => absurd rfl z⟩, fun q2 => ⟨fun z => absurd z (by decide), fun _ => ?_⟩⟩⟩
  · rw [if_neg (fun z => z.1.1 q)] at hp
    exact k_line25 hk hR hs hp
  · rw [if_neg (fun z => q2 z.1.2)] at hp
    exact k_line25 hk hR hs hp
  · refine k_take hT hs (fun q3 q4 => ⟨fun z => absurd z (by decide), fun _ => ?_⟩) (fun q3 => ⟨fun _ => ?_, fun z => absurd rfl z⟩)
    · rw [if_pos ⟨⟨q, q2⟩, q3⟩] at hp
      rw [fa_lit 11, nI_leI (by omega) (by omega)] at q
      rw [fa_lit 0, nI_eq (by omega) (by omega)] at q2
      unfold B_X4_readLine_131
      exact k_readCamp hk hR (by omega) q2 q4 hp
    · rw [if_neg (fun z => by rw [q3] at z; exact absurd z.2 (by decide))] at hp
      exact k_line25 hk hR hs hp
theorem k_end42 (hk : TOK cm0 k) (hR : RT cm0 cm M T n c o K) {s : PT} (hs : s.1 ≤ tN k) (hp : RLn cm0 T c o K k post (pEnd k s, M)) : B_X4_read_42 post (putT cm s) := by
  have hT := RT_TOK hR hk
  unfold B_X4_read_42
  unfold pEnd RLn at hp
  refine k_take hT hs (fun q q2 => ⟨fun _ => ?_, fun z => absurd z (by decide)⟩) (fun q => ⟨fun z => absurd rfl z, fun _ => ?_⟩)
  · rw [if_pos q] at hp
    exact k_refuse hT q2 (hp cm n hR (by rw [pRef_1]; exact q2))
  · rw [if_neg (by rw [q]; decide)] at hp
    unfold w_X10_isAtEnd
    have e4 : gI (putT cm s) 4 4 = nI s.1 := rfl
    have hb := hT.2.2.2.2.2.1
    rw [TOK_3 hT, e4]
    refine ⟨fun q2 => ?_, fun q2 => ?_⟩
    · rw [nI_ltI (by omega) (by omega)] at q2
      rw [if_pos q2] at hp
      exact ⟨fun z => absurd rfl z, fun _ => k_refuse hT hs (hp cm n hR (by rw [pRef_1]; exact hs))⟩
    · rw [nI_ltI (by omega) (by omega)] at q2
      rw [if_neg q2] at hp
      exact ⟨fun _ => hp cm n hR hs, fun z => absurd z (by decide)⟩
theorem k_lines (hk : TOK cm0 k) : ∀ (f v : Nat) (cm : CMu) (M : Nat → Int32) (n : Nat) (s : PT), v + f = 14 → RT cm0 cm M T n c o K → s.1 ≤ tN k → RLn cm0 T c o K k post (pEnd k (pLines k f (s, M)).1, (pLines k f (s, M)).2) → B_X4_read_15 post (f + 1) 596 (nI v) (putT cm s) := by
  intro f
  induction f with
  | zero =>
    intro v cm M n s hv hR hs hp
    unfold B_X4_read_15
    refine ⟨fun _ => k_end42 hk hR hs hp, fun q => absurd ?_ q⟩
    rw [fa_lit 14, nI_leI (by omega) (by omega)]
    omega
  | succ f ih =>
    intro v cm M n s hv hR hs hp
    unfold B_X4_read_15
    unfold pLines at hp
    refine ⟨fun q => absurd q ?_, fun _ => ?_⟩
    · rw [fa_lit 14, nI_leI (by omega) (by omega)]
      omega
    refine k_take (RT_TOK hR hk) hs (fun q q2 => ⟨fun z => absurd z (by decide), fun _ => ?_⟩) (fun q => ⟨fun _ => ?_, fun z => absurd rfl z⟩)
    · rw [if_pos q] at hp
      refine k_readLine hk hR q2 (fun cm' n' h' hs' => ?_)
      rw [nI_1]
      exact ih (v + 1) cm' _ n' _ (by omega) h' hs' hp
    · rw [if_neg (by rw [q]; decide)] at hp
      exact k_end42 hk hR hs hp
theorem k_forest (hk : TOK cm0 k) (hR : RT cm0 cm M T n c o K) {s : PT} (hs : s.1 ≤ tN k) (hp : RLn cm0 T c o K k post (pForest k (s, M))) : w_X4_read post 596 (putT cm s) := by
  have hT := RT_TOK hR hk
  have hb := hT.2.2.2.2.2.1
  have e4 : gI (putT cm s) 4 4 = nI s.1 := rfl
  unfold w_X4_read w_X10_isAtEnd
  rw [TOK_3 hT, e4]
  unfold pForest at hp
  refine ⟨fun q => ?_, fun q => ?_⟩
  · rw [nI_ltI (by omega) (by omega)] at q
    rw [if_pos q] at hp
    exact ⟨fun _ => k_readLine hk hR hs (fun cm' n' h' hs' => ⟨14, k_lines hk 13 1 cm' _ n' _ rfl h' hs' hp⟩), fun z => absurd rfl z⟩
  · rw [nI_ltI (by omega) (by omega)] at q
    rw [if_neg q] at hp
    exact ⟨fun z => absurd z (by decide), fun _ => hp cm n hR hs⟩
end CD
