/-! ===== the class reads a line of a forest's text ===== -/
theorem RFI_ext {cm : CMu} {f : Nat} {M : Nat → Int32} {D : Nat → Prop} (h : RFI cm f M D) (hD : ∀ x, D x → im x = true) {x : Nat} (hx : im x = true) (v : Int32) : RFI (uI cm (f + (ad x).1) (ad x).2 v) f (upd M x v) (fun y => D y ∨ y = x) := by
  intro y hy
  rcases hy with hy | hy
  · exact RFI_set h hD hx v y hy
  · subst hy
    rw [gI_hit]
    unfold upd
    rw [if_pos rfl]
theorem RFI_mono {cm : CMu} {f : Nat} {M : Nat → Int32} {D D' : Nat → Prop} (h : RFI cm f M D) (hs : ∀ x, D' x → D x) : RFI cm f M D' := fun x hx => h x (hs x hx)
theorem Dom_h {M : Nat → Int32} {n c o K x : Nat} {v : Int32} (h : Dom M n c o K) (hx : 5 ≤ x ∧ x ≤ 8) (hv : x = 5 → 1 ≤ v ∧ v ≤ 9) : Dom (upd M x v) n c o K := by
  obtain ⟨⟨h1, h2, h3, h4, h5, h6, h7, h8, h9, h10⟩, hr, hc, ho, hd⟩ := h
  refine ⟨⟨?_, h2, ?_, h4, ?_, ?_, ?_, ?_, ?_, ?_⟩, DR_cong hr (fun y _ _ => pk_un (by omega)), DC_cong hc (fun y _ _ => pk_un (by omega)), DO_cong ho (pk_un (by omega)) (fun y _ _ => pk_un (by omega)), DV_cong hd (fun y _ _ => pk_un (by omega))⟩
  · rw [pk_un (by omega)]; exact h1
  · rw [pk_un (by omega)]; exact h3
  · rw [pk_un (by omega)]; exact h5
  · rw [h6]
    refine cntP_cong (fun i _ => ?_)
    unfold isOut
    rw [pk_un (by omega)]
  · rw [pk_un (by omega)]; exact h7
  · by_cases e : x = 5
    · subst e
      rw [pk_us]
      have := (hv rfl).1
      rw [fa_le] at this
      exact this
    · rw [pk_un (by omega)]; exact h8
  · by_cases e : x = 5
    · subst e
      rw [pk_us]
      have := (hv rfl).2
      rw [fa_le] at this
      exact this
    · rw [pk_un (by omega)]; exact h9
  · rw [pk_un (by omega)]; exact h10
theorem Dom_r {M : Nat → Int32} {n c o K r w : Nat} {v : Int32} (h : Dom M n c o K) (hr : r ≤ n) (hw : w < 3) (hv : (w = 0 → 1 ≤ v.toInt ∧ v.toInt ≤ 20) ∧ (w = 1 → 0 ≤ v.toInt ∧ v.toInt ≤ 99) ∧ (w = 2 → 0 ≤ v.toInt ∧ v.toInt ≤ 9)) : Dom (upd M (10 + 3 * r + w) v) n c o K := by
  obtain ⟨⟨h1, h2, h3, h4, h5, h6, h7, h8, h9, h10⟩, hr2, hc, ho, hd⟩ := h
  refine ⟨⟨?_, h2, ?_, h4, ?_, ?_, ?_, ?_, ?_, ?_⟩, ?_, DC_cong hc (fun y _ _ => pk_un (by omega)), DO_cong ho (pk_un (by omega)) (fun y _ _ => pk_un (by omega)), DV_cong hd (fun y _ _ => pk_un (by omega))⟩
  · rw [pk_un (by omega)]; exact h1
  · rw [pk_un (by omega)]; exact h3
  · rw [pk_un (by omega)]; exact h5
  · rw [h6]
    refine cntP_cong (fun i _ => ?_)
    unfold isOut
    rw [pk_un (by omega)]
  · rw [pk_un (by omega)]; exact h7
  · rw [pk_un (by omega)]; exact h8
  · rw [pk_un (by omega)]; exact h9
  · rw [pk_un (by omega)]; exact h10
  · intro r2 hr3
    have h0 := hr2 r2 hr3
    by_cases e : r2 = r
    · subst e
      unfold RcO at h0 ⊢
      have hw2 : w = 0 ∨ w = 1 ∨ w = 2 := by omega
      rcases hw2 with rfl | rfl | rfl
      · have := hv.1 rfl
        rw [show 10 + 3 * r2 + 0 = 10 + 3 * r2 by omega, pk_us, pk_un (by omega), pk_un (by omega)]
        exact ⟨this.1, this.2, h0.2.2⟩
      · have := hv.2.1 rfl
        rw [show 10 + 3 * r2 + 1 = 11 + 3 * r2 by omega, pk_us, pk_un (by omega), pk_un (by omega)]
        exact ⟨h0.1, h0.2.1, this.1, this.2, h0.2.2.2.2⟩
      · have := hv.2.2 rfl
        rw [show 10 + 3 * r2 + 2 = 12 + 3 * r2 by omega, pk_us, pk_un (by omega), pk_un (by omega)]
        exact ⟨h0.1, h0.2.1, h0.2.2.1, h0.2.2.2.1, this.1, this.2⟩
    · unfold RcO at h0 ⊢
      rw [pk_un (by omega), pk_un (by omega), pk_un (by omega)]
      exact h0
section CL
variable {cm0 cm : CMu} {M : Nat → Int32} {T : Nat → Pg} {n c o K : Nat} {k : TK} {post : CMu → Prop}
theorem RT_num (hk : TOK cm0 k) (hR : RT cm0 cm M T n c o K) {s : PT} (hs : s.1 ≤ tN k) {lo hi : Int32} {x j : Nat} (hx : 5 ≤ x ∧ x ≤ 8) (e : ad x = (0, j)) (hlh : lo ≤ hi) (h5 : x = 5 → 1 ≤ lo ∧ hi ≤ 9)
    (hp : ∀ cm', RT cm0 cm' (lnNum k lo hi x (s, M)).2 T n c o K → (lnNum k lo hi x (s, M)).1.1 ≤ tN k → post (putT cm' (lnNum k lo hi x (s, M)).1)) : w_X10_takeNumber (fun r u => post (uI u 596 j r)) lo hi (putT cm s) := by
  refine k_number (RT_TOK hR hk) hs (fun q => ?_)
  rw [uI_putT (by omega)]
  have hin := pNum_in (k := k) (s := s) hlh
  refine hp _ ?_ q
  refine RT_set (a := 0) hR (by omega) e (Or.inl (by omega)) (Dom_h hR.2.2.2.2.1 hx (fun z => ?_))
  have := h5 z
  rw [fa_le, fa_le] at *
  omega
theorem RT_head (hR : RT cm0 cm M T n c o K) : gI cm 596 5 = nI n ∧ gI cm 596 6 = nI c ∧ M 1 = nI n ∧ M 2 = nI c ∧ n ≤ 11 ∧ c ≤ 60 := by
  obtain ⟨h1, h2, h3, h4, h5, h6⟩ := hR
  obtain ⟨⟨d1, d2, d3, d4, _⟩, _⟩ := h5
  refine ⟨?_, ?_, d1, d3, d2, d4⟩
  · rw [← d1]; exact RF_h h4.1 1 (by omega) rfl
  · rw [← d3]; exact RF_h h4.1 2 (by omega) rfl
theorem k_setReach (hR : RT cm0 cm M T n c o K) {s : PT} {r : Nat} (hr : r ≤ n) {l st be : Int32} (hl : 1 ≤ l.toInt ∧ l.toInt ≤ 20) (hst : 0 ≤ st.toInt ∧ st.toInt ≤ 99) (hbe : 0 ≤ be.toInt ∧ be.toInt ≤ 9)
    (hp : ∀ cm', RT cm0 cm' (upd (upd (upd M (10 + 3 * r + 0) l) (10 + 3 * r + 1) st) (10 + 3 * r + 2) be) T n c o K → post (putT cm' s)) : w_X4_setReach post 596 (nI r) l st be (putT cm s) := by
  have hn := (RT_head hR).2.2.2.2.1
  unfold w_X4_setReach
  rw [fa_lit 0, fa_lit 12]
  refine ⟨fun q => absurd q (nI_pos (by omega)), fun _ => ⟨fun q => absurd q (nI_ge (by omega) (by omega)), fun _ => ?_⟩⟩
  refine ⟨vp_in_nI (by omega) (by omega), ?_⟩
  rw [nI_clamp (by omega)]
  unfold B_X4_setReach_40
  rw [uI_putT (by omega), uI_putT (by omega), uI_putT (by omega)]
  refine hp _ ?_
  have a0 := ad_r (r := r) (w := 0) (by omega) (by omega)
  have a1 := ad_r (r := r) (w := 1) (by omega) (by omega)
  have a2 := ad_r (r := r) (w := 2) (by omega) (by omega)
  have s0 := RT_set (v := l) hR (by omega) a0 (Or.inr ⟨by omega, by omega, by omega⟩) (Dom_r hR.2.2.2.2.1 hr (by omega) ⟨fun _ => hl, fun z => by omega, fun z => by omega⟩)
  have s1 := RT_set (v := st) s0 (by omega) a1 (Or.inr ⟨by omega, by omega, by omega⟩) (Dom_r s0.2.2.2.2.1 hr (by omega) ⟨fun z => by omega, fun _ => hst, fun z => by omega⟩)
  have s2 := RT_set (v := be) s1 (by omega) a2 (Or.inr ⟨by omega, by omega, by omega⟩) (Dom_r s1.2.2.2.2.1 hr (by omega) ⟨fun z => by omega, fun z => by omega, fun _ => hbe⟩)
  rw [← Nat.add_assoc] at s2
  exact s2
end CL
