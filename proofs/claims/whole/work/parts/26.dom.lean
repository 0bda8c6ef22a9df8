/-! ===== a forest's cells against the reference's row ===== -/
theorem gI_hit {cm : CMu} {a j : Nat} {v : Int32} : gI (uI cm a j v) a j = v := up2_hit
theorem gI_f {cm : CMu} {a j b i : Nat} {v : Int32} (h : i ≠ j) : gI (uI cm a j v) b i = gI cm b i := up2_miss (fun z => h z.2)
theorem gI_c {cm : CMu} {a j b i : Nat} {v : Int32} (h : b ≠ a) : gI (uI cm a j v) b i = gI cm b i := up2_miss (fun z => h z.1)
theorem gI_uL {cm : CMu} {a j b i : Nat} {v : Int64} : gI (uL cm a j v) b i = gI cm b i := rfl
theorem gI_uW {cm : CMu} {a j b i : Nat} {v : Fin 32} : gI (uW cm a j v) b i = gI cm b i := rfl
theorem gL_uI {cm : CMu} {a j b i : Nat} {v : Int32} : gL (uI cm a j v) b i = gL cm b i := rfl
theorem gL_uW {cm : CMu} {a j b i : Nat} {v : Fin 32} : gL (uW cm a j v) b i = gL cm b i := rfl
theorem gW_uI {cm : CMu} {a j b i : Nat} {v : Int32} : gW (uI cm a j v) b i = gW cm b i := rfl
theorem gW_uL {cm : CMu} {a j b i : Nat} {v : Int64} : gW (uL cm a j v) b i = gW cm b i := rfl
theorem gL_hit {cm : CMu} {a j : Nat} {v : Int64} : gL (uL cm a j v) a j = v := up2_hit
theorem gL_f {cm : CMu} {a j b i : Nat} {v : Int64} (h : i ≠ j) : gL (uL cm a j v) b i = gL cm b i := up2_miss (fun z => h z.2)
theorem gL_c {cm : CMu} {a j b i : Nat} {v : Int64} (h : b ≠ a) : gL (uL cm a j v) b i = gL cm b i := up2_miss (fun z => h z.1)
/-- where the reference's place x stands in a forest -/
def ad (x : Nat) : Nat × Nat :=
  if x < 10 then [(0, 8), (0, 5), (0, 6), (0, 7), (0, 12), (0, 9), (0, 10), (0, 11), (0, 13), (5, 3)].getD x (0, 0)
  else if x < 46 then (24 + 2 * ((x - 10) / 3), (x - 10) % 3)
  else if x < 94 then (23 + 2 * ((x - 46) / 4), (x - 46) % 4)
  else if x < 118 then (6 + (x - 94) % 2, (x - 94) / 2)
  else if x < 262 then (9 + (x - 118) / 12, (x - 118) % 12)
  else if x < 322 then (4, x - 262)
  else (47 + (x - 330) / 8, (x - 330) % 8)
/-- and back: 9999 where no place is -/
def iv (a j : Nat) : Nat :=
  if a = 0 then [9999, 9999, 9999, 9999, 9999, 1, 2, 3, 0, 5, 6, 7, 4, 8].getD j 9999
  else if a = 5 then (if j = 3 then 9 else 9999)
  else if a = 4 then (if j < 60 then 262 + j else 9999)
  else if a < 6 then 9999
  else if a < 8 then (if j < 12 then 94 + 2 * j + (a - 6) else 9999)
  else if a < 9 then 9999
  else if a < 21 then (if j < 12 then 118 + 12 * (a - 9) + j else 9999)
  else if a < 23 then 9999
  else if a < 47 then (if a % 2 = 1 then (if j < 4 then 46 + 4 * ((a - 23) / 2) + j else 9999) else (if j < 3 then 10 + 3 * ((a - 24) / 2) + j else 9999))
  else if a < 107 then (if j < 6 then 330 + 8 * (a - 47) + j else 9999)
  else 9999
/-- the places that a forest has -/
def im (x : Nat) : Bool := decide (x < 322 ∨ (330 ≤ x ∧ x < 810 ∧ (x - 330) % 8 < 6))
theorem iv_ad {x : Nat} (h : im x = true) : iv (ad x).1 (ad x).2 = x ∧ (ad x).1 < 107 := by
  have key : ∀ x, x < 810 → im x = true → iv (ad x).1 (ad x).2 = x ∧ (ad x).1 < 107 := by decide +kernel
  refine key x ?_ h
  unfold im at h
  have := of_decide_eq_true h
  omega
def RFI (cm : CMu) (f : Nat) (M : Nat → Int32) (D : Nat → Prop) : Prop := ∀ x, D x → gI cm (f + (ad x).1) (ad x).2 = M x
theorem RFI_set {cm : CMu} {f : Nat} {M : Nat → Int32} {D : Nat → Prop} (h : RFI cm f M D) (hD : ∀ x, D x → im x = true) {x : Nat} (hx : im x = true) (v : Int32) : RFI (uI cm (f + (ad x).1) (ad x).2 v) f (upd M x v) D := by
  intro y hy
  by_cases e : y = x
  · subst e
    rw [gI_hit]
    unfold upd
    rw [if_pos rfl]
  · have e2 : ¬ (f + (ad y).1 = f + (ad x).1 ∧ (ad y).2 = (ad x).2) := by
      intro ⟨z1, z2⟩
      have z1' : (ad y).1 = (ad x).1 := by omega
      exact e (by rw [← (iv_ad (hD y hy)).1, ← (iv_ad hx).1, z1', z2])
    unfold upd
    rw [if_neg e]
    exact (up2_miss e2).trans (h y hy)
/-- a place that the domain doesn't have may take any value there -/
theorem RFI_up {cm : CMu} {f : Nat} {M : Nat → Int32} {D : Nat → Prop} (h : RFI cm f M D) {x : Nat} (hx : ¬ D x) (v : Int32) : RFI cm f (upd M x v) D := by
  intro y hy
  unfold upd
  by_cases e : y = x
  · subst e
    exact absurd hy hx
  · rw [if_neg e]
    exact h y hy
/-- a cell that is no place of it -/
theorem RFI_un {cm : CMu} {f : Nat} {M : Nat → Int32} {D : Nat → Prop} (h : RFI cm f M D) (hD : ∀ x, D x → im x = true) {a j : Nat} {v : Int32} (ha : a < f ∨ iv (a - f) j = 9999) : RFI (uI cm a j v) f M D := by
  intro y hy
  have h1 := iv_ad (hD y hy)
  have h2 : y < 810 := by
    have := of_decide_eq_true (hD y hy)
    omega
  refine (up2_miss ?_).trans (h y hy)
  intro ⟨z1, z2⟩
  rcases ha with ha | ha
  · omega
  · have z3 : a - f = (ad y).1 := by omega
    rw [z3, ← z2, h1.1] at ha
    omega
theorem RFI_fr {cm cm' : CMu} {f : Nat} {M : Nat → Int32} {D : Nat → Prop} (h : RFI cm f M D) (hD : ∀ x, D x → im x = true) (hf : ∀ b j, f ≤ b → b < f + 107 → gI cm' b j = gI cm b j) : RFI cm' f M D := by
  intro y hy
  rw [hf _ _ (by omega) (by have := (iv_ad (hD y hy)).2; omega)]
  exact h y hy
/-- the places that n camps and c chips have -/
def DD (n c o : Nat) (x : Nat) : Prop := x < 10 ∨ (10 ≤ x ∧ x < 13 + 3 * n) ∨ (50 ≤ x ∧ x < 50 + 4 * n) ∨ (94 ≤ x ∧ x < 262) ∨ (262 ≤ x ∧ x < 262 + o) ∨ (330 ≤ x ∧ x < 330 + 8 * c ∧ (x - 330) % 8 < 6)
theorem DD_im {n c o : Nat} (hn : n ≤ 11) (hc : c ≤ 60) (ho : o ≤ 60) : ∀ x, DD n c o x → im x = true := by
  intro x h
  unfold DD at h
  unfold im
  refine decide_eq_true ?_
  omega
theorem ad_r {r w : Nat} (hr : r < 12) (hw : w < 3) : ad (10 + 3 * r + w) = (24 + 2 * r, w) := by
  unfold ad
  rw [if_neg (by omega), if_pos (by omega), show (10 + 3 * r + w - 10) / 3 = r by omega, show (10 + 3 * r + w - 10) % 3 = w by omega]
theorem ad_k {i w : Nat} (hi : i < 12) (hw : w < 4) : ad (46 + 4 * i + w) = (23 + 2 * i, w) := by
  unfold ad
  rw [if_neg (by omega), if_neg (by omega), if_pos (by omega), show (46 + 4 * i + w - 46) / 4 = i by omega, show (46 + 4 * i + w - 46) % 4 = w by omega]
theorem ad_c {i w : Nat} (hw : w < 8) : ad (330 + 8 * i + w) = (47 + i, w) := by
  unfold ad
  rw [if_neg (by omega), if_neg (by omega), if_neg (by omega), if_neg (by omega), if_neg (by omega), if_neg (by omega), show (330 + 8 * i + w - 330) / 8 = i by omega, show (330 + 8 * i + w - 330) % 8 = w by omega]
theorem ad_o {i : Nat} (hi : i < 60) : ad (262 + i) = (4, i) := by
  unfold ad
  rw [if_neg (by omega), if_neg (by omega), if_neg (by omega), if_neg (by omega), if_neg (by omega), if_pos (by omega), show 262 + i - 262 = i by omega]
theorem ad_q {i w : Nat} (hi : i < 12) (hw : w < 2) : ad (94 + 2 * i + w) = (6 + w, i) := by
  unfold ad
  rw [if_neg (by omega), if_neg (by omega), if_neg (by omega), if_pos (by omega), show (94 + 2 * i + w - 94) / 2 = i by omega, show (94 + 2 * i + w - 94) % 2 = w by omega]
theorem ad_a {i j : Nat} (hi : i < 12) (hj : j < 12) : ad (118 + 12 * i + j) = (9 + i, j) := by
  unfold ad
  rw [if_neg (by omega), if_neg (by omega), if_neg (by omega), if_neg (by omega), if_pos (by omega), show (118 + 12 * i + j - 118) / 12 = i by omega, show (118 + 12 * i + j - 118) % 12 = j by omega]
section RF
variable {cm : CMu} {f n c o : Nat} {M : Nat → Int32}
theorem RF_h (h : RFI cm f M (DD n c o)) (x : Nat) (hx : x < 10) {a j : Nat} (e : ad x = (a, j)) : gI cm (f + a) j = M x := by
  have := h x (Or.inl hx)
  rw [e] at this
  exact this
theorem RF_r (h : RFI cm f M (DD n c o)) (hn : n ≤ 11) {r w : Nat} (hr : r ≤ n) (hw : w < 3) : gI cm (f + 24 + 2 * r) w = M (10 + 3 * r + w) := by
  have := h (10 + 3 * r + w) (Or.inr (Or.inl (by omega)))
  rw [ad_r (by omega) hw] at this
  rw [← this, Nat.add_assoc]
theorem RF_k (h : RFI cm f M (DD n c o)) (hn : n ≤ 11) {i w : Nat} (h1 : 1 ≤ i) (hi : i ≤ n) (hw : w < 4) : gI cm (f + 23 + 2 * i) w = M (46 + 4 * i + w) := by
  have := h (46 + 4 * i + w) (Or.inr (Or.inr (Or.inl (by omega))))
  rw [ad_k (by omega) hw] at this
  rw [← this, Nat.add_assoc]
theorem RF_c (h : RFI cm f M (DD n c o)) {i w : Nat} (hi : i < c) (hw : w < 6) : gI cm (f + 47 + i) w = M (330 + 8 * i + w) := by
  have := h (330 + 8 * i + w) (Or.inr (Or.inr (Or.inr (Or.inr (Or.inr ⟨by omega, by omega, by omega⟩)))))
  rw [ad_c (by omega)] at this
  rw [← this, Nat.add_assoc]
theorem RF_o (h : RFI cm f M (DD n c o)) (ho : o ≤ 60) {i : Nat} (hi : i < o) : gI cm (f + 4) i = M (262 + i) := by
  have := h (262 + i) (Or.inr (Or.inr (Or.inr (Or.inr (Or.inl (by omega))))))
  rw [ad_o (by omega)] at this
  exact this
theorem RF_q (h : RFI cm f M (DD n c o)) {i w : Nat} (hi : i < 12) (hw : w < 2) : gI cm (f + 6 + w) i = M (94 + 2 * i + w) := by
  have := h (94 + 2 * i + w) (Or.inr (Or.inr (Or.inr (Or.inl (by omega)))))
  rw [ad_q hi hw] at this
  rw [← this, Nat.add_assoc]
theorem RF_a (h : RFI cm f M (DD n c o)) {i j : Nat} (hi : i < 12) (hj : j < 12) : gI cm (f + 9 + i) j = M (118 + 12 * i + j) := by
  have := h (118 + 12 * i + j) (Or.inr (Or.inr (Or.inr (Or.inl (by omega)))))
  rw [ad_a hi hj] at this
  rw [← this, Nat.add_assoc]
theorem RS_h {D : Nat → Prop} (h : RFI cm f M D) (hD : ∀ x, D x → im x = true) (x : Nat) (hx : x < 10) {a j : Nat} (e : ad x = (a, j)) (v : Int32) : RFI (uI cm (f + a) j v) f (upd M x v) D := by
  have := RFI_set h hD (x := x) (decide_eq_true (by omega)) v
  rw [e] at this
  exact this
theorem RS_r {D : Nat → Prop} (h : RFI cm f M D) (hD : ∀ x, D x → im x = true) {r w : Nat} (hr : r < 12) (hw : w < 3) (v : Int32) : RFI (uI cm (f + 24 + 2 * r) w v) f (upd M (10 + 3 * r + w) v) D := by
  have := RFI_set h hD (x := 10 + 3 * r + w) (decide_eq_true (by omega)) v
  rw [ad_r hr hw] at this
  rw [Nat.add_assoc]
  exact this
theorem RS_k {D : Nat → Prop} (h : RFI cm f M D) (hD : ∀ x, D x → im x = true) {i w : Nat} (hi : i < 12) (hw : w < 4) (v : Int32) : RFI (uI cm (f + 23 + 2 * i) w v) f (upd M (46 + 4 * i + w) v) D := by
  have := RFI_set h hD (x := 46 + 4 * i + w) (decide_eq_true (by omega)) v
  rw [ad_k hi hw] at this
  rw [Nat.add_assoc]
  exact this
theorem RS_c {D : Nat → Prop} (h : RFI cm f M D) (hD : ∀ x, D x → im x = true) {i w : Nat} (hi : i < 60) (hw : w < 6) (v : Int32) : RFI (uI cm (f + 47 + i) w v) f (upd M (330 + 8 * i + w) v) D := by
  have := RFI_set h hD (x := 330 + 8 * i + w) (decide_eq_true (by omega)) v
  rw [ad_c (by omega)] at this
  rw [Nat.add_assoc]
  exact this
theorem RS_o {D : Nat → Prop} (h : RFI cm f M D) (hD : ∀ x, D x → im x = true) {i : Nat} (hi : i < 60) (v : Int32) : RFI (uI cm (f + 4) i v) f (upd M (262 + i) v) D := by
  have := RFI_set h hD (x := 262 + i) (decide_eq_true (by omega)) v
  rw [ad_o hi] at this
  exact this
theorem RS_q {D : Nat → Prop} (h : RFI cm f M D) (hD : ∀ x, D x → im x = true) {i w : Nat} (hi : i < 12) (hw : w < 2) (v : Int32) : RFI (uI cm (f + 6 + w) i v) f (upd M (94 + 2 * i + w) v) D := by
  have := RFI_set h hD (x := 94 + 2 * i + w) (decide_eq_true (by omega)) v
  rw [ad_q hi hw] at this
  rw [Nat.add_assoc]
  exact this
theorem RS_a {D : Nat → Prop} (h : RFI cm f M D) (hD : ∀ x, D x → im x = true) {i j : Nat} (hi : i < 12) (hj : j < 12) (v : Int32) : RFI (uI cm (f + 9 + i) j v) f (upd M (118 + 12 * i + j) v) D := by
  have := RFI_set h hD (x := 118 + 12 * i + j) (decide_eq_true (by omega)) v
  rw [ad_a hi hj] at this
  rw [Nat.add_assoc]
  exact this
end RF
