/-! ===== PURE: copies of worlds ===== -/
theorem cpy8I (f g : Nat → Int32) {k : Nat} (h : k < 8) : va_cpy f g (0 : Int32).toNatClampNeg (0 : Int32).toNatClampNeg (8 : Int32).toNatClampNeg k = f k := by
  rw [show (0 : Int32).toNatClampNeg = 0 from rfl, show (8 : Int32).toNatClampNeg = 8 from rfl]
  unfold va_cpy
  rw [if_pos (by omega), show 0 + (k - 0) = k by omega]
theorem cpy8L (f g : Nat → Int64) {k : Nat} (h : k < 8) : va_cpy f g (0 : Int32).toNatClampNeg (0 : Int32).toNatClampNeg (8 : Int32).toNatClampNeg k = f k := by
  rw [show (0 : Int32).toNatClampNeg = 0 from rfl, show (8 : Int32).toNatClampNeg = 8 from rfl]
  unfold va_cpy
  rw [if_pos (by omega), show 0 + (k - 0) = k by omega]
/-- two worlds hold the same -/
def agr (w w' : ob_T) : Prop := (∀ k, k < 8 → w'.1 0 k = w.1 0 k ∧ w'.1 1 k = w.1 1 k ∧ w'.1 2 k = w.1 2 k ∧ w'.1 3 k = w.1 3 k ∧ w'.1 4 k = w.1 4 k ∧ w'.1 5 k = w.1 5 k ∧ w'.1 6 k = w.1 6 k ∧ w'.2 7 k = w.2 7 k ∧ w'.2 8 k = w.2 8 k) ∧ w'.1 9 0 = w.1 9 0 ∧ w'.1 10 0 = w.1 10 0 ∧ w'.1 11 0 = w.1 11 0 ∧ w'.2 12 0 = w.2 12 0 ∧ w'.2 13 0 = w.2 13 0 ∧ w'.1 14 0 = w.1 14 0 ∧ w'.1 15 0 = w.1 15 0 ∧ w'.1 16 0 = w.1 16 0
theorem agr_cl {w w' : ob_T} {V : Nat → Nat → Nat} {M : Nat → Nat} {K : Nat} (h : agr w w') (c : clW w V M K) : clW w' V M K := by
  obtain ⟨a, b9, b10, b11, b12, b13, b14, b15, b16⟩ := h
  obtain ⟨⟨c1, c2, c3, c4⟩, d, e1, e2, e3, e4, e5⟩ := c
  refine ⟨⟨b9.trans c1, b10.trans c2, b11.trans c3, fun n hn => ?_⟩, fun n hn h0 => ?_, b12.trans e1, b13.trans e2, b14.trans e3, b15.trans e4, b16.trans e5⟩
  · obtain ⟨q, h1, h2⟩ := c4 n hn
    exact ⟨q, h1, (a n hn).2.2.2.1.trans h2⟩
  · obtain ⟨x0, x1, x2, x3, x4, x5, x6, x7, x8⟩ := a n hn
    obtain ⟨y0, y1, y2, y3, y4, y5, y6, y7, y8⟩ := d n hn h0
    exact ⟨x0.trans y0, x1.trans y1, x2.trans y2, x3.trans y3, x4.trans y4, x5.trans y5, x6.trans y6, x7.trans y7, x8.trans y8⟩
theorem p4_copyFrom (fu : Nat) (w0 w1 : ob_T) : ∃ w', mX4_copyFrom fu w0 w1 = some w' ∧ agr w1 w' := by
  refine ⟨_, rfl, ⟨fun k hk => ⟨?_, ?_, ?_, ?_, ?_, ?_, ?_, ?_, ?_⟩, rfl, rfl, rfl, rfl, rfl, rfl, rfl, rfl⟩⟩
  · exact cpy8I _ _ hk
  · exact cpy8I _ _ hk
  · exact cpy8I _ _ hk
  · exact cpy8I _ _ hk
  · exact cpy8I _ _ hk
  · exact cpy8I _ _ hk
  · exact cpy8I _ _ hk
  · exact cpy8L _ _ hk
  · exact cpy8L _ _ hk
