/-! ===== PURE: a sack moves ===== -/
theorem lN_per (a b : Nat) : lN (a + 18446744073709551616 * b) = lN a := by
  apply Int64.toBitVec_inj.mp
  show BitVec.ofNat 64 _ = BitVec.ofNat 64 _
  apply BitVec.eq_of_toNat_eq
  simp only [BitVec.toNat_ofNat]
  omega
theorem m1L : (-1 : Int64) = lN 18446744073709551615 := by decide
theorem L_add_m1 {a : Nat} (h : 1 ≤ a) : lN a + (-1) = lN (a - 1) := by
  rw [m1L, lN_add, show a + 18446744073709551615 = (a - 1) + 18446744073709551616 * 1 by omega, lN_per]
theorem L_sub_m1 (a : Nat) : lN a - (-1) = lN (a + 1) := by
  have h := L_add_m1 (a := a + 1) (by omega)
  rw [show a + 1 - 1 = a by omega] at h
  rw [← h]
  exact Int64.add_sub_cancel _ _
theorem L_add_mm {a b : Nat} (h : b ≤ a) : lN a + (-1) * lN b = lN (a - b) := by
  rw [m1L, lN_mul, lN_add, show a + 18446744073709551615 * b = (a - b) + 18446744073709551616 * b by omega, lN_per]
theorem L_sub_mm (a b : Nat) : lN a - (-1) * lN b = lN (a + b) := by
  have h := L_add_mm (a := a + b) (b := b) (by omega)
  rw [show a + b - b = a by omega] at h
  rw [← h]
  exact Int64.add_sub_cancel _ _
theorem m1_toL : (-1 : Int32).toInt64 = (-1 : Int64) := by decide
theorem m1_mulL {R : Nat} (h : R < 2147483648) : ((-1 : Int32) * nI R).toInt64 = (-1) * lN R := by
  apply Int64.toInt_inj.mp
  rw [Int32.toInt_toInt64, Int32.toInt_mul, Int64.toInt_mul, nI_toInt (by omega), pk_lT (by omega)]
  rw [show (-1 : Int32).toInt = -1 from rfl, show (-1 : Int64).toInt = -1 from rfl]
  rw [Int.bmod_eq_of_le (by omega) (by omega), Int.bmod_eq_of_le (by omega) (by omega)]
def sp_go (V : Nat → Nat → Nat) (n how : Nat) : Nat → Nat → Nat := fun k f => if k = n then (if f = 3 then (if how = 1 then V n 3 - 1 else V n 3 + 1) else if f = 4 then (if how = 1 then V n 4 + V n 0 else V n 4 - V n 0) else V n f) else V k f
def sp_gM (V : Nat → Nat → Nat) (M : Nat → Nat) (n how : Nat) : Nat → Nat := fun f => if f = 0 then (if how = 1 then M 0 + 1 else M 0 - 1) else if f = 1 then (if how = 1 then M 1 - V n 0 else M 1 + V n 0) else M f
/-- a sack can move so -/
def sp_can (V : Nat → Nat → Nat) (M : Nat → Nat) (n how : Nat) : Prop := V n 0 ≠ 0 ∧ ((how = 1 ∧ 0 < V n 3 ∧ V n 0 ≤ M 1) ∨ (how = 2 ∧ 0 < M 0 ∧ V n 0 ≤ V n 4))
theorem sp_mv_can {V : Nat → Nat → Nat} {M : Nat → Nat} {K n : Nat} (h : sp_mv V M K n ≠ 0) : sp_can V M n (sp_mv V M K n) := by
  unfold sp_mv at h ⊢
  by_cases e0 : V n 0 = 0
  · rw [if_pos e0] at h; exact absurd rfl h
  rw [if_neg e0] at h ⊢
  by_cases e6 : V n 6 = 0
  · rw [if_pos e6] at h; exact absurd rfl h
  rw [if_neg e6] at h ⊢
  by_cases e1 : sp_out V M K n = true
  · rw [if_pos e1]
    have := of_decide_eq_true e1
    exact ⟨e0, Or.inl ⟨rfl, this.2.1, this.2.2.1⟩⟩
  rw [if_neg e1] at h ⊢
  by_cases e2 : sp_come V M K n = true
  · rw [if_pos e2]
    have := of_decide_eq_true e2
    exact ⟨e0, Or.inr ⟨rfl, this.1, this.2.1⟩⟩
  · rw [if_neg e2] at h; exact absurd rfl h
/-- what the reference keeps outside its first world -/
def rfK (y y' : ob_T) : Prop := y'.1 = y.1 ∧ ∀ f k, (f ≠ 2 ∧ f ≠ 3) ∨ (f = 2 ∧ 72 ≤ k) ∨ (f = 3 ∧ 3 ≤ k) → y'.2 f k = y.2 f k
theorem rfK_rf {y : ob_T} : rfK y y := ⟨rfl, fun _ _ _ => rfl⟩
theorem rfK_tr {a b c : ob_T} (h : rfK a b) (g : rfK b c) : rfK a c := ⟨g.1.trans h.1, fun f k q => (g.2 f k q).trans (h.2 f k q)⟩
def ms_a (y : ob_T) (n : Nat) (s : Int64) : ob_T := ob_L y 2 (vp_updL (y.2 2) (9 * n + 3) ((y.2 2 (9 * n + 3)) - s))
def ms_b (y : ob_T) (s : Int64) : ob_T := ob_L y 3 (vp_updL (y.2 3) 0 ((y.2 3 0) + s))
def ms_c (y : ob_T) (n : Nat) (s : Int64) : ob_T := ob_L y 2 (vp_updL (y.2 2) (9 * n + 4) ((y.2 2 (9 * n + 4)) + (s * (y.2 2 (9 * n)))))
def ms_d (y : ob_T) (n : Nat) (s : Int64) : ob_T := ob_L y 3 (vp_updL (y.2 3) 1 ((y.2 3 1) - (s * (y.2 2 (9 * n)))))
def ms_st (y : ob_T) (n : Nat) (s : Int64) : ob_T := ms_d (ms_c (ms_b (ms_a y n s) s) n s) n s
theorem ms_eq (fu : Nat) (y : ob_T) {n : Nat} (hn : n < 8) (s : Int64) : bX6_moveSack_12 fu y (nI n) s = some (ms_st y n s) := by
  unfold bX6_moveSack_12
  simp only [l32_0, l32_1, l32_3, l32_4, l32_9, nI_mulN, nI_addN, bnd_eq]
  simp (disch := omega) only [↓ix_no, ↓reduceIte, nI_clN]
  rfl
theorem updL_at (f : Nat → Int64) (k : Nat) (x : Int64) (j : Nat) : vp_updL f k x j = if j = k then x else f j := rfl
theorem updI_at (f : Nat → Int32) (k : Nat) (x : Int32) (j : Nat) : upd f k x j = if j = k then x else f j := rfl
theorem ms_2 (y : ob_T) (n : Nat) (s : Int64) (k : Nat) : (ms_st y n s).2 2 k = if k = 9 * n + 3 then y.2 2 (9 * n + 3) - s else if k = 9 * n + 4 then y.2 2 (9 * n + 4) + s * y.2 2 (9 * n) else y.2 2 k := by
  simp only [ms_st, ms_a, ms_b, ms_c, ms_d, obL_2]
  simp (decide := true) only [if_true, if_false, updL_at]
  repeat' split
  all_goals first | rfl | (exfalso; omega)
theorem ms_3 (y : ob_T) (n : Nat) (s : Int64) (k : Nat) : (ms_st y n s).2 3 k = if k = 0 then y.2 3 0 + s else if k = 1 then y.2 3 1 - s * y.2 2 (9 * n) else y.2 3 k := by
  simp only [ms_st, ms_a, ms_b, ms_c, ms_d, obL_2]
  simp (decide := true) only [if_true, if_false, updL_at]
  repeat' split
  all_goals first | rfl | (exfalso; omega)
theorem p6_moveSack (fu : Nat) {y : ob_T} {V : Nat → Nat → Nat} {M : Nat → Nat} (h : rfW y 0 V M) (o : okV V) (oM : okM M) {n how : Nat} (hn : n < 8) (hc : sp_can V M n how) : ∃ y', mX6_moveSack fu y (nI n) (nI how) = some y' ∧ rfK y y' ∧ rfW y' 0 (sp_go V n how) (sp_gM V M n how) := by
  have v0 := rf_at0 h hn
  have v3 := rf_at h hn (show 3 < 8 by omega)
  have v4 := rf_at h hn (show 4 < 8 by omega)
  have m0 : y.2 3 0 = lN (M 0) := h.2 0 (by omega)
  have m1 : y.2 3 1 = lN (M 1) := h.2 1 (by omega)
  obtain ⟨o0, o1, o2, o3, o4, o5, o6, o7, o8, o9⟩ := o n hn
  have q0 := oM.1
  have q1 := oM.2.1
  have fin : ∀ (y' : ob_T), y'.1 = y.1 → (∀ f, f ≠ 2 → f ≠ 3 → y'.2 f = y.2 f) → (∀ k, y'.2 2 k = if k = 9 * n + 3 then lN (sp_go V n how n 3) else if k = 9 * n + 4 then lN (sp_go V n how n 4) else y.2 2 k) → (∀ k, y'.2 3 k = if k = 0 then lN (sp_gM V M n how 0) else if k = 1 then lN (sp_gM V M n how 1) else y.2 3 k) → rfK y y' ∧ rfW y' 0 (sp_go V n how) (sp_gM V M n how) := by
    intro y' h1 h2 h3 h4
    refine ⟨⟨h1, fun f k q => ?_⟩, fun k hk => ⟨fun f hf => ?_, ?_⟩, fun f hf => ?_⟩
    · rcases q with ⟨a, b⟩ | ⟨a, b⟩ | ⟨a, b⟩
      · rw [h2 f a b]
      · subst a; rw [h3, if_neg (by omega), if_neg (by omega)]
      · subst a; rw [h4, if_neg (by omega), if_neg (by omega)]
    · rw [h3]
      by_cases e : k = n
      · subst e
        by_cases e3 : f = 3
        · subst e3; rw [if_pos (by omega)]
        · by_cases e4 : f = 4
          · subst e4; rw [if_neg (by omega), if_pos (by omega)]
          · rw [if_neg (by omega), if_neg (by omega), (h.1 k hk).1 f hf]
            simp [sp_go, e3, e4]
      · rw [if_neg (by omega), if_neg (by omega), (h.1 k hk).1 f hf]
        simp [sp_go, e]
    · rw [h3, if_neg (by omega), if_neg (by omega), (h.1 k hk).2]
      by_cases e : k = n
      · subst e; simp [sp_go]
      · simp [sp_go, e]
    · rw [h4]
      match f, hf with
      | 0, _ => rfl
      | 1, _ => rfl
      | 2, _ => rw [if_neg (by omega), if_neg (by omega), h.2 2 (by omega)]; rfl
  obtain ⟨e0, hc⟩ := hc
  rcases hc with ⟨rfl, c1, c2⟩ | ⟨rfl, c1, c2⟩
  · refine ⟨ms_st y n 1, ?_, fin _ rfl ?_ ?_ ?_⟩
    · unfold mX6_moveSack
      rw [if_pos (by decide), ms_eq fu y hn]
    · intro f a b
      simp only [ms_st, ms_a, ms_b, ms_c, ms_d, obL_2, a, b, if_false]
    · intro k
      rw [ms_2, v0, v3, v4, l64_1, lN_subN (show 1 ≤ V n 3 by omega), lN_mulN, lN_addN, Nat.one_mul]
      simp only [sp_go, if_true]
      rfl
    · intro k
      rw [ms_3, v0, m0, m1, l64_1, lN_mulN, lN_addN, Nat.one_mul, lN_subN c2]
      rfl
  · refine ⟨ms_st y n (-1), ?_, fin _ rfl ?_ ?_ ?_⟩
    · unfold mX6_moveSack
      rw [if_neg (by decide), ms_eq fu y hn]
    · intro f a b
      simp only [ms_st, ms_a, ms_b, ms_c, ms_d, obL_2, a, b, if_false]
    · intro k
      rw [ms_2, v0, v3, v4, L_sub_m1, L_add_mm c2]
      simp only [sp_go, if_true]
      rfl
    · intro k
      rw [ms_3, v0, m0, m1, L_add_m1 (show 1 ≤ M 0 by omega), L_sub_mm]
      rfl
