/-! ===== PURE: fill, mark, isMarked ===== -/
theorem pJ_fill_loop (fu n : Nat) (hN : n < 1000000) (v : Int32) : ∀ (j : Nat), j ≤ n → ∀ (nn : Nat), j < nn → ∀ (w : ob_T), ∃ w', bJ7_fill_53178_5 fu n nn w v (nI (n - j)) (nI n) = some w' ∧ (∀ k, w'.1 0 k = if n - j ≤ k ∧ k < n then v else w.1 0 k) := by
  intro j
  induction j with
  | zero =>
    intro _ nn hnn w
    obtain ⟨q, rfl⟩ : ∃ q, nn = q + 1 := ⟨nn - 1, by omega⟩
    refine ⟨w, ?_, fun k => by rw [if_neg (by omega)]⟩
    rw [bJ7_fill_53178_5_s, Nat.sub_zero, if_pos (by rw [nI_leN (by omega) (by omega)]; omega)]
  | succ j ih =>
    intro hj nn hnn w
    obtain ⟨q, rfl⟩ : ∃ q, nn = q + 1 := ⟨nn - 1, by omega⟩
    obtain ⟨w', a1, a2⟩ := ih (by omega) q (by omega) (ob_I w 0 (upd (w.1 0) (n - (j + 1)) v))
    refine ⟨w', ?_, fun k => ?_⟩
    · rw [bJ7_fill_53178_5_s]
      simp only [l32_0, l32_1, bnd_eq]
      simp (disch := omega) only [↓ix_no, ↓reduceIte, nI_clN, nI_leN, nI_addN]
      rw [if_neg (by omega), ← a1, show n - (j + 1) + 1 = n - j by omega]
    · rw [a2 k]
      show (if n - j ≤ k ∧ k < n then v else upd (w.1 0) (n - (j + 1)) v k) = _
      rw [updI_at]
      repeat' split
      all_goals first | rfl | (exfalso; omega)
theorem pJ_fill (fu n : Nat) (hN : n < 1000000) (hf : n < fu) (v : Int32) (w : ob_T) : ∃ w', mJ7_fill_53178 fu n w v = some w' ∧ (∀ k, k < n → w'.1 0 k = v) := by
  obtain ⟨w', a1, a2⟩ := pJ_fill_loop fu n hN v n (by omega) fu hf w
  refine ⟨w', ?_, fun k hk => by rw [a2 k, if_pos (by omega)]⟩
  rw [Nat.sub_self] at a1
  exact a1
theorem p1_mark (fu : Nat) (v w : ob_T) : ∃ v', mX1_mark fu v w = some v' ∧ v'.1 = v.1 ∧ ∀ k, k < 8 → v'.2 1 k = w.2 7 k := by
  refine ⟨_, rfl, rfl, fun k hk => ?_⟩
  show va_cpy (w.2 7) (v.2 1) (0 : Int32).toNatClampNeg (0 : Int32).toNatClampNeg (8 : Int32).toNatClampNeg k = _
  rw [show (0 : Int32).toNatClampNeg = 0 from rfl, show (8 : Int32).toNatClampNeg = 8 from rfl]
  unfold va_cpy
  rw [if_pos (by omega), show 0 + (k - 0) = k by omega]
theorem p1_isMarked_loop (fu : Nat) (v w : ob_T) : ∀ (j : Nat), j ≤ 8 → ∀ (nn : Nat), j < nn → ∃ r : Nat, bX1_isMarked_2 fu v w nn (nI (8 - j)) = some (nI r) ∧ r ≤ 1 ∧ (r = 1 ↔ ∀ k, 8 - j ≤ k → k < 8 → v.2 1 k = w.2 7 k) := by
  intro j
  induction j with
  | zero =>
    intro _ nn hnn
    obtain ⟨q, rfl⟩ : ∃ q, nn = q + 1 := ⟨nn - 1, by omega⟩
    exact ⟨1, by rw [bX1_isMarked_2_s]; rfl, by omega, ⟨fun _ k h1 h2 => absurd h1 (by omega), fun _ => rfl⟩⟩
  | succ j ih =>
    intro hj nn hnn
    obtain ⟨q, rfl⟩ : ∃ q, nn = q + 1 := ⟨nn - 1, by omega⟩
    rw [bX1_isMarked_2_s]
    simp only [l32_0, l32_1, l32_8, bnd_eq]
    simp (disch := omega) only [↓ix_no, ↓reduceIte, nI_clN, nI_leN, nI_addN, lg_eqN]
    rw [if_neg (by omega)]
    by_cases e : v.2 1 (8 - (j + 1)) = w.2 7 (8 - (j + 1))
    · rw [if_pos e, show 8 - (j + 1) + 1 = 8 - j by omega]
      obtain ⟨r, a1, a2, a3⟩ := ih (by omega) q (by omega)
      refine ⟨r, a1, a2, a3.trans ⟨fun h k h1 h2 => ?_, fun h k h1 h2 => h k (by omega) h2⟩⟩
      rcases Nat.lt_or_ge k (8 - j) with z | z
      · rw [show k = 8 - (j + 1) by omega]; exact e
      · exact h k z h2
    · rw [if_neg e]
      exact ⟨0, rfl, by omega, ⟨fun h => absurd h (by omega), fun h => absurd (h _ (Nat.le_refl _) (by omega)) e⟩⟩
theorem p1_isMarked (fu : Nat) (hf : 9 ≤ fu) (v w : ob_T) : ∃ r : Nat, mX1_isMarked fu v w = some (nI r) ∧ r ≤ 1 ∧ (r = 1 ↔ ∀ k, k < 8 → v.2 1 k = w.2 7 k) := by
  obtain ⟨r, a1, a2, a3⟩ := p1_isMarked_loop fu v w 8 (by omega) fu (by omega)
  exact ⟨r, a1, a2, a3.trans ⟨fun h k hk => h k (by omega) hk, fun h k _ hk => h k hk⟩⟩
theorem pJ_bitCount (fu : Nat) (x : Int32) : ∃ r, mJ6_bitCount_0f7a4 fu x = some r := ⟨_, rfl⟩
