/-! ===== PURE: the reference's copies ===== -/
theorem p6_copy_b (fu : Nat) {a b : Nat} (ha : a < 5) (hb : b < 5) (hab : a ≠ b) : ∀ (j : Nat), j ≤ 3 → ∀ (nn : Nat), j < nn → ∀ (y : ob_T), ∃ y', bX6_copy_38 fu nn y (nI a) (nI b) (nI (3 - j)) = some y' ∧ y'.1 = y.1 ∧ (∀ f, f ≠ 3 → y'.2 f = y.2 f) ∧ ∀ k, y'.2 3 k = if 3 * b + (3 - j) ≤ k ∧ k < 3 * b + 3 then y.2 3 (k - 3 * b + 3 * a) else y.2 3 k := by
  intro j
  induction j with
  | zero =>
    intro _ nn hnn y
    obtain ⟨q, rfl⟩ : ∃ q, nn = q + 1 := ⟨nn - 1, by omega⟩
    exact ⟨y, by rw [bX6_copy_38_s]; rfl, rfl, fun _ _ => rfl, fun k => by rw [if_neg (by omega)]⟩
  | succ j ih =>
    intro hj nn hnn y
    obtain ⟨q, rfl⟩ : ∃ q, nn = q + 1 := ⟨nn - 1, by omega⟩
    obtain ⟨y', a1, a2, a3, a4⟩ := ih (by omega) q (by omega) (ob_L y 3 (vp_updL (y.2 3) (3 * b + (3 - (j + 1))) (y.2 3 (3 * a + (3 - (j + 1))))))
    refine ⟨y', ?_, a2, fun f hf => ?_, fun k => ?_⟩
    · rw [bX6_copy_38_s]
      simp only [l32_0, l32_1, l32_3, bnd_eq, nI_mulN, nI_addN]
      simp (disch := omega) only [↓ix_no, ↓reduceIte, nI_clN, nI_leN]
      rw [if_neg (by omega), ← a1, show 3 - (j + 1) + 1 = 3 - j by omega]
    · rw [a3 f hf, obL_2, if_neg hf]
    · rw [a4 k]
      show (if 3 * b + (3 - j) ≤ k ∧ k < 3 * b + 3 then vp_updL (y.2 3) (3 * b + (3 - (j + 1))) (y.2 3 (3 * a + (3 - (j + 1)))) (k - 3 * b + 3 * a) else vp_updL (y.2 3) (3 * b + (3 - (j + 1))) (y.2 3 (3 * a + (3 - (j + 1)))) k) = _
      rw [updL_at, updL_at]
      by_cases e : k = 3 * b + (3 - (j + 1))
      · subst e
        rw [if_neg (by omega), if_pos rfl, if_pos (by omega), show 3 * b + (3 - (j + 1)) - 3 * b + 3 * a = 3 * a + (3 - (j + 1)) by omega]
      · by_cases e2 : 3 * b + (3 - j) ≤ k ∧ k < 3 * b + 3
        · rw [if_pos e2, if_neg (by omega), if_pos (by omega)]
        · rw [if_neg e2, if_neg e, if_neg (by omega)]
theorem p6_copy_a (fu : Nat) (hfu : 100 ≤ fu) {a b : Nat} (ha : a < 5) (hb : b < 5) (hab : a ≠ b) : ∀ (j : Nat), j ≤ 72 → ∀ (nn : Nat), j < nn → ∀ (y : ob_T), ∃ y', bX6_copy_2 fu nn y (nI a) (nI b) (nI (72 - j)) = some y' ∧ y'.1 = y.1 ∧ (∀ f, f ≠ 2 → f ≠ 3 → y'.2 f = y.2 f) ∧ (∀ k, y'.2 2 k = if 72 * b + (72 - j) ≤ k ∧ k < 72 * b + 72 then y.2 2 (k - 72 * b + 72 * a) else y.2 2 k) ∧ ∀ k, y'.2 3 k = if 3 * b ≤ k ∧ k < 3 * b + 3 then y.2 3 (k - 3 * b + 3 * a) else y.2 3 k := by
  intro j
  induction j with
  | zero =>
    intro _ nn hnn y
    obtain ⟨q, rfl⟩ : ∃ q, nn = q + 1 := ⟨nn - 1, by omega⟩
    obtain ⟨y', a1, a2, a3, a4⟩ := p6_copy_b fu ha hb hab 3 (by omega) fu (by omega) y
    refine ⟨y', ?_, a2, fun f _ h3 => a3 f h3, fun k => ?_, a4⟩
    · rw [bX6_copy_2_s, l32_72, if_pos (by rw [nI_leN (by omega) (by omega)]; omega)]
      exact a1
    · rw [a3 2 (by omega), if_neg (by omega)]
  | succ j ih =>
    intro hj nn hnn y
    obtain ⟨q, rfl⟩ : ∃ q, nn = q + 1 := ⟨nn - 1, by omega⟩
    obtain ⟨y', a1, a2, a3, a4, a5⟩ := ih (by omega) q (by omega) (ob_L y 2 (vp_updL (y.2 2) (72 * b + (72 - (j + 1))) (y.2 2 (72 * a + (72 - (j + 1))))))
    refine ⟨y', ?_, a2, fun f h2 h3 => ?_, fun k => ?_, a5⟩
    · rw [bX6_copy_2_s]
      simp only [l32_0, l32_1, l32_72, bnd_eq, nI_mulN, nI_addN]
      simp (disch := omega) only [↓ix_no, ↓reduceIte, nI_clN, nI_leN]
      rw [if_neg (by omega), ← a1, show 72 - (j + 1) + 1 = 72 - j by omega]
    · rw [a3 f h2 h3, obL_2, if_neg h2]
    · rw [a4 k]
      show (if 72 * b + (72 - j) ≤ k ∧ k < 72 * b + 72 then vp_updL (y.2 2) (72 * b + (72 - (j + 1))) (y.2 2 (72 * a + (72 - (j + 1)))) (k - 72 * b + 72 * a) else vp_updL (y.2 2) (72 * b + (72 - (j + 1))) (y.2 2 (72 * a + (72 - (j + 1)))) k) = _
      rw [updL_at, updL_at]
      by_cases e : k = 72 * b + (72 - (j + 1))
      · subst e
        rw [if_neg (by omega), if_pos rfl, if_pos (by omega), show 72 * b + (72 - (j + 1)) - 72 * b + 72 * a = 72 * a + (72 - (j + 1)) by omega]
      · by_cases e2 : 72 * b + (72 - j) ≤ k ∧ k < 72 * b + 72
        · rw [if_pos e2, if_neg (by omega), if_pos (by omega)]
        · rw [if_neg e2, if_neg e, if_neg (by omega)]
/-- a copy: slot b as slot a, all else stays -/
theorem p6_copy (fu : Nat) (hfu : 100 ≤ fu) {a b : Nat} (ha : a < 5) (hb : b < 5) (hab : a ≠ b) (y : ob_T) : ∃ y', mX6_copy fu y (nI a) (nI b) = some y' ∧ y'.1 = y.1 ∧ (∀ V M, rfW y a V M → rfW y' b V M) ∧ (∀ c V M, c < 5 → c ≠ b → rfW y c V M → rfW y' c V M) := by
  obtain ⟨y', a1, a2, a3, a4, a5⟩ := p6_copy_a fu hfu ha hb hab 72 (by omega) fu (by omega) y
  refine ⟨y', a1, a2, fun V M h => ⟨fun n hn => ⟨fun f hf => ?_, ?_⟩, fun f hf => ?_⟩, fun c V M hc hcb h => ⟨fun n hn => ⟨fun f hf => ?_, ?_⟩, fun f hf => ?_⟩⟩
  · rw [a4, if_pos (by omega), show 72 * b + 9 * n + f - 72 * b + 72 * a = 72 * a + 9 * n + f by omega]; exact (h.1 n hn).1 f hf
  · rw [a4, if_pos (by omega), show 72 * b + 9 * n + 8 - 72 * b + 72 * a = 72 * a + 9 * n + 8 by omega]; exact (h.1 n hn).2
  · rw [a5, if_pos (by omega), show 3 * b + f - 3 * b + 3 * a = 3 * a + f by omega]; exact h.2 f hf
  · rw [a4, if_neg (by omega)]; exact (h.1 n hn).1 f hf
  · rw [a4, if_neg (by omega)]; exact (h.1 n hn).2
  · rw [a5, if_neg (by omega)]; exact h.2 f hf
