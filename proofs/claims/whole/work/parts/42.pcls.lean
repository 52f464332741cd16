/-! ===== PURE: the class's world ===== -/
def sp_told (V : Nat → Nat → Nat) (n : Nat) : Bool := decide (V n 0 ≠ 0)
def sp_mint (V : Nat → Nat → Nat) (n : Nat) : Bool := decide (V n 6 ≠ 0)
def sp_limp (V : Nat → Nat → Nat) (n : Nat) : Bool := decide (V n 7 ≠ 0)
def clW (w : ob_T) (V : Nat → Nat → Nat) (M : Nat → Nat) (K : Nat) : Prop := (w.1 9 0 = nI (bt8 (sp_told V) 8) ∧ w.1 10 0 = nI (bt8 (sp_mint V) 8) ∧ w.1 11 0 = nI (bt8 (sp_limp V) 8) ∧ ∀ n, n < 8 → ∃ q, q ≤ 999 ∧ w.1 3 n = nI q) ∧ (∀ n, n < 8 → V n 0 ≠ 0 → w.1 0 n = nI (V n 0) ∧ w.1 1 n = nI (V n 1) ∧ w.1 2 n = nI (V n 2) ∧ w.1 3 n = nI (V n 5) ∧ w.1 4 n = nI (V n 8) - nI 1 ∧ w.1 5 n = nI (sp_lo V n) ∧ w.1 6 n = nI (sp_hi V n) ∧ w.2 7 n = lN (V n 3) ∧ w.2 8 n = lN (V n 4)) ∧ w.2 12 0 = lN (M 0) ∧ w.2 13 0 = lN (M 1) ∧ w.1 14 0 = nI K ∧ w.1 15 0 = nI (rt K M) ∧ w.1 16 0 = nI (M 2)
theorem bt8_tb (P : Nat → Bool) : ∀ k n, (bt8 P k).testBit n = (decide (n < k) && P n) := by
  intro k
  induction k with
  | zero => intro n; simp [bt8]
  | succ k ih =>
    intro n
    rw [bt8, Nat.testBit_or, ih]
    by_cases h : P k = true
    · rw [if_pos h, Nat.testBit_two_pow]
      by_cases e : k = n
      · subst e; simp [h]
      · have : (n < k + 1) = (n < k) := propext (by omega)
        simp [e, this]
    · rw [if_neg h, Nat.zero_testBit]
      by_cases e : k = n
      · subst e; simp [h]
      · have : (n < k + 1) = (n < k) := propext (by omega)
        simp [this]
theorem bt8_lt (P : Nat → Bool) : bt8 P 8 < 256 := by
  apply Nat.lt_pow_two_of_testBit (n := 8)
  intro i hi
  rw [bt8_tb]
  simp; omega
theorem bt8_ext {P Q : Nat → Bool} (h : ∀ n, n < 8 → P n = Q n) : bt8 P 8 = bt8 Q 8 := by
  apply Nat.eq_of_testBit_eq
  intro i
  rw [bt8_tb, bt8_tb]
  by_cases hi : i < 8
  · rw [h i hi]
  · simp [hi]
theorem bit_dec : ∀ T, T < 256 → ∀ n, n < 8 → (((nI T >>> (nI n &&& 31)) &&& nI 1 = nI 1) ↔ T.testBit n = true) := by decide +kernel
theorem bit_at (P : Nat → Bool) {n : Nat} (hn : n < 8) : (((nI (bt8 P 8) >>> (nI n &&& 31)) &&& nI 1 = nI 1)) = (P n = true) := by
  rw [propext (bit_dec _ (bt8_lt P) n hn), bt8_tb]
  simp [hn]
theorem p4_has (fu : Nat) {w : ob_T} {V : Nat → Nat → Nat} {M : Nat → Nat} {K : Nat} (h : clW w V M K) {n : Nat} (hn : n < 8) : mX4_has fu w (nI n) = some (if V n 0 = 0 then 0 else 1) := by
  unfold mX4_has
  simp only [l32_0, l32_1, l32_8, h.1.1]
  simp (disch := omega) only [nI_ltN, nI_leN, bit_at _ hn, sp_told, decide_eq_true_eq]
  rw [if_neg (by omega), if_neg (by omega)]
  by_cases e : V n 0 = 0
  · rw [if_neg (by simp [e]), if_pos e]
  · rw [if_pos e, if_neg e]
theorem p4_hasNo (fu : Nat) (w : ob_T) (p : Int32) (h : ¬ ∃ n, n < 8 ∧ p = nI n) : mX4_has fu w p = some 0 := by
  unfold mX4_has
  rcases pk_ix p (n := 8) (by omega) with h1 | h1 | h1
  · rw [if_pos h1]
  · by_cases h2 : p < 0
    · rw [if_pos h2]
    · rw [if_neg h2, if_pos (show (8 : Int32) ≤ p from h1)]
  · exact absurd h1 h
theorem p4_mints (fu : Nat) {w : ob_T} {V : Nat → Nat → Nat} {M : Nat → Nat} {K : Nat} (h : clW w V M K) {n : Nat} (hn : n < 8) : mX4_mints fu w (nI n) = some (if V n 6 = 0 then 0 else 1) := by
  unfold mX4_mints
  simp only [l32_0, l32_1, h.1.2.1]
  simp only [bit_at _ hn, sp_mint, decide_eq_true_eq]
  by_cases e : V n 6 = 0
  · rw [if_neg (by simp [e]), if_pos e]
  · rw [if_pos e, if_neg e]
theorem p4_limps (fu : Nat) {w : ob_T} {V : Nat → Nat → Nat} {M : Nat → Nat} {K : Nat} (h : clW w V M K) {n : Nat} (hn : n < 8) : mX4_limps fu w (nI n) = some (if V n 7 = 0 then 0 else 1) := by
  unfold mX4_limps
  simp only [l32_0, l32_1, h.1.2.2.1]
  simp only [bit_at _ hn, sp_limp, decide_eq_true_eq]
  by_cases e : V n 7 = 0
  · rw [if_neg (by simp [e]), if_pos e]
  · rw [if_pos e, if_neg e]
theorem p4_hasGold (fu : Nat) {w : ob_T} {V : Nat → Nat → Nat} {M : Nat → Nat} {K : Nat} (h : clW w V M K) (o : okV V) {n : Nat} (hn : n < 8) (e0 : V n 0 ≠ 0) : mX4_hasGold fu w (nI n) = some (if V n 3 = 0 then 0 else 1) := by
  obtain ⟨c0, c1, c2, c3, c4, c5, c6, c7, c8⟩ := h.2.1 n hn e0
  have o3 := (o n hn).2.2.2.1
  unfold mX4_hasGold
  simp only [l32_0, l32_1, l64_0]
  simp (disch := omega) only [↓ix_no, ↓reduceIte, nI_clN, c7, lg_leN, lN_leN]
  by_cases e : V n 3 = 0
  · rw [if_pos (by omega), if_pos e]
  · rw [if_neg (by omega), if_neg e]
theorem p4_hasSilver (fu : Nat) {w : ob_T} {V : Nat → Nat → Nat} {M : Nat → Nat} {K : Nat} (h : clW w V M K) (o : okV V) {n : Nat} (hn : n < 8) (e0 : V n 0 ≠ 0) : mX4_hasSilver fu w (nI n) = some (if V n 4 < V n 0 then 0 else 1) := by
  obtain ⟨c0, c1, c2, c3, c4, c5, c6, c7, c8⟩ := h.2.1 n hn e0
  obtain ⟨o0, o1, o2, o3, o4, o5, o6, o7, o8, o9⟩ := o n hn
  unfold mX4_hasSilver
  simp only [l32_0, l32_1]
  simp (disch := omega) only [↓ix_no, ↓reduceIte, nI_clN, c8, c0, nI_toL, lg_ltN, lN_ltN]
  by_cases e : V n 4 < V n 0
  · rw [if_pos e, if_pos e]
  · rw [if_neg e, if_neg e]
/-- above the greatest end: just where gold would go out -/
theorem hi_iff {V : Nat → Nat → Nat} (o : okV V) {n : Nat} (hn : n < 8) {r : Nat} (hr : r ≤ 1000000) : (sp_hi V n < r) ↔ 1000 * (V n 0 + V n 1) < r * (1000 - V n 2) := by
  obtain ⟨o0, o1, o2, o3, o4, o5, o6, o7, o8, o9⟩ := o n hn
  have d : 0 < 1000 - V n 2 := by omega
  unfold sp_hi
  split
  · exact Nat.div_lt_iff_lt_mul d
  · rename_i q
    have q2 : ¬ 1000 * (V n 0 + V n 1) / (1000 - V n 2) < r := by omega
    rw [Nat.div_lt_iff_lt_mul d] at q2
    constructor
    · intro h; omega
    · intro h; exact absurd h q2
theorem lo_iff {V : Nat → Nat → Nat} {n r : Nat} : (r < sp_lo V n) ↔ r * (1000 + V n 2) < 1000 * (V n 0 - V n 1) := by
  unfold sp_lo
  have d : 0 < 1000 + V n 2 := by omega
  rw [← Nat.succ_le_iff, Nat.le_div_iff_mul_le d, Nat.succ_mul]
  omega
theorem p4_heading (fu : Nat) {w : ob_T} {V : Nat → Nat → Nat} {M : Nat → Nat} {K : Nat} (h : clW w V M K) (o : okV V) (oM : okM M) {n : Nat} (hn : n < 8) : mX4_heading fu w (nI n) = some (nI (sp_mv V M K n)) := by
  obtain ⟨o0, o1, o2, o3, o4, o5, o6, o7, o8, o9⟩ := o n hn
  unfold mX4_heading sp_mv
  rw [p4_mints fu h hn, bind_sm]
  by_cases e6 : V n 6 = 0
  · rw [if_pos e6, if_pos e6]
    by_cases e0 : V n 0 = 0
    · rw [if_pos e0]; rfl
    · rw [if_neg e0]; rfl
  have e0 : V n 0 ≠ 0 := fun e => e6 (o9 e).2.2.1
  rw [if_neg e6, if_neg e6, if_neg e0]
  obtain ⟨c0, c1, c2, c3, c4, c5, c6, c7, c8⟩ := h.2.1 n hn e0
  obtain ⟨a0, a1, a2, a3, a4⟩ := h.2.2
  have hrt := rt_le K M
  have q0 := oM.1
  have q1 := oM.2.1
  have d0 : sp_lo V n < 1000000000 := Nat.lt_of_le_of_lt (Nat.div_le_self _ _) (by omega)
  have d1 : sp_hi V n ≤ 1000000 := by unfold sp_hi; split <;> omega
  have H1 := hi_iff o hn hrt
  have H2 := lo_iff (V := V) (n := n) (r := rt K M)
  have b1 : rt K M * (1000 - V n 2) ≤ rt K M * (1000 + V n 2) := Nat.mul_le_mul_left _ (by omega)
  have G7 := p4_limps fu h hn
  have G3 := p4_hasGold fu h o hn e0
  have G4 := p4_hasSilver fu h o hn e0
  have z1 : ¬ (nI 1 = nI 0) := by decide
  unfold bX4_heading_105 bX4_heading_59
  simp only [l32_0, l32_1, l32_2, l64_0]
  simp only [l32_0, l32_1] at G7 G3 G4
  simp (disch := omega) only [↓ix_no, ↓reduceIte, nI_clN, c0, c5, c6, a0, a1, a3, nI_leN, bind_sm, nI_toL, lg_leN, lg_ltN, lN_leN, lN_ltN, sp_out, sp_come, decide_eq_true_eq, z1]
  by_cases e7 : V n 7 = 0 <;> by_cases e3 : V n 3 = 0 <;> by_cases e4 : V n 4 < V n 0 <;> simp only [e7, e3, e4, ↓reduceIte] at G7 G3 G4 <;> simp only [G7, G3, G4, bind_sm, z1, ↓reduceIte] <;> repeat' split
  all_goals first | rfl | (exfalso; omega)
