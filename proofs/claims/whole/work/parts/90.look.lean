/-! ===== PURE: the reference's readings ===== -/
def sp_out (V : Nat → Nat → Nat) (M : Nat → Nat) (K n : Nat) : Bool := decide (V n 7 = 0 ∧ 0 < V n 3 ∧ V n 0 ≤ M 1 ∧ 1000 * (V n 0 + V n 1) < rt K M * (1000 - V n 2))
def sp_come (V : Nat → Nat → Nat) (M : Nat → Nat) (K n : Nat) : Bool := decide (0 < M 0 ∧ V n 0 ≤ V n 4 ∧ rt K M * (1000 + V n 2) < 1000 * (V n 0 - V n 1))
def sp_mv (V : Nat → Nat → Nat) (M : Nat → Nat) (K n : Nat) : Nat := if V n 0 = 0 then 0 else if V n 6 = 0 then 0 else if sp_out V M K n = true then 1 else if sp_come V M K n = true then 2 else 0
theorem rf_at {y : ob_T} {V : Nat → Nat → Nat} {M : Nat → Nat} (h : rfW y 0 V M) {n f : Nat} (hn : n < 8) (hf : f < 8) : y.2 2 (9 * n + f) = lN (V n f) := by
  have := (h.1 n hn).1 f hf
  rwa [show 72 * 0 + 9 * n + f = 9 * n + f by omega] at this
theorem rf_at0 {y : ob_T} {V : Nat → Nat → Nat} {M : Nat → Nat} (h : rfW y 0 V M) {n : Nat} (hn : n < 8) : y.2 2 (9 * n) = lN (V n 0) := rf_at (f := 0) h hn (by omega)
theorem p6_in {a b c : Nat} (fu : Nat) (ha : a < 9223372036854775808) (hb : b < 9223372036854775808) (hc : c < 9223372036854775808) : mX6_in fu (lN a) (lN b) (lN c) = some (if b ≤ a ∧ a ≤ c then 1 else 0) := by
  unfold mX6_in
  simp only [l32_0, l32_1]
  simp (disch := omega) only [lg_ltN, lg_gtN, lN_ltN]
  by_cases h1 : a < b
  · rw [if_pos h1, if_neg (by omega)]
  · rw [if_neg h1]
    by_cases h2 : c < a
    · rw [if_pos h2, if_neg (by omega)]
    · rw [if_neg h2, if_pos (by omega)]
theorem p6_isRealm (fu : Nat) {y : ob_T} {V : Nat → Nat → Nat} {M : Nat → Nat} (h : rfW y 0 V M) (o : okV V) {n : Nat} (hn : n < 8) : mX6_isRealm fu y (nI n) = some (if V n 0 = 0 then 0 else 1) := by
  have v0 := rf_at0 h hn
  have o0 := (o n hn).1
  unfold mX6_isRealm
  rw [nI_toL (by omega), l64_0, l64_7, p6_in fu (by omega) (by omega) (by omega), if_pos (by omega), bind_sm]
  simp only [l32_0, l32_1, l32_9, nI_mulN]
  simp (disch := omega) only [↓ix_no, ↓reduceIte, nI_clN, v0, nI_eqN, lg_leN, lN_leN]
  by_cases e : V n 0 = 0
  · rw [if_pos (show V n 0 ≤ 0 by omega), if_pos e]; rfl
  · rw [if_neg (show ¬ V n 0 ≤ 0 by omega), if_neg e]; rfl
theorem p6_mints (fu : Nat) {y : ob_T} {V : Nat → Nat → Nat} {M : Nat → Nat} (h : rfW y 0 V M) (o : okV V) {n : Nat} (hn : n < 8) : mX6_mints fu y (nI n) = some (if V n 6 = 0 then 0 else 1) := by
  have v6 := rf_at h hn (show 6 < 8 by omega)
  have o6 := (o n hn).2.2.2.2.2.2.1
  unfold mX6_mints
  simp only [l32_0, l32_1, l32_9, l32_6, nI_mulN, nI_addN, l64_1]
  simp (disch := omega) only [↓ix_no, ↓reduceIte, nI_clN, v6, lg_eqN, lN_eqN]
  by_cases e : V n 6 = 0
  · rw [if_neg (by omega), if_pos e]
  · rw [if_pos (by omega), if_neg e]
theorem p6_above (fu : Nat) {a : Nat} (ha : a < 9223372036854775808) : mX6_above fu (lN a) = some (lN a) := by
  unfold mX6_above
  simp only [l32_0, l64_0]
  simp (disch := omega) only [lg_geN, lN_leN, Nat.zero_le, ↓reduceIte]
theorem p6_mo113 (fu : Nat) {y : ob_T} {V : Nat → Nat → Nat} {M : Nat → Nat} {K : Nat} (h : rfW y 0 V M) (o : okV V) (oM : okM M) {n : Nat} (hn : n < 8) (e0 : ¬ V n 0 = 0) (a : Nat) (ha : a ≤ 1) : bX6_movesOf_113 fu y (nI (9 * n)) (lN (rt K M)) (nI a) = some (nI (if a = 1 then 1 else if sp_come V M K n = true then 2 else 0)) := by
  have v0 := rf_at0 h hn
  have v1 := rf_at h hn (show 1 < 8 by omega)
  have v2 := rf_at h hn (show 2 < 8 by omega)
  have v4 := rf_at h hn (show 4 < 8 by omega)
  have m0 : y.2 3 0 = lN (M 0) := h.2 0 (by omega)
  obtain ⟨o0, o1, o2, o3, o4, o5, o6, o7, o8, o9⟩ := o n hn
  have q0 := oM.1
  have hrt := rt_le K M
  have b2 : rt K M * (1000 + V n 2) ≤ 1000000 * 1200 := Nat.mul_le_mul hrt (by omega)
  unfold bX6_movesOf_113 bX6_movesOf_189
  simp only [l32_0, l32_1, l32_2, l32_4, nI_addN, l64_0, l64_1000]
  simp (disch := omega) only [↓ix_no, ↓reduceIte, nI_clN, v0, v1, v2, v4, m0, lg_leN, lg_ltN, lg_geN, lN_leN, lN_ltN, lN_subN, lN_addN, lN_mulN, p6_above, bind_sm, nI_eqN, sp_come, decide_eq_true_eq]
  repeat' split
  all_goals first | rfl | (exfalso; omega)
theorem p6_movesOf (fu : Nat) {y : ob_T} {V : Nat → Nat → Nat} {M : Nat → Nat} {K : Nat} (h : rfW y 0 V M) (hK : y.1 4 0 = nI K) (o : okV V) (oM : okM M) (oK : okK K) {n : Nat} (hn : n < 8) : mX6_movesOf fu y (nI n) = some (nI (sp_mv V M K n)) := by
  have v0 := rf_at0 h hn
  have v1 := rf_at h hn (show 1 < 8 by omega)
  have v2 := rf_at h hn (show 2 < 8 by omega)
  have v3 := rf_at h hn (show 3 < 8 by omega)
  have v7 := rf_at h hn (show 7 < 8 by omega)
  have m1 : y.2 3 1 = lN (M 1) := h.2 1 (by omega)
  obtain ⟨o0, o1, o2, o3, o4, o5, o6, o7, o8, o9⟩ := o n hn
  have q1 := oM.2.1
  have hrt := rt_le K M
  have b1 : rt K M * (1000 - V n 2) ≤ 1000000 * 1000 := Nat.mul_le_mul hrt (by omega)
  unfold mX6_movesOf sp_mv
  rw [bnd_eq, p6_isRealm fu h o hn, bind_sm]
  by_cases e0 : V n 0 = 0
  · rw [if_pos e0, if_pos e0]; rfl
  rw [if_neg e0, if_neg e0, p6_mints fu h o hn]
  by_cases e6 : V n 6 = 0
  · rw [if_pos e6, if_pos e6]; rfl
  rw [if_neg e6, if_neg e6, p6_ratio fu h hK oM oK]
  have B0 := p6_mo113 (K := K) fu h o oM hn e0 0 (by omega)
  have B1 := p6_mo113 (K := K) fu h o oM hn e0 1 (by omega)
  simp only [bind_sm, l32_0, l32_1, l32_2, l32_3, l32_7, l32_9, nI_mulN, nI_addN, l64_0, l64_1000]
  simp (disch := omega) only [↓ix_no, ↓reduceIte, nI_clN, v0, v1, v2, v3, v7, m1, lg_eqN, lg_leN, lg_ltN, lN_eqN, lN_leN, lN_ltN, lN_subN, lN_addN, lN_mulN, nI_eqN, B0, B1, sp_out, decide_eq_true_eq]
  repeat' split
  all_goals first | rfl | (exfalso; omega)
/-! ===== bits ===== -/
def bt8 (P : Nat → Bool) : Nat → Nat
  | 0 => 0
  | k + 1 => bt8 P k ||| (if P k = true then 2 ^ k else 0)
theorem nI_orN (a b : Nat) : nI a ||| nI b = nI (a ||| b) := by
  apply Int32.toBitVec_inj.mp
  simp only [nI, Int32.toBitVec_or, Int32.toBitVec_ofNat']
  exact (BitVec.ofNat_or ..).symm
theorem nI_andN (a b : Nat) : nI a &&& nI b = nI (a &&& b) := by
  apply Int32.toBitVec_inj.mp
  simp only [nI, Int32.toBitVec_and, Int32.toBitVec_ofNat']
  exact (BitVec.ofNat_and ..).symm
theorem nI_sh1 : ∀ k, k < 8 → nI 1 <<< (nI k &&& 31) = nI (2 ^ k) := by decide
theorem lp_bits {b : Nat → Int32 → Int32 → Option Int32} {P : Nat → Bool} (h0 : ∀ nn a, b (nn + 1) (nI a) (nI 8) = some (nI a)) (hs : ∀ nn a k, k < 8 → b (nn + 1) (nI a) (nI k) = b nn (nI (a ||| (if P k = true then 2 ^ k else 0))) (nI (k + 1))) : ∀ j, j ≤ 8 → ∀ nn, j < nn → b nn (nI (bt8 P (8 - j))) (nI (8 - j)) = some (nI (bt8 P 8)) := by
  intro j
  induction j with
  | zero =>
    intro _ nn hn
    obtain ⟨q, rfl⟩ : ∃ q, nn = q + 1 := ⟨nn - 1, by omega⟩
    exact h0 q _
  | succ j ih =>
    intro hj nn hn
    obtain ⟨q, rfl⟩ : ∃ q, nn = q + 1 := ⟨nn - 1, by omega⟩
    rw [hs q _ (8 - (j + 1)) (by omega)]
    have e : 8 - (j + 1) + 1 = 8 - j := by omega
    have := ih (by omega) q (by omega)
    rw [← e] at this
    rw [← this]
    rfl
theorem lp_bits0 {b : Nat → Int32 → Int32 → Option Int32} {P : Nat → Bool} {fu : Nat} (hf : 9 ≤ fu) (h0 : ∀ nn a, b (nn + 1) (nI a) (nI 8) = some (nI a)) (hs : ∀ nn a k, k < 8 → b (nn + 1) (nI a) (nI k) = b nn (nI (a ||| (if P k = true then 2 ^ k else 0))) (nI (k + 1))) : b fu (nI 0) (nI 0) = some (nI (bt8 P 8)) := lp_bits h0 hs 8 (by omega) fu (by omega)
/-! ===== ends, held ===== -/
def sp_lo (V : Nat → Nat → Nat) (n : Nat) : Nat := (1000 * (V n 0 - V n 1) + 999 + V n 2) / (1000 + V n 2)
def sp_hi (V : Nat → Nat → Nat) (n : Nat) : Nat := if 1000 * (V n 0 + V n 1) / (1000 - V n 2) ≤ 1000000 then 1000 * (V n 0 + V n 1) / (1000 - V n 2) else 1000000
def sp_hold (V : Nat → Nat → Nat) (M : Nat → Nat) (K n : Nat) : Bool := decide (V n 0 ≠ 0 ∧ V n 6 ≠ 0 ∧ sp_lo V n ≤ rt K M ∧ rt K M ≤ sp_hi V n ∧ 0 < V n 3 ∧ V n 0 ≤ V n 4)
theorem p6_endOf (fu : Nat) {y : ob_T} {V : Nat → Nat → Nat} {M : Nat → Nat} (h : rfW y 0 V M) (o : okV V) {n : Nat} (hn : n < 8) (e0 : ¬ V n 0 = 0) : mX6_endOf fu y (nI n) (nI 0) = some (lN (sp_lo V n)) ∧ mX6_endOf fu y (nI n) (nI 1) = some (lN (sp_hi V n)) := by
  have v0 := rf_at0 h hn
  have v1 := rf_at h hn (show 1 < 8 by omega)
  have v2 := rf_at h hn (show 2 < 8 by omega)
  obtain ⟨o0, o1, o2, o3, o4, o5, o6, o7, o8, o9⟩ := o n hn
  have d1 : 1000 * (V n 0 + V n 1) / (1000 - V n 2) ≤ 1000 * (V n 0 + V n 1) := Nat.div_le_self _ _
  constructor
  · unfold mX6_endOf sp_lo
    simp only [l32_0, l32_1, l32_2, l32_9, nI_mulN, nI_addN, l64_1000, l64_999, bnd_eq]
    simp (disch := omega) only [↓ix_no, ↓reduceIte, nI_clN, v0, v1, v2, lN_subN, p6_above, bind_sm, lN_addN, lN_mulN, lN_eqN, l64_0, lN_divN]
    rw [if_neg (by omega)]
  · unfold mX6_endOf sp_hi
    simp only [l32_0, l32_1, l32_2, l32_9, nI_mulN, nI_addN, l64_1000, l64_1000000, bnd_eq]
    simp (disch := omega) only [↓ix_no, ↓reduceIte, nI_clN, v0, v1, v2, nI_eqN, lN_subN, lN_addN, lN_mulN, lN_eqN, l64_0, lN_divN, lg_leN, lN_leN]
    rw [if_neg (by omega), if_neg (by omega)]
    split <;> rfl
theorem p6_holdsRatio (fu : Nat) {y : ob_T} {V : Nat → Nat → Nat} {M : Nat → Nat} {K : Nat} (h : rfW y 0 V M) (hK : y.1 4 0 = nI K) (o : okV V) (oM : okM M) (oK : okK K) {n : Nat} (hn : n < 8) : mX6_holdsRatio fu y (nI n) = some (if sp_hold V M K n = true then 1 else 0) := by
  have v0 := rf_at0 h hn
  have v3 := rf_at h hn (show 3 < 8 by omega)
  have v4 := rf_at h hn (show 4 < 8 by omega)
  obtain ⟨o0, o1, o2, o3, o4, o5, o6, o7, o8, o9⟩ := o n hn
  have hrt := rt_le K M
  unfold mX6_holdsRatio
  rw [p6_ratio fu h hK oM oK, bind_sm, p6_isRealm fu h o hn, bind_sm]
  by_cases e0 : V n 0 = 0
  · have : sp_hold V M K n = false := by simp [sp_hold, e0]
    rw [if_pos e0, this]; rfl
  rw [if_neg e0, p6_mints fu h o hn]
  by_cases e6 : V n 6 = 0
  · have : sp_hold V M K n = false := by simp [sp_hold, e6]
    rw [if_pos e6, this]; rfl
  obtain ⟨E0, E1⟩ := p6_endOf fu h o hn e0
  have d0 : sp_lo V n < 1000000000 := Nat.lt_of_le_of_lt (Nat.div_le_self _ _) (by omega)
  have d1 : sp_hi V n ≤ 1000000 := by unfold sp_hi; split <;> omega
  rw [if_neg e6]
  simp only [bind_sm, l32_0, l32_1, l32_3, l32_4, l32_9, nI_mulN, nI_addN, l64_0]
  simp (disch := omega) only [↓ix_no, ↓reduceIte, nI_clN, v0, v3, v4, nI_eqN, E0, E1, bind_sm, lg_leN, lg_ltN, lg_gtN, lN_leN, lN_ltN, sp_hold, decide_eq_true_eq]
  repeat' split
  all_goals first | rfl | (exfalso; omega)
theorem p6_held (fu : Nat) (hf : 9 ≤ fu) {y : ob_T} {V : Nat → Nat → Nat} {M : Nat → Nat} {K : Nat} (h : rfW y 0 V M) (hK : y.1 4 0 = nI K) (o : okV V) (oM : okM M) (oK : okK K) : mX6_held fu y = some (nI (bt8 (sp_hold V M K) 8)) := by
  refine lp_bits0 (b := bX6_held_4 fu y) hf (fun nn a => ?_) (fun nn a k hk => ?_)
  · rw [bX6_held_4_s]; rfl
  · rw [bX6_held_4_s, l32_8, if_neg (by rw [nI_leN (by omega) (by omega)]; omega), p6_holdsRatio fu h hK o oM oK hk, bind_sm]
    unfold bX6_held_26
    simp only [bnd_eq, l32_1, l32_0, nI_addN, nI_sh1 k hk]
    by_cases e : sp_hold V M K k = true
    · rw [if_pos e, if_pos e, if_neg (by decide), nI_orN]
    · rw [if_neg e, if_neg e, if_pos (by decide), nI_orN]
