/-! ===== STEPS: count ===== -/
def cn8 (P : Nat → Bool) : Nat → Nat
  | 0 => 0
  | k + 1 => cn8 P k + (if P k = true then 1 else 0)
theorem cn8_le (P : Nat → Bool) : ∀ k, cn8 P k ≤ k := by
  intro k
  induction k with
  | zero => exact Nat.le_refl _
  | succ k ih => unfold cn8; split <;> omega
theorem cn8_ext {P Q : Nat → Bool} : ∀ k, (∀ n, n < k → P n = Q n) → cn8 P k = cn8 Q k := by
  intro k
  induction k with
  | zero => intro _; rfl
  | succ k ih => intro h; unfold cn8; rw [ih (fun n hn => h n (by omega)), h k (by omega)]
theorem bc_dec : ∀ T, T < 256 → mJ6_bitCount_0f7a4 0 (nI T) = some (nI (cn8 (fun i => T.testBit i) 8)) := by decide +kernel
theorem bc_fu (fu : Nat) (x : Int32) : mJ6_bitCount_0f7a4 fu x = mJ6_bitCount_0f7a4 0 x := rfl
theorem bc_at (fu : Nat) (P : Nat → Bool) : mJ6_bitCount_0f7a4 fu (nI (bt8 P 8)) = some (nI (cn8 P 8)) := by
  rw [bc_fu, bc_dec _ (bt8_lt P)]
  congr 2
  exact cn8_ext 8 (fun n hn => by simp only [bt8_tb]; simp [hn])
def sp_tm (V : Nat → Nat → Nat) (b : Nat) (n : Nat) : Bool := decide (V n 0 ≠ 0 ∧ (b = 0 ∨ V n 6 ≠ 0))
theorem p6_many (fu : Nat) {y : ob_T} {D : sp_D} (rW : rfW y 0 D.1 D.2) (od : okD D) {b : Nat} (hb : b ≤ 1) : ∀ (j : Nat), j ≤ 8 → ∀ (nn : Nat), j < nn → bX6_realmMany_4 fu y nn (nI b) (nI (cn8 (sp_tm D.1 b) (8 - j))) (nI (8 - j)) = some (nI (cn8 (sp_tm D.1 b) 8)) := by
  intro j
  induction j with
  | zero =>
    intro _ nn hnn
    obtain ⟨q, rfl⟩ : ∃ q, nn = q + 1 := ⟨nn - 1, by omega⟩
    rw [bX6_realmMany_4_s]; rfl
  | succ j ih =>
    intro hj nn hnn
    obtain ⟨q, rfl⟩ : ∃ q, nn = q + 1 := ⟨nn - 1, by omega⟩
    have hn : 8 - (j + 1) < 8 := by omega
    have IH := ih (by omega) q (by omega)
    rw [show 8 - j = 8 - (j + 1) + 1 by omega] at IH
    generalize 8 - (j + 1) = n at hn IH
    rw [cn8] at IH
    rw [bX6_realmMany_4_s, l32_8, if_neg (by rw [nI_leN (by omega) (by omega)]; omega), p6_isRealm fu rW (okD_V od) hn, bind_sm, p6_mints fu rW (okD_V od) hn, bind_sm]
    unfold bX6_realmMany_36
    simp only [bnd_eq, l32_1, l32_0, nI_addN]
    by_cases e0 : D.1 n 0 = 0
    · have : sp_tm D.1 b n = false := by simp [sp_tm, e0]
      rw [if_pos e0, if_pos rfl]
      rw [this] at IH
      exact IH
    rw [if_neg e0, if_neg (by decide)]
    by_cases eb : b = 0
    · have : sp_tm D.1 b n = true := by simp [sp_tm, e0, eb]
      rw [if_pos (by rw [eb])]
      rw [this, if_pos rfl] at IH
      exact IH
    rw [if_neg (nI_ne (by omega) (by omega) eb)]
    by_cases e6 : D.1 n 6 = 0
    · have : sp_tm D.1 b n = false := by simp [sp_tm, e6, eb]
      rw [if_pos e6, if_pos rfl]
      rw [this] at IH
      exact IH
    · have : sp_tm D.1 b n = true := by simp [sp_tm, e6, e0]
      rw [if_neg e6, if_neg (by decide)]
      rw [this, if_pos rfl] at IH
      exact IH
def sp_sg (D : sp_D) : Nat → Nat
  | 0 => D.2 0
  | k + 1 => sp_sg D k + D.1 k 3
theorem p4_sum (fu : Nat) {w : ob_T} {D : sp_D} {K : Nat} (cW : clW w D.1 D.2 K) (od : okD D) : ∀ (j : Nat), j ≤ 8 → ∀ (nn : Nat), j < nn → bX4_goldInAll_7 fu w nn (lN (sp_sg D (8 - j))) (nI (8 - j)) = some (lN (sp_sg D 8)) := by
  intro j
  induction j with
  | zero =>
    intro _ nn hnn
    obtain ⟨q, rfl⟩ : ∃ q, nn = q + 1 := ⟨nn - 1, by omega⟩
    rw [bX4_goldInAll_7_s]; rfl
  | succ j ih =>
    intro hj nn hnn
    obtain ⟨q, rfl⟩ : ∃ q, nn = q + 1 := ⟨nn - 1, by omega⟩
    have hn : 8 - (j + 1) < 8 := by omega
    have IH := ih (by omega) q (by omega)
    rw [show 8 - j = 8 - (j + 1) + 1 by omega] at IH
    generalize 8 - (j + 1) = n at hn IH
    rw [sp_sg] at IH
    rw [bX4_goldInAll_7_s, l32_8, if_neg (by rw [nI_leN (by omega) (by omega)]; omega), p4_has fu cW hn, bind_sm]
    unfold bX4_goldInAll_32
    simp only [bnd_eq, l32_1, l64_0, nI_addN, lN_addN]
    by_cases e0 : D.1 n 0 = 0
    · have h3 := ((okD_V od n hn).2.2.2.2.2.2.2.2.2 e0).1
      rw [if_pos e0, if_pos rfl]
      rw [h3] at IH
      exact IH
    · have c7 := (cW.2.1 n hn e0).2.2.2.2.2.2.2.1
      rw [if_neg e0, if_neg (by decide)]
      simp (disch := omega) only [↓ix_no0, ↓reduceIte, nI_clN, c7, lN_addN]
      exact IH
theorem p6_sum (fu : Nat) {y : ob_T} {D : sp_D} (rW : rfW y 0 D.1 D.2) : ∀ (j : Nat), j ≤ 8 → ∀ (nn : Nat), j < nn → bX6_count_64 fu y nn (lN (sp_sg D (8 - j))) (nI (8 - j)) = some (lN (sp_sg D 8)).toInt32 := by
  intro j
  induction j with
  | zero =>
    intro _ nn hnn
    obtain ⟨q, rfl⟩ : ∃ q, nn = q + 1 := ⟨nn - 1, by omega⟩
    rw [bX6_count_64_s]; rfl
  | succ j ih =>
    intro hj nn hnn
    obtain ⟨q, rfl⟩ : ∃ q, nn = q + 1 := ⟨nn - 1, by omega⟩
    have hn : 8 - (j + 1) < 8 := by omega
    have IH := ih (by omega) q (by omega)
    rw [show 8 - j = 8 - (j + 1) + 1 by omega] at IH
    generalize 8 - (j + 1) = n at hn IH
    rw [sp_sg] at IH
    have v3 := rf_at rW hn (show 3 < 8 by omega)
    rw [bX6_count_64_s, l32_8, if_neg (by rw [nI_leN (by omega) (by omega)]; omega)]
    simp only [bnd_eq, l32_0, l32_1, l32_3, l32_9, nI_mulN, nI_addN]
    simp (disch := omega) only [↓ix_no, ↓reduceIte, nI_clN, v3, lN_addN]
    exact IH
theorem st_count (fu : Nat) (hfu : 9 ≤ fu) : sx_count fu Rl := by
  intro n z p1 hn hR
  have hR0 : Rq n (z 0) (z 1) (z 3) (z 6) (z 7) (z 9) (z 10) (z 11) := hR
  obtain ⟨D, E0, E1, K, kc, oK, oN, cW, rW, rK, hkc, hk5, hk6, h0, h1, hT, hM, hY⟩ := hR
  have od := oN.1
  obtain ⟨len, l1, l2, l3, l4⟩ := hT
  suffices h : ∃ R, mX5_count fu (z 0) (z 7) (z 1) p1 = some R ∧ mX6_count fu (z 11) p1 = some R by
    obtain ⟨R, a, b⟩ := h
    exact ⟨R, R, a, b, rfl, Rq_s hR0⟩
  have m0 : (z 11).2 3 0 = lN (D.2 0) := rW.2 0 (by omega)
  have g0 := cW.2.2.1
  have F0 : (if ((0 : Int32) < 0 ∨ 15 ≤ ((0 : Int32)).toNatClampNeg) then (none : Option Int32) else some 0) = some 0 := by decide
  unfold mX5_count mX6_count
  simp only [bnd_eq]
  rw [if_neg (show ¬ ((0 : Int32) < 0 ∨ 15 ≤ ((0 : Int32)).toNatClampNeg) by decide)]
  by_cases e0 : p1 = 0
  · rw [if_pos e0, if_pos e0, cW.1.1, bc_at]
    have h : mX6_realmMany fu (z 11) 0 = some (nI (cn8 (sp_tm D.1 0) 8)) := p6_many fu rW od (b := 0) (by omega) 8 (by omega) fu (by omega)
    rw [h]
    refine ⟨_, rfl, ?_⟩
    rw [bind_sm]
    congr 2
    exact cn8_ext 8 (fun k hk => by simp [sp_tm, sp_told])
  rw [if_neg e0, if_neg e0]
  by_cases e1 : p1 = 1
  · rw [if_pos e1, if_pos e1, l2, l3]; exact ⟨_, rfl, rfl⟩
  rw [if_neg e1, if_neg e1]
  by_cases e2 : p1 = 2
  · rw [if_pos e2, if_pos e2, cW.1.2.1, bc_at]
    have h : mX6_realmMany fu (z 11) 1 = some (nI (cn8 (sp_tm D.1 1) 8)) := p6_many fu rW od (b := 1) (by omega) 8 (by omega) fu (by omega)
    rw [h]
    refine ⟨_, rfl, ?_⟩
    rw [bind_sm]
    congr 2
    refine cn8_ext 8 (fun k hk => ?_)
    have o9 := (okD_V od k hk).2.2.2.2.2.2.2.2.2
    by_cases e6 : D.1 k 6 = 0
    · simp [sp_tm, sp_mint, e6]
    · have : D.1 k 0 ≠ 0 := fun e => e6 (o9 e).2.2.1
      simp [sp_tm, sp_mint, e6, this]
  rw [if_neg e2, if_neg e2]
  by_cases e3 : p1 = 3
  · rw [if_pos e3, if_pos e3]
    have h5 : mX4_goldInAll fu (z 7) = some (lN (sp_sg D 8)) := by
      unfold mX4_goldInAll
      rw [bnd_eq, g0]
      exact p4_sum fu cW od 8 (by omega) fu (by omega)
    have h6 : bX6_count_64 fu (z 11) fu ((z 11).2 3 (0 : Int32).toNatClampNeg) 0 = some (lN (sp_sg D 8)).toInt32 := by
      rw [show (0 : Int32).toNatClampNeg = 0 from rfl, m0]
      exact p6_sum fu rW 8 (by omega) fu (by omega)
    rw [h5, h6]
    exact ⟨_, rfl, rfl⟩
  rw [if_neg e3, if_neg e3]
  by_cases e4 : p1 = 4
  · rw [if_pos e4, if_pos e4, hk5, hk6]; exact ⟨_, rfl, rfl⟩
  rw [if_neg e4, if_neg e4]
  exact ⟨_, rfl, rfl⟩
