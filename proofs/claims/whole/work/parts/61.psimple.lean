/-! ===== STEPS: what only reads ===== -/
theorem st_realm (fu : Nat) : sx_realm fu Rl := by
  intro n z p1 p2 hn hR
  have hR0 : Rq n (z 0) (z 1) (z 3) (z 6) (z 7) (z 9) (z 10) (z 11) := hR
  obtain ⟨D, E0, E1, K, kc, oK, oN, cW, rW, rK, hkc, hk5, hk6, h0, h1, hT, hM, hY⟩ := hR
  have od := oN.1
  suffices h : ∃ R, mX5_realm fu (z 0) (z 7) p1 p2 = some R ∧ mX6_realm fu (z 11) p1 p2 = some R by
    obtain ⟨R, a, b⟩ := h
    exact ⟨R, R, a, b, rfl, Rq_s hR0⟩
  rcases both_has fu cW rW od p1 with ⟨a, b⟩ | ⟨a, b, k, hk, rfl, e0⟩
  · refine ⟨-1, ?_, ?_⟩
    · unfold mX5_realm; rw [a, bind_sm, if_pos rfl]
    · unfold mX6_realm; rw [b, bind_sm, if_pos rfl]; rfl
  · obtain ⟨o0, o1, o2, o3, o4, o5, o6, o7, o8, o9⟩ := okD_V od k hk
    obtain ⟨c0, c1, c2, c3, c4, c5, c6, c7, c8⟩ := cW.2.1 k hk e0
    have G6 := p4_mints fu cW hk
    have G7 := p4_limps fu cW hk
    have z1 : ¬ ((1 : Int32) = 0) := by decide
    unfold mX5_realm mX6_realm
    rw [a, b, bind_sm, bind_sm, if_neg z1, if_neg z1, l64_0, l64_7, p6_inI fu p2 (by omega) (by omega), bind_sm]
    rcases pk_ix p2 (n := 8) (by omega) with q | q | ⟨f, hf, rfl⟩
    · have ne : ∀ j, j < 8 → ¬ p2 = nI j := by
        intro j hj e
        rw [e, l32_0, nI_ltN (by omega) (by omega)] at q
        omega
      refine ⟨-1, ?_, ?_⟩
      · rw [if_neg (show ¬ p2 = 0 from ne 0 (by omega)), if_neg (show ¬ p2 = 1 from ne 1 (by omega)), if_neg (show ¬ p2 = 2 from ne 2 (by omega)), if_neg (show ¬ p2 = 3 from ne 3 (by omega)), if_neg (show ¬ p2 = 4 from ne 4 (by omega)), if_neg (show ¬ p2 = 5 from ne 5 (by omega)), if_neg (show ¬ p2 = 6 from ne 6 (by omega)), if_neg (show ¬ p2 = 7 from ne 7 (by omega))]
      · rw [if_pos (show p2 < nI 0 from q), if_pos rfl]; rfl
    · have ne : ∀ j, j < 8 → ¬ p2 = nI j := by
        intro j hj e
        rw [e, nI_leN (by omega) (by omega)] at q
        omega
      refine ⟨-1, ?_, ?_⟩
      · rw [if_neg (show ¬ p2 = 0 from ne 0 (by omega)), if_neg (show ¬ p2 = 1 from ne 1 (by omega)), if_neg (show ¬ p2 = 2 from ne 2 (by omega)), if_neg (show ¬ p2 = 3 from ne 3 (by omega)), if_neg (show ¬ p2 = 4 from ne 4 (by omega)), if_neg (show ¬ p2 = 5 from ne 5 (by omega)), if_neg (show ¬ p2 = 6 from ne 6 (by omega)), if_neg (show ¬ p2 = 7 from ne 7 (by omega))]
      · by_cases h2 : p2 < nI 0
        · rw [if_pos h2, if_pos rfl]; rfl
        · rw [if_neg h2, if_pos (Int32.lt_of_lt_of_le (show nI 7 < nI 8 by decide) q), if_pos rfl]; rfl
    · refine ⟨lN (D.1 k f), ?_, ?_⟩
      · rcases lt8 hf with rfl | rfl | rfl | rfl | rfl | rfl | rfl | rfl
        · show (if (nI k < 0 ∨ 8 ≤ (nI k).toNatClampNeg) then none else some (((z 7).1 0 (nI k).toNatClampNeg).toInt64)) = _
          simp (disch := omega) only [↓ix_no0, ↓reduceIte, nI_clN, c0, nI_toL]
        · show (if (nI k < 0 ∨ 8 ≤ (nI k).toNatClampNeg) then none else some (((z 7).1 1 (nI k).toNatClampNeg).toInt64)) = _
          simp (disch := omega) only [↓ix_no0, ↓reduceIte, nI_clN, c1, nI_toL]
        · show (if (nI k < 0 ∨ 8 ≤ (nI k).toNatClampNeg) then none else some (((z 7).1 2 (nI k).toNatClampNeg).toInt64)) = _
          simp (disch := omega) only [↓ix_no0, ↓reduceIte, nI_clN, c2, nI_toL]
        · show (if (nI k < 0 ∨ 8 ≤ (nI k).toNatClampNeg) then none else some ((z 7).2 7 (nI k).toNatClampNeg)) = _
          simp (disch := omega) only [↓ix_no0, ↓reduceIte, nI_clN, c7]
        · show (if (nI k < 0 ∨ 8 ≤ (nI k).toNatClampNeg) then none else some ((z 7).2 8 (nI k).toNatClampNeg)) = _
          simp (disch := omega) only [↓ix_no0, ↓reduceIte, nI_clN, c8]
        · show (if (nI k < 0 ∨ 8 ≤ (nI k).toNatClampNeg) then none else some (((z 7).1 3 (nI k).toNatClampNeg).toInt64)) = _
          simp (disch := omega) only [↓ix_no0, ↓reduceIte, nI_clN, c3, nI_toL]
        · show (Option.bind (mX4_mints fu (z 7) (nI k)) (fun (r15 : Int32) => (if r15 = 0 then some (0 : Int64) else some (1 : Int64)))) = _
          rw [G6, bind_sm]
          by_cases e : D.1 k 6 = 0
          · rw [if_pos e, e]; rfl
          · rw [if_neg e, show D.1 k 6 = 1 by omega]; rfl
        · show (Option.bind (mX4_limps fu (z 7) (nI k)) (fun (r15 : Int32) => (if r15 = 0 then some (0 : Int64) else some (1 : Int64)))) = _
          rw [G7, bind_sm]
          by_cases e : D.1 k 7 = 0
          · rw [if_pos e, e]; rfl
          · rw [if_neg e, show D.1 k 7 = 1 by omega]; rfl
      · have v := rf_at rW hk hf
        rw [if_neg (show ¬ nI f < nI 0 by rw [nI_ltN (by omega) (by omega)]; omega), if_neg (show ¬ nI 7 < nI f by rw [nI_ltN (by omega) (by omega)]; omega), if_neg z1]
        simp only [l32_9, nI_mulN, nI_addN]
        simp (disch := omega) only [↓ix_no0, ↓reduceIte, nI_clN, v]
theorem st_market (fu : Nat) : sx_market fu Rl := by
  intro n z p1 hn hR
  have hR0 : Rq n (z 0) (z 1) (z 3) (z 6) (z 7) (z 9) (z 10) (z 11) := hR
  obtain ⟨D, E0, E1, K, kc, oK, oN, cW, rW, rK, hkc, hk5, hk6, h0, h1, hT, hM, hY⟩ := hR
  obtain ⟨a0, a1, a2, a3, a4⟩ := cW.2.2
  have oM := okD_M oN.1
  have q2 := oM.2.2
  have hrt := rt_le K D.2
  suffices h : ∃ R, mX5_market fu (z 0) (z 7) p1 = some R ∧ mX6_market fu (z 11) p1 = some R by
    obtain ⟨R, a, b⟩ := h
    exact ⟨R, R, a, b, rfl, Rq_s hR0⟩
  unfold mX5_market mX6_market
  have m0 : (z 11).2 3 0 = lN (D.2 0) := rW.2 0 (by omega)
  have m1 : (z 11).2 3 1 = lN (D.2 1) := rW.2 1 (by omega)
  have m2 : (z 11).2 3 2 = lN (D.2 2) := rW.2 2 (by omega)
  by_cases e0 : p1 = 0
  · rw [if_pos e0, if_pos e0]
    exact ⟨_, congrArg some a0, by simp only [l32_0]; simp (disch := omega) only [↓ix_no, ↓reduceIte, nI_clN, m0]⟩
  rw [if_neg e0, if_neg e0]
  by_cases e1 : p1 = 1
  · rw [if_pos e1, if_pos e1]
    exact ⟨_, congrArg some a1, by simp only [l32_0, l32_1]; simp (disch := omega) only [↓ix_no, ↓reduceIte, nI_clN, m1]⟩
  rw [if_neg e1, if_neg e1]
  by_cases e2 : p1 = 2
  · rw [if_pos e2, if_pos e2, p6_ratio fu rW rK oM oK, a3, nI_toL (by omega)]
    exact ⟨_, rfl, rfl⟩
  rw [if_neg e2, if_neg e2]
  by_cases e3 : p1 = 3
  · rw [if_pos e3, if_pos e3, a4, nI_toL (by omega)]
    exact ⟨_, rfl, by simp only [l32_0, l32_2]; simp (disch := omega) only [↓ix_no, ↓reduceIte, nI_clN, m2]⟩
  rw [if_neg e3, if_neg e3]
  exact ⟨_, rfl, rfl⟩
theorem st_moves (fu : Nat) : sx_moves fu Rl := by
  intro n z p1 hn hR
  have hR0 : Rq n (z 0) (z 1) (z 3) (z 6) (z 7) (z 9) (z 10) (z 11) := hR
  obtain ⟨D, E0, E1, K, kc, oK, oN, cW, rW, rK, hkc, hk5, hk6, h0, h1, hT, hM, hY⟩ := hR
  have od := oN.1
  suffices h : ∃ R, mX5_moves fu (z 0) (z 7) p1 = some R ∧ mX6_moves fu (z 11) p1 = some R by
    obtain ⟨R, a, b⟩ := h
    exact ⟨R, R, a, b, rfl, Rq_s hR0⟩
  unfold mX5_moves mX6_moves
  rcases both_has fu cW rW od p1 with ⟨a, b⟩ | ⟨a, b, k, hk, rfl, e0⟩
  · rw [a, b]; exact ⟨-1, rfl, rfl⟩
  · rw [a, b, p4_heading fu cW (okD_V od) (okD_M od) hk, p6_movesOf fu rW rK (okD_V od) (okD_M od) oK hk]
    exact ⟨_, rfl, rfl⟩
theorem st_ends (fu : Nat) : sx_ends fu Rl := by
  intro n z p1 p2 hn hR
  have hR0 : Rq n (z 0) (z 1) (z 3) (z 6) (z 7) (z 9) (z 10) (z 11) := hR
  obtain ⟨D, E0, E1, K, kc, oK, oN, cW, rW, rK, hkc, hk5, hk6, h0, h1, hT, hM, hY⟩ := hR
  have od := oN.1
  suffices h : ∃ R, mX5_ends fu (z 0) (z 7) p1 p2 = some R ∧ mX6_ends fu (z 11) p1 p2 = some R by
    obtain ⟨R, a, b⟩ := h
    exact ⟨R, R, a, b, rfl, Rq_s hR0⟩
  unfold mX5_ends mX6_ends
  have z1 : ¬ ((1 : Int32) = 0) := by decide
  rcases both_has fu cW rW od p1 with ⟨a, b⟩ | ⟨a, b, k, hk, rfl, e0⟩
  · rw [a, b]; exact ⟨-1, rfl, rfl⟩
  · rw [a, b, bind_sm, bind_sm, if_neg z1, if_neg z1, p5_01, p6_01, bind_sm, bind_sm]
    obtain ⟨c0, c1, c2, c3, c4, c5, c6, c7, c8⟩ := cW.2.1 k hk e0
    obtain ⟨g1, g2⟩ := p6_endOf fu rW (okD_V od) hk e0
    rcases is01_c p2 with h | ⟨h, rfl | rfl⟩
    · rw [h, if_pos rfl, if_pos rfl]; exact ⟨-1, rfl, rfl⟩
    · rw [h, if_neg z1, if_neg z1, if_pos (show nI 0 = 0 from rfl), if_neg (show ¬ nI 0 = 1 by decide)]
      unfold bX6_ends_30
      rw [show (0 : Int32) = nI 0 from rfl, g1, bind_sm, lN_toI]
      refine ⟨_, ?_, rfl⟩
      simp (disch := omega) only [↓ix_no, ↓reduceIte, nI_clN, c5]
    · rw [h, if_neg z1, if_neg z1, if_neg (show ¬ nI 1 = 0 by decide), if_pos (show nI 1 = 1 from rfl)]
      unfold bX6_ends_30
      rw [show (1 : Int32) = nI 1 from rfl, g2, bind_sm, lN_toI]
      refine ⟨_, ?_, rfl⟩
      simp (disch := omega) only [↓ix_no0, ↓reduceIte, nI_clN, c6]
theorem st_held (fu : Nat) (hfu : 9 ≤ fu) : sx_held fu Rl := by
  intro n z hn hR
  have hR0 : Rq n (z 0) (z 1) (z 3) (z 6) (z 7) (z 9) (z 10) (z 11) := hR
  obtain ⟨D, E0, E1, K, kc, oK, oN, cW, rW, rK, hkc, hk5, hk6, h0, h1, hT, hM, hY⟩ := hR
  have od := oN.1
  refine ⟨_, _, ?_, p6_held fu hfu rW rK (okD_V od) (okD_M od) oK, rfl, Rq_s hR0⟩
  unfold mX5_held
  rw [p4_holders fu hfu cW od]
  rfl
theorem st_debt (fu : Nat) : sx_debt fu Rl := by
  intro n z p1 p2 p3 hn hR
  have hR0 : Rq n (z 0) (z 1) (z 3) (z 6) (z 7) (z 9) (z 10) (z 11) := hR
  obtain ⟨D, E0, E1, K, kc, oK, oN, cW, rW, rK, hkc, hk5, hk6, h0, h1, hT, hM, hY⟩ := hR
  have od := oN.1
  suffices h : ∃ R, mX5_debt fu (z 0) (z 7) p1 p2 p3 = some R ∧ mX6_debt fu (z 11) p1 p2 p3 = some R by
    obtain ⟨R, a, b⟩ := h
    exact ⟨R, R, a, b, rfl, Rq_s hR0⟩
  unfold mX5_debt mX6_debt
  have z1 : ¬ ((1 : Int32) = 0) := by decide
  rcases both_has fu cW rW od p1 with ⟨a, b⟩ | ⟨a, b, k, hk, rfl, e0⟩
  · rw [a, b]; exact ⟨-1, rfl, rfl⟩
  · rw [a, b, bind_sm, bind_sm, if_neg z1, if_neg z1, p5_01, p6_01, show (1 : Int64) = lN 1 from rfl, show (100000000 : Int64) = lN 100000000 from rfl, p6_inI fu p2 (by omega) (by omega), bind_sm, bind_sm, bind_sm]
    obtain ⟨c0, c1, c2, c3, c4, c5, c6, c7, c8⟩ := cW.2.1 k hk e0
    obtain ⟨a0, a1, a2, a3, a4⟩ := cW.2.2
    obtain ⟨o0, o1, o2, o3, o4, o5, o6, o7, o8, o9⟩ := okD_V od k hk
    have v0 := rf_at0 rW hk
    have hrt := rt_le K D.2
    by_cases q1 : p2 < nI 1
    · rw [if_pos (show p2 < 1 from q1), if_pos q1, if_pos rfl]; exact ⟨-1, rfl, rfl⟩
    rw [if_neg (show ¬ p2 < 1 from q1), if_neg q1]
    by_cases q2 : nI 100000000 < p2
    · rw [if_pos (show 100000000 < p2 from q2), if_pos q2, if_pos rfl]; exact ⟨-1, rfl, rfl⟩
    rw [if_neg (show ¬ 100000000 < p2 from q2), if_neg q2, if_neg z1]
    rw [p4_mints fu cW hk, p6_mints fu rW (okD_V od) hk, bind_sm, bind_sm]
    rcases is01_c p3 with h | ⟨h, hp3⟩
    · rw [h, if_pos rfl, if_pos rfl]; exact ⟨-1, rfl, rfl⟩
    rw [h, if_neg z1, if_neg z1]
    by_cases e6 : D.1 k 6 = 0
    · rw [if_pos e6, if_pos rfl]; exact ⟨-2, rfl, by rw [if_pos rfl]⟩
    rw [if_neg e6, if_neg z1, if_neg z1, p6_ratio fu rW rK (okD_M od) oK, bind_sm]
    simp only [l32_0, l32_9, nI_mulN]
    simp (disch := omega) only [↓ix_no, ↓reduceIte, nI_clN, v0, c0, a3, nI_leN, lg_geN, lN_leN]
    have fin : ∀ s : Int32, (s = nI 0 ∨ s = nI 1) → ∃ R, bX5_debt_69 fu (z 0) (z 7) (nI k) p2 p3 s = some R ∧ bX6_debt_65 fu (z 11) (nI k) p2 p3 s = some R := by
      intro s hs
      unfold bX5_debt_69 bX6_debt_65
      by_cases g1 : p3 = 1
      · rw [if_pos g1, if_pos g1]
        by_cases gs : s = 0
        · rw [if_pos gs]; exact ⟨_, rfl, rfl⟩
        · rw [if_neg gs]; exact ⟨_, rfl, rfl⟩
      · rw [if_neg g1, if_neg g1]
        by_cases gs : s = 0
        · rw [if_pos gs, if_pos gs]; exact ⟨_, rfl, rfl⟩
        · rw [if_neg gs, if_neg gs, p6_ratio fu rW rK (okD_M od) oK, bind_sm]
          simp only [l32_0, l32_1, l32_9, nI_mulN, l64_0]
          simp (disch := omega) only [↓ix_no, ↓reduceIte, nI_clN, v0, c0, a3, nI_ltN, nI_toL, lN_eqN]
          rw [if_pos (show 1 < D.1 k 0 by omega)]
          simp (disch := omega) only [nI_toL, lN_eqN]
          rw [if_neg e0]
          exact ⟨_, rfl, rfl⟩
    by_cases g : D.1 k 0 ≤ rt K D.2
    · rw [if_pos g, if_pos g]; exact fin _ (Or.inl rfl)
    · rw [if_neg g, if_neg g]; exact fin _ (Or.inr rfl)
def sp_melt (K : Nat) (D : sp_D) (n : Nat) : Bool := decide (D.1 n 0 ≠ 0 ∧ D.1 n 0 < rt K D.2)
theorem st_melted (fu : Nat) (hfu : 9 ≤ fu) : sx_melted fu Rl := by
  intro n z hn hR
  have hR0 : Rq n (z 0) (z 1) (z 3) (z 6) (z 7) (z 9) (z 10) (z 11) := hR
  obtain ⟨D, E0, E1, K, kc, oK, oN, cW, rW, rK, hkc, hk5, hk6, h0, h1, hT, hM, hY⟩ := hR
  have od := oN.1
  obtain ⟨a0, a1, a2, a3, a4⟩ := cW.2.2
  have hrt := rt_le K D.2
  refine ⟨nI (bt8 (sp_melt K D) 8), nI (bt8 (sp_melt K D) 8), ?_, ?_, rfl, Rq_s hR0⟩
  · refine lp_bits0 (b := bX5_melted_4 fu (z 0) (z 7)) hfu (fun nn a => ?_) (fun nn a k hk => ?_)
    · rw [bX5_melted_4_s]; rfl
    · rw [bX5_melted_4_s, l32_8, if_neg (by rw [nI_leN (by omega) (by omega)]; omega), p4_has fu cW hk, bind_sm]
      unfold bX5_melted_46
      simp only [bnd_eq, l32_1, nI_addN, nI_sh1 k hk, nI_orN]
      by_cases e0 : D.1 k 0 = 0
      · have : sp_melt K D k = false := by simp [sp_melt, e0]
        rw [if_pos e0, if_pos rfl, this]; simp
      · obtain ⟨c0, c1, c2, c3, c4, c5, c6, c7, c8⟩ := cW.2.1 k hk e0
        obtain ⟨o0, o1, o2, o3, o4, o5, o6, o7, o8, o9⟩ := okD_V od k hk
        rw [if_neg e0, if_neg (by decide)]
        simp (disch := omega) only [↓ix_no0, ↓reduceIte, nI_clN, c0, a3, nI_leN]
        by_cases g : rt K D.2 ≤ D.1 k 0
        · have : sp_melt K D k = false := by simp [sp_melt]; omega
          rw [if_pos g, this]; simp
        · have : sp_melt K D k = true := by simp [sp_melt, e0]; omega
          rw [if_neg g, this, if_pos rfl]
  · refine lp_bits0 (b := bX6_melted_4 fu (z 11)) hfu (fun nn a => ?_) (fun nn a k hk => ?_)
    · rw [bX6_melted_4_s]; rfl
    · rw [bX6_melted_4_s, l32_8, if_neg (by rw [nI_leN (by omega) (by omega)]; omega), p6_isRealm fu rW (okD_V od) hk, bind_sm, p6_ratio fu rW rK (okD_M od) oK, bind_sm]
      unfold bX6_melted_43
      simp only [bnd_eq, l32_1, nI_addN, nI_sh1 k hk]
      have v0 := rf_at0 rW hk
      by_cases e0 : D.1 k 0 = 0
      · have : sp_melt K D k = false := by simp [sp_melt, e0]
        rw [if_pos e0, if_pos rfl, this, l32_0, nI_orN]; simp
      · obtain ⟨o0, o1, o2, o3, o4, o5, o6, o7, o8, o9⟩ := okD_V od k hk
        rw [if_neg e0, if_neg (by decide)]
        simp only [l32_0, l32_9, nI_mulN, nI_orN]
        simp (disch := omega) only [↓ix_no, ↓reduceIte, nI_clN, v0, lg_leN, lN_leN]
        by_cases g : rt K D.2 ≤ D.1 k 0
        · have : sp_melt K D k = false := by simp [sp_melt]; omega
          rw [if_pos g, this]; simp
        · have : sp_melt K D k = true := by simp [sp_melt, e0]; omega
          rw [if_neg g, this, if_pos rfl]
theorem st_wipe (fu : Nat) : sx_wipe fu Rl := by
  intro n z hn hR
  obtain ⟨D, E0, E1, K, kc, oK, oN, cW, rW, rK, hkc, hk5, hk6, h0, h1, hT, hM, hY⟩ := hR
  obtain ⟨len, l1, l2, l3, l4⟩ := hT
  refine ⟨_, _, rfl, rfl, l2.trans l3.symm, ?_⟩
  show Rq (n + 1) (z 0) (ob_I (z 1) 1 (fun _ => 0)) (z 3) (z 6) (z 7) (z 9) (z 10) (ob_I (z 11) 0 (fun _ => 0))
  refine ⟨D, E0, E1, K, kc, oK, okN_mono oN (by omega), cW, rW, rK, hkc, hk5, hk6, fun h => ?_, fun h => ?_, ⟨0, by omega, rfl, rfl, fun k hk => absurd hk (by omega)⟩, hM, hY⟩
  · obtain ⟨a, b, c⟩ := h0 h
    exact ⟨okN_mono a (by omega), b, c⟩
  · obtain ⟨a, b, c⟩ := h1 h
    exact ⟨okN_mono a (by omega), b, c⟩
theorem st_move (fu : Nat) : sx_move fu Rl := by
  intro n z p1 p2 hn hR
  have hR0 : Rq n (z 0) (z 1) (z 3) (z 6) (z 7) (z 9) (z 10) (z 11) := hR
  obtain ⟨D, E0, E1, K, kc, oK, oN, cW, rW, rK, hkc, hk5, hk6, h0, h1, hT, hM, hY⟩ := hR
  have od := oN.1
  unfold mX5_move mX6_move
  have z1 : ¬ ((1 : Int32) = 0) := by decide
  rcases both_has fu cW rW od p1 with ⟨a, b⟩ | ⟨a, b, k, hk, rfl, e0⟩
  · rw [a, b]; exact ⟨_, _, rfl, rfl, rfl, Rq_s hR0⟩
  · rw [a, b, bind_sm, bind_sm, if_neg z1, if_neg z1, p5_rt, p6_rt, bind_sm, bind_sm]
    rcases isRt_c p2 with h | ⟨h, r, r1, r2, rfl⟩
    · rw [h, if_pos rfl, if_pos rfl]; exact ⟨_, _, rfl, rfl, rfl, Rq_s hR0⟩
    rw [h, if_neg z1, if_neg z1]
    obtain ⟨c0, c1, c2, c3, c4, c5, c6, c7, c8⟩ := cW.2.1 k hk e0
    have v0 := rf_at0 rW hk
    obtain ⟨w', m1, m2, m3⟩ := p4_move fu cW (okD_V od) hk e0 r1 r2
    rw [m1]
    simp only [l32_0, l32_9, nI_mulN, bnd_eq, bind_sm]
    simp (disch := omega) only [↓ix_no, ↓reduceIte, nI_clN, v0, c0, lN_toI, nI_toL]
    refine ⟨_, _, rfl, rfl, rfl, ?_⟩
    have r3 := rf_upd2 rW hk (show 0 < 8 by omega) r
    rw [show 72 * 0 + 9 * k + 0 = 9 * k by omega] at r3
    have ok2 : okN (n + 1) (sp_law D.1 k r, D.2) := by
      refine okN_mono (n := n) ⟨law_ok od e0 r1 r2, ?_, ?_, oN.2.2.2⟩ (by omega)
      · have : TG (sp_law D.1 k r, D.2) = TG D := by unfold TG; simp only [law_st _ _ _ _ 3 (show (3 : Nat) ≠ 0 by omega)]
        rw [this]; exact oN.2.1
      · have : TS (sp_law D.1 k r, D.2) = TS D := by unfold TS; simp only [law_st _ _ _ _ 4 (show (4 : Nat) ≠ 0 by omega)]
        rw [this]; exact oN.2.2.1
    exact Rq_D hR0 rK oK (D' := (sp_law D.1 k r, D.2)) ok2 m2 r3 (fun _ _ => rfl) (fun c V M hc _ h => rfY_slot (rfY_upd2 (by omega) _) hc h)
theorem st_keep (fu : Nat) (hfu : 100 ≤ fu) : sx_keep fu Rl := by
  intro n z hn hR
  have hR0 : Rq n (z 0) (z 1) (z 3) (z 6) (z 7) (z 9) (z 10) (z 11) := hR
  obtain ⟨D, E0, E1, K, kc, oK, oN, cW, rW, rK, hkc, hk5, hk6, h0, h1, hT, hM, hY⟩ := hR
  unfold mX5_keep mX6_keep
  rw [hk5, hk6]
  by_cases e2 : kc = 2
  · subst e2
    rw [if_neg (by decide), if_pos (by decide)]
    exact ⟨_, _, rfl, rfl, rfl, Rq_s hR0⟩
  by_cases e0 : kc = 0
  · subst e0
    obtain ⟨k1, a1, a2⟩ := p4_copyFrom fu (z 9) (z 7)
    obtain ⟨y', b1, b2, b3, b4⟩ := p6_copy fu hfu (a := 0) (b := 1) (by omega) (by omega) (by omega) (z 11)
    have b1' : mX6_copy fu (z 11) 0 (1 + nI 0) = some y' := b1
    rw [if_pos (by decide), if_pos (by decide), if_neg (by decide), a1, b1']
    refine ⟨_, _, rfl, rfl, by show nI 0 + 1 = y'.1 7 0 + 1; rw [b2, hk6], ?_⟩
    show Rq (n + 1) (ob_I (z 0) 7 (fun _ => nI 0 + 1)) (z 1) (z 3) (z 6) (z 7) k1 (z 10) (ob_I y' 7 (fun _ => y'.1 7 0 + 1))
    refine ⟨D, D, E1, K, 1, oK, okN_mono oN (by omega), cW, b4 0 _ _ (by omega) (by omega) rW, by show y'.1 4 0 = _; rw [b2]; exact rK, by omega, by show nI 0 + 1 = _; rfl, by show y'.1 7 0 + 1 = _; rw [b2, hk6]; rfl, fun _ => ⟨okN_mono oN (by omega), agr_cl a2 cW, b3 _ _ rW⟩, fun h => absurd h (by omega), txR_y hT (by show y'.1 0 = _; rw [b2]) (by show y'.1 1 = _; rw [b2]), mnR_y hM (by show y'.1 5 = _; rw [b2]) (by show y'.1 6 = _; rw [b2]), hY⟩
  · have e1 : kc = 1 := by omega
    subst e1
    obtain ⟨g1, g2, g3⟩ := h0 (by omega)
    obtain ⟨k2, a1, a2⟩ := p4_copyFrom fu (z 10) (z 7)
    obtain ⟨y', b1, b2, b3, b4⟩ := p6_copy fu hfu (a := 0) (b := 2) (by omega) (by omega) (by omega) (z 11)
    have b1' : mX6_copy fu (z 11) 0 (1 + nI 1) = some y' := b1
    rw [if_pos (by decide), if_neg (by decide), if_pos (by decide), if_neg (by decide), a1, b1']
    refine ⟨_, _, rfl, rfl, by show nI 1 + 1 = y'.1 7 0 + 1; rw [b2, hk6], ?_⟩
    show Rq (n + 1) (ob_I (z 0) 7 (fun _ => nI 1 + 1)) (z 1) (z 3) (z 6) (z 7) (z 9) k2 (ob_I y' 7 (fun _ => y'.1 7 0 + 1))
    refine ⟨D, E0, D, K, 2, oK, okN_mono oN (by omega), cW, b4 0 _ _ (by omega) (by omega) rW, by show y'.1 4 0 = _; rw [b2]; exact rK, by omega, by show nI 1 + 1 = _; rfl, by show y'.1 7 0 + 1 = _; rw [b2, hk6]; rfl, fun _ => ⟨okN_mono g1 (by omega), g2, b4 1 _ _ (by omega) (by omega) g3⟩, fun _ => ⟨okN_mono oN (by omega), agr_cl a2 cW, b3 _ _ rW⟩, txR_y hT (by show y'.1 0 = _; rw [b2]) (by show y'.1 1 = _; rw [b2]), mnR_y hM (by show y'.1 5 = _; rw [b2]) (by show y'.1 6 = _; rw [b2]), hY⟩
theorem st_back (fu : Nat) (hfu : 100 ≤ fu) : sx_back fu Rl := by
  intro n z hn hR
  have hR0 : Rq n (z 0) (z 1) (z 3) (z 6) (z 7) (z 9) (z 10) (z 11) := hR
  obtain ⟨D, E0, E1, K, kc, oK, oN, cW, rW, rK, hkc, hk5, hk6, h0, h1, hT, hM, hY⟩ := hR
  unfold mX5_back mX6_back
  rw [hk5, hk6]
  by_cases e0 : kc = 0
  · subst e0
    rw [if_neg (by decide), if_pos (by decide)]
    exact ⟨_, _, rfl, rfl, rfl, Rq_s hR0⟩
  by_cases e1 : kc = 1
  · subst e1
    obtain ⟨g1, g2, g3⟩ := h0 (by omega)
    obtain ⟨nw, a1, a2⟩ := p4_copyFrom fu (z 7) (z 9)
    rw [if_pos (by decide), if_neg (by decide), bnd_eq, bnd_eq]
    obtain ⟨y', b1, b2, b3, b4⟩ := p6_copy fu hfu (a := 1) (b := 0) (by omega) (by omega) (by omega) (ob_I (z 11) 7 (fun _ => nI 1 - 1))
    have b1' : mX6_copy fu (ob_I (z 11) 7 (fun _ => nI 1 - 1)) (1 + (ob_I (z 11) 7 (fun _ => nI 1 - 1)).1 7 0) 0 = some y' := b1
    rw [b1', if_pos (show (ob_I (z 0) 7 (fun _ => nI 1 - 1)).1 7 0 = 0 from by show nI 1 - 1 = 0; decide), a1]
    have y7 : y'.1 7 0 = nI 0 := by rw [b2]; show nI 1 - 1 = nI 0; decide
    refine ⟨_, _, rfl, rfl, by show nI 1 - 1 = y'.1 7 0; rw [y7]; decide, ?_⟩
    show Rq (n + 1) (ob_I (z 0) 7 (fun _ => nI 1 - 1)) (z 1) (z 3) (z 6) nw (z 9) (z 10) y'
    refine ⟨E0, E0, E1, K, 0, oK, okN_mono g1 (by omega), agr_cl a2 g2, b3 _ _ g3, by rw [b2]; exact rK, by omega, by show nI 1 - 1 = _; decide, y7, fun h => absurd h (by omega), fun h => absurd h (by omega), txR_y hT (by rw [b2]; rfl) (by rw [b2]; rfl), mnR_y hM (by rw [b2]; rfl) (by rw [b2]; rfl), hY⟩
  · have e2 : kc = 2 := by omega
    subst e2
    obtain ⟨g1, g2, g3⟩ := h0 (by omega)
    obtain ⟨f1, f2, f3⟩ := h1 (by omega)
    obtain ⟨nw, a1, a2⟩ := p4_copyFrom fu (z 7) (z 10)
    rw [if_pos (by decide), if_neg (by decide), bnd_eq, bnd_eq]
    obtain ⟨y', b1, b2, b3, b4⟩ := p6_copy fu hfu (a := 2) (b := 0) (by omega) (by omega) (by omega) (ob_I (z 11) 7 (fun _ => nI 2 - 1))
    have b1' : mX6_copy fu (ob_I (z 11) 7 (fun _ => nI 2 - 1)) (1 + (ob_I (z 11) 7 (fun _ => nI 2 - 1)).1 7 0) 0 = some y' := b1
    rw [b1', if_neg (show ¬ (ob_I (z 0) 7 (fun _ => nI 2 - 1)).1 7 0 = 0 from by show ¬ nI 2 - 1 = 0; decide), if_pos (show (ob_I (z 0) 7 (fun _ => nI 2 - 1)).1 7 0 = 1 from by show nI 2 - 1 = 1; decide), a1]
    have y7 : y'.1 7 0 = nI 1 := by rw [b2]; show nI 2 - 1 = nI 1; decide
    refine ⟨_, _, rfl, rfl, by show nI 2 - 1 = y'.1 7 0; rw [y7]; decide, ?_⟩
    show Rq (n + 1) (ob_I (z 0) 7 (fun _ => nI 2 - 1)) (z 1) (z 3) (z 6) nw (z 9) (z 10) y'
    refine ⟨E1, E0, E1, K, 1, oK, okN_mono f1 (by omega), agr_cl a2 f2, b3 _ _ f3, by rw [b2]; exact rK, by omega, by show nI 2 - 1 = _; decide, y7, fun _ => ⟨okN_mono g1 (by omega), g2, b4 1 _ _ (by omega) (by omega) g3⟩, fun h => absurd h (by omega), txR_y hT (by rw [b2]; rfl) (by rw [b2]; rfl), mnR_y hM (by rw [b2]; rfl) (by rw [b2]; rfl), hY⟩
