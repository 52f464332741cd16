/-! ===== STEPS: rest, pact, bought ===== -/
theorem st_rest (fu : Nat) (hfu : 1000000 ≤ fu) : sx_rest fu Rl := by
  intro n z hn hR
  have hR0 : Rq n (z 0) (z 1) (z 3) (z 6) (z 7) (z 9) (z 10) (z 11) := hR
  obtain ⟨D, E0, E1, K, kc, oK, oN, cW, rW, rK, hkc, hk5, hk6, h0, h1, hT, hM, hY⟩ := hR
  have od := oN.1
  obtain ⟨t1, a1, a2⟩ := p4_copyFrom fu (z 8) (z 7)
  obtain ⟨v', w', c⟩ := p1_settle fu hfu oK od (v := z 5) (agr_cl a2 cW)
  obtain ⟨y1, b1, b2, b3, b4, b5⟩ := p6_look fu (by omega) (z 11)
  obtain ⟨y2, c1, c2⟩ := p6_goRest fu hfu oK od (b3 _ _ rW) (by rw [b2]; exact rK)
  unfold mX5_rest mX6_rest
  rw [a1, b1, bind_sm, bind_sm]
  rcases c with ⟨k, e1, e2, e3⟩ | ⟨e1, e2⟩
  · rcases c2 with ⟨k', f1, f2, f3⟩ | ⟨f1, f2, f3⟩
    · have := sp_ends_one e1 f1
      subst this
      have n5 := ends_m5 e1
      obtain ⟨w2, g1, g2⟩ := p4_copyFrom fu (z 7) w'
      rw [e2, f2, bind_sm, bind_sm]
      simp only
      rw [if_neg n5, if_neg n5, g1, bind_sm]
      refine ⟨_, _, rfl, rfl, rfl, ?_⟩
      have oE := sp_it_ok (K := K) od k
      have cE := cons_it (K := K) (D := D) k
      generalize sp_it K D k = E at e3 f3 oE cE
      exact Rq_D hR0 rK oK (okN_mono (okN_cons oN cE oE) (by omega)) (agr_cl g2 e3) f3 (fun f _ => by show y2.1 f = (z 11).1 f; rw [c1.1, b2]) (fun c V M hc hc2 h => rfY_slot (rfK_Y c1) hc (b4 c V M hc2 h))
    · exact absurd e1 (f1 k)
  · rcases c2 with ⟨k', f1, f2, f3⟩ | ⟨f1, f2, f3⟩
    · exact absurd f1 (e1 k')
    · obtain ⟨y3, g1, g2⟩ := b5 y2 (rfK_Y c1)
      rw [e2, f2, bind_sm, bind_sm]
      simp only [↓reduceIte]
      rw [g1, bind_sm]
      exact ⟨_, _, rfl, rfl, rfl, Rq_Q hR0 g2⟩
theorem p6_minting (fu : Nat) (hf : 9 ≤ fu) {y : ob_T} {D : sp_D} (h : rfW y 0 D.1 D.2) (od : okD D) : mX6_minting fu y = some (nI (bt8 (sp_mint D.1) 8)) := by
  refine lp_bits0 (b := bX6_minting_4 fu y) hf (fun nn a => ?_) (fun nn a k hk => ?_)
  · rw [bX6_minting_4_s]; rfl
  · rw [bX6_minting_4_s, l32_8, if_neg (by rw [nI_leN (by omega) (by omega)]; omega), p6_isRealm fu h (okD_V od) hk, bind_sm, p6_mints fu h (okD_V od) hk, bind_sm]
    unfold bX6_minting_34
    simp only [bnd_eq, l32_1, l32_0, nI_addN, nI_sh1 k hk, nI_orN]
    have o9 := (okD_V od k hk).2.2.2.2.2.2.2.2.2
    by_cases e6 : D.1 k 6 = 0
    · have : sp_mint D.1 k = false := by simp [sp_mint, e6]
      rw [if_pos e6, if_pos rfl, this]
      by_cases e0 : D.1 k 0 = 0
      · rw [if_pos e0, if_pos rfl]; rfl
      · rw [if_neg e0, if_neg (by decide)]; rfl
    · have e0 : D.1 k 0 ≠ 0 := fun e => e6 (o9 e).2.2.1
      have : sp_mint D.1 k = true := by simp [sp_mint, e6]
      rw [if_neg e6, if_neg e0, if_neg (by decide), if_neg (by decide), this, if_pos rfl]
theorem sub_bits {p : Int32} {T : Nat} (hT : T < 256) (h : p &&& (nI T ^^^ (-1 : Int32)) = 0) : ∃ s, s < 256 ∧ p = nI s ∧ ∀ i, s.testBit i = true → T.testBit i = true := by
  have h2 : p.toBitVec &&& (BitVec.ofNat 32 T ^^^ BitVec.allOnes 32) = 0#32 := congrArg Int32.toBitVec h
  have h3 : ∀ i, p.toBitVec.toNat.testBit i = true → T.testBit i = true := by
    intro i hi
    have hlt : i < 32 := by
      rcases Nat.lt_or_ge i 32 with q | q
      · exact q
      · rw [Nat.testBit_lt_two_pow (Nat.lt_of_lt_of_le p.toBitVec.isLt (Nat.pow_le_pow_right (by omega) q))] at hi
        exact absurd hi (by decide)
    have h4 := congrArg (fun b => BitVec.getLsbD b i) h2
    simp only [BitVec.getLsbD_and, BitVec.getLsbD_xor, BitVec.getLsbD_allOnes, BitVec.getLsbD_ofNat, BitVec.getLsbD_zero, hlt, decide_true, Bool.true_and] at h4
    have h5 : p.toBitVec.getLsbD i = true := hi
    rw [h5] at h4
    cases hb : T.testBit i
    · rw [hb] at h4; simp at h4
    · rfl
  refine ⟨p.toBitVec.toNat, ?_, ?_, h3⟩
  · apply Nat.lt_pow_two_of_testBit (n := 8)
    intro i hi
    cases hb : p.toBitVec.toNat.testBit i
    · rfl
    · have := h3 i hb
      rw [Nat.testBit_lt_two_pow (Nat.lt_of_lt_of_le hT (by show 2 ^ 8 ≤ 2 ^ i; exact Nat.pow_le_pow_right (by omega) hi))] at this
      exact absurd this (by decide)
  · apply Int32.toBitVec_inj.mp
    show p.toBitVec = BitVec.ofNat 32 p.toBitVec.toNat
    simp
theorem p5_allHold (fu : Nat) (hf : 9 ≤ fu) (o : ob_T) {w : ob_T} {D : sp_D} {K : Nat} (h : clW w D.1 D.2 K) (od : okD D) (p : Int32) : mX5_allHold fu o w p = some (if (p &&& (nI (bt8 (sp_hold D.1 D.2 K) 8) ^^^ (-1 : Int32))) = 0 then 1 else 0) := by
  unfold mX5_allHold
  rw [p4_holders fu hf h od, bind_sm]
  split <;> rfl
theorem st_pact (fu : Nat) (hfu : 1000000 ≤ fu) : sx_pact fu Rl := by
  intro n z p1 p2 p3 hn hR
  have hR0 : Rq n (z 0) (z 1) (z 3) (z 6) (z 7) (z 9) (z 10) (z 11) := hR
  obtain ⟨D, E0, E1, K, kc, oK, oN, cW, rW, rK, hkc, hk5, hk6, h0, h1, hT, hM, hY⟩ := hR
  have od := oN.1
  have z1 : ¬ ((1 : Int32) = 0) := by decide
  unfold mX5_pact mX6_pact
  rw [p6_minting fu (by omega) rW od, bind_sm, cW.1.2.1]
  unfold bX5_pact_23
  by_cases e0 : p1 = 0
  · rw [if_pos e0, if_pos rfl, if_pos (show p1 ≤ 0 by rw [e0]; decide)]
    exact ⟨_, _, rfl, rfl, rfl, Rq_s hR0⟩
  rw [if_neg e0]
  by_cases e1 : p1 &&& (nI (bt8 (sp_mint D.1) 8) ^^^ (-1 : Int32)) = 0
  · obtain ⟨s, s1, rfl, s3⟩ := sub_bits (bt8_lt _) e1
    rw [if_pos e1, if_pos e1, if_neg z1, if_neg (by rw [l32_0, nI_leN (by omega) (by omega)]; intro q; exact e0 (by rw [show s = 0 by omega]; rfl)), p5_rt, p6_rt, bind_sm, bind_sm]
    rcases isRt_c p2 with h | ⟨h, r, r1, r2, rfl⟩
    · rw [h, if_pos rfl, if_pos rfl]; exact ⟨_, _, rfl, rfl, rfl, Rq_s hR0⟩
    rw [h, if_neg z1, if_neg z1, p5_01, p6_01, bind_sm, bind_sm]
    rcases is01_c p3 with h | ⟨h, hp3⟩
    · rw [h, if_pos rfl, if_pos rfl]; exact ⟨_, _, rfl, rfl, rfl, Rq_s hR0⟩
    rw [h, if_neg z1, if_neg z1]
    have ht : ∀ k, k < 8 → s.testBit k = true → D.1 k 0 ≠ 0 := by
      intro k hk hb
      have h6 := s3 k hb
      rw [bt8_tb] at h6
      simp [hk, sp_mint] at h6
      exact fun e => h6 ((okD_V od k hk).2.2.2.2.2.2.2.2.2 e).2.2.1
    obtain ⟨oP, v', w', c⟩ := p5_tryPact fu hfu (z 0) (v := z 5) (tr := z 8) oK od cW s1 r1 r2 ht
    obtain ⟨y', q, c2⟩ := p6_pactOf fu hfu oK rW rK s1 r2 p3 oP
    generalize sp_pD D s r = E at oP c c2
    rcases c with ⟨k, e1, e2, e3⟩ | ⟨e1, e2⟩
    · rcases c2 with ⟨k', f1, f2⟩ | ⟨f1, f2⟩
      · have := sp_ends_one e1 f1
        subst this
        have n5 := ends_m5 e1
        have oF := sp_it_ok (K := K) oP k
        rw [e2, f2, bind_sm, bind_sm]
        simp only
        rw [if_neg n5]
        generalize sp_it K E k = F at e3 oF
        unfold sp_pa
        by_cases g : p3 = 1
        · rw [if_pos g, if_pos g, e3.2.2.2.2.2.1]
          exact ⟨_, _, rfl, rfl, rfl, Rq_Q hR0 q⟩
        · rw [if_neg g, if_neg g, p5_allHold fu (by omega) (z 0) e3 oF, bind_sm]
          by_cases g2 : nI s &&& (nI (bt8 (sp_hold F.1 F.2 K) 8) ^^^ (-1 : Int32)) = 0
          · rw [if_pos g2, if_neg z1]
            exact ⟨_, _, rfl, rfl, rfl, Rq_Q hR0 q⟩
          · rw [if_neg g2, if_pos rfl]
            exact ⟨_, _, rfl, rfl, rfl, Rq_Q hR0 q⟩
      · exact absurd e1 (f1 k)
    · rcases c2 with ⟨k', f1, f2⟩ | ⟨f1, f2⟩
      · exact absurd f1 (e1 k')
      · rw [e2, f2, bind_sm, bind_sm]
        simp only [↓reduceIte]
        exact ⟨_, _, rfl, rfl, rfl, Rq_Q hR0 q⟩
  · rw [if_neg e1, if_neg e1, if_pos rfl]
    by_cases g : p1 ≤ 0
    · rw [if_pos g]; exact ⟨_, _, rfl, rfl, rfl, Rq_s hR0⟩
    · rw [if_neg g]; exact ⟨_, _, rfl, rfl, rfl, Rq_s hR0⟩
theorem st_bought (fu : Nat) (hfu : 1000000 ≤ fu) : sx_bought fu Rl := by
  intro n z p1 p2 hn hR
  have hR0 : Rq n (z 0) (z 1) (z 3) (z 6) (z 7) (z 9) (z 10) (z 11) := hR
  obtain ⟨D, E0, E1, K, kc, oK, oN, cW, rW, rK, hkc, hk5, hk6, h0, h1, hT, hM, hY⟩ := hR
  have od := oN.1
  have z1 : ¬ ((1 : Int32) = 0) := by decide
  have m0 : (z 11).2 3 0 = lN (D.2 0) := rW.2 0 (by omega)
  have q0 := (okD_M od).1
  unfold mX5_bought mX6_bought
  rw [if_neg (show ¬ ((0 : Int32) < 0 ∨ 15 ≤ ((0 : Int32)).toNatClampNeg) by decide), show (0 : Int32).toNatClampNeg = 0 from rfl, m0, l64_0, p6_inI fu p1 (by omega) (by omega), bind_sm, cW.2.2.1]
  have hq : ((0 : Int32) < lg_cmp p1.toInt64 (lN (D.2 0))) = (nI (D.2 0) < p1) := by rw [l32_0, lg_gtN, i64_gtN (by omega)]
  simp only [hq]
  by_cases q1 : p1 < nI 0
  · rw [if_pos (show p1 < 0 from q1), if_pos q1, if_pos rfl]; exact ⟨_, _, rfl, rfl, rfl, Rq_s hR0⟩
  rw [if_neg (show ¬ p1 < 0 from q1), if_neg q1]
  by_cases q2 : nI (D.2 0) < p1
  · rw [if_pos q2, if_pos q2, if_pos rfl]; exact ⟨_, _, rfl, rfl, rfl, Rq_s hR0⟩
  rw [if_neg q2, if_neg q2, if_neg z1]
  obtain ⟨m, hm, rfl⟩ : ∃ m, m ≤ D.2 0 ∧ p1 = nI m := by
    rcases pk_ix p1 (n := D.2 0 + 1) (by omega) with h | h | ⟨m, h1, h2⟩
    · exact absurd h q1
    · exact absurd (Int32.lt_of_lt_of_le (by rw [nI_ltN (by omega) (by omega)]; omega) h) q2
    · exact ⟨m, by omega, h2⟩
  have main : ∀ r, r ≤ 8 → (r < 8 → D.1 r 0 ≠ 0) → ∃ R5 R6, bX5_bought_35 fu (z 0) (z 7) (z 5) (z 8) (nI m) (ix_ba r) = some R5 ∧ bX6_bought_30 fu (z 11) (nI m) (ix_ba r) = some R6 ∧ R5.1 = R6.1 ∧ Rq (n + 1) (z 0) (z 1) (z 3) (z 6) (z 7) (z 9) (z 10) R6.2 := by
    intro r hr h0
    obtain ⟨v', w', c⟩ := p5_tryPurchase fu hfu (z 0) (v := z 5) (tr := z 8) oK od cW hm
    obtain ⟨y', q, c2⟩ := p6_boughtOf fu hfu oK od rW rK hm hr
    have oP := bD_ok od m
    have hC : ∀ k i, (sp_it K (sp_bD D m) k).1 i 0 = D.1 i 0 := fun k i => (cons_it (K := K) (D := sp_bD D m) k).1 i 0 (by omega) (by omega)
    unfold bX5_bought_35 bX6_bought_30
    rw [nI_toL (by omega)]
    generalize sp_bD D m = E at oP c c2 hC
    rcases c with ⟨k, e1, e2, e3⟩ | ⟨e1, e2⟩
    · rcases c2 with ⟨k', f1, f2⟩ | ⟨f1, f2⟩
      · have := sp_ends_one e1 f1
        subst this
        have n5 := ends_m5 e1
        have oF := sp_it_ok (K := K) oP k
        have hC := hC k
        rw [e2, f2, bind_sm, bind_sm]
        simp only
        rw [if_neg n5]
        generalize sp_it K E k = F at e3 oF hC
        unfold sp_ba
        by_cases g : r = 8
        · have : ix_ba r = -1 := by unfold ix_ba; rw [if_pos g]
          rw [if_pos this, if_pos g, e3.2.2.2.2.2.1]
          exact ⟨_, _, rfl, rfl, rfl, Rq_Q hR0 q⟩
        · have e : ix_ba r = nI r := by unfold ix_ba; rw [if_neg g]
          have ne : ¬ nI r = (-1 : Int32) := by
            intro e
            have h1 : nI 0 ≤ nI r := by rw [nI_leN (by omega) (by omega)]; omega
            rw [e] at h1
            exact absurd h1 (by decide)
          have hr8 : r < 8 := by omega
          have c7 := (e3.2.1 r hr8 (by rw [hC r]; exact h0 hr8)).2.2.2.2.2.2.2.1
          rw [if_neg g, e, if_neg ne]
          simp (disch := omega) only [↓ix_no0, ↓reduceIte, nI_clN, c7, lN_toI]
          exact ⟨_, _, rfl, rfl, rfl, Rq_Q hR0 q⟩
      · exact absurd e1 (f1 k)
    · rcases c2 with ⟨k', f1, f2⟩ | ⟨f1, f2⟩
      · exact absurd f1 (e1 k')
      · rw [e2, f2, bind_sm, bind_sm]
        simp only [↓reduceIte]
        exact ⟨_, _, rfl, rfl, rfl, Rq_Q hR0 q⟩
  by_cases g : p2 = -1
  · rw [if_pos g, if_pos g]
    have := main 8 (by omega) (fun h => absurd h (by omega))
    rw [show ix_ba 8 = -1 from rfl, ← g] at this
    exact this
  · rw [if_neg g, if_neg g]
    rcases both_has fu cW rW od p2 with ⟨a, b⟩ | ⟨a, b, r, hr, rfl, e0⟩
    · rw [a, b]; exact ⟨_, _, rfl, rfl, rfl, Rq_s hR0⟩
    · rw [a, b, bind_sm, bind_sm, if_neg z1, if_neg z1]
      have := main r (by omega) (fun _ => e0)
      rw [show ix_ba r = nI r by unfold ix_ba; rw [if_neg (by omega)]] at this
      exact this
