/-! ===== STEPS: write ===== -/
theorem nar_sgn (x : Int64) : ∃ c, c < 256 ∧ vp_nar .byte ((x.toInt32).toInt8.toInt32) = sgn c ∧ (x &&& (255 : Int64)).toInt32 = nI c := by
  refine ⟨x.toBitVec.toNat % 256, Nat.mod_lt _ (by omega), ?_, ?_⟩
  · show ((x.toInt32).toInt8.toInt32).toInt8.toInt32 = (nI (x.toBitVec.toNat % 256)).toInt8.toInt32
    have h1 : ((x.toInt32).toInt8.toInt32).toInt8 = (x.toInt32).toInt8 := by simp
    rw [h1]
    congr 1
    apply Int8.toBitVec_inj.mp
    rw [Int32.toBitVec_toInt8, Int32.toBitVec_toInt8, Int64.toBitVec_toInt32, BitVec.signExtend_eq_setWidth_of_le _ (by omega), BitVec.signExtend_eq_setWidth_of_le _ (by omega), BitVec.signExtend_eq_setWidth_of_le _ (by omega)]
    show BitVec.setWidth 8 (BitVec.setWidth 32 x.toBitVec) = BitVec.setWidth 8 (BitVec.ofNat 32 (x.toBitVec.toNat % 256))
    apply BitVec.eq_of_toNat_eq
    simp only [BitVec.toNat_setWidth, BitVec.toNat_ofNat]
    omega
  · apply Int32.toBitVec_inj.mp
    rw [Int64.toBitVec_toInt32, BitVec.signExtend_eq_setWidth_of_le _ (by omega)]
    show BitVec.setWidth 32 (x.toBitVec &&& 255#64) = BitVec.ofNat 32 (x.toBitVec.toNat % 256)
    apply BitVec.eq_of_toNat_eq
    simp only [BitVec.toNat_setWidth, BitVec.toNat_ofNat, BitVec.toNat_and]
    have : x.toBitVec.toNat &&& (255 % 2 ^ 64) = x.toBitVec.toNat % 256 := Nat.and_two_pow_sub_one_eq_mod x.toBitVec.toNat 8
    rw [this]
theorem wr_m1 (j : Nat) : nI j + (-1 : Int32) = nI j - nI 1 := by
  rw [Int32.sub_eq_add_neg]; rfl
theorem write_loop (fu : Nat) (v : Int64) : ∀ (j : Nat), j ≤ 8 → ∀ (nn nn' : Nat) (t y : ob_T) (len : Nat), j < nn → j < nn' → len + j ≤ 400 → t.1 1 0 = nI len → y.1 0 0 = nI len → (∀ k, k < len → ∃ c, c < 256 ∧ t.1 0 k = sgn c ∧ y.1 1 k = nI c) → ∃ t' y', bX3_append_5 fu nn t v (nI j - nI 1) = some t' ∧ bX6_write_34 fu nn' y v (nI j - nI 1) = some (nI (len + j), y') ∧ t'.1 1 0 = nI (len + j) ∧ y'.1 0 0 = nI (len + j) ∧ (∀ k, k < len + j → ∃ c, c < 256 ∧ t'.1 0 k = sgn c ∧ y'.1 1 k = nI c) ∧ y'.2 = y.2 ∧ ∀ f, f ≠ 0 → f ≠ 1 → y'.1 f = y.1 f := by
  intro j
  induction j with
  | zero =>
    intro _ nn nn' t y len hnn hnn' hl h1 h2 h3
    obtain ⟨q, rfl⟩ : ∃ q, nn = q + 1 := ⟨nn - 1, by omega⟩
    obtain ⟨q', rfl⟩ : ∃ q, nn' = q + 1 := ⟨nn' - 1, by omega⟩
    refine ⟨t, y, ?_, ?_, h1, h2, h3, rfl, fun _ _ _ => rfl⟩
    · rw [bX3_append_5_s, if_pos (by decide)]
    · rw [bX6_write_34_s, if_pos (by decide), h2]; rfl
  | succ j ih =>
    intro hj nn nn' t y len hnn hnn' hl h1 h2 h3
    obtain ⟨q, rfl⟩ : ∃ q, nn = q + 1 := ⟨nn - 1, by omega⟩
    obtain ⟨q', rfl⟩ : ∃ q, nn' = q + 1 := ⟨nn' - 1, by omega⟩
    rw [show nI (j + 1) - nI 1 = nI j by rw [nI_subN (by omega)]; rfl]
    obtain ⟨c, c1, c2, c3⟩ := nar_sgn (v >>> ((nI j * (8 : Int32)).toInt64 &&& 63))
    have c3' : ((v >>> (((8 : Int32) * nI j).toInt64 &&& 63)) &&& (255 : Int64)).toInt32 = nI c := by rw [Int32.mul_comm]; exact c3
    rw [bX3_append_5_s, bX6_write_34_s]
    simp only [bnd_eq, h1, h2, c2, c3', l32_0, l32_1, show (400 : Int32) = nI 400 from rfl]
    simp (disch := omega) only [↓ix_no, ↓reduceIte, nI_clN, nI_ltN, nI_leN]
    rw [if_neg (by omega), if_neg (by omega), if_neg (by omega), show (-nI 1 : Int32) = -1 from rfl, wr_m1]
    obtain ⟨t', y', e1, e2, e3, e4, e5, e6, e7⟩ := ih (by omega) q q' (ob_I (ob_I t 0 (upd (t.1 0) len (sgn c))) 1 (fun _ => (ob_I t 0 (upd (t.1 0) len (sgn c))).1 1 0 + nI 1)) (ob_I (ob_I y 1 (upd (y.1 1) len (nI c))) 0 (fun _ => (ob_I y 1 (upd (y.1 1) len (nI c))).1 0 0 + nI 1)) (len + 1) (by omega) (by omega) (by omega) (by show t.1 1 0 + nI 1 = _; rw [h1, nI_addN]) (by show y.1 0 0 + nI 1 = _; rw [h2, nI_addN]) (fun k hk => by
        show ∃ c', c' < 256 ∧ upd (t.1 0) len (sgn c) k = sgn c' ∧ upd (y.1 1) len (nI c) k = nI c'
        rw [updI_at, updI_at]
        by_cases e : k = len
        · rw [if_pos e, if_pos e]; exact ⟨c, c1, rfl, rfl⟩
        · rw [if_neg e, if_neg e]; exact h3 k (by omega))
    refine ⟨t', y', e1, ?_, ?_, ?_, ?_, e6, fun f f0 f1 => ?_⟩
    · rw [e2, show len + 1 + j = len + (j + 1) by omega]
    · rw [e3, show len + 1 + j = len + (j + 1) by omega]
    · rw [e4, show len + 1 + j = len + (j + 1) by omega]
    · intro k hk; exact e5 k (by omega)
    · rw [e7 f f0 f1]
      show (if f = 0 then _ else if f = 1 then _ else y.1 f) = _
      rw [if_neg f0, if_neg f1]
theorem st_write (fu : Nat) (hfu : 9 ≤ fu) : sx_write fu Rl := by
  intro n z p1 p2 hn hR
  have hR0 : Rq n (z 0) (z 1) (z 3) (z 6) (z 7) (z 9) (z 10) (z 11) := hR
  obtain ⟨D, E0, E1, K, kc, oK, oN, cW, rW, rK, hkc, hk5, hk6, h0, h1, hT, hM, hY⟩ := hR
  obtain ⟨len, l1, l2, l3, l4⟩ := hT
  have z1 : ¬ ((1 : Int32) = 0) := by decide
  unfold mX5_write mX6_write mX3_hasRoomFor mX3_append
  rw [show (1 : Int64) = lN 1 from rfl, show (8 : Int64) = lN 8 from rfl, p6_inI fu p1 (by omega) (by omega), bind_sm, l2, l3]
  by_cases q1 : p1 < nI 1
  · rw [if_pos (show p1 < 1 from q1), if_pos q1, if_pos rfl]; exact ⟨_, _, rfl, rfl, rfl, Rq_s hR0⟩
  rw [if_neg (show ¬ p1 < 1 from q1), if_neg q1]
  by_cases q2 : nI 8 < p1
  · rw [if_neg (show ¬ p1 ≤ 8 from Int32.not_le.mpr q2), if_pos q2, if_pos rfl]; exact ⟨_, _, rfl, rfl, rfl, Rq_s hR0⟩
  rw [if_pos (show p1 ≤ 8 from Int32.not_lt.mp q2), if_neg q2, if_neg z1]
  obtain ⟨j, j1, j2, rfl⟩ : ∃ j, 1 ≤ j ∧ j ≤ 8 ∧ p1 = nI j := by
    rcases pk_ix p1 (n := 9) (by omega) with h | h | ⟨j, a, b⟩
    · exact absurd (Int32.lt_trans h (by decide)) q1
    · exact absurd (Int32.lt_of_lt_of_le (by decide) h) q2
    · refine ⟨j, ?_, by omega, b⟩
      rcases Nat.eq_zero_or_pos j with e | e
      · subst e; subst b; exact absurd (by decide) q1
      · exact e
  simp only [bnd_eq, nI_addN, show (400 : Int32) = nI 400 from rfl, l32_1]
  simp (disch := omega) only [nI_ltN, nI_leN]
  by_cases q3 : 400 < len + j
  · rw [if_pos q3, bind_sm, if_pos rfl, if_neg (by omega)]
    exact ⟨_, _, rfl, rfl, rfl, Rq_s hR0⟩
  rw [if_neg q3, bind_sm, if_neg (by decide), if_pos (by omega)]
  obtain ⟨t', y', e1, e2, e3, e4, e5, e6, e7⟩ := write_loop fu p2 j j2 fu fu (z 1) (z 11) len (by omega) (by omega) (by omega) l2 l3 l4
  rw [e1, e2, bind_sm, e3]
  refine ⟨_, _, rfl, rfl, rfl, ?_⟩
  show Rq (n + 1) (z 0) t' (z 3) (z 6) (z 7) (z 9) (z 10) y'
  have r0 : ∀ c V M, rfW (z 11) c V M → rfW y' c V M := by intro c V M h; unfold rfW; rw [e6]; exact h
  refine ⟨D, E0, E1, K, kc, oK, okN_mono oN (by omega), cW, r0 _ _ _ rW, by rw [e7 4 (by omega) (by omega)]; exact rK, hkc, hk5, by rw [e7 7 (by omega) (by omega)]; exact hk6, fun h => ?_, fun h => ?_, ⟨len + j, by omega, e3, e4, e5⟩, mnR_y hM (e7 5 (by omega) (by omega)) (e7 6 (by omega) (by omega)), hY⟩
  · obtain ⟨a, b, c⟩ := h0 h
    exact ⟨okN_mono a (by omega), b, r0 _ _ _ c⟩
  · obtain ⟨a, b, c⟩ := h1 h
    exact ⟨okN_mono a (by omega), b, r0 _ _ _ c⟩
