/-! ===== PURE: the year's end: who stops ===== -/
theorem m1_toLN {b : Nat} (h : b < 2147483648) : (nI b - nI 1).toInt64 = lN b - 1 := by
  rcases Nat.eq_zero_or_pos b with e | e
  · subst e; decide
  · rw [nI_subN e, nI_toL (by omega), l64_1, lN_subN e]
theorem L_m1_lt {a b : Nat} (ha : a < 4611686018427387904) (hb : b < 4611686018427387904) : (lN b - 1 < lN a) = (b ≤ a) := by
  rcases Nat.eq_zero_or_pos b with e | e
  · subst e
    have h1 : lN 0 - 1 < lN a := by
      have h2 : (lN 0 - 1 : Int64) < lN 0 := by decide
      have h3 : lN 0 ≤ lN a := by rw [lN_leN (by omega) (by omega)]; omega
      exact Int64.lt_of_lt_of_le h2 h3
    exact propext ⟨fun _ => Nat.zero_le _, fun _ => h1⟩
  · rw [l64_1, lN_subN e, lN_ltN (by omega) (by omega)]
    exact propext (by omega)
theorem bit_clr : ∀ T, T < 256 → ∀ n, n < 8 → nI T &&& ((nI 1 <<< (nI n &&& 31)) ^^^ (-1 : Int32)) = nI (T &&& (255 - 2 ^ n)) := by decide +kernel
theorem msk_tb : ∀ n, n < 8 → ∀ i, i < 8 → (255 - 2 ^ n).testBit i = decide (i ≠ n) := by decide
theorem bt8_clr (P : Nat → Bool) {n : Nat} (hn : n < 8) : bt8 P 8 &&& (255 - 2 ^ n) = bt8 (fun k => if k = n then false else P k) 8 := by
  apply Nat.eq_of_testBit_eq
  intro i
  rw [Nat.testBit_and, bt8_tb, bt8_tb]
  by_cases hi : i < 8
  · rw [msk_tb n hn i hi]
    by_cases e : i = n
    · simp [e]
    · simp [e, hi]
  · simp [hi]
/-- realm k stops, if it has so little gold -/
def sp_stp (V : Nat → Nat → Nat) (k : Nat) : Nat → Nat → Nat := fun i f => if i = k ∧ f = 6 ∧ V k 0 ≠ 0 ∧ V k 3 < V k 8 then 0 else V i f
def sp_stf : Nat → (Nat → Nat → Nat) → Nat → Nat → Nat
  | 0, V => V
  | j + 1, V => sp_stf j (sp_stp V (8 - (j + 1)))
theorem stp_st (V : Nat → Nat → Nat) (k i f : Nat) (h : f ≠ 6) : sp_stp V k i f = V i f := by
  unfold sp_stp; rw [if_neg (fun q => h q.2.1)]
theorem stf_st : ∀ (j : Nat) (V : Nat → Nat → Nat) (i f : Nat), f ≠ 6 → sp_stf j V i f = V i f := by
  intro j
  induction j with
  | zero => intro V i f _; rfl
  | succ j ih => intro V i f h; show sp_stf j (sp_stp V (8 - (j + 1))) i f = _; rw [ih _ _ _ h, stp_st _ _ _ _ h]
theorem stp_same {V : Nat → Nat → Nat} {k : Nat} (h : V k 0 = 0 ∨ V k 6 = 0 ∨ V k 8 ≤ V k 3) : sp_stp V k = V := by
  funext i f
  unfold sp_stp
  by_cases e : i = k ∧ f = 6 ∧ V k 0 ≠ 0 ∧ V k 3 < V k 8
  · rw [if_pos e]
    obtain ⟨rfl, rfl, e0, e3⟩ := e
    rcases h with h | h | h
    · exact absurd h e0
    · exact h.symm
    · omega
  · rw [if_neg e]
theorem stp_ok {D : sp_D} {k : Nat} (h : okD D) : okD (sp_stp D.1 k, D.2) := by
  refine ⟨fun n hn => ?_, ?_, ?_, h.2.2.2⟩
  · obtain ⟨a, b, c, d, e, f, g, i⟩ := h.1 n hn
    show (sp_stp D.1 k n 0 = 0 ∨ _) ∧ _
    simp only [stp_st D.1 k n 0 (by omega), stp_st D.1 k n 1 (by omega), stp_st D.1 k n 2 (by omega), stp_st D.1 k n 5 (by omega), stp_st D.1 k n 7 (by omega), stp_st D.1 k n 8 (by omega), stp_st D.1 k n 3 (by omega), stp_st D.1 k n 4 (by omega)]
    have h6 : sp_stp D.1 k n 6 ≤ D.1 n 6 := by unfold sp_stp; split <;> omega
    refine ⟨a, b, c, d, by omega, f, g, fun z => ?_⟩
    obtain ⟨i1, i2, i3, i4⟩ := i z
    exact ⟨i1, i2, by omega, i4⟩
  · have : TG (sp_stp D.1 k, D.2) = TG D := by unfold TG; simp only [stp_st _ _ _ 3 (show (3 : Nat) ≠ 6 by omega)]
    rw [this]; exact h.2.1
  · have : TS (sp_stp D.1 k, D.2) = TS D := by unfold TS; simp only [stp_st _ _ _ 4 (show (4 : Nat) ≠ 6 by omega)]
    rw [this]; exact h.2.2.1
theorem stf_ok : ∀ (j : Nat) {D : sp_D}, okD D → okD (sp_stf j D.1, D.2) := by
  intro j
  induction j with
  | zero => intro D h; exact h
  | succ j ih => intro D h; exact ih (D := (sp_stp D.1 (8 - (j + 1)), D.2)) (stp_ok h)
theorem p4_stop_loop (fu : Nat) {K : Nat} {M : Nat → Nat} : ∀ (j : Nat), j ≤ 8 → ∀ (nn : Nat), j < nn → ∀ (V : Nat → Nat → Nat) (w : ob_T), okD (V, M) → clW w V M K → ∃ w', bX4_stopThoseThatRanLow_2 fu nn w (nI (8 - j)) = some w' ∧ clW w' (sp_stf j V) M K := by
  intro j
  induction j with
  | zero =>
    intro _ nn hnn V w od hc
    obtain ⟨q, rfl⟩ : ∃ q, nn = q + 1 := ⟨nn - 1, by omega⟩
    exact ⟨w, by rw [bX4_stopThoseThatRanLow_2_s]; rfl, hc⟩
  | succ j ih =>
    intro hj nn hnn V w od hc
    obtain ⟨q, rfl⟩ : ∃ q, nn = q + 1 := ⟨nn - 1, by omega⟩
    have hn : 8 - (j + 1) < 8 := by omega
    show ∃ w', _ ∧ clW w' (sp_stf j (sp_stp V (8 - (j + 1)))) M K
    generalize hk : 8 - (j + 1) = n at hn
    have hn1 : n + 1 = 8 - j := by omega
    have oV : okV V := okD_V od
    obtain ⟨o0, o1, o2, o3, o4, o5, o6, o7, o8, o9⟩ := oV n hn
    rw [bX4_stopThoseThatRanLow_2_s, l32_8, if_neg (by rw [nI_leN (by omega) (by omega)]; omega), p4_mints fu hc hn, bind_sm]
    have same : sp_stp V n = V → ∃ w', bX4_stopThoseThatRanLow_47 fu (bX4_stopThoseThatRanLow_2 fu q) w (nI n) = some w' ∧ clW w' (sp_stf j (sp_stp V n)) M K := by
      intro e
      rw [e]
      unfold bX4_stopThoseThatRanLow_47
      rw [bnd_eq, l32_1, nI_addN, hn1]
      exact ih (by omega) q (by omega) V w od hc
    by_cases e6 : V n 6 = 0
    · rw [if_pos e6, if_pos rfl]
      exact same (stp_same (Or.inr (Or.inl e6)))
    have e0 : V n 0 ≠ 0 := fun e => e6 (o9 e).2.2.1
    obtain ⟨c0, c1, c2, c3, c4, c5, c6, c7, c8⟩ := hc.2.1 n hn e0
    rw [if_neg e6, if_neg (by decide)]
    simp only [l32_0, l32_1]
    simp (disch := omega) only [↓ix_no, ↓reduceIte, nI_clN, c7, c4, lg_gtN, m1_toLN, L_m1_lt]
    by_cases e8 : V n 8 ≤ V n 3
    · rw [if_pos e8]
      exact same (stp_same (Or.inr (Or.inr e8)))
    rw [if_neg e8, bnd_eq, hc.1.2.1, show (-nI 1 : Int32) = -1 from rfl, bit_clr _ (bt8_lt _) n hn, bt8_clr _ hn]
    unfold bX4_stopThoseThatRanLow_47
    rw [bnd_eq, l32_1, nI_addN, hn1]
    refine ih (by omega) q (by omega) (sp_stp V n) _ (stp_ok (D := (V, M)) od) ⟨⟨?_, ?_, ?_, hc.1.2.2.2⟩, fun k hk2 ek => ?_, hc.2.2⟩
    · show w.1 9 0 = _
      rw [hc.1.1]
      exact congrArg nI (bt8_ext (fun k _ => by simp only [sp_told, stp_st V n k 0 (by omega)]))
    · show nI _ = _
      refine congrArg nI (bt8_ext (fun k _ => ?_))
      unfold sp_mint sp_stp
      by_cases e : k = n
      · subst e; simp [e0]; omega
      · simp [e]
    · show w.1 11 0 = _
      rw [hc.1.2.2.1]
      exact congrArg nI (bt8_ext (fun k _ => by simp only [sp_limp, stp_st V n k 7 (by omega)]))
    · have hlo : sp_lo (sp_stp V n) k = sp_lo V k := by unfold sp_lo; rw [stp_st _ _ _ 0 (by omega), stp_st _ _ _ 1 (by omega), stp_st _ _ _ 2 (by omega)]
      have hhi : sp_hi (sp_stp V n) k = sp_hi V k := by unfold sp_hi; rw [stp_st _ _ _ 0 (by omega), stp_st _ _ _ 1 (by omega), stp_st _ _ _ 2 (by omega)]
      rw [stp_st _ _ _ 0 (by omega)] at ek
      rw [hlo, hhi, stp_st _ _ _ 0 (by omega), stp_st _ _ _ 1 (by omega), stp_st _ _ _ 2 (by omega), stp_st _ _ _ 5 (by omega), stp_st _ _ _ 8 (by omega), stp_st _ _ _ 3 (by omega), stp_st _ _ _ 4 (by omega)]
      exact hc.2.1 k hk2 ek
/-- the reference: who stops, and the next year -/
theorem rf_upd2 {y : ob_T} {b : Nat} {V : Nat → Nat → Nat} {M : Nat → Nat} (h : rfW y b V M) {n f : Nat} (hn : n < 8) (hf : f < 8) (x : Nat) : rfW (ob_L y 2 (vp_updL (y.2 2) (72 * b + 9 * n + f) (lN x))) b (fun i g => if i = n ∧ g = f then x else V i g) M := by
  refine ⟨fun k hk => ⟨fun g hg => ?_, ?_⟩, h.2⟩
  · show vp_updL (y.2 2) (72 * b + 9 * n + f) (lN x) (72 * b + 9 * k + g) = _
    rw [updL_at]
    by_cases e : k = n ∧ g = f
    · obtain ⟨rfl, rfl⟩ := e
      rw [if_pos rfl]; simp
    · rw [if_neg (by omega), (h.1 k hk).1 g hg]
      simp only [if_neg e]
  · show vp_updL (y.2 2) (72 * b + 9 * n + f) (lN x) (72 * b + 9 * k + 8) = _
    rw [updL_at, if_neg (by omega), (h.1 k hk).2]
    simp only [if_neg (show ¬ (k = n ∧ 8 = f) by omega)]
theorem rfY_upd2 {y : ob_T} {k : Nat} (hk : k < 72) (x : Int64) : rfY y (ob_L y 2 (vp_updL (y.2 2) k x)) := by
  refine ⟨fun _ _ => rfl, fun f i q => ?_⟩
  rw [obL_2]
  by_cases e : f = 2
  · subst e
    rw [if_pos rfl, updL_at, if_neg (by omega)]
  · rw [if_neg e]
theorem rfY_upd3 {y : ob_T} {k : Nat} (hk : k < 3) (x : Int64) : rfY y (ob_L y 3 (vp_updL (y.2 3) k x)) := by
  refine ⟨fun _ _ => rfl, fun f i q => ?_⟩
  rw [obL_2]
  by_cases e : f = 3
  · subst e
    rw [if_pos rfl, updL_at, if_neg (by omega)]
  · rw [if_neg e]
theorem rf_upd3 {y : ob_T} {V : Nat → Nat → Nat} {M : Nat → Nat} (h : rfW y 0 V M) (f : Nat) (x : Nat) : rfW (ob_L y 3 (vp_updL (y.2 3) f (lN x))) 0 V (fun g => if g = f then x else M g) := by
  refine ⟨h.1, fun g hg => ?_⟩
  show vp_updL (y.2 3) f (lN x) (3 * 0 + g) = _
  rw [updL_at]
  by_cases e : g = f
  · rw [if_pos (by omega)]; simp [e]
  · rw [if_neg (by omega), h.2 g hg]; simp [e]
def sp_nx (M : Nat → Nat) : Nat → Nat := fun g => if g = 2 then M 2 + 1 else M g
theorem p6_stop_loop (fu : Nat) {M : Nat → Nat} (c : Int32) : ∀ (j : Nat), j ≤ 8 → ∀ (nn : Nat), j < nn → ∀ (V : Nat → Nat → Nat) (y : ob_T), okD (V, M) → rfW y 0 V M → ∃ y', bX6_goYear_248 fu nn y c (nI (8 - j)) = some (c, y') ∧ rfW y' 0 (sp_stf j V) (sp_nx M) ∧ rfY y y' := by
  intro j
  induction j with
  | zero =>
    intro _ nn hnn V y od h
    obtain ⟨q, rfl⟩ : ∃ q, nn = q + 1 := ⟨nn - 1, by omega⟩
    have m2 : y.2 3 2 = lN (M 2) := h.2 2 (by omega)
    refine ⟨ob_L y 3 (vp_updL (y.2 3) 2 (lN (M 2 + 1))), ?_, rf_upd3 h 2 (M 2 + 1), rfY_upd3 (by omega) _⟩
    rw [bX6_goYear_248_s, if_pos (show (8 : Int32) ≤ nI (8 - 0) by decide)]
    simp only [l32_2, l64_1]
    simp (disch := omega) only [↓ix_no, ↓reduceIte, nI_clN, m2, lN_addN, bnd_eq, l32_0]
    rfl
  | succ j ih =>
    intro hj nn hnn V y od h
    obtain ⟨q, rfl⟩ : ∃ q, nn = q + 1 := ⟨nn - 1, by omega⟩
    have hn : 8 - (j + 1) < 8 := by omega
    show ∃ y', _ ∧ rfW y' 0 (sp_stf j (sp_stp V (8 - (j + 1)))) (sp_nx M) ∧ _
    generalize hk : 8 - (j + 1) = n at hn
    have hn1 : n + 1 = 8 - j := by omega
    have oV : okV V := okD_V od
    obtain ⟨o0, o1, o2, o3, o4, o5, o6, o7, o8, o9⟩ := oV n hn
    have v3 := rf_at h hn (show 3 < 8 by omega)
    have v8 : y.2 2 (9 * n + 8) = lN (V n 8) - 1 := by
      have := (h.1 n hn).2
      rwa [show 72 * 0 + 9 * n + 8 = 9 * n + 8 by omega] at this
    rw [bX6_goYear_248_s, l32_8, if_neg (by rw [nI_leN (by omega) (by omega)]; omega), p6_isRealm fu h oV hn, bind_sm]
    have same : sp_stp V n = V → ∃ y', bX6_goYear_307 fu (bX6_goYear_248 fu q) y c (nI n) = some (c, y') ∧ rfW y' 0 (sp_stf j (sp_stp V n)) (sp_nx M) ∧ rfY y y' := by
      intro e
      rw [e]
      unfold bX6_goYear_307
      rw [bnd_eq, l32_1, nI_addN, hn1]
      exact ih (by omega) q (by omega) V y od h
    by_cases e0 : V n 0 = 0
    · rw [if_pos e0, if_pos rfl]
      exact same (stp_same (Or.inl e0))
    rw [if_neg e0, if_neg (by decide)]
    simp only [l32_0, l32_3, l32_6, l32_9, nI_mulN, nI_addN, l64_0]
    simp (disch := omega) only [↓ix_no, ↓reduceIte, nI_clN, v3, v8, lg_ltN, L_m1_lt, bnd_eq]
    by_cases e8 : V n 8 ≤ V n 3
    · rw [if_pos e8]
      exact same (stp_same (Or.inr (Or.inr e8)))
    rw [if_neg e8]
    unfold bX6_goYear_307
    rw [bnd_eq, l32_1, nI_addN, hn1]
    have r2 := rf_upd2 h hn (show 6 < 8 by omega) 0
    rw [show 72 * 0 + 9 * n + 6 = 9 * n + 6 by omega] at r2
    have e2 : (fun i g => if i = n ∧ g = 6 then 0 else V i g) = sp_stp V n := by
      funext i g
      unfold sp_stp
      by_cases e : i = n ∧ g = 6
      · rw [if_pos e, if_pos ⟨e.1, e.2, e0, by omega⟩]
      · rw [if_neg e, if_neg (fun q => e ⟨q.1, q.2.1⟩)]
    rw [e2] at r2
    obtain ⟨y', a1, a2, a3⟩ := ih (by omega) q (by omega) (sp_stp V n) _ (stp_ok (D := (V, M)) od) r2
    exact ⟨y', a1, a2, rfY_tr (rfY_upd2 (by omega) _) a3⟩
