/-! ===== PURE: the class's writes ===== -/
theorem p4_weigh (fu : Nat) {w : ob_T} {M : Nat → Nat} {K : Nat} (h0 : w.2 12 0 = lN (M 0)) (h1 : w.2 13 0 = lN (M 1)) (hK : w.1 14 0 = nI K) (oM : okM M) (oK : okK K) : mX4_weigh fu w = some (ob_I w 15 (fun _ => nI (rt K M))) := by
  have hkm := km_lt oM oK
  obtain ⟨o0, o1, o2⟩ := oM
  have hk2 := oK.2
  have hq : K * M 1 / (1000 * M 0) ≤ K * M 1 := Nat.div_le_self _ _
  unfold mX4_weigh rt
  simp only [l32_0, l64_0, l64_1000, l64_1000000, l32_1000000]
  simp (disch := omega) only [h0, h1, hK, lg_gtN, nI_toL, lN_mulN, lN_eqN, lN_ltN, bnd_eq]
  by_cases e : M 0 = 0
  · rw [if_neg (by omega), if_pos e]
  · rw [if_pos (by omega), if_neg (by omega), if_neg e, lN_divN (by omega) (by omega) (by omega)]
    simp (disch := omega) only [lN_ltN]
    split
    · rw [lN_toI]
    · rw [lN_toI]
def cr_st (w : ob_T) (n : Nat) (s : Int64) (q : Int64) : ob_T := ob_L (ob_L (ob_L (ob_L w 7 (vp_updL (w.2 7) n ((w.2 7 n) - s))) 12 (fun _ => (w.2 12 0) + s)) 8 (vp_updL (w.2 8) n ((w.2 8 n) + q))) 13 (fun _ => (w.2 13 0) - q)
theorem cr_eq (fu : Nat) (w : ob_T) {n : Nat} (hn : n < 8) (s : Int32) : bX4_carry_10 fu w (nI n) s = mX4_weigh fu (cr_st w n s.toInt64 ((s * (w.1 0 n)).toInt64)) := by
  unfold bX4_carry_10
  simp only [l32_0, bnd_eq]
  simp (disch := omega) only [↓ix_no, ↓reduceIte, nI_clN]
  have : ∀ x : Option ob_T, Option.bind x (fun r => some r) = x := fun x => by cases x <;> rfl
  rw [this]
  rfl
theorem p4_carry (fu : Nat) {w : ob_T} {V : Nat → Nat → Nat} {M : Nat → Nat} {K : Nat} (h : clW w V M K) (o : okV V) (oM : okM M) (oK : okK K) {n how : Nat} (hn : n < 8) (hc : sp_can V M n how) (oM' : okM (sp_gM V M n how)) : ∃ w', mX4_carry fu w (nI n) (nI how) = some w' ∧ clW w' (sp_go V n how) (sp_gM V M n how) K ∧ (∀ k, k ≠ n → w'.2 7 k = w.2 7 k) ∧ (∀ f, f ≠ 15 → w'.1 f = w.1 f) := by
  have e0 := hc.1
  obtain ⟨o0, o1, o2, o3, o4, o5, o6, o7, o8, o9⟩ := o n hn
  obtain ⟨c0, c1, c2, c3, c4, c5, c6, c7, c8⟩ := h.2.1 n hn e0
  obtain ⟨a0, a1, a2, a3, a4⟩ := h.2.2
  have q0 := oM.1
  have q1 := oM.2.1
  have hst : ∀ k f, f ≠ 3 → f ≠ 4 → sp_go V n how k f = V k f := by
    intro k f h3 h4
    unfold sp_go
    by_cases e : k = n
    · subst e; rw [if_pos rfl, if_neg h3, if_neg h4]
    · rw [if_neg e]
  have hlo : ∀ k, sp_lo (sp_go V n how) k = sp_lo V k := by
    intro k; unfold sp_lo; rw [hst k 0 (by omega) (by omega), hst k 1 (by omega) (by omega), hst k 2 (by omega) (by omega)]
  have hhi : ∀ k, sp_hi (sp_go V n how) k = sp_hi V k := by
    intro k; unfold sp_hi; rw [hst k 0 (by omega) (by omega), hst k 1 (by omega) (by omega), hst k 2 (by omega) (by omega)]
  have fin : ∀ (s q : Int64), w.2 7 n - s = lN (sp_go V n how n 3) → w.2 8 n + q = lN (sp_go V n how n 4) → w.2 12 0 + s = lN (sp_gM V M n how 0) → w.2 13 0 - q = lN (sp_gM V M n how 1) → ∃ w', mX4_weigh fu (cr_st w n s q) = some w' ∧ clW w' (sp_go V n how) (sp_gM V M n how) K ∧ (∀ k, k ≠ n → w'.2 7 k = w.2 7 k) ∧ (∀ f, f ≠ 15 → w'.1 f = w.1 f) := by
    intro s q g3 g4 gm0 gm1
    refine ⟨_, p4_weigh fu (M := sp_gM V M n how) (K := K) gm0 gm1 a2 oM' oK, ⟨⟨?_, ?_, ?_, h.1.2.2.2⟩, ?_, gm0, gm1, a2, rfl, a4⟩, ?_, ?_⟩
    · show w.1 9 0 = _
      rw [h.1.1]
      exact congrArg nI (bt8_ext (fun k _ => by simp only [sp_told, hst k 0 (by omega) (by omega)]))
    · show w.1 10 0 = _
      rw [h.1.2.1]
      exact congrArg nI (bt8_ext (fun k _ => by simp only [sp_mint, hst k 6 (by omega) (by omega)]))
    · show w.1 11 0 = _
      rw [h.1.2.2.1]
      exact congrArg nI (bt8_ext (fun k _ => by simp only [sp_limp, hst k 7 (by omega) (by omega)]))
    · intro k hk ek
      rw [hst k 0 (by omega) (by omega)] at ek
      obtain ⟨d0, d1, d2, d3, d4, d5, d6, d7, d8⟩ := h.2.1 k hk ek
      rw [hlo, hhi, hst k 0 (by omega) (by omega), hst k 1 (by omega) (by omega), hst k 2 (by omega) (by omega), hst k 5 (by omega) (by omega), hst k 8 (by omega) (by omega)]
      refine ⟨d0, d1, d2, d3, d4, d5, d6, ?_, ?_⟩
      · show vp_updL (w.2 7) n (w.2 7 n - s) k = _
        rw [updL_at]
        by_cases e : k = n
        · subst e; rw [if_pos rfl]; exact g3
        · rw [if_neg e, d7]; unfold sp_go; rw [if_neg e]
      · show vp_updL (w.2 8) n (w.2 8 n + q) k = _
        rw [updL_at]
        by_cases e : k = n
        · subst e; rw [if_pos rfl]; exact g4
        · rw [if_neg e, d8]; unfold sp_go; rw [if_neg e]
    · intro k hk
      show vp_updL (w.2 7) n (w.2 7 n - s) k = _
      rw [updL_at, if_neg hk]
    · intro f hf
      show (if f = 15 then _ else w.1 f) = w.1 f
      rw [if_neg hf]
  obtain ⟨-, hc⟩ := hc
  rcases hc with ⟨rfl, k1, k2⟩ | ⟨rfl, k1, k2⟩
  · have E : mX4_carry fu w (nI n) (nI 1) = mX4_weigh fu (cr_st w n 1 (lN (V n 0))) := by
      unfold mX4_carry
      rw [if_pos (by decide), cr_eq fu w hn, c0, l32_1, nI_mulN, Nat.one_mul, nI_toL (by omega), nI_toL (by omega)]
      rfl
    rw [E]
    refine fin _ _ ?_ ?_ ?_ ?_
    · rw [c7, l64_1, lN_subN (by omega)]; simp [sp_go]
    · rw [c8, lN_addN]; simp [sp_go]
    · rw [a0, l64_1, lN_addN]; simp [sp_gM]
    · rw [a1, lN_subN k2]; simp [sp_gM]
  · have E : mX4_carry fu w (nI n) (nI 2) = mX4_weigh fu (cr_st w n (-1) ((-1) * lN (V n 0))) := by
      unfold mX4_carry
      rw [if_neg (by decide), cr_eq fu w hn, c0, m1_toL, m1_mulL (by omega)]
    rw [E]
    refine fin _ _ ?_ ?_ ?_ ?_
    · rw [c7, L_sub_m1]; simp [sp_go]
    · rw [c8, L_add_mm k2]; simp [sp_go]
    · rw [a0, L_add_m1 (by omega)]; simp [sp_gM]
    · rw [a1, L_sub_mm]; simp [sp_gM]
