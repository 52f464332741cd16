/-! ===== PURE: setLaw ===== -/
def lo_of (R C W : Nat) : Nat := (1000 * (R - C) + 999 + W) / (1000 + W)
def hi_of (R C W : Nat) : Nat := if 1000 * (R + C) / (1000 - W) ≤ 1000000 then 1000 * (R + C) / (1000 - W) else 1000000
theorem p4_setLaw (fu : Nat) {w : ob_T} {n R C W : Nat} (hn : n < 8) (hC : w.1 1 n = nI C) (hW : w.1 2 n = nI W) (r1 : 1000 ≤ R) (r2 : R ≤ 99999) (c1 : C ≤ 999) (w1 : W ≤ 200) : mX4_setLaw fu w (nI n) (nI R) = some (ob_I (ob_I (ob_I w 0 (upd (w.1 0) n (nI R))) 5 (upd (w.1 5) n (nI (lo_of R C W)))) 6 (upd (w.1 6) n (nI (hi_of R C W)))) := by
  have d1 : 1000 * (R + C) / (1000 - W) ≤ 1000 * (R + C) := Nat.div_le_self _ _
  unfold mX4_setLaw
  simp only [l32_0, l32_1, l32_1000, l64_1, l64_1000, l64_0, l64_1000000, bnd_eq]
  simp (disch := omega) only [↓ix_no, ↓reduceIte, nI_clN, obI_1]
  simp (decide := true) only [if_false, hC, hW]
  simp (disch := omega) only [nI_subN, nI_addN, nI_ltN]
  rw [if_pos (show 0 < R - C by omega), if_pos (show 1 < 1000 + W by omega), if_pos (show 1 < 1000 - W by omega)]
  simp (disch := omega) only [nI_toL, lN_mulN, lN_addN, lN_subN, lN_eqN, lN_divN, lN_ltN]
  rw [if_neg (show ¬ 1000 + W = 0 by omega), if_neg (show ¬ 1000 - W = 0 by omega), lN_toI]
  have e1 : (1000 * (R - C) + (1000 + W) - 1) / (1000 + W) = lo_of R C W := by unfold lo_of; congr 1; omega
  rw [e1]
  have e2 : (if 1000000 < 1000 * (R + C) / (1000 - W) then lN 1000000 else lN (1000 * (R + C) / (1000 - W))).toInt32 = nI (hi_of R C W) := by
    unfold hi_of
    by_cases q : 1000 * (R + C) / (1000 - W) ≤ 1000000
    · rw [if_neg (Nat.not_lt.mpr q), if_pos q, lN_toI]
    · rw [if_pos (Nat.not_le.mp q), if_neg q, lN_toI]
  rw [e2]
/-- what becomes of a world when a realm's R becomes r -/
def sp_law (V : Nat → Nat → Nat) (n r : Nat) : Nat → Nat → Nat := fun k f => if k = n ∧ f = 0 then r else V k f
theorem law_st (V : Nat → Nat → Nat) (n r k f : Nat) (h : f ≠ 0) : sp_law V n r k f = V k f := by unfold sp_law; rw [if_neg (fun q => h q.2)]
theorem p4_move (fu : Nat) {w : ob_T} {V : Nat → Nat → Nat} {M : Nat → Nat} {K : Nat} (h : clW w V M K) (o : okV V) {n r : Nat} (hn : n < 8) (e0 : V n 0 ≠ 0) (r1 : 1000 ≤ r) (r2 : r ≤ 99999) : ∃ w', mX4_setLaw fu w (nI n) (nI r) = some w' ∧ clW w' (sp_law V n r) M K ∧ w'.2 = w.2 := by
  obtain ⟨o0, o1, o2, o3, o4, o5, o6, o7, o8, o9⟩ := o n hn
  obtain ⟨c0, c1, c2, c3, c4, c5, c6, c7, c8⟩ := h.2.1 n hn e0
  refine ⟨_, p4_setLaw fu hn c1 c2 r1 r2 o1 o2, ⟨⟨?_, ?_, ?_, h.1.2.2.2⟩, fun k hk ek => ?_, h.2.2⟩, rfl⟩
  · show w.1 9 0 = _
    rw [h.1.1]
    refine congrArg nI (bt8_ext (fun k _ => ?_))
    unfold sp_told sp_law
    by_cases e : k = n
    · subst e; simp [e0]; omega
    · simp [e]
  · show w.1 10 0 = _
    rw [h.1.2.1]
    exact congrArg nI (bt8_ext (fun k _ => by simp only [sp_mint, law_st V n r k 6 (by omega)]))
  · show w.1 11 0 = _
    rw [h.1.2.2.1]
    exact congrArg nI (bt8_ext (fun k _ => by simp only [sp_limp, law_st V n r k 7 (by omega)]))
  · rw [law_st V n r k 1 (by omega), law_st V n r k 2 (by omega), law_st V n r k 5 (by omega), law_st V n r k 8 (by omega), law_st V n r k 3 (by omega), law_st V n r k 4 (by omega)]
    show upd (w.1 0) n (nI r) k = _ ∧ w.1 1 k = _ ∧ w.1 2 k = _ ∧ w.1 3 k = _ ∧ w.1 4 k = _ ∧ upd (w.1 5) n (nI (lo_of r (V n 1) (V n 2))) k = _ ∧ upd (w.1 6) n (nI (hi_of r (V n 1) (V n 2))) k = _ ∧ w.2 7 k = _ ∧ w.2 8 k = _
    rw [updI_at, updI_at, updI_at]
    by_cases e : k = n
    · subst e
      rw [if_pos rfl, if_pos rfl, if_pos rfl]
      refine ⟨by simp [sp_law], c1, c2, c3, c4, ?_, ?_, c7, c8⟩
      · unfold sp_lo lo_of; simp [sp_law]
      · unfold sp_hi hi_of; simp [sp_law]
    · have ek2 : V k 0 ≠ 0 := by unfold sp_law at ek; rw [if_neg (fun q => e q.1)] at ek; exact ek
      obtain ⟨d0, d1, d2, d3, d4, d5, d6, d7, d8⟩ := h.2.1 k hk ek2
      rw [if_neg e, if_neg e, if_neg e]
      refine ⟨by rw [d0]; simp [sp_law, e], d1, d2, d3, d4, ?_, ?_, d7, d8⟩
      · rw [d5]; unfold sp_lo; simp [sp_law, e]
      · rw [d6]; unfold sp_hi; simp [sp_law, e]
