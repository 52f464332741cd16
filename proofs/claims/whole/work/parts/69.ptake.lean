/-! ===== PURE: the items of a text: the class ===== -/
def okR (V : Nat → Nat → Nat) (M : Nat → Nat) : Prop := (∀ n, n < 8 → (V n 0 = 0 ∨ (1000 ≤ V n 0 ∧ V n 0 ≤ 99999)) ∧ V n 1 ≤ 999 ∧ V n 2 ≤ 200 ∧ V n 3 ≤ 9999 ∧ V n 4 ≤ 9999000 ∧ V n 5 ≤ 999 ∧ V n 6 ≤ 1 ∧ V n 7 ≤ 1 ∧ V n 8 ≤ 10000 ∧ (V n 0 = 0 → V n 3 = 0 ∧ V n 4 = 0 ∧ V n 6 = 0 ∧ V n 7 = 0 ∧ V n 8 = 0)) ∧ M 0 ≤ 99999 ∧ M 1 ≤ 99999000 ∧ M 2 = 0
/-- a world that is being read: all but the ratio -/
def clP (w : ob_T) (V : Nat → Nat → Nat) (M : Nat → Nat) (K : Nat) : Prop := (w.1 9 0 = nI (bt8 (sp_told V) 8) ∧ w.1 10 0 = nI (bt8 (sp_mint V) 8) ∧ w.1 11 0 = nI (bt8 (sp_limp V) 8) ∧ ∀ n, n < 8 → ∃ q, q ≤ 999 ∧ w.1 3 n = nI q) ∧ (∀ n, n < 8 → V n 0 ≠ 0 → w.1 0 n = nI (V n 0) ∧ w.1 1 n = nI (V n 1) ∧ w.1 2 n = nI (V n 2) ∧ w.1 3 n = nI (V n 5) ∧ w.1 4 n = nI (V n 8) - nI 1 ∧ w.1 5 n = nI (sp_lo V n) ∧ w.1 6 n = nI (sp_hi V n) ∧ w.2 7 n = lN (V n 3) ∧ w.2 8 n = lN (V n 4)) ∧ w.2 12 0 = lN (M 0) ∧ w.2 13 0 = lN (M 1) ∧ w.1 14 0 = nI K ∧ w.1 16 0 = nI (M 2)
theorem msk_or : ∀ n, n < 8 → ∀ i, (2 ^ n).testBit i = decide (n = i) := fun n _ i => Nat.testBit_two_pow
theorem bt8_set (P : Nat → Bool) {n : Nat} (hn : n < 8) : bt8 P 8 ||| 2 ^ n = bt8 (fun k => if k = n then true else P k) 8 := by
  apply Nat.eq_of_testBit_eq
  intro i
  rw [Nat.testBit_or, bt8_tb, bt8_tb, Nat.testBit_two_pow]
  by_cases e : i = n
  · subst e; simp [hn]
  · simp [e, Ne.symm e]
theorem p4_hasP (fu : Nat) {w : ob_T} {V : Nat → Nat → Nat} (h : w.1 9 0 = nI (bt8 (sp_told V) 8)) {x : Nat} (hx : x ≤ 99999) : mX4_has fu w (nI x) = some (if x ≤ 7 ∧ V x 0 ≠ 0 then 1 else 0) := by
  unfold mX4_has
  rw [h, l32_0, l32_8]
  simp (disch := omega) only [nI_ltN, nI_leN]
  rw [if_neg (by omega)]
  by_cases e : x < 8
  · rw [if_neg (by omega)]
    simp only [l32_1, bit_at _ e, sp_told, decide_eq_true_eq]
    by_cases e2 : V x 0 = 0
    · rw [if_neg (by simp [e2]), if_neg (by simp [e2])]
    · rw [if_pos e2, if_pos ⟨by omega, e2⟩]
  · rw [if_pos (by omega), if_neg (by omega)]
theorem p2_within (fu : Nat) {r : ob_T} {i x : Nat} (hi : i < 7) (h : r.1 2 i = nI x) (hx : x ≤ 99999) {lo hi' : Nat} (hl : lo ≤ 99999) (hh : hi' ≤ 99999) : mX2_isWithin fu r (nI i) (nI lo) (nI hi') = some (if lo ≤ x ∧ x ≤ hi' then 1 else 0) := by
  unfold mX2_isWithin
  simp (disch := omega) only [↓ix_no0, ↓reduceIte, nI_clN, h, nI_ltN]
  by_cases e1 : x < lo
  · rw [if_pos e1, if_neg (by omega)]
  · rw [if_neg e1]
    by_cases e2 : hi' < x
    · rw [if_pos e2, if_neg (by omega)]
    · rw [if_neg e2, if_pos (by omega)]
/-- the numbers of an item, at the reader and at the reference -/
def nmI (due : Nat) (N : Nat → Nat) (r y : ob_T) : Prop := ∀ q, q < due → N q ≤ 99999 ∧ r.1 2 q = nI (N q) ∧ y.1 9 q = nI (N q)
def sp_new (V : Nat → Nat → Nat) (N : Nat → Nat) : Nat → Nat → Nat := fun k f => if k = N 0 then (if f = 0 then N 1 else if f = 1 then N 2 else if f = 2 then N 3 else if f = 3 then N 4 else if f = 4 then 1000 * N 5 else if f = 5 then N 6 else if f = 6 then 1 else V k f) else V k f
def ok_new (V : Nat → Nat → Nat) (N : Nat → Nat) : Prop := (N 0 ≤ 7 ∧ V (N 0) 0 = 0) ∧ (1000 ≤ N 1 ∧ N 2 ≤ 999 ∧ N 3 ≤ 200) ∧ (N 4 ≤ 9999 ∧ N 5 ≤ 9999 ∧ N 6 ≤ 999)
theorem new_ok {V : Nat → Nat → Nat} {M : Nat → Nat} {N : Nat → Nat} (h : okR V M) (hN : ok_new V N) (h1 : N 1 ≤ 99999) : okR (sp_new V N) M := by
  refine ⟨fun n hn => ?_, h.2⟩
  obtain ⟨a, b, c, d, e, f, g, i, j, k⟩ := h.1 n hn
  obtain ⟨⟨n1, n2⟩, ⟨n3, n4, n5⟩, n6, n7, n8⟩ := hN
  unfold sp_new
  by_cases z : n = N 0
  · subst z
    obtain ⟨k1, k2, k3, k4, k5⟩ := k n2
    simp
    omega
  · simp only [if_neg z]
    exact ⟨a, b, c, d, e, f, g, i, j, k⟩
theorem c118_no (fu : Nat) (r w : ob_T) (l1 l2 s0 : Int32) (h : l1 = 0 ∨ l2 = 0 ∨ s0 = 0) : bX2_takeRealm_118 fu r w l1 l2 s0 = some (0, w) := by
  unfold bX2_takeRealm_118
  by_cases e1 : l1 = 0
  · rw [if_pos e1]
  · rw [if_neg e1]
    by_cases e2 : l2 = 0
    · rw [if_pos e2]
    · rw [if_neg e2, if_pos (by rcases h with h | h | h; exact absurd h e1; exact absurd h e2; exact h)]
theorem p2_takeRealm (fu : Nat) {r w y : ob_T} {V : Nat → Nat → Nat} {M : Nat → Nat} {K : Nat} {N : Nat → Nat} (hN : nmI 7 N r y) (hc : clP w V M K) (hR : okR V M) : (¬ ok_new V N ∧ mX2_takeRealm fu r w = some (0, w)) ∨ (ok_new V N ∧ ∃ w', mX2_takeRealm fu r w = some (1, w') ∧ clP w' (sp_new V N) M K) := by
  obtain ⟨x0, y0, -⟩ := hN 0 (by omega)
  obtain ⟨x1, y1, -⟩ := hN 1 (by omega)
  obtain ⟨x2, y2, -⟩ := hN 2 (by omega)
  obtain ⟨x3, y3, -⟩ := hN 3 (by omega)
  obtain ⟨x4, y4, -⟩ := hN 4 (by omega)
  obtain ⟨x5, y5, -⟩ := hN 5 (by omega)
  obtain ⟨x6, y6, -⟩ := hN 6 (by omega)
  have W0 : mX2_isWithin fu r 0 0 7 = _ := p2_within fu (i := 0) (by omega) y0 x0 (lo := 0) (hi' := 7) (by omega) (by omega)
  have W1 : mX2_isWithin fu r 1 1000 99999 = _ := p2_within fu (i := 1) (by omega) y1 x1 (lo := 1000) (hi' := 99999) (by omega) (by omega)
  have W2 : mX2_isWithin fu r 2 0 999 = _ := p2_within fu (i := 2) (by omega) y2 x2 (lo := 0) (hi' := 999) (by omega) (by omega)
  have W3 : mX2_isWithin fu r 3 0 200 = _ := p2_within fu (i := 3) (by omega) y3 x3 (lo := 0) (hi' := 200) (by omega) (by omega)
  have W4 : mX2_isWithin fu r 4 0 9999 = _ := p2_within fu (i := 4) (by omega) y4 x4 (lo := 0) (hi' := 9999) (by omega) (by omega)
  have W5 : mX2_isWithin fu r 5 0 9999 = _ := p2_within fu (i := 5) (by omega) y5 x5 (lo := 0) (hi' := 9999) (by omega) (by omega)
  have W6 : mX2_isWithin fu r 6 0 999 = _ := p2_within fu (i := 6) (by omega) y6 x6 (lo := 0) (hi' := 999) (by omega) (by omega)
  have z1 : ¬ ((1 : Int32) = 0) := by decide
  have E75 : ∀ l1 s0 : Int32, bX2_takeRealm_75 fu r w l1 s0 = bX2_takeRealm_118 fu r w l1 s0 (if N 4 ≤ 9999 ∧ N 5 ≤ 9999 ∧ N 6 ≤ 999 then 1 else 0) := by
    intro l1 s0
    unfold bX2_takeRealm_75
    rw [W4, W5, W6, bind_sm, bind_sm, bind_sm]
    by_cases e4 : 0 ≤ N 4 ∧ N 4 ≤ 9999
    · rw [if_pos e4, if_neg z1]
      by_cases e5 : 0 ≤ N 5 ∧ N 5 ≤ 9999
      · rw [if_pos e5, if_neg z1]
        by_cases e6 : 0 ≤ N 6 ∧ N 6 ≤ 999
        · rw [if_pos e6, if_neg z1, if_pos ⟨e4.2, e5.2, e6.2⟩]
        · rw [if_neg e6, if_pos rfl, if_neg (by omega)]
      · rw [if_neg e5, if_pos rfl, if_neg (by omega)]
    · rw [if_neg e4, if_pos rfl, if_neg (by omega)]
  have E32 : ∀ s0 : Int32, bX2_takeRealm_32 fu r w s0 = bX2_takeRealm_75 fu r w s0 (if 1000 ≤ N 1 ∧ N 2 ≤ 999 ∧ N 3 ≤ 200 then 1 else 0) := by
    intro s0
    unfold bX2_takeRealm_32
    rw [W1, W2, W3, bind_sm, bind_sm, bind_sm]
    by_cases e4 : 1000 ≤ N 1 ∧ N 1 ≤ 99999
    · rw [if_pos e4, if_neg z1]
      by_cases e5 : 0 ≤ N 2 ∧ N 2 ≤ 999
      · rw [if_pos e5, if_neg z1]
        by_cases e6 : 0 ≤ N 3 ∧ N 3 ≤ 200
        · rw [if_pos e6, if_neg z1, if_pos ⟨e4.1, e5.2, e6.2⟩]
        · rw [if_neg e6, if_pos rfl, if_neg (by omega)]
      · rw [if_neg e5, if_pos rfl, if_neg (by omega)]
    · rw [if_neg e4, if_pos rfl, if_neg (by omega)]
  have E0 : mX2_takeRealm fu r w = bX2_takeRealm_118 fu r w (if N 0 ≤ 7 ∧ V (N 0) 0 = 0 then 1 else 0) (if 1000 ≤ N 1 ∧ N 2 ≤ 999 ∧ N 3 ≤ 200 then 1 else 0) (if N 4 ≤ 9999 ∧ N 5 ≤ 9999 ∧ N 6 ≤ 999 then 1 else 0) := by
    rw [← E75, ← E32]
    unfold mX2_takeRealm
    rw [W0, bind_sm]
    by_cases e : 0 ≤ N 0 ∧ N 0 ≤ 7
    · rw [if_pos e, if_neg z1, if_neg (show ¬ ((0 : Int32) < 0 ∨ 7 ≤ ((0 : Int32)).toNatClampNeg) by decide), show (0 : Int32).toNatClampNeg = 0 from rfl, y0, p4_hasP fu hc.1.1 x0, bind_sm]
      by_cases e2 : V (N 0) 0 = 0
      · rw [if_neg (show ¬ (N 0 ≤ 7 ∧ V (N 0) 0 ≠ 0) from fun h => h.2 e2), if_pos rfl, if_pos ⟨e.2, e2⟩]
      · rw [if_pos (show N 0 ≤ 7 ∧ V (N 0) 0 ≠ 0 from ⟨e.2, e2⟩), if_neg z1, if_neg (show ¬ (N 0 ≤ 7 ∧ V (N 0) 0 = 0) from fun h => e2 h.2)]
    · rw [if_neg e, if_pos rfl, if_neg (by omega)]
  rw [E0]
  by_cases g : ok_new V N
  · refine Or.inr ⟨g, ?_⟩
    have g0 := g
    obtain ⟨g1, g2, g3⟩ := g0
    rw [if_pos g1, if_pos g2, if_pos g3]
    unfold bX2_takeRealm_118
    rw [if_neg z1, if_neg z1, if_neg z1]
    have hn : N 0 < 8 := by omega
    simp only [bnd_eq, l32_0, l32_1, l32_2, l32_3, l32_4, l32_5, l32_6]
    simp (disch := omega) only [↓ix_no, ↓reduceIte, nI_clN, y0, y1, y2, y3, y4, y5, y6]
    rw [p4_setLaw fu hn (C := N 2) (W := N 3) (by show upd (w.1 1) (N 0) (nI (N 2)) (N 0) = _; rw [updI_at, if_pos rfl]) (by show upd (w.1 2) (N 0) (nI (N 3)) (N 0) = _; rw [updI_at, if_pos rfl]) g2.1 x1 g2.2.1 g2.2.2, bind_sm, if_neg (show ¬ (nI (N 0) < nI 0 ∨ 8 ≤ N 0) by rw [nI_ltN (by omega) (by omega)]; omega)]
    refine ⟨_, rfl, ⟨?_, ?_, ?_, ?_⟩, ?_, hc.2.2.1, hc.2.2.2.1, hc.2.2.2.2.1, hc.2.2.2.2.2⟩
    · show w.1 9 0 ||| (nI 1 <<< (nI (N 0) &&& 31)) = _
      rw [hc.1.1, nI_sh1 _ hn, nI_orN, bt8_set _ hn]
      refine congrArg nI (bt8_ext (fun k _ => ?_))
      unfold sp_told sp_new
      by_cases e : k = N 0
      · simp [e]; omega
      · simp [e]
    · show w.1 10 0 ||| (nI 1 <<< (nI (N 0) &&& 31)) = _
      rw [hc.1.2.1, nI_sh1 _ hn, nI_orN, bt8_set _ hn]
      refine congrArg nI (bt8_ext (fun k _ => ?_))
      unfold sp_mint sp_new
      by_cases e : k = N 0
      · simp [e]
      · simp [e]
    · show w.1 11 0 = _
      rw [hc.1.2.2.1]
      refine congrArg nI (bt8_ext (fun k _ => ?_))
      unfold sp_limp sp_new
      by_cases e : k = N 0
      · simp [e]
      · simp [e]
    · intro k hk
      show ∃ q, q ≤ 999 ∧ upd (w.1 3) (N 0) (nI (N 6)) k = nI q
      rw [updI_at]
      by_cases e : k = N 0
      · rw [if_pos e]; exact ⟨N 6, g3.2.2, rfl⟩
      · rw [if_neg e]; exact hc.1.2.2.2 k hk
    · intro k hk ek
      show upd (w.1 0) (N 0) (nI (N 1)) k = _ ∧ upd (w.1 1) (N 0) (nI (N 2)) k = _ ∧ upd (w.1 2) (N 0) (nI (N 3)) k = _ ∧ upd (w.1 3) (N 0) (nI (N 6)) k = _ ∧ upd (w.1 4) (N 0) (-1) k = _ ∧ upd (w.1 5) (N 0) (nI (lo_of (N 1) (N 2) (N 3))) k = _ ∧ upd (w.1 6) (N 0) (nI (hi_of (N 1) (N 2) (N 3))) k = _ ∧ vp_updL (w.2 7) (N 0) ((nI (N 4)).toInt64) k = _ ∧ vp_updL (w.2 8) (N 0) ((1000 : Int64) * (nI (N 5)).toInt64) k = _
      rw [updI_at, updI_at, updI_at, updI_at, updI_at, updI_at, updI_at, updL_at, updL_at]
      by_cases e : k = N 0
      · have v8 : V k 8 = 0 := by
          have := (hR.1 k hk).2.2.2.2.2.2.2.2.2 (by rw [e]; exact g1.2)
          exact this.2.2.2.2
        rw [nI_toL (by omega), nI_toL (by omega), l64_1000, lN_mulN]
        simp only [if_pos e]
        unfold sp_lo sp_hi lo_of hi_of sp_new
        simp [e]
        rw [e] at v8
        rw [v8]
        decide
      · have hv : ∀ f, sp_new V N k f = V k f := by intro f; unfold sp_new; rw [if_neg e]
        have hlo : sp_lo (sp_new V N) k = sp_lo V k := by unfold sp_lo; simp only [hv]
        have hhi : sp_hi (sp_new V N) k = sp_hi V k := by unfold sp_hi; simp only [hv]
        simp only [if_neg e, hv, hlo, hhi]
        rw [hv] at ek
        exact hc.2.1 k hk ek
  · refine Or.inl ⟨g, c118_no fu r w _ _ _ ?_⟩
    by_cases e1 : N 0 ≤ 7 ∧ V (N 0) 0 = 0
    · by_cases e2 : 1000 ≤ N 1 ∧ N 2 ≤ 999 ∧ N 3 ≤ 200
      · right; right
        rw [if_neg (fun e3 => g ⟨e1, e2, e3⟩)]
      · right; left; rw [if_neg e2]
    · left; rw [if_neg e1]
def sp_f (V : Nat → Nat → Nat) (n f x : Nat) : Nat → Nat → Nat := fun i g => if i = n ∧ g = f then x else V i g
theorem p2_takeLimp (fu : Nat) {r w y : ob_T} {V : Nat → Nat → Nat} {M : Nat → Nat} {K : Nat} {N : Nat → Nat} (hN : nmI 1 N r y) (hc : clP w V M K) : (¬ (N 0 ≤ 7 ∧ V (N 0) 0 ≠ 0) ∧ mX2_takeLimp fu r w = some (0, w)) ∨ ((N 0 ≤ 7 ∧ V (N 0) 0 ≠ 0) ∧ ∃ w', mX2_takeLimp fu r w = some (1, w') ∧ clP w' (sp_f V (N 0) 7 1) M K) := by
  obtain ⟨x0, y0, -⟩ := hN 0 (by omega)
  have z1 : ¬ ((1 : Int32) = 0) := by decide
  unfold mX2_takeLimp
  rw [if_neg (show ¬ ((0 : Int32) < 0 ∨ 7 ≤ ((0 : Int32)).toNatClampNeg) by decide), show (0 : Int32).toNatClampNeg = 0 from rfl, y0, p4_hasP fu hc.1.1 x0, bind_sm]
  by_cases g : N 0 ≤ 7 ∧ V (N 0) 0 ≠ 0
  · have hn : N 0 < 8 := by omega
    refine Or.inr ⟨g, ?_⟩
    rw [if_pos g, if_neg z1, bnd_eq]
    have hv : ∀ k f, f ≠ 7 → sp_f V (N 0) 7 1 k f = V k f := by intro k f hf; unfold sp_f; rw [if_neg (fun q => hf q.2)]
    refine ⟨_, rfl, ⟨?_, ?_, ?_, hc.1.2.2.2⟩, fun k hk ek => ?_, hc.2.2⟩
    · show w.1 9 0 = _
      rw [hc.1.1]
      exact congrArg nI (bt8_ext (fun k _ => by simp only [sp_told, hv k 0 (by omega)]))
    · show w.1 10 0 = _
      rw [hc.1.2.1]
      exact congrArg nI (bt8_ext (fun k _ => by simp only [sp_mint, hv k 6 (by omega)]))
    · show w.1 11 0 ||| (nI 1 <<< (nI (N 0) &&& 31)) = _
      rw [hc.1.2.2.1, nI_sh1 _ hn, nI_orN, bt8_set _ hn]
      refine congrArg nI (bt8_ext (fun k _ => ?_))
      unfold sp_limp sp_f
      by_cases e : k = N 0
      · simp [e]
      · simp [e]
    · have hlo : sp_lo (sp_f V (N 0) 7 1) k = sp_lo V k := by unfold sp_lo; rw [hv k 0 (by omega), hv k 1 (by omega), hv k 2 (by omega)]
      have hhi : sp_hi (sp_f V (N 0) 7 1) k = sp_hi V k := by unfold sp_hi; rw [hv k 0 (by omega), hv k 1 (by omega), hv k 2 (by omega)]
      rw [hv k 0 (by omega)] at ek
      rw [hlo, hhi, hv k 0 (by omega), hv k 1 (by omega), hv k 2 (by omega), hv k 5 (by omega), hv k 8 (by omega), hv k 3 (by omega), hv k 4 (by omega)]
      exact hc.2.1 k hk ek
  · exact Or.inl ⟨g, by rw [if_neg g, if_pos rfl]⟩
theorem p2_takeStop (fu : Nat) {r w y : ob_T} {V : Nat → Nat → Nat} {M : Nat → Nat} {K : Nat} {N : Nat → Nat} (hN : nmI 2 N r y) (hc : clP w V M K) : (¬ ((N 0 ≤ 7 ∧ V (N 0) 0 ≠ 0) ∧ N 1 ≤ 9999) ∧ mX2_takeStop fu r w = some (0, w)) ∨ (((N 0 ≤ 7 ∧ V (N 0) 0 ≠ 0) ∧ N 1 ≤ 9999) ∧ ∃ w', mX2_takeStop fu r w = some (1, w') ∧ clP w' (sp_f V (N 0) 8 (N 1 + 1)) M K) := by
  obtain ⟨x0, y0, -⟩ := hN 0 (by omega)
  obtain ⟨x1, y1, -⟩ := hN 1 (by omega)
  have W1 : mX2_isWithin fu r 1 0 9999 = _ := p2_within fu (i := 1) (by omega) y1 x1 (lo := 0) (hi' := 9999) (by omega) (by omega)
  have z1 : ¬ ((1 : Int32) = 0) := by decide
  unfold mX2_takeStop
  rw [if_neg (show ¬ ((0 : Int32) < 0 ∨ 7 ≤ ((0 : Int32)).toNatClampNeg) by decide), show (0 : Int32).toNatClampNeg = 0 from rfl, y0, p4_hasP fu hc.1.1 x0, bind_sm, W1, bind_sm]
  by_cases g : N 0 ≤ 7 ∧ V (N 0) 0 ≠ 0
  · have hn : N 0 < 8 := by omega
    rw [if_pos g, if_neg z1]
    by_cases g2 : 0 ≤ N 1 ∧ N 1 ≤ 9999
    · refine Or.inr ⟨⟨g, g2.2⟩, ?_⟩
      rw [if_pos g2, if_neg z1]
      simp only [bnd_eq, l32_0, l32_1]
      simp (disch := omega) only [↓ix_no, ↓reduceIte, nI_clN, y1]
      have hv : ∀ k f, f ≠ 8 → sp_f V (N 0) 8 (N 1 + 1) k f = V k f := by intro k f hf; unfold sp_f; rw [if_neg (fun q => hf q.2)]
      refine ⟨_, rfl, ⟨?_, ?_, ?_, hc.1.2.2.2⟩, fun k hk ek => ?_, hc.2.2⟩
      · show w.1 9 0 = _
        rw [hc.1.1]
        exact congrArg nI (bt8_ext (fun k _ => by simp only [sp_told, hv k 0 (by omega)]))
      · show w.1 10 0 = _
        rw [hc.1.2.1]
        exact congrArg nI (bt8_ext (fun k _ => by simp only [sp_mint, hv k 6 (by omega)]))
      · show w.1 11 0 = _
        rw [hc.1.2.2.1]
        exact congrArg nI (bt8_ext (fun k _ => by simp only [sp_limp, hv k 7 (by omega)]))
      · have hlo : sp_lo (sp_f V (N 0) 8 (N 1 + 1)) k = sp_lo V k := by unfold sp_lo; rw [hv k 0 (by omega), hv k 1 (by omega), hv k 2 (by omega)]
        have hhi : sp_hi (sp_f V (N 0) 8 (N 1 + 1)) k = sp_hi V k := by unfold sp_hi; rw [hv k 0 (by omega), hv k 1 (by omega), hv k 2 (by omega)]
        rw [hv k 0 (by omega)] at ek
        obtain ⟨d0, d1, d2, d3, d4, d5, d6, d7, d8⟩ := hc.2.1 k hk ek
        rw [hlo, hhi, hv k 0 (by omega), hv k 1 (by omega), hv k 2 (by omega), hv k 5 (by omega), hv k 3 (by omega), hv k 4 (by omega)]
        refine ⟨d0, d1, d2, d3, ?_, d5, d6, d7, d8⟩
        show upd (w.1 4) (N 0) (nI (N 1)) k = _
        rw [updI_at]
        unfold sp_f
        by_cases e : k = N 0
        · rw [if_pos e, if_pos ⟨e, rfl⟩, nI_subN (by omega)]; rfl
        · rw [if_neg e, if_neg (fun q => e q.1)]; exact d4
    · refine Or.inl ⟨fun h => g2 ⟨Nat.zero_le _, h.2⟩, ?_⟩
      rw [if_neg g2, if_pos rfl]
  · exact Or.inl ⟨fun h => g h.1, by rw [if_neg g, if_pos rfl]⟩
def sp_mk (M : Nat → Nat) (N : Nat → Nat) : Nat → Nat := fun f => if f = 0 then N 0 else if f = 1 then 1000 * N 1 else M f
theorem p2_takeMarket (fu : Nat) {r w y : ob_T} {V : Nat → Nat → Nat} {M : Nat → Nat} {K : Nat} {N : Nat → Nat} (hN : nmI 2 N r y) (hc : clP w V M K) : ∃ w', mX2_takeMarket fu r w = some (1, w') ∧ clP w' V (sp_mk M N) K := by
  obtain ⟨x0, y0, -⟩ := hN 0 (by omega)
  obtain ⟨x1, y1, -⟩ := hN 1 (by omega)
  unfold mX2_takeMarket
  simp only [bnd_eq, l32_0, l32_1, l64_1000]
  simp (disch := omega) only [↓ix_no, ↓reduceIte, nI_clN, y0, y1, nI_toL, lN_mulN]
  exact ⟨_, rfl, hc.1, hc.2.1, rfl, rfl, hc.2.2.2.2.1, hc.2.2.2.2.2⟩
theorem p2_takeScarcity (fu : Nat) {r w y : ob_T} {V : Nat → Nat → Nat} {M : Nat → Nat} {K : Nat} {N : Nat → Nat} (hN : nmI 1 N r y) (hc : clP w V M K) : (¬ (1 ≤ N 0 ∧ N 0 ≤ 9999) ∧ mX2_takeScarcity fu r w = some (0, w)) ∨ ((1 ≤ N 0 ∧ N 0 ≤ 9999) ∧ ∃ w', mX2_takeScarcity fu r w = some (1, w') ∧ clP w' V M (N 0)) := by
  obtain ⟨x0, y0, -⟩ := hN 0 (by omega)
  have W0 : mX2_isWithin fu r 0 1 9999 = _ := p2_within fu (i := 0) (by omega) y0 x0 (lo := 1) (hi' := 9999) (by omega) (by omega)
  have z1 : ¬ ((1 : Int32) = 0) := by decide
  unfold mX2_takeScarcity
  rw [W0, bind_sm]
  by_cases g : 1 ≤ N 0 ∧ N 0 ≤ 9999
  · refine Or.inr ⟨g, ?_⟩
    rw [if_pos g, if_neg z1, if_neg (show ¬ ((0 : Int32) < 0 ∨ 7 ≤ ((0 : Int32)).toNatClampNeg) by decide), bnd_eq]
    exact ⟨_, rfl, hc.1, hc.2.1, hc.2.2.1, hc.2.2.2.1, y0, hc.2.2.2.2.2⟩
  · exact Or.inl ⟨g, by rw [if_neg g, if_pos rfl]⟩
/-- the class's rows of mines, while a text is read -/
def mnT (m : ob_T) (cnt : Nat) (Y A B : Nat → Nat) : Prop := ∀ r, r < 100 → m.1 0 r = (if mn_at Y r cnt = none then 0 else 1) ∧ m.1 1 r = nI (mn_v A (mn_at Y r cnt)) ∧ m.1 2 r = nI (mn_v B (mn_at Y r cnt))
def mn_a (F : Nat → Nat) (cnt x : Nat) : Nat → Nat := fun k => if k = cnt then x else F k
theorem mn_at_ext {Y Z : Nat → Nat} {r : Nat} : ∀ m, (∀ k, k < m → Y k = Z k) → mn_at Y r m = mn_at Z r m := by
  intro m
  induction m with
  | zero => intro _; rfl
  | succ m ih => intro h; rw [mn_at, mn_at, h m (by omega), ih (fun k hk => h k (by omega))]
theorem p2_takeMines (fu : Nat) {r m y : ob_T} {cnt : Nat} {Y A B : Nat → Nat} {N : Nat → Nat} (hN : nmI 3 N r y) (hm : mnT m cnt Y A B) : (¬ (N 0 ≤ 99 ∧ N 1 ≤ 9999 ∧ N 2 ≤ 9999) ∧ mX2_takeMines fu r m = some (0, m)) ∨ ((N 0 ≤ 99 ∧ N 1 ≤ 9999 ∧ N 2 ≤ 9999) ∧ ∃ m', mX2_takeMines fu r m = some (1, m') ∧ mnT m' (cnt + 1) (mn_a Y cnt (N 0)) (mn_a A cnt (N 1)) (mn_a B cnt (N 2))) := by
  obtain ⟨x0, y0, -⟩ := hN 0 (by omega)
  obtain ⟨x1, y1, -⟩ := hN 1 (by omega)
  obtain ⟨x2, y2, -⟩ := hN 2 (by omega)
  have W0 : mX2_isWithin fu r 0 0 99 = _ := p2_within fu (i := 0) (by omega) y0 x0 (lo := 0) (hi' := 99) (by omega) (by omega)
  have W1 : mX2_isWithin fu r 1 0 9999 = _ := p2_within fu (i := 1) (by omega) y1 x1 (lo := 0) (hi' := 9999) (by omega) (by omega)
  have W2 : mX2_isWithin fu r 2 0 9999 = _ := p2_within fu (i := 2) (by omega) y2 x2 (lo := 0) (hi' := 9999) (by omega) (by omega)
  have z1 : ¬ ((1 : Int32) = 0) := by decide
  unfold mX2_takeMines
  rw [W0, bind_sm, W1, bind_sm, W2, bind_sm]
  by_cases g0 : 0 ≤ N 0 ∧ N 0 ≤ 99
  · rw [if_pos g0, if_neg z1]
    by_cases g1 : 0 ≤ N 1 ∧ N 1 ≤ 9999
    · rw [if_pos g1, if_neg z1]
      by_cases g2 : 0 ≤ N 2 ∧ N 2 ≤ 9999
      · rw [if_pos g2, if_neg z1]
        refine Or.inr ⟨⟨g0.2, g1.2, g2.2⟩, ?_⟩
        unfold mX0_tell
        simp only [bnd_eq, l32_0, l32_1, l32_2]
        simp (disch := omega) only [↓ix_no, ↓reduceIte, nI_clN, y0, y1, y2, bind_sm]
        rw [if_neg (show ¬ (nI (N 0) < nI 0 ∨ 100 ≤ N 0) by rw [nI_ltN (by omega) (by omega)]; omega), bind_sm]
        refine ⟨_, rfl, fun k hk => ?_⟩
        show upd (m.1 0) (N 0) (nI 1) k = _ ∧ upd (m.1 1) (N 0) (nI (N 1)) k = _ ∧ upd (m.1 2) (N 0) (nI (N 2)) k = _
        rw [updI_at, updI_at, updI_at]
        have hY : mn_a Y cnt (N 0) cnt = N 0 := by unfold mn_a; rw [if_pos rfl]
        have hext : mn_at (mn_a Y cnt (N 0)) k cnt = mn_at Y k cnt := mn_at_ext cnt (fun q hq => by unfold mn_a; rw [if_neg (by omega)])
        rw [mn_at, hY, hext]
        by_cases e : k = N 0
        · rw [if_pos e, if_pos e, if_pos e, if_pos e.symm]
          refine ⟨rfl, ?_, ?_⟩
          · show _ = nI (mn_a A cnt (N 1) cnt); unfold mn_a; rw [if_pos rfl]
          · show _ = nI (mn_a B cnt (N 2) cnt); unfold mn_a; rw [if_pos rfl]
        · rw [if_neg e, if_neg e, if_neg e, if_neg (show ¬ N 0 = k from fun q => e q.symm)]
          obtain ⟨h1, h2, h3⟩ := hm k hk
          have hA : ∀ (F : Nat → Nat) (x : Nat), mn_v (mn_a F cnt x) (mn_at Y k cnt) = mn_v F (mn_at Y k cnt) := by
            intro F x
            cases hq : mn_at Y k cnt with
            | none => rfl
            | some i =>
              have := (at_of cnt i hq).1
              show mn_a F cnt x i = F i
              unfold mn_a; rw [if_neg (by omega)]
          rw [hA, hA]
          exact ⟨h1, h2, h3⟩
      · exact Or.inl ⟨fun h => g2 ⟨Nat.zero_le _, h.2.2⟩, by rw [if_neg g2, if_pos rfl]⟩
    · exact Or.inl ⟨fun h => g1 ⟨Nat.zero_le _, h.2.1⟩, by rw [if_neg g1, if_pos rfl]⟩
  · exact Or.inl ⟨fun h => g0 ⟨Nat.zero_le _, h.1⟩, by rw [if_neg g0, if_pos rfl]⟩
