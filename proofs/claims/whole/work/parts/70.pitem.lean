/-! ===== PURE: the items of a text: the reference ===== -/
/-- what reading keeps -/
def rdK (y y' : ob_T) : Prop := y'.1 0 = y.1 0 ∧ y'.1 1 = y.1 1 ∧ y'.1 7 = y.1 7 ∧ y'.1 4 0 = y.1 4 0 ∧ y'.1 5 0 = y.1 5 0 ∧ (∀ k, k < 180 → y'.1 6 k = y.1 6 k) ∧ (∀ k, k < 288 → y'.2 2 k = y.2 2 k) ∧ ∀ k, k < 12 → y'.2 3 k = y.2 3 k
theorem rdK_rf {y : ob_T} : rdK y y := ⟨rfl, rfl, rfl, rfl, rfl, fun _ _ => rfl, fun _ _ => rfl, fun _ _ => rfl⟩
theorem rdK_tr {a b c : ob_T} (h : rdK a b) (g : rdK b c) : rdK a c := by
  obtain ⟨h1, h2, h3, h4, h5, h6, h7, h8⟩ := h
  obtain ⟨g1, g2, g3, g4, g5, g6, g7, g8⟩ := g
  exact ⟨g1.trans h1, g2.trans h2, g3.trans h3, g4.trans h4, g5.trans h5, fun k hk => (g6 k hk).trans (h6 k hk), fun k hk => (g7 k hk).trans (h7 k hk), fun k hk => (g8 k hk).trans (h8 k hk)⟩
theorem rdK_9 {y y' : ob_T} (h : kp9 y y') : rdK y y' := by
  obtain ⟨h1, h2⟩ := h
  refine ⟨h2 0 (by omega) (by omega), h2 1 (by omega) (by omega), h2 7 (by omega) (by omega), by rw [h2 4 (by omega) (by omega)], by rw [h2 5 (by omega) (by omega)], fun k _ => by rw [h2 6 (by omega) (by omega)], fun k _ => by rw [h1], fun k _ => by rw [h1]⟩
theorem rdK_2 (y : ob_T) {k : Nat} (hk : 288 ≤ k) (x : Int64) : rdK y (ob_L y 2 (vp_updL (y.2 2) k x)) := by
  refine ⟨rfl, rfl, rfl, rfl, rfl, fun _ _ => rfl, fun i hi => ?_, fun _ _ => rfl⟩
  show vp_updL (y.2 2) k x i = _
  rw [updL_at, if_neg (by omega)]
theorem rdK_3 (y : ob_T) {k : Nat} (hk : 12 ≤ k) (x : Int64) : rdK y (ob_L y 3 (vp_updL (y.2 3) k x)) := by
  refine ⟨rfl, rfl, rfl, rfl, rfl, fun _ _ => rfl, fun _ _ => rfl, fun i hi => ?_⟩
  show vp_updL (y.2 3) k x i = _
  rw [updL_at, if_neg (by omega)]
theorem rf_u4 {y : ob_T} {V : Nat → Nat → Nat} {M : Nat → Nat} (h : rfW y 4 V M) {n f : Nat} (hn : n < 8) (hf : f < 8) (x : Nat) : rfW (ob_L y 2 (vp_updL (y.2 2) (288 + 9 * n + f) (lN x))) 4 (sp_f V n f x) M := rf_upd2 h hn hf x
theorem rf_u8 {y : ob_T} {V : Nat → Nat → Nat} {M : Nat → Nat} (h : rfW y 4 V M) {n : Nat} (hn : n < 8) (x : Nat) : rfW (ob_L y 2 (vp_updL (y.2 2) (288 + 9 * n + 8) (lN x))) 4 (sp_f V n 8 (x + 1)) M := by
  refine ⟨fun k hk => ⟨fun g hg => ?_, ?_⟩, h.2⟩
  · show vp_updL (y.2 2) (288 + 9 * n + 8) (lN x) (72 * 4 + 9 * k + g) = _
    rw [updL_at, if_neg (by omega), (h.1 k hk).1 g hg]
    unfold sp_f
    rw [if_neg (by omega)]
  · show vp_updL (y.2 2) (288 + 9 * n + 8) (lN x) (72 * 4 + 9 * k + 8) = _
    rw [updL_at]
    unfold sp_f
    by_cases e : k = n
    · rw [if_pos (by omega), if_pos ⟨e, rfl⟩, l64_1, lN_subN (by omega)]; rfl
    · rw [if_neg (by omega), if_neg (fun q => e q.1), (h.1 k hk).2]
theorem rf_at4 {y : ob_T} {V : Nat → Nat → Nat} {M : Nat → Nat} (h : rfW y 4 V M) {n f : Nat} (hn : n < 8) (hf : f < 8) : y.2 2 (288 + 9 * n + f) = lN (V n f) := (h.1 n hn).1 f hf
theorem p6_isRead (fu : Nat) {y : ob_T} {V : Nat → Nat → Nat} {M : Nat → Nat} (h : rfW y 4 V M) (o : okR V M) {x : Nat} (hx : x ≤ 99999) : mX6_isRead fu y (nI x) = some (if x ≤ 7 ∧ V x 0 ≠ 0 then 1 else 0) := by
  unfold mX6_isRead
  simp only [l32_7, l32_9, show (288 : Int32) = nI 288 from rfl, nI_mulN, nI_addN]
  by_cases e : 7 < x
  · rw [if_pos (by rw [nI_ltN (by omega) (by omega)]; exact e), if_neg (by omega)]
  · have v0 : y.2 2 (288 + 9 * x) = lN (V x 0) := rf_at4 h (show x < 8 by omega) (show 0 < 8 by omega)
    have o0 := (o.1 x (by omega)).1
    rw [if_neg (by rw [nI_ltN (by omega) (by omega)]; exact e)]
    simp only [l32_0, l32_1, l64_0]
    simp (disch := omega) only [↓ix_no, ↓reduceIte, nI_clN, v0, lg_leN, lN_leN]
    by_cases e2 : V x 0 = 0
    · rw [if_pos (by omega), if_neg (fun q => q.2 e2)]
    · rw [if_neg (by omega), if_pos ⟨by omega, e2⟩]
theorem p6_new (fu : Nat) (hfu : 100 ≤ fu) {r y : ob_T} {V : Nat → Nat → Nat} {M : Nat → Nat} {N : Nat → Nat} (hN : nmI 7 N r y) (hW : rfW y 4 V M) (h0 : N 0 < 8) : ∃ y', bX6_realmItem_134 fu fu y (nI (288 + 9 * N 0)) 0 = some (1, y') ∧ rfW y' 4 (sp_new V N) M ∧ y'.1 = y.1 ∧ rdK y y' := by
  obtain ⟨q, rfl⟩ : ∃ q, fu = q + 5 := ⟨fu - 5, by omega⟩
  obtain ⟨x1, -, y1⟩ := hN 1 (by omega)
  obtain ⟨x2, -, y2⟩ := hN 2 (by omega)
  obtain ⟨x3, -, y3⟩ := hN 3 (by omega)
  obtain ⟨x4, -, y4⟩ := hN 4 (by omega)
  obtain ⟨x5, -, y5⟩ := hN 5 (by omega)
  obtain ⟨x6, -, y6⟩ := hN 6 (by omega)
  have a0 := rf_u4 hW h0 (show 0 < 8 by omega) (N 1)
  have a1 := rf_u4 a0 h0 (show 1 < 8 by omega) (N 2)
  have a2 := rf_u4 a1 h0 (show 2 < 8 by omega) (N 3)
  have a3 := rf_u4 a2 h0 (show 3 < 8 by omega) (N 4)
  have a4 := rf_u4 a3 h0 (show 4 < 8 by omega) (1000 * N 5)
  have a5 := rf_u4 a4 h0 (show 5 < 8 by omega) (N 6)
  have a6 := rf_u4 a5 h0 (show 6 < 8 by omega) 1
  have eV : sp_f (sp_f (sp_f (sp_f (sp_f (sp_f (sp_f V (N 0) 0 (N 1)) (N 0) 1 (N 2)) (N 0) 2 (N 3)) (N 0) 3 (N 4)) (N 0) 4 (1000 * N 5)) (N 0) 5 (N 6)) (N 0) 6 1 = sp_new V N := by
    funext k f
    unfold sp_f sp_new
    by_cases e : k = N 0
    · simp only [e, true_and, if_true]
      repeat' split
      all_goals first | rfl | (exfalso; omega)
    · simp only [e, false_and, if_false]
  rw [eV] at a6
  rw [Nat.add_zero] at a6
  have step : ∀ (p i : Nat) (z : ob_T) (x : Nat), i < 4 → x ≤ 99999 → z.1 9 (i + 1) = nI x → bX6_realmItem_134 (q + 5) (p + 1) z (nI (288 + 9 * N 0)) (nI i) = bX6_realmItem_134 (q + 5) p (ob_L z 2 (vp_updL (z.2 2) (288 + 9 * N 0 + i) (lN x))) (nI (288 + 9 * N 0)) (nI (i + 1)) := by
    intro p i z x hi hx hz
    rw [bX6_realmItem_134_s, l32_4, if_neg (by rw [nI_leN (by omega) (by omega)]; omega)]
    simp only [bnd_eq, l32_0, l32_1, nI_addN]
    simp (disch := omega) only [↓ix_no, ↓reduceIte, nI_clN, hz, nI_toL]
  refine ⟨_, ?_, a6, rfl, rdK_tr (rdK_2 _ (by omega) _) (rdK_tr (rdK_2 _ (by omega) _) (rdK_tr (rdK_2 _ (by omega) _) (rdK_tr (rdK_2 _ (by omega) _) (rdK_tr (rdK_2 _ (by omega) _) (rdK_tr (rdK_2 _ (by omega) _) (rdK_2 _ (by omega) _))))))⟩
  refine Eq.trans (step (q + 4) 0 y (N 1) (by omega) x1 y1) ?_
  refine Eq.trans (step (q + 3) 1 _ (N 2) (by omega) x2 ?_) ?_
  · exact y2
  refine Eq.trans (step (q + 2) 2 _ (N 3) (by omega) x3 ?_) ?_
  · exact y3
  refine Eq.trans (step (q + 1) 3 _ (N 4) (by omega) x4 ?_) ?_
  · exact y4
  rw [bX6_realmItem_134_s, l32_4, if_pos (by decide)]
  simp only [bnd_eq, l32_0, l32_1, l32_5, l32_6, l64_1, l64_1000, nI_addN]
  simp (disch := omega) only [↓ix_no, ↓reduceIte, nI_clN, obL_1, y5, y6, nI_toL, lN_mulN, Nat.add_zero]
theorem p6_realmItem (fu : Nat) (hfu : 100 ≤ fu) {r y0 y : ob_T} {V : Nat → Nat → Nat} {M : Nat → Nat} {N : Nat → Nat} (hN : nmI 7 N r y) (hW : rfW y 4 V M) (hR : okR V M) (hf : mX6_figures fu y0 7 = some (1, y)) : (¬ ok_new V N ∧ mX6_realmItem fu y0 = some (0, y)) ∨ (ok_new V N ∧ ∃ y', mX6_realmItem fu y0 = some (1, y') ∧ rfW y' 4 (sp_new V N) M ∧ y'.1 = y.1 ∧ rdK y y') := by
  obtain ⟨x0, -, y0'⟩ := hN 0 (by omega)
  obtain ⟨x1, -, y1⟩ := hN 1 (by omega)
  obtain ⟨x2, -, y2⟩ := hN 2 (by omega)
  obtain ⟨x3, -, y3⟩ := hN 3 (by omega)
  obtain ⟨x4, -, y4⟩ := hN 4 (by omega)
  obtain ⟨x5, -, y5⟩ := hN 5 (by omega)
  obtain ⟨x6, -, y6⟩ := hN 6 (by omega)
  have z1 : ¬ ((1 : Int32) = 0) := by decide
  have F0 : bX6_realmItem_74 fu y 0 = some (0, y) := by unfold bX6_realmItem_74; rw [if_pos rfl]
  have c0 : (0 : Int32).toNatClampNeg = 0 := rfl
  have c1 : (1 : Int32).toNatClampNeg = 1 := rfl
  have c2 : (2 : Int32).toNatClampNeg = 2 := rfl
  have c3 : (3 : Int32).toNatClampNeg = 3 := rfl
  have c4 : (4 : Int32).toNatClampNeg = 4 := rfl
  have c5 : (5 : Int32).toNatClampNeg = 5 := rfl
  have c6 : (6 : Int32).toNatClampNeg = 6 := rfl
  unfold mX6_realmItem
  rw [hf, bind_sm]
  simp only
  rw [if_neg z1, c0, if_neg (show ¬ ((0 : Int32) < 0 ∨ 7 ≤ 0) by decide), y0', F0]
  by_cases g0 : 7 < N 0
  · rw [if_pos (show (7 : Int32) < nI (N 0) by rw [l32_7, nI_ltN (by omega) (by omega)]; exact g0)]
    exact Or.inl ⟨fun h => by have := h.1.1; omega, rfl⟩
  rw [if_neg (show ¬ (7 : Int32) < nI (N 0) by rw [l32_7, nI_ltN (by omega) (by omega)]; exact g0), p6_isRead fu hW hR x0, bind_sm]
  by_cases gv : V (N 0) 0 = 0
  · rw [if_neg (show ¬ (N 0 ≤ 7 ∧ V (N 0) 0 ≠ 0) from fun h => h.2 gv), if_pos rfl, c1, c2, c3, if_neg (show ¬ ((1 : Int32) < 0 ∨ 7 ≤ 1) by decide), if_neg (show ¬ ((2 : Int32) < 0 ∨ 7 ≤ 2) by decide), if_neg (show ¬ ((3 : Int32) < 0 ∨ 7 ≤ 3) by decide), y1, y2, y3]
    by_cases g1 : N 1 < 1000
    · rw [if_pos (show nI (N 1) < (1000 : Int32) by rw [l32_1000, nI_ltN (by omega) (by omega)]; exact g1)]
      exact Or.inl ⟨fun h => by have := h.2.1.1; omega, rfl⟩
    rw [if_neg (show ¬ nI (N 1) < (1000 : Int32) by rw [l32_1000, nI_ltN (by omega) (by omega)]; exact g1)]
    by_cases g2 : 999 < N 2
    · rw [if_pos (show (999 : Int32) < nI (N 2) by rw [show (999 : Int32) = nI 999 from rfl, nI_ltN (by omega) (by omega)]; exact g2)]
      exact Or.inl ⟨fun h => by have := h.2.1.2.1; omega, rfl⟩
    rw [if_neg (show ¬ (999 : Int32) < nI (N 2) by rw [show (999 : Int32) = nI 999 from rfl, nI_ltN (by omega) (by omega)]; exact g2)]
    by_cases g3 : 200 < N 3
    · rw [if_pos (show (200 : Int32) < nI (N 3) by rw [show (200 : Int32) = nI 200 from rfl, nI_ltN (by omega) (by omega)]; exact g3)]
      exact Or.inl ⟨fun h => by have := h.2.1.2.2; omega, rfl⟩
    rw [if_neg (show ¬ (200 : Int32) < nI (N 3) by rw [show (200 : Int32) = nI 200 from rfl, nI_ltN (by omega) (by omega)]; exact g3)]
    unfold bX6_realmItem_74
    rw [if_neg z1, c4, c5, c6, if_neg (show ¬ ((4 : Int32) < 0 ∨ 7 ≤ 4) by decide), if_neg (show ¬ ((5 : Int32) < 0 ∨ 7 ≤ 5) by decide), if_neg (show ¬ ((6 : Int32) < 0 ∨ 7 ≤ 6) by decide), c0, if_neg (show ¬ ((0 : Int32) < 0 ∨ 7 ≤ 0) by decide), y4, y5, y6, y0']
    by_cases g4 : 9999 < N 4
    · rw [if_pos (show (9999 : Int32) < nI (N 4) by rw [show (9999 : Int32) = nI 9999 from rfl, nI_ltN (by omega) (by omega)]; exact g4)]
      exact Or.inl ⟨fun h => by have := h.2.2.1; omega, rfl⟩
    rw [if_neg (show ¬ (9999 : Int32) < nI (N 4) by rw [show (9999 : Int32) = nI 9999 from rfl, nI_ltN (by omega) (by omega)]; exact g4)]
    by_cases g5 : 9999 < N 5
    · rw [if_pos (show (9999 : Int32) < nI (N 5) by rw [show (9999 : Int32) = nI 9999 from rfl, nI_ltN (by omega) (by omega)]; exact g5)]
      exact Or.inl ⟨fun h => by have := h.2.2.2.1; omega, rfl⟩
    rw [if_neg (show ¬ (9999 : Int32) < nI (N 5) by rw [show (9999 : Int32) = nI 9999 from rfl, nI_ltN (by omega) (by omega)]; exact g5)]
    by_cases g6 : N 6 ≤ 999
    · rw [if_pos (show nI (N 6) ≤ (999 : Int32) by rw [show (999 : Int32) = nI 999 from rfl, nI_leN (by omega) (by omega)]; exact g6), bnd_eq, l32_9, show (288 : Int32) = nI 288 from rfl, nI_mulN, nI_addN]
      exact Or.inr ⟨⟨⟨by omega, gv⟩, ⟨by omega, by omega, by omega⟩, by omega, by omega, g6⟩, p6_new fu hfu hN hW (by omega)⟩
    · rw [if_neg (show ¬ nI (N 6) ≤ (999 : Int32) by rw [show (999 : Int32) = nI 999 from rfl, nI_leN (by omega) (by omega)]; exact g6)]
      exact Or.inl ⟨fun h => g6 h.2.2.2.2, rfl⟩
  · rw [if_pos (show N 0 ≤ 7 ∧ V (N 0) 0 ≠ 0 from ⟨by omega, gv⟩), if_neg z1]
    exact Or.inl ⟨fun h => gv h.1.2, rfl⟩
theorem p6_mineItem (fu : Nat) (hfu : 100 ≤ fu) {r y0 y : ob_T} {cnt : Nat} {Y A B : Nat → Nat} {N : Nat → Nat} (hN : nmI 3 N r y) (hcnt : cnt < 60) (h5 : y.1 5 1 = nI cnt) (hL : mnL y 180 cnt Y A B) (hf : mX6_figures fu y0 3 = some (1, y)) : (¬ (N 0 ≤ 99 ∧ N 1 ≤ 9999 ∧ N 2 ≤ 9999) ∧ mX6_mineItem fu y0 = some (0, y)) ∨ ((N 0 ≤ 99 ∧ N 1 ≤ 9999 ∧ N 2 ≤ 9999) ∧ ∃ y', mX6_mineItem fu y0 = some (1, y') ∧ y'.1 5 1 = nI (cnt + 1) ∧ mnL y' 180 (cnt + 1) (mn_a Y cnt (N 0)) (mn_a A cnt (N 1)) (mn_a B cnt (N 2)) ∧ y'.2 = y.2 ∧ (∀ f, f ≠ 5 → f ≠ 6 → y'.1 f = y.1 f) ∧ rdK y y') := by
  obtain ⟨x0, -, y0'⟩ := hN 0 (by omega)
  obtain ⟨x1, -, y1⟩ := hN 1 (by omega)
  obtain ⟨x2, -, y2⟩ := hN 2 (by omega)
  have z1 : ¬ ((1 : Int32) = 0) := by decide
  have c0 : (0 : Int32).toNatClampNeg = 0 := rfl
  have c1 : (1 : Int32).toNatClampNeg = 1 := rfl
  have c2 : (2 : Int32).toNatClampNeg = 2 := rfl
  unfold mX6_mineItem
  rw [hf, bind_sm]
  simp only
  rw [if_neg z1, c0, c1, c2, if_neg (show ¬ ((0 : Int32) < 0 ∨ 7 ≤ 0) by decide), if_neg (show ¬ ((1 : Int32) < 0 ∨ 7 ≤ 1) by decide), if_neg (show ¬ ((2 : Int32) < 0 ∨ 7 ≤ 2) by decide), if_neg (show ¬ ((1 : Int32) < 0 ∨ 2 ≤ 1) by decide), y0', y1, y2, h5]
  by_cases g0 : 99 < N 0
  · rw [if_pos (show (99 : Int32) < nI (N 0) by rw [l32_99, nI_ltN (by omega) (by omega)]; exact g0)]
    exact Or.inl ⟨fun h => by have := h.1; omega, rfl⟩
  rw [if_neg (show ¬ (99 : Int32) < nI (N 0) by rw [l32_99, nI_ltN (by omega) (by omega)]; exact g0)]
  by_cases g1 : 9999 < N 1
  · rw [if_pos (show (9999 : Int32) < nI (N 1) by rw [show (9999 : Int32) = nI 9999 from rfl, nI_ltN (by omega) (by omega)]; exact g1)]
    exact Or.inl ⟨fun h => by have := h.2.1; omega, rfl⟩
  rw [if_neg (show ¬ (9999 : Int32) < nI (N 1) by rw [show (9999 : Int32) = nI 9999 from rfl, nI_ltN (by omega) (by omega)]; exact g1)]
  by_cases g2 : N 2 ≤ 9999
  · rw [if_pos (show nI (N 2) ≤ (9999 : Int32) by rw [show (9999 : Int32) = nI 9999 from rfl, nI_leN (by omega) (by omega)]; exact g2), bnd_eq, l32_3, show (180 : Int32) = nI 180 from rfl, nI_mulN, nI_addN]
    refine Or.inr ⟨⟨by omega, by omega, g2⟩, ?_⟩
    obtain ⟨q, rfl⟩ : ∃ q, fu = q + 4 := ⟨fu - 4, by omega⟩
    have step : ∀ (p i : Nat) (z : ob_T) (x : Nat), i < 3 → z.1 9 i = nI x → bX6_mineItem_60 (q + 4) (p + 1) z (nI (180 + 3 * cnt)) (nI i) = bX6_mineItem_60 (q + 4) p (ob_I z 6 (upd (z.1 6) (180 + 3 * cnt + i) (nI x))) (nI (180 + 3 * cnt)) (nI (i + 1)) := by
      intro p i z x hi hz
      rw [bX6_mineItem_60_s, l32_3, if_neg (by rw [nI_leN (by omega) (by omega)]; omega)]
      simp only [bnd_eq, l32_0, l32_1, nI_addN]
      simp (disch := omega) only [↓ix_no, ↓reduceIte, nI_clN, hz]
    have fin : ∀ (p : Nat) (z : ob_T), z.1 5 1 = nI cnt → bX6_mineItem_60 (q + 4) (p + 1) z (nI (180 + 3 * cnt)) (nI 3) = some (1, ob_I z 5 (upd (z.1 5) 1 (nI (cnt + 1)))) := by
      intro p z hz
      rw [bX6_mineItem_60_s, l32_3, if_pos (by decide), if_neg (show ¬ ((1 : Int32) < 0 ∨ 2 ≤ (1 : Int32).toNatClampNeg) by decide), bnd_eq, c1, hz, l32_1, nI_addN]
    have E := (step (q + 3) 0 y (N 0) (by omega) y0').trans ((step (q + 2) 1 _ (N 1) (by omega) (by exact y1)).trans ((step (q + 1) 2 _ (N 2) (by omega) (by exact y2)).trans (fin q _ (by exact h5))))
    rw [show (0 : Int32) = nI 0 from rfl, E]
    refine ⟨_, rfl, ?_, fun k hk => ?_, rfl, fun f f5 f6 => ?_, rfl, rfl, rfl, rfl, ?_, fun k hk => ?_, fun _ _ => rfl, fun _ _ => rfl⟩
    · show upd (y.1 5) 1 (nI (cnt + 1)) 1 = _
      rw [updI_at, if_pos rfl]
    · show (mn_a Y cnt (N 0) k ≤ 99 ∧ mn_a A cnt (N 1) k ≤ 9999 ∧ mn_a B cnt (N 2) k ≤ 9999) ∧ upd (upd (upd (y.1 6) (180 + 3 * cnt + 0) (nI (N 0))) (180 + 3 * cnt + 1) (nI (N 1))) (180 + 3 * cnt + 2) (nI (N 2)) (180 + 3 * k) = _ ∧ upd (upd (upd (y.1 6) (180 + 3 * cnt + 0) (nI (N 0))) (180 + 3 * cnt + 1) (nI (N 1))) (180 + 3 * cnt + 2) (nI (N 2)) (180 + 3 * k + 1) = _ ∧ upd (upd (upd (y.1 6) (180 + 3 * cnt + 0) (nI (N 0))) (180 + 3 * cnt + 1) (nI (N 1))) (180 + 3 * cnt + 2) (nI (N 2)) (180 + 3 * k + 2) = _
      simp only [updI_at, mn_a]
      by_cases e : k = cnt
      · subst e
        refine ⟨by simp; omega, ?_, ?_, ?_⟩
        · rw [if_neg (by omega), if_neg (by omega), if_pos (by omega), if_pos rfl]
        · rw [if_neg (by omega), if_pos rfl, if_pos rfl]
        · rw [if_pos rfl, if_pos rfl]
      · obtain ⟨h1, h2, h3, h4⟩ := hL k (by omega)
        refine ⟨by simp only [if_neg e]; exact h1, ?_, ?_, ?_⟩
        · rw [if_neg (by omega), if_neg (by omega), if_neg (by omega), if_neg e]; exact h2
        · rw [if_neg (by omega), if_neg (by omega), if_neg (by omega), if_neg e]; exact h3
        · rw [if_neg (by omega), if_neg (by omega), if_neg (by omega), if_neg e]; exact h4
    · show (if f = 5 then _ else if f = 6 then _ else if f = 6 then _ else if f = 6 then _ else y.1 f) = _
      rw [if_neg f5, if_neg f6, if_neg f6, if_neg f6]
    · show upd (y.1 5) 1 (nI (cnt + 1)) 0 = _
      rw [updI_at, if_neg (by omega)]
    · show upd (upd (upd (y.1 6) (180 + 3 * cnt + 0) (nI (N 0))) (180 + 3 * cnt + 1) (nI (N 1))) (180 + 3 * cnt + 2) (nI (N 2)) k = _
      simp only [updI_at]
      rw [if_neg (by omega), if_neg (by omega), if_neg (by omega)]
  · rw [if_neg (show ¬ nI (N 2) ≤ (9999 : Int32) by rw [show (9999 : Int32) = nI 9999 from rfl, nI_leN (by omega) (by omega)]; exact g2)]
    exact Or.inl ⟨fun h => g2 h.2.2, rfl⟩
