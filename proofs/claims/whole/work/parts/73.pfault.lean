/-! ===== PURE: no world, empty rows, gaps; STEPS: fault, lay ===== -/
theorem nw_dec : ∀ k, k < 72 → ((nI k - nI k / (9 : Int32) * (9 : Int32) = (8 : Int32)) ↔ k % 9 = 8) := by decide +kernel
def nwv (k : Nat) : Int64 := if k % 9 = 8 then -1 else 0
theorem p6_nw_b (fu : Nat) {s b : Nat} (hs : s < 5) (hb : b < 2) : ∀ (j : Nat), j ≤ 3 → ∀ (nn : Nat), j < nn → ∀ (y : ob_T), ∃ y', bX6_noWorld_43 fu nn y (nI s) (nI b) (nI (3 - j)) = some y' ∧ (∀ f, f ≠ 4 → f ≠ 5 → y'.1 f = y.1 f) ∧ y'.1 4 = upd (y.1 4) b 1000 ∧ y'.1 5 = upd (y.1 5) b 0 ∧ (∀ f, f ≠ 3 → y'.2 f = y.2 f) ∧ ∀ k, y'.2 3 k = if 3 * s + (3 - j) ≤ k ∧ k < 3 * s + 3 then 0 else y.2 3 k := by
  intro j
  induction j with
  | zero =>
    intro _ nn hnn y
    obtain ⟨q, rfl⟩ : ∃ q, nn = q + 1 := ⟨nn - 1, by omega⟩
    refine ⟨ob_I (ob_I y 4 (upd (y.1 4) b 1000)) 5 (upd (y.1 5) b 0), ?_, fun f f4 f5 => ?_, rfl, rfl, fun _ _ => rfl, fun k => by rw [if_neg (by omega)]; rfl⟩
    · rw [bX6_noWorld_43_s, if_pos (by decide)]
      simp (disch := omega) only [↓ix_no0, ↓reduceIte, nI_clN, bnd_eq]
      rfl
    · show (if f = 5 then _ else if f = 4 then _ else y.1 f) = _
      rw [if_neg f5, if_neg f4]
  | succ j ih =>
    intro hj nn hnn y
    obtain ⟨q, rfl⟩ : ∃ q, nn = q + 1 := ⟨nn - 1, by omega⟩
    obtain ⟨y', a1, a2, a3, a4, a5, a6⟩ := ih (by omega) q (by omega) (ob_L y 3 (vp_updL (y.2 3) (3 * s + (3 - (j + 1))) 0))
    refine ⟨y', ?_, a2, a3, a4, fun f hf => ?_, fun k => ?_⟩
    · rw [bX6_noWorld_43_s]
      simp only [l32_1, l32_3, bnd_eq, nI_mulN, nI_addN]
      simp (disch := omega) only [↓ix_no0, ↓reduceIte, nI_clN, nI_leN]
      rw [if_neg (by omega), ← a1, show 3 - (j + 1) + 1 = 3 - j by omega]
    · rw [a5 f hf, obL_2, if_neg hf]
    · rw [a6 k]
      show (if 3 * s + (3 - j) ≤ k ∧ k < 3 * s + 3 then 0 else vp_updL (y.2 3) (3 * s + (3 - (j + 1))) 0 k) = _
      rw [updL_at]
      repeat' split
      all_goals first | rfl | (exfalso; omega)
theorem p6_nw_a (fu : Nat) (hfu : 100 ≤ fu) {s b : Nat} (hs : s < 5) (hb : b < 2) : ∀ (j : Nat), j ≤ 72 → ∀ (nn : Nat), j < nn → ∀ (y : ob_T), ∃ y', bX6_noWorld_2 fu nn y (nI s) (nI b) (nI (72 - j)) = some y' ∧ (∀ f, f ≠ 4 → f ≠ 5 → y'.1 f = y.1 f) ∧ y'.1 4 = upd (y.1 4) b 1000 ∧ y'.1 5 = upd (y.1 5) b 0 ∧ (∀ k, y'.2 2 k = if 72 * s + (72 - j) ≤ k ∧ k < 72 * s + 72 then nwv (k - 72 * s) else y.2 2 k) ∧ ∀ k, y'.2 3 k = if 3 * s ≤ k ∧ k < 3 * s + 3 then 0 else y.2 3 k := by
  intro j
  induction j with
  | zero =>
    intro _ nn hnn y
    obtain ⟨q, rfl⟩ : ∃ q, nn = q + 1 := ⟨nn - 1, by omega⟩
    obtain ⟨y', a1, a2, a3, a4, a5, a6⟩ := p6_nw_b fu hs hb 3 (by omega) fu (by omega) y
    refine ⟨y', ?_, a2, a3, a4, fun k => ?_, a6⟩
    · rw [bX6_noWorld_2_s, if_pos (by decide)]
      exact a1
    · rw [a5 2 (by omega), if_neg (by omega)]
  | succ j ih =>
    intro hj nn hnn y
    obtain ⟨q, rfl⟩ : ∃ q, nn = q + 1 := ⟨nn - 1, by omega⟩
    have hk : 72 - (j + 1) < 72 := by omega
    have hk1 : 72 - j = 72 - (j + 1) + 1 := by omega
    have IH := ih (by omega) q (by omega)
    rw [hk1] at IH
    generalize 72 - (j + 1) = k at hk IH
    obtain ⟨y', a1, a2, a3, a4, a5, a6⟩ := IH (ob_L y 2 (vp_updL (y.2 2) (72 * s + k) (nwv k)))
    refine ⟨y', ?_, a2, a3, a4, fun i => ?_, a6⟩
    · rw [bX6_noWorld_2_s, l32_72, if_neg (by rw [nI_leN (by omega) (by omega)]; omega), if_neg (by decide)]
      unfold bX6_noWorld_34
      simp only [nI_mulN, nI_addN, bnd_eq, l32_1]
      simp (disch := omega) only [↓ix_no0, ↓reduceIte, nI_clN]
      have hd := nw_dec k hk
      unfold nwv at a1
      by_cases e : k % 9 = 8
      · rw [if_pos e] at a1
        rw [if_pos (hd.mpr e)]
        exact a1
      · rw [if_neg e] at a1
        rw [if_neg (fun h => e (hd.mp h))]
        exact a1
    · rw [a5 i]
      show (if 72 * s + (k + 1) ≤ i ∧ i < 72 * s + 72 then nwv (i - 72 * s) else vp_updL (y.2 2) (72 * s + k) (nwv k) i) = _
      rw [updL_at]
      by_cases e : i = 72 * s + k
      · subst e
        rw [if_neg (by omega), if_pos rfl, if_pos (by omega), show 72 * s + k - 72 * s = k by omega]
      · by_cases e2 : 72 * s + (k + 1) ≤ i ∧ i < 72 * s + 72
        · rw [if_pos e2, if_pos (by omega)]
        · rw [if_neg e2, if_neg e, if_neg (by omega)]
theorem p6_noWorld (fu : Nat) (hfu : 100 ≤ fu) {s b : Nat} (hs : s < 5) (hb : b < 2) (y : ob_T) : ∃ y', mX6_noWorld fu y (nI s) (nI b) = some y' ∧ (∀ f, f ≠ 4 → f ≠ 5 → y'.1 f = y.1 f) ∧ y'.1 4 = upd (y.1 4) b 1000 ∧ y'.1 5 = upd (y.1 5) b 0 ∧ rfW y' s (fun _ _ => 0) (fun _ => 0) ∧ (∀ k, ¬ (72 * s ≤ k ∧ k < 72 * s + 72) → y'.2 2 k = y.2 2 k) ∧ ∀ k, ¬ (3 * s ≤ k ∧ k < 3 * s + 3) → y'.2 3 k = y.2 3 k := by
  obtain ⟨y', a1, a2, a3, a4, a5, a6⟩ := p6_nw_a fu hfu hs hb 72 (by omega) fu (by omega) y
  rw [Nat.sub_self] at a1
  refine ⟨y', a1, a2, a3, a4, ⟨fun n hn => ⟨fun f hf => ?_, ?_⟩, fun f hf => ?_⟩, fun k hk => ?_, fun k hk => ?_⟩
  · rw [a5, if_pos (by omega)]
    unfold nwv
    rw [if_neg (by omega)]
    rfl
  · rw [a5, if_pos (by omega)]
    unfold nwv
    rw [if_pos (by omega)]
    show (-1 : Int64) = lN 0 - 1
    decide
  · rw [a6, if_pos (by omega)]; rfl
  · rw [a5, if_neg (by omega)]
  · rw [a6, if_neg (by omega)]
theorem p4_clear (fu : Nat) {w : ob_T} (h : ylR w) : ∃ w', mX4_clear fu w = some w' ∧ clP w' (fun _ _ => 0) (fun _ => 0) 1000 := by
  refine ⟨_, rfl, ⟨?_, ?_, ?_, h⟩, fun n _ h0 => absurd rfl h0, rfl, rfl, rfl, rfl⟩
  · show (0 : Int32) = nI (bt8 (sp_told fun _ _ => 0) 8); decide
  · show (0 : Int32) = nI (bt8 (sp_mint fun _ _ => 0) 8); decide
  · show (0 : Int32) = nI (bt8 (sp_limp fun _ _ => 0) 8); decide
theorem p0_clear (fu : Nat) (hfu : 1000 ≤ fu) (m : ob_T) (Y A B : Nat → Nat) : ∃ m', mX0_clear fu m = some m' ∧ mnT m' 0 Y A B := by
  obtain ⟨r1, a1, a2⟩ := pJ_fill fu 100 (by omega) (by omega) (0 : Int32) (fun _ => m.1 0, fun _ _ => 0)
  obtain ⟨r2, b1, b2⟩ := pJ_fill fu 100 (by omega) (by omega) (0 : Int32) (fun _ => (ob_I m 0 (r1.1 0)).1 1, fun _ _ => 0)
  obtain ⟨r3, c1, c2⟩ := pJ_fill fu 100 (by omega) (by omega) (0 : Int32) (fun _ => (ob_I (ob_I m 0 (r1.1 0)) 1 (r2.1 0)).1 2, fun _ _ => 0)
  unfold mX0_clear
  rw [a1, bind_sm, b1, bind_sm, c1, bind_sm]
  refine ⟨_, rfl, fun k hk => ⟨?_, ?_, ?_⟩⟩
  · show r1.1 0 k = _; rw [a2 k hk]; rfl
  · show r2.1 0 k = _; rw [b2 k hk]; rfl
  · show r3.1 0 k = _; rw [c2 k hk]; rfl
theorem p0_fill_loop (fu : Nat) {cnt : Nat} {Y A B : Nat → Nat} : ∀ (j : Nat), j ≤ 99 → ∀ (nn : Nat), j < nn → ∀ (m : ob_T), (∀ r, r < 100 → m.1 0 r = (if mn_at Y r cnt = none then 0 else 1)) → (∀ r, r < 100 - j → m.1 1 r = nI (mn_v A (mn_pk Y r cnt)) ∧ m.1 2 r = nI (mn_v B (mn_pk Y r cnt))) → (∀ r, 100 - j ≤ r → r < 100 → m.1 1 r = nI (mn_v A (mn_at Y r cnt)) ∧ m.1 2 r = nI (mn_v B (mn_at Y r cnt))) → ∃ m', bX0_fillGaps_2 fu nn m (nI (100 - j)) = some m' ∧ ∀ r, r < 100 → m'.1 1 r = nI (mn_v A (mn_pk Y r cnt)) ∧ m'.1 2 r = nI (mn_v B (mn_pk Y r cnt)) := by
  intro j
  induction j with
  | zero =>
    intro _ nn hnn m h0 h1 h2
    obtain ⟨q, rfl⟩ : ∃ q, nn = q + 1 := ⟨nn - 1, by omega⟩
    exact ⟨m, by rw [bX0_fillGaps_2_s, if_pos (by decide)], fun r hr => h1 r (by omega)⟩
  | succ j ih =>
    intro hj nn hnn m h0 h1 h2
    obtain ⟨q, rfl⟩ : ∃ q, nn = q + 1 := ⟨nn - 1, by omega⟩
    have hk : 100 - (j + 1) < 100 := by omega
    have hk0 : 1 ≤ 100 - (j + 1) := by omega
    have IH := ih (by omega) q (by omega)
    rw [show 100 - j = 100 - (j + 1) + 1 by omega] at IH
    generalize 100 - (j + 1) = k at hk hk0 IH h1 h2
    have hpk := pk_at (Y := Y) (r := k) cnt
    rw [if_neg (show ¬ k = 0 by omega)] at hpk
    rw [bX0_fillGaps_2_s, show (100 : Int32) = nI 100 from rfl, if_neg (by rw [nI_leN (by omega) (by omega)]; omega)]
    unfold bX0_fillGaps_45
    have hsub : nI k - nI 1 = nI (k - 1) := nI_subN hk0
    simp only [bnd_eq, l32_1, nI_addN]
    simp only [hsub]
    simp (disch := omega) only [↓ix_no0, ↓reduceIte, nI_clN]
    have htold := h0 k hk
    cases ha : mn_at Y k cnt with
    | none =>
      rw [ha] at htold hpk
      rw [if_pos rfl] at htold
      simp only at hpk
      rw [if_pos htold]
      refine IH _ (fun r hr => h0 r hr) (fun r hr => ?_) (fun r hr1 hr2 => ?_)
      · show upd (m.1 1) k (m.1 1 (k - 1)) r = _ ∧ upd (m.1 2) k (m.1 2 (k - 1)) r = _
        rw [updI_at, updI_at]
        by_cases e : r = k
        · rw [if_pos e, if_pos e, e, hpk]
          exact h1 (k - 1) (by omega)
        · rw [if_neg e, if_neg e]
          exact h1 r (by omega)
      · show upd (m.1 1) k (m.1 1 (k - 1)) r = _ ∧ upd (m.1 2) k (m.1 2 (k - 1)) r = _
        rw [updI_at, updI_at, if_neg (by omega), if_neg (by omega)]
        exact h2 r (by omega) hr2
    | some i =>
      rw [ha] at htold hpk
      rw [if_neg (by simp)] at htold
      simp only at hpk
      rw [if_neg (by rw [htold]; decide)]
      refine IH m h0 (fun r hr => ?_) (fun r hr1 hr2 => h2 r (by omega) hr2)
      by_cases e : r = k
      · have := h2 k (Nat.le_refl _) hk
        rw [e, hpk]
        rw [ha] at this
        exact this
      · exact h1 r (by omega)
theorem p0_fillGaps (fu : Nat) (hfu : 1000 ≤ fu) {cnt : Nat} {Y A B : Nat → Nat} {m : ob_T} (h : mnT m cnt Y A B) : ∃ m', mX0_fillGaps fu m = some m' ∧ ∀ r, r < 100 → m'.1 1 r = nI (mn_v A (mn_pk Y r cnt)) ∧ m'.1 2 r = nI (mn_v B (mn_pk Y r cnt)) := by
  refine p0_fill_loop fu 99 (by omega) fu (by omega) m (fun r hr => (h r hr).1) (fun r hr => ?_) (fun r _ hr => (h r hr).2)
  have e : r = 0 := by omega
  subst e
  have hpk := pk_at (Y := Y) (r := 0) cnt
  rw [if_pos rfl] at hpk
  have h2 := (h 0 (by omega)).2
  cases ha : mn_at Y 0 cnt with
  | none => rw [ha] at hpk h2; simp only at hpk; rw [hpk]; exact h2
  | some i => rw [ha] at hpk h2; simp only at hpk; rw [hpk]; exact h2
theorem okR_0 : okR (fun _ _ => 0) (fun _ => 0) := ⟨fun n _ => ⟨Or.inl rfl, Nat.zero_le _, Nat.zero_le _, Nat.zero_le _, Nat.zero_le _, Nat.zero_le _, Nat.zero_le _, Nat.zero_le _, Nat.zero_le _, fun _ => ⟨rfl, rfl, rfl, rfl, rfl⟩⟩, Nat.zero_le _, Nat.zero_le _, rfl⟩
theorem read_all (fu : Nat) (hfu : 1000 ≤ fu) {tx y rw mn : ob_T} (rd : ob_T) (hT : txR tx y) (hY : ylR rw) : ∃ r' w' m' y', rdK y y' ∧ ((∃ b, b < 400 ∧ mX2_firstFault fu rd rw mn tx = some (nI b, r', w', m') ∧ mX6_readAll fu y = some (nI b, y') ∧ ylR w') ∨ (mX2_firstFault fu rd rw mn tx = some (-4, r', w', m') ∧ mX6_readAll fu y = some (-4, y') ∧ ∃ (V : Nat → Nat → Nat) (M : Nat → Nat) (K cnt : Nat) (Y A B : Nat → Nat), okR V M ∧ okK K ∧ clW w' V M K ∧ rfW y' 4 V M ∧ y'.1 4 1 = nI K ∧ cnt < 60 ∧ y'.1 5 1 = nI cnt ∧ mnL y' 180 cnt Y A B ∧ ∀ r, r < 100 → m'.1 1 r = nI (mn_v A (mn_pk Y r cnt)) ∧ m'.1 2 r = nI (mn_v B (mn_pk Y r cnt)))) := by
  obtain ⟨len, l1, l2, l3, l4⟩ := hT
  obtain ⟨w0, a1, a2⟩ := p4_clear fu hY
  obtain ⟨m0, b1, b2⟩ := p0_clear fu hfu mn (fun _ => 0) (fun _ => 0) (fun _ => 0)
  obtain ⟨y0, c1, c2, c3, c4, c5, c6, c7⟩ := p6_noWorld fu (by omega) (s := 4) (b := 1) (by omega) (by omega) y
  have K0 : rdK y (ob_I y0 8 (fun _ => 0)) := by
    refine ⟨c2 0 (by omega) (by omega), c2 1 (by omega) (by omega), c2 7 (by omega) (by omega), ?_, ?_, fun k _ => ?_, fun k hk => c6 k (by omega), fun k hk => c7 k (by omega)⟩
    · show y0.1 4 0 = _; rw [c3, updI_at, if_neg (by omega)]
    · show y0.1 5 0 = _; rw [c4, updI_at, if_neg (by omega)]
    · show y0.1 6 k = _; rw [c2 6 (by omega) (by omega)]
  have hr : rdR len (fun k => (y.1 1 k).toNatClampNeg) tx (ob_I y0 8 (fun _ => 0)) := by
    refine ⟨l1, l2, ?_, fun k hk => ?_⟩
    · show y0.1 0 0 = _; rw [c2 0 (by omega) (by omega)]; exact l3
    · obtain ⟨c, d1, d2, d3⟩ := l4 k hk
      have e : (y.1 1 k).toNatClampNeg = c := by rw [d3, nI_clN (by omega)]
      simp only
      rw [e]
      refine ⟨d1, d2, ?_⟩
      show y0.1 1 k = _
      rw [c2 1 (by omega) (by omega)]; exact d3
  have hI : rdI len (fun k => (y.1 1 k).toNatClampNeg) 0 (ob_I rd 3 (fun _ => 0)) tx w0 m0 (ob_I y0 8 (fun _ => 0)) := by
    refine ⟨hr, by omega, rfl, rfl, ⟨fun _ _ => 0, fun _ => 0, 1000, 0, fun _ => 0, fun _ => 0, fun _ => 0, okR_0, ⟨by omega, by omega⟩, a2, c5, ?_, by omega, ?_, fun k hk => absurd hk (by omega), b2⟩⟩
    · show y0.1 4 1 = _; rw [c3, updI_at, if_pos rfl]; rfl
    · show y0.1 5 1 = _; rw [c4, updI_at, if_pos rfl]; rfl
  obtain ⟨r', w', m', y', k, d⟩ := read_loop fu (by omega) len _ _ _ _ 0 0 fu fu (by omega) (by omega) (by omega) (by omega) hI
  have hcls : mX2_firstFault fu rd rw mn tx = bX2_firstFault_21 fu tx fu (ob_I rd 3 (fun _ => 0)) w0 m0 (nI 0) := by
    unfold mX2_firstFault
    rw [a1, bind_sm, b1, bind_sm, bnd_eq]
    rfl
  have href : mX6_readAll fu y = bX6_readAll_11 fu fu (ob_I y0 8 (fun _ => 0)) := by
    unfold mX6_readAll
    have c1' : mX6_noWorld fu y 4 1 = some y0 := c1
    rw [c1', bind_sm, bnd_eq]
  rw [hcls, href]
  rcases d with ⟨b, d1, d2, d3, d4⟩ | ⟨d1, d2, d3⟩
  · exact ⟨r', w', m', y', rdK_tr K0 k, Or.inl ⟨b, d1, d2, d3, d4⟩⟩
  · obtain ⟨V, M, K, cnt, Y, A, B, h1, h2, h3, h4, h5, h6, h7, h8, h9⟩ := d3
    obtain ⟨m2, f1, f2⟩ := p0_fillGaps fu hfu h9
    have oM : okM M := ⟨by have := h1.2.1; omega, by have := h1.2.2.1; omega, by have := h1.2.2.2; omega⟩
    have eW := p4_weigh fu (w := w') h3.2.2.1 h3.2.2.2.1 h3.2.2.2.2.1 oM h2
    refine ⟨r', ob_I w' 15 (fun _ => nI (rt K M)), m2, y', rdK_tr K0 k, Or.inr ⟨d1.trans ?_, d2, V, M, K, cnt, Y, A, B, h1, h2, ⟨h3.1, h3.2.1, h3.2.2.1, h3.2.2.2.1, h3.2.2.2.2.1, rfl, h3.2.2.2.2.2⟩, h4, h5, by omega, h7, h8, f2⟩⟩
    unfold bX2_firstFault_60
    rw [f1, bind_sm, eW, bind_sm]
theorem rdK_slot {y y' : ob_T} (h : rdK y y') {c : Nat} (hc : c < 3) {V : Nat → Nat → Nat} {M : Nat → Nat} (w : rfW y c V M) : rfW y' c V M := by
  obtain ⟨h1, h2, h3, h4, h5, h6, h7, h8⟩ := h
  refine ⟨fun n hn => ⟨fun f hf => ?_, ?_⟩, fun f hf => ?_⟩
  · rw [h7 _ (by omega)]; exact (w.1 n hn).1 f hf
  · rw [h7 _ (by omega)]; exact (w.1 n hn).2
  · rw [h8 _ (by omega)]; exact w.2 f hf
theorem rdK_mn {y y' v : ob_T} (h : rdK y y') (w : mnR v y) : mnR v y' := by
  obtain ⟨h1, h2, h3, h4, h5, h6, h7, h8⟩ := h
  obtain ⟨m, Y, A, B, m1, m2, m3, m4⟩ := w
  refine ⟨m, Y, A, B, m1, by rw [h5]; exact m2, fun k hk => ?_, m4⟩
  obtain ⟨a, b, c, d⟩ := m3 k hk
  exact ⟨a, by rw [h6 _ (by omega)]; exact b, by rw [h6 _ (by omega)]; exact c, by rw [h6 _ (by omega)]; exact d⟩
theorem Rq_K {n : Nat} {o tx rw mn nw k1 k2 y : ob_T} (h : Rq n o tx rw mn nw k1 k2 y) {rw' y' : ob_T} (k : rdK y y') (hy : ylR rw') : Rq (n + 1) o tx rw' mn nw k1 k2 y' := by
  obtain ⟨D, E0, E1, K, kc, oK, oN, cW, rW, rK, hkc, hk5, hk6, h0, h1, hT, hM, hY⟩ := h
  have k0 := k
  obtain ⟨a1, a2, a3, a4, a5, a6, a7, a8⟩ := k
  refine ⟨D, E0, E1, K, kc, oK, okN_mono oN (by omega), cW, rdK_slot k0 (by omega) rW, by rw [a4]; exact rK, hkc, hk5, by rw [a3]; exact hk6, fun h => ?_, fun h => ?_, txR_y hT a1 a2, rdK_mn k0 hM, hy⟩
  · obtain ⟨a, b, c⟩ := h0 h
    exact ⟨okN_mono a (by omega), b, rdK_slot k0 (by omega) c⟩
  · obtain ⟨a, b, c⟩ := h1 h
    exact ⟨okN_mono a (by omega), b, rdK_slot k0 (by omega) c⟩
theorem clW_yl {w : ob_T} {V : Nat → Nat → Nat} {M : Nat → Nat} {K : Nat} (h : clW w V M K) : ylR w := h.1.2.2.2
theorem st_fault (fu : Nat) (hfu : 1000 ≤ fu) : sx_fault fu Rl := by
  intro n z hn hR
  have hR0 : Rq n (z 0) (z 1) (z 3) (z 6) (z 7) (z 9) (z 10) (z 11) := hR
  obtain ⟨D, E0, E1, K, kc, oK, oN, cW, rW, rK, hkc, hk5, hk6, h0, h1, hT, hM, hY⟩ := hR
  obtain ⟨r', w', m', y', k, c⟩ := read_all fu hfu (mn := z 4) (z 2) hT hY
  unfold mX5_fault mX6_fault
  rcases c with ⟨b, b1, b2, b3, b4⟩ | ⟨b2, b3, V, M, K2, cnt, Y, A, B, c1, c2, c3, c4⟩
  · rw [b2, b3]
    exact ⟨_, _, rfl, rfl, rfl, Rq_K hR0 k b4⟩
  · rw [b2, b3]
    exact ⟨_, _, rfl, rfl, rfl, Rq_K hR0 k (clW_yl c3)⟩
theorem okR_N {V : Nat → Nat → Nat} {M : Nat → Nat} (h : okR V M) : okN 0 (V, M) := by
  have g : ∀ n, n < 8 → V n 3 ≤ 9999 ∧ V n 4 ≤ 9999000 := fun n hn => ⟨(h.1 n hn).2.2.2.1, (h.1 n hn).2.2.2.2.1⟩
  have g0 := g 0 (by omega)
  have g1 := g 1 (by omega)
  have g2 := g 2 (by omega)
  have g3 := g 3 (by omega)
  have g4 := g 4 (by omega)
  have g5 := g 5 (by omega)
  have g6 := g 6 (by omega)
  have g7 := g 7 (by omega)
  have m0 := h.2.1
  have m1 := h.2.2.1
  have m2 := h.2.2.2
  have tg : TG (V, M) ≤ 180000 := by unfold TG; simp only; omega
  have ts : TS (V, M) ≤ 180000000 := by unfold TS; simp only; omega
  refine ⟨⟨fun n hn => ?_, by omega, by omega, by show M 2 < 100000; omega⟩, by omega, by omega, by show M 2 ≤ 0; omega⟩
  obtain ⟨a, b, c, d, e, f, g, i, j, k⟩ := h.1 n hn
  exact ⟨a, b, c, f, g, i, j, fun q => by obtain ⟨k1, k2, k3, k4, k5⟩ := k q; exact ⟨k1, k2, k3, k4⟩⟩
theorem cpy100 (f g : Nat → Int32) {k : Nat} (h : k < 100) : va_cpy f g (0 : Int32).toNatClampNeg (0 : Int32).toNatClampNeg (100 : Int32).toNatClampNeg k = f k := by
  rw [show (0 : Int32).toNatClampNeg = 0 from rfl, show (100 : Int32).toNatClampNeg = 100 from rfl]
  unfold va_cpy
  rw [if_pos (by omega), show 0 + (k - 0) = k by omega]
theorem p0_copyFrom (fu : Nat) (w0 w1 : ob_T) : ∃ w', mX0_copyFrom fu w0 w1 = some w' ∧ ∀ k, k < 100 → w'.1 1 k = w1.1 1 k ∧ w'.1 2 k = w1.1 2 k := by
  refine ⟨_, rfl, fun k hk => ⟨?_, ?_⟩⟩
  · exact cpy100 _ _ hk
  · exact cpy100 _ _ hk
theorem lay_loop (fu : Nat) : ∀ (j : Nat), j ≤ 180 → ∀ (nn : Nat), j < nn → ∀ (y : ob_T), ∃ y', bX6_lay_44 fu nn y (nI (180 - j)) = Option.bind (mX6_realmMany fu (ob_I y' 7 (fun _ => 0)) 0) (fun (r2 : Int32) => some (r2, ob_I y' 7 (fun _ => 0))) ∧ y'.2 = y.2 ∧ (∀ f, f ≠ 6 → y'.1 f = y.1 f) ∧ ∀ k, y'.1 6 k = if 180 - j ≤ k ∧ k < 180 then y.1 6 (180 + k) else y.1 6 k := by
  intro j
  induction j with
  | zero =>
    intro _ nn hnn y
    obtain ⟨q, rfl⟩ : ∃ q, nn = q + 1 := ⟨nn - 1, by omega⟩
    refine ⟨y, ?_, rfl, fun _ _ => rfl, fun k => by rw [if_neg (by omega)]⟩
    rw [bX6_lay_44_s, if_pos (by decide), bnd_eq]
  | succ j ih =>
    intro hj nn hnn y
    obtain ⟨q, rfl⟩ : ∃ q, nn = q + 1 := ⟨nn - 1, by omega⟩
    have hk : 180 - (j + 1) < 180 := by omega
    have IH := ih (by omega) q (by omega)
    rw [show 180 - j = 180 - (j + 1) + 1 by omega] at IH
    generalize 180 - (j + 1) = k at hk IH
    obtain ⟨y', a1, a2, a3, a4⟩ := IH (ob_I y 6 (upd (y.1 6) k (y.1 6 (180 + k))))
    refine ⟨y', ?_, a2, fun f hf => ?_, fun i => ?_⟩
    · rw [bX6_lay_44_s]
      simp only [bnd_eq, l32_1, show (180 : Int32) = nI 180 from rfl, nI_addN]
      simp (disch := omega) only [↓ix_no0, ↓reduceIte, nI_clN, nI_leN]
      rw [if_neg (by omega)]
      exact a1
    · rw [a3 f hf]
      show (if f = 6 then _ else y.1 f) = _
      rw [if_neg hf]
    · rw [a4 i]
      show (if k + 1 ≤ i ∧ i < 180 then upd (y.1 6) k (y.1 6 (180 + k)) (180 + i) else upd (y.1 6) k (y.1 6 (180 + k)) i) = _
      rw [updI_at, updI_at, if_neg (show ¬ 180 + i = k by omega)]
      by_cases e : i = k
      · subst e
        rw [if_neg (by omega), if_pos rfl, if_pos (by omega)]
      · by_cases e2 : k + 1 ≤ i ∧ i < 180
        · rw [if_pos e2, if_pos (by omega)]
        · rw [if_neg e2, if_neg e, if_neg (by omega)]
theorem st_lay (fu : Nat) (hfu : 1000 ≤ fu) : sx_lay fu Rl := by
  intro n z hn hR
  have hR0 : Rq n (z 0) (z 1) (z 3) (z 6) (z 7) (z 9) (z 10) (z 11) := hR
  obtain ⟨D, E0, E1, K, kc, oK, oN, cW, rW, rK, hkc, hk5, hk6, h0, h1, hT, hM, hY⟩ := hR
  obtain ⟨r', w', m', y', k, c⟩ := read_all fu hfu (mn := z 4) (z 2) hT hY
  unfold mX5_lay mX6_lay
  rcases c with ⟨b, b1, b2, b3, b4⟩ | ⟨b2, b3, V, M, K2, cnt, Y, A, B, c1, c2, c3, c4, c5, c6, c7, c8, c9⟩
  · rw [b2, b3, bind_sm, bind_sm]
    simp only
    rw [if_neg (m4_nI (by omega)), if_neg (m4_nI (by omega))]
    exact ⟨_, _, rfl, rfl, rfl, Rq_K hR0 k b4⟩
  · rw [b2, b3, bind_sm, bind_sm]
    simp only
    rw [if_pos trivial, if_pos trivial]
    obtain ⟨nw, e1, e2⟩ := p4_copyFrom fu (z 7) w'
    obtain ⟨mn, f1, f2⟩ := p0_copyFrom fu (z 6) m'
    obtain ⟨y2, g1, g2, g3, g4⟩ := p6_copy fu (by omega) (a := 4) (b := 0) (by omega) (by omega) (by omega) y'
    have g1' : mX6_copy fu y' 4 0 = some y2 := g1
    have cN := agr_cl e2 c3
    rw [e1, f1, g1', bind_sm, bind_sm, bind_sm, if_neg (show ¬ ((1 : Int32) < 0 ∨ 2 ≤ ((1 : Int32)).toNatClampNeg) by decide), if_neg (show ¬ ((0 : Int32) < 0 ∨ 2 ≤ ((0 : Int32)).toNatClampNeg) by decide), bnd_eq, bnd_eq, bnd_eq, cN.1.1, bc_at, bind_sm]
    rw [show (0 : Int32).toNatClampNeg = 0 from rfl, show (1 : Int32).toNatClampNeg = 1 from rfl]
    obtain ⟨y3, i1, i2, i3, i4⟩ := lay_loop fu 180 (by omega) fu (by omega) (ob_I (ob_I y2 4 (upd (y2.1 4) 0 (y2.1 4 1))) 5 (upd ((ob_I y2 4 (upd (y2.1 4) 0 (y2.1 4 1))).1 5) 0 ((ob_I y2 4 (upd (y2.1 4) 0 (y2.1 4 1))).1 5 1)))
    rw [Nat.sub_self] at i1
    have r3 : rfW (ob_I y3 7 (fun _ => 0)) 0 V M := by
      unfold rfW
      show (∀ n, n < 8 → (∀ f, f < 8 → y3.2 2 _ = _) ∧ y3.2 2 _ = _) ∧ ∀ f, f < 3 → y3.2 3 _ = _
      rw [i2]
      exact g3 V M c4
    have oN0 := okR_N c1
    have hmany : mX6_realmMany fu (ob_I y3 7 (fun _ => 0)) 0 = some (nI (cn8 (sp_tm V 0) 8)) := p6_many fu (D := (V, M)) r3 oN0.1 (b := 0) (by omega) 8 (by omega) fu (by omega)
    rw [hmany, bind_sm] at i1
    have i1' : bX6_lay_44 fu fu (ob_I (ob_I y2 4 (upd (y2.1 4) 0 (y2.1 4 1))) 5 (upd ((ob_I y2 4 (upd (y2.1 4) 0 (y2.1 4 1))).1 5) 0 ((ob_I y2 4 (upd (y2.1 4) 0 (y2.1 4 1))).1 5 1))) 0 = some (nI (cn8 (sp_tm V 0) 8), ob_I y3 7 (fun _ => 0)) := i1
    rw [i1']
    refine ⟨_, _, rfl, rfl, ?_, ?_⟩
    · show nI (cn8 (sp_told V) 8) = nI (cn8 (sp_tm V 0) 8)
      exact congrArg nI (cn8_ext 8 (fun k hk => by simp [sp_tm, sp_told]))
    · obtain ⟨q1, q2, q3, q4, q5, q6, q7, q8⟩ := k
      show Rq (n + 1) (ob_I (z 0) 7 (fun _ => 0)) (z 1) w' mn nw (z 9) (z 10) (ob_I y3 7 (fun _ => 0))
      refine ⟨(V, M), (V, M), (V, M), K2, 0, c2, okN_mono oN0 (by omega), cN, r3, ?_, by omega, rfl, rfl, fun h => absurd h (by omega), fun h => absurd h (by omega), ?_, ?_, clW_yl c3⟩
      · show y3.1 4 0 = _
        rw [i3 4 (by omega)]
        show upd (y2.1 4) 0 (y2.1 4 1) 0 = _
        rw [updI_at, if_pos rfl, g2]
        exact c5
      · refine txR_y hT ?_ ?_
        · show y3.1 0 = _
          rw [i3 0 (by omega)]
          show y2.1 0 = _
          rw [g2, q1]
        · show y3.1 1 = _
          rw [i3 1 (by omega)]
          show y2.1 1 = _
          rw [g2, q2]
      · refine ⟨cnt, Y, A, B, c6, ?_, fun k hk => ?_, fun r hr => ?_⟩
        · show y3.1 5 0 = _
          rw [i3 5 (by omega)]
          show upd (y2.1 5) 0 (y2.1 5 1) 0 = _
          rw [updI_at, if_pos rfl, g2]
          exact c7
        · obtain ⟨a, b, c, d⟩ := c8 k hk
          have h6 : ∀ i, i < 180 → (ob_I y3 7 (fun _ => 0)).1 6 i = y'.1 6 (180 + i) := by
            intro i hi
            show y3.1 6 i = _
            rw [i4 i, if_pos (by omega)]
            show y2.1 6 (180 + i) = _
            rw [g2]
          refine ⟨a, ?_, ?_, ?_⟩
          · rw [h6 _ (by omega), show 180 + (0 + 3 * k) = 180 + 3 * k by omega]; exact b
          · rw [h6 _ (by omega), show 180 + (0 + 3 * k + 1) = 180 + 3 * k + 1 by omega]; exact c
          · rw [h6 _ (by omega), show 180 + (0 + 3 * k + 2) = 180 + 3 * k + 2 by omega]; exact d
        · rw [(f2 r hr).1, (f2 r hr).2]
          exact c9 r hr
