/-! ===== STEPS: years, looks ahead ===== -/
theorem st_year (fu : Nat) (hfu : 100000 ≤ fu) : sx_year fu Rl := by
  intro n z hn hR
  have hR0 : Rq n (z 0) (z 1) (z 3) (z 6) (z 7) (z 9) (z 10) (z 11) := hR
  obtain ⟨D, E0, E1, K, kc, oK, oN, cW, rW, rK, hkc, hk5, hk6, h0, h1, hT, hM, hY⟩ := hR
  obtain ⟨D', c, v', w', y', g0, g1, g2, g3, g4, g5, g6, g7⟩ := yr_all fu hfu oK (n := n) (by omega) oN (v := z 5) cW rW rK hM
  unfold mX5_year mX6_year
  rw [g1, g2]
  refine ⟨_, _, rfl, rfl, rfl, ?_⟩
  exact Rq_D hR0 rK oK g3 g4 g5 g6.1 (fun c V M hc _ h => rfY_slot g6 hc h)
/-- a world ahead, in both -/
def ahd (K n : Nat) (R : Nat) (mn tr y1 y : ob_T) : Prop := ∃ D, okN n D ∧ clW tr D.1 D.2 K ∧ rfW y 0 D.1 D.2 ∧ y.1 4 0 = nI K ∧ mnR mn y ∧ rfY y1 y ∧ ∀ k, k < 8 → R.testBit k = true → D.1 k 0 ≠ 0
theorem ahd_year (fu : Nat) (hfu : 100000 ≤ fu) {K n R : Nat} (oK : okK K) (hn : n ≤ 700) {mn tr y1 y : ob_T} (v : ob_T) (h : ahd K n R mn tr y1 y) : ∃ c v' tr' y', mX1_passYear fu v tr mn = some (nI c, v', tr') ∧ mX6_goYear fu y = some (nI c, y') ∧ ahd K (n + 1) R mn tr' y1 y' := by
  obtain ⟨D, oN, cW, rW, rK, hM, hY, hR⟩ := h
  obtain ⟨D', c, v', w', y', g0, g1, g2, g3, g4, g5, g6, g7⟩ := yr_all fu hfu oK hn oN (v := v) cW rW rK hM
  exact ⟨c, v', w', y', g1, g2, D', g3, g4, g5, by rw [g6.1 4 (by omega)]; exact rK, mnR_y hM (g6.1 5 (by omega)) (g6.1 6 (by omega)), rfY_tr hY g6, fun k hk hb => by rw [g7 k]; exact hR k hk hb⟩
theorem ahd_start (fu : Nat) (hfu : 100 ≤ fu) {n R : Nat} {o tx rw mn nw k1 k2 y : ob_T} (tr : ob_T) (h : Rq n o tx rw mn nw k1 k2 y) (hR : ∀ D K, okK K → okN n D → clW nw D.1 D.2 K → ∀ k, k < 8 → R.testBit k = true → D.1 k 0 ≠ 0) : ∃ K tr' y1, okK K ∧ mX4_copyFrom fu tr nw = some tr' ∧ mX6_copy fu y 0 3 = some y1 ∧ ahd K n R mn tr' y1 y1 ∧ ∀ y2, rfY y1 y2 → ∃ y3, mX6_copy fu y2 3 0 = some y3 ∧ Rq (n + 1) o tx rw mn nw k1 k2 y3 := by
  have hR0 := h
  obtain ⟨D, E0, E1, K, kc, oK, oN, cW, rW, rK, hkc, hk5, hk6, h0, h1, hT, hM, hY⟩ := h
  obtain ⟨t1, a1, a2⟩ := p4_copyFrom fu tr nw
  obtain ⟨y1, b1, b2, b3, b4, b5⟩ := p6_look fu hfu y
  refine ⟨K, t1, y1, oK, a1, b1, ⟨D, oN, agr_cl a2 cW, b3 _ _ rW, by rw [b2]; exact rK, mnR_y hM (by rw [b2]) (by rw [b2]), rfY_rf, hR D K oK oN cW⟩, fun y2 hy => ?_⟩
  obtain ⟨y3, c1, c2⟩ := b5 y2 hy
  exact ⟨y3, c1, Rq_Q hR0 c2⟩
theorem m4_nI {i : Nat} (h : i < 1000) : ¬ nI i = (-4 : Int32) := mn_I_no h
/-- ahead -/
theorem ahead_loop (fu : Nat) (hfu : 100000 ≤ fu) {K : Nat} (oK : okK K) (o nw mn y1 : ob_T) (n0 m : Nat) (hn0 : n0 < 512) (hm : m ≤ 100) : ∀ (j : Nat), j ≤ m → ∀ (nn nn' : Nat) (v tr y : ob_T), j < nn → j < nn' → ahd K (n0 + (m - j)) 0 mn tr y1 y → ∃ (c : Int32) (v' tr' y2 : ob_T), bX5_ahead_22 fu o nw mn nn v tr (nI m) (nI (m - j + 1)) = some (c, v', tr') ∧ bX6_ahead_17 fu nn' y (nI m) (nI (m - j)) = Option.bind (mX6_copy fu y2 3 0) (fun r2 => some (c, r2)) ∧ rfY y1 y2 := by
  intro j
  induction j with
  | zero =>
    intro _ nn nn' v tr y hnn hnn' h
    obtain ⟨q, rfl⟩ : ∃ q, nn = q + 1 := ⟨nn - 1, by omega⟩
    obtain ⟨q', rfl⟩ : ∃ q, nn' = q + 1 := ⟨nn' - 1, by omega⟩
    obtain ⟨D, oN, cW, rW, rK, hM, hY, hR⟩ := h
    refine ⟨nI (rt K D.2), v, tr, y, ?_, ?_, hY⟩
    · rw [bX5_ahead_22_s, if_pos (by rw [nI_ltN (by omega) (by omega)]; omega), cW.2.2.2.2.2.1]
    · rw [bX6_ahead_17_s, if_pos (by rw [nI_leN (by omega) (by omega)]; omega), p6_ratio fu rW rK (okD_M oN.1) oK, bind_sm, lN_toI]
  | succ j ih =>
    intro hj nn nn' v tr y hnn hnn' h
    obtain ⟨q, rfl⟩ : ∃ q, nn = q + 1 := ⟨nn - 1, by omega⟩
    obtain ⟨q', rfl⟩ : ∃ q, nn' = q + 1 := ⟨nn' - 1, by omega⟩
    obtain ⟨c, v', tr', y', g1, g2, g3⟩ := ahd_year fu hfu oK (by omega) v h
    rw [show n0 + (m - (j + 1)) + 1 = n0 + (m - j) by omega] at g3
    obtain ⟨c2, v2, t2, y2, e1, e2, e3⟩ := ih (by omega) q q' v' tr' y' (by omega) (by omega) g3
    refine ⟨c2, v2, t2, y2, ?_, ?_, e3⟩
    · rw [bX5_ahead_22_s, if_neg (by rw [nI_ltN (by omega) (by omega)]; omega), g1, bind_sm]
      simp only [bnd_eq, l32_1, nI_addN]
      rw [show m - (j + 1) + 1 + 1 = m - j + 1 by omega]
      exact e1
    · rw [bX6_ahead_17_s, if_neg (by rw [nI_leN (by omega) (by omega)]; omega), g2, bind_sm]
      simp only [bnd_eq, l32_1, nI_addN]
      rw [show m - (j + 1) + 1 = m - j by omega]
      exact e2
theorem st_ahead (fu : Nat) (hfu : 100000 ≤ fu) : sx_ahead fu Rl := by
  intro n z p1 hn hR
  have hR0 : Rq n (z 0) (z 1) (z 3) (z 6) (z 7) (z 9) (z 10) (z 11) := hR
  unfold mX5_ahead mX6_ahead
  rw [p5_yr, p6_yr, bind_sm, bind_sm]
  rcases isYr_c p1 with h | ⟨h, m, m1, m2, rfl⟩
  · rw [h, if_pos rfl, if_pos rfl]; exact ⟨_, _, rfl, rfl, rfl, Rq_s hR0⟩
  rw [h, if_neg (show ¬ ((1 : Int32) = 0) by decide), if_neg (show ¬ ((1 : Int32) = 0) by decide)]
  obtain ⟨K, tr, y1, oK, a1, a2, a3, a4⟩ := ahd_start fu (by omega) (R := 0) (z 8) hR0 (fun D K _ _ _ k _ hb => by simp at hb)
  rw [a1, a2, bind_sm, bind_sm]
  obtain ⟨c, v', tr', y2, e1, e2, e3⟩ := ahead_loop fu hfu oK (z 0) (z 7) (z 6) y1 n m hn m2 m (Nat.le_refl _) fu fu (z 5) tr y1 (by omega) (by omega) (by rw [Nat.sub_self]; exact a3)
  rw [Nat.sub_self] at e1 e2
  obtain ⟨y3, f1, f2⟩ := a4 y2 e3
  rw [f1, bind_sm] at e2
  exact ⟨_, _, e1, e2, rfl, f2⟩
/-- gone, stopped, free: the first year of which something holds. P is what is looked for, at the class and at the reference alike -/
theorem st_free_loop (fu : Nat) (hfu : 100000 ≤ fu) {K : Nat} (oK : okK K) (o nw mn y1 : ob_T) (n0 m : Nat) (hn0 : n0 < 512) (hm : m ≤ 100) : ∀ (j : Nat), j ≤ m → ∀ (nn nn' : Nat) (v tr y : ob_T), j < nn → j + 1 < nn' → ahd K (n0 + (m - j)) 0 mn tr y1 y → ∃ (c : Int32) (v' tr' y2 : ob_T), bX5_free_22 fu o nw mn nn v tr (nI m) (nI (m - j + 1)) = some (c, v', tr') ∧ bX6_free_20 fu nn' y (nI m) (-4) (nI (m - j + 1)) = bX6_free_55 fu y2 c ∧ rfY y1 y2 := by
  intro j
  induction j with
  | zero =>
    intro _ nn nn' v tr y hnn hnn' h
    obtain ⟨q, rfl⟩ : ∃ q, nn = q + 1 := ⟨nn - 1, by omega⟩
    obtain ⟨q', rfl⟩ : ∃ q, nn' = q + 1 := ⟨nn' - 1, by omega⟩
    obtain ⟨D, oN, cW, rW, rK, hM, hY, hR⟩ := h
    refine ⟨-4, v, tr, y, ?_, ?_, hY⟩
    · rw [bX5_free_22_s, if_pos (by rw [nI_ltN (by omega) (by omega)]; omega)]
    · rw [bX6_free_20_s, if_pos (by rw [nI_ltN (by omega) (by omega)]; omega)]
  | succ j ih =>
    intro hj nn nn' v tr y hnn hnn' h
    obtain ⟨q, rfl⟩ : ∃ q, nn = q + 1 := ⟨nn - 1, by omega⟩
    obtain ⟨q', rfl⟩ : ∃ q, nn' = q + 2 := ⟨nn' - 2, by omega⟩
    obtain ⟨c, v', tr', y', g1, g2, g3⟩ := ahd_year fu hfu oK (by omega) v h
    rw [show n0 + (m - (j + 1)) + 1 = n0 + (m - j) by omega] at g3
    have g3' := g3
    obtain ⟨D, oN, cW, rW, rK, hM, hY, hR⟩ := g3
    have hH := p4_holders fu (by omega) cW oN.1
    have hH6 := p6_held fu (by omega) rW rK (okD_V oN.1) (okD_M oN.1) oK
    rw [bX5_free_22_s, if_neg (by rw [nI_ltN (by omega) (by omega)]; omega), g1, bind_sm]
    rw [bX6_free_20_s, if_neg (by rw [nI_ltN (by omega) (by omega)]; omega), if_pos rfl, g2, bind_sm]
    simp only
    rw [hH, hH6, bind_sm, bind_sm]
    unfold bX6_free_48
    simp only [bnd_eq, l32_1, nI_addN]
    by_cases e : nI (bt8 (sp_hold D.1 D.2 K) 8) = 0
    · rw [if_pos e, if_pos e]
      refine ⟨_, _, _, y', rfl, ?_, hY⟩
      rw [bX6_free_20_s]
      by_cases e2 : nI m < nI (m - (j + 1) + 1 + 1)
      · rw [if_pos e2]
      · rw [if_neg e2, if_neg (m4_nI (by omega))]
    · rw [if_neg e, if_neg e, show m - (j + 1) + 1 + 1 = m - j + 1 by omega]
      exact ih (by omega) q (q' + 1) v' tr' y' (by omega) (by omega) g3'
theorem st_free (fu : Nat) (hfu : 100000 ≤ fu) : sx_free fu Rl := by
  intro n z p1 hn hR
  have hR0 : Rq n (z 0) (z 1) (z 3) (z 6) (z 7) (z 9) (z 10) (z 11) := hR
  unfold mX5_free mX6_free
  rw [p5_yr, p6_yr, bind_sm, bind_sm]
  rcases isYr_c p1 with h | ⟨h, m, m1, m2, rfl⟩
  · rw [h, if_pos rfl, if_pos rfl]; exact ⟨_, _, rfl, rfl, rfl, Rq_s hR0⟩
  rw [h, if_neg (show ¬ ((1 : Int32) = 0) by decide), if_neg (show ¬ ((1 : Int32) = 0) by decide)]
  obtain ⟨K, tr, y1, oK, a1, a2, a3, a4⟩ := ahd_start fu (by omega) (R := 0) (z 8) hR0 (fun D K _ _ _ k _ hb => by simp at hb)
  rw [a1, a2, bind_sm, bind_sm]
  obtain ⟨c, v', tr', y2, e1, e2, e3⟩ := st_free_loop fu hfu oK (z 0) (z 7) (z 6) y1 n m hn m2 m (Nat.le_refl _) fu fu (z 5) tr y1 (by omega) (by omega) (by rw [Nat.sub_self]; exact a3)
  rw [Nat.sub_self] at e1 e2
  obtain ⟨y3, f1, f2⟩ := a4 y2 e3
  unfold bX6_free_55 at e2
  rw [f1, bind_sm] at e2
  exact ⟨_, _, e1, e2, rfl, f2⟩
theorem st_stopped_loop (fu : Nat) (hfu : 100000 ≤ fu) {K : Nat} (oK : okK K) (o nw mn y1 : ob_T) (n0 m : Nat) (hn0 : n0 < 512) (hm : m ≤ 100) {r : Nat} (hr : r < 8) : ∀ (j : Nat), j ≤ m → ∀ (nn nn' : Nat) (v tr y : ob_T), j < nn → j + 1 < nn' → ahd K (n0 + (m - j)) 0 mn tr y1 y → ∃ (c : Int32) (v' tr' y2 : ob_T), bX5_stopped_47 fu o nw mn nn v tr (nI r) (nI m) (nI (m - j + 1)) = some (c, v', tr') ∧ bX6_stopped_40 fu nn' y (nI r) (nI m) (-4) (nI (m - j + 1)) = bX6_stopped_78 fu y2 c ∧ rfY y1 y2 := by
  intro j
  induction j with
  | zero =>
    intro _ nn nn' v tr y hnn hnn' h
    obtain ⟨q, rfl⟩ : ∃ q, nn = q + 1 := ⟨nn - 1, by omega⟩
    obtain ⟨q', rfl⟩ : ∃ q, nn' = q + 1 := ⟨nn' - 1, by omega⟩
    obtain ⟨D, oN, cW, rW, rK, hM, hY, hR⟩ := h
    refine ⟨-4, v, tr, y, ?_, ?_, hY⟩
    · rw [bX5_stopped_47_s, if_pos (by rw [nI_ltN (by omega) (by omega)]; omega)]
    · rw [bX6_stopped_40_s, if_pos (by rw [nI_ltN (by omega) (by omega)]; omega)]
  | succ j ih =>
    intro hj nn nn' v tr y hnn hnn' h
    obtain ⟨q, rfl⟩ : ∃ q, nn = q + 1 := ⟨nn - 1, by omega⟩
    obtain ⟨q', rfl⟩ : ∃ q, nn' = q + 2 := ⟨nn' - 2, by omega⟩
    obtain ⟨c, v', tr', y', g1, g2, g3⟩ := ahd_year fu hfu oK (by omega) v h
    rw [show n0 + (m - (j + 1)) + 1 = n0 + (m - j) by omega] at g3
    have g3' := g3
    obtain ⟨D, oN, cW, rW, rK, hM, hY, hR⟩ := g3
    have hH := p4_mints fu cW hr
    have hH6 := p6_mints fu rW (okD_V oN.1) hr
    rw [bX5_stopped_47_s, if_neg (by rw [nI_ltN (by omega) (by omega)]; omega), g1, bind_sm]
    rw [bX6_stopped_40_s, if_neg (by rw [nI_ltN (by omega) (by omega)]; omega), if_pos rfl, g2, bind_sm]
    simp only
    rw [hH, hH6, bind_sm, bind_sm]
    unfold bX6_stopped_71
    simp only [bnd_eq, l32_1, nI_addN]
    by_cases e : D.1 r 6 = 0
    · rw [if_pos e, if_pos rfl]
      refine ⟨_, _, _, y', rfl, ?_, hY⟩
      rw [if_pos rfl, bX6_stopped_40_s]
      by_cases e2 : nI m < nI (m - (j + 1) + 1 + 1)
      · rw [if_pos e2]
      · rw [if_neg e2, if_neg (m4_nI (by omega))]
    · rw [if_neg e, if_neg (by decide), if_neg (by decide), show m - (j + 1) + 1 + 1 = m - j + 1 by omega]
      exact ih (by omega) q (q' + 1) v' tr' y' (by omega) (by omega) g3'
theorem st_stopped (fu : Nat) (hfu : 100000 ≤ fu) : sx_stopped fu Rl := by
  intro n z p1 p2 hn hR
  have hR0 : Rq n (z 0) (z 1) (z 3) (z 6) (z 7) (z 9) (z 10) (z 11) := hR
  obtain ⟨D, E0, E1, K, kc, oK, oN, cW, rW, rK, hkc, hk5, hk6, h0, h1, hT, hM, hY⟩ := hR
  have od := oN.1
  unfold mX5_stopped mX6_stopped
  have z1 : ¬ ((1 : Int32) = 0) := by decide
  rcases both_has fu cW rW od p1 with ⟨a, b⟩ | ⟨a, b, r, hr, rfl, e0⟩
  · rw [a, b]; exact ⟨_, _, rfl, rfl, rfl, Rq_s hR0⟩
  rw [a, b, bind_sm, bind_sm, if_neg z1, if_neg z1, p5_yr, p6_yr, bind_sm, bind_sm]
  rcases isYr_c p2 with h | ⟨h, m, m1, m2, rfl⟩
  · rw [h, if_pos rfl, if_pos rfl]; exact ⟨_, _, rfl, rfl, rfl, Rq_s hR0⟩
  rw [h, if_neg z1, if_neg z1, p4_mints fu cW hr, p6_mints fu rW (okD_V od) hr, bind_sm, bind_sm]
  by_cases e6 : D.1 r 6 = 0
  · rw [if_pos e6, if_pos rfl, if_pos rfl]; exact ⟨_, _, rfl, rfl, rfl, Rq_s hR0⟩
  rw [if_neg e6, if_neg z1, if_neg z1]
  obtain ⟨K', tr, y1, oK', a1, a2, a3, a4⟩ := ahd_start fu (by omega) (R := 0) (z 8) hR0 (fun D K _ _ _ k _ hb => by simp at hb)
  rw [a1, a2, bind_sm, bind_sm]
  obtain ⟨c, v', tr', y2, e1, e2, e3⟩ := st_stopped_loop fu hfu oK' (z 0) (z 7) (z 6) y1 n m hn m2 hr m (Nat.le_refl _) fu fu (z 5) tr y1 (by omega) (by omega) (by rw [Nat.sub_self]; exact a3)
  rw [Nat.sub_self] at e1 e2
  obtain ⟨y3, f1, f2⟩ := a4 y2 e3
  unfold bX6_stopped_78 at e2
  rw [f1, bind_sm] at e2
  exact ⟨_, _, e1, e2, rfl, f2⟩
theorem st_gone_loop (fu : Nat) (hfu : 100000 ≤ fu) {K : Nat} (oK : okK K) (o nw mn y1 : ob_T) (n0 m : Nat) (hn0 : n0 < 512) (hm : m ≤ 100) {r mt : Nat} (hr : r < 8) (hmt : mt ≤ 1) : ∀ (j : Nat), j ≤ m → ∀ (nn nn' : Nat) (v tr y : ob_T), j < nn → j + 1 < nn' → ahd K (n0 + (m - j)) (2 ^ r) mn tr y1 y → ∃ (c : Int32) (v' tr' y2 : ob_T), bX5_gone_41 fu o nw mn nn v tr (nI r) (nI mt) (nI m) (nI (m - j + 1)) = some (c, v', tr') ∧ bX6_gone_40 fu nn' y (nI r) (nI mt) (nI m) (-4) (nI (m - j + 1)) = bX6_gone_137 fu y2 c ∧ rfY y1 y2 := by
  intro j
  induction j with
  | zero =>
    intro _ nn nn' v tr y hnn hnn' h
    obtain ⟨q, rfl⟩ : ∃ q, nn = q + 1 := ⟨nn - 1, by omega⟩
    obtain ⟨q', rfl⟩ : ∃ q, nn' = q + 1 := ⟨nn' - 1, by omega⟩
    obtain ⟨D, oN, cW, rW, rK, hM, hY, hR⟩ := h
    refine ⟨-4, v, tr, y, ?_, ?_, hY⟩
    · rw [bX5_gone_41_s, if_pos (by rw [nI_ltN (by omega) (by omega)]; omega)]
    · rw [bX6_gone_40_s, if_pos (by rw [nI_ltN (by omega) (by omega)]; omega)]
  | succ j ih =>
    intro hj nn nn' v tr y hnn hnn' h
    obtain ⟨q, rfl⟩ : ∃ q, nn = q + 1 := ⟨nn - 1, by omega⟩
    obtain ⟨q', rfl⟩ : ∃ q, nn' = q + 2 := ⟨nn' - 2, by omega⟩
    obtain ⟨c, v', tr', y', g1, g2, g3⟩ := ahd_year fu hfu oK (by omega) v h
    rw [show n0 + (m - (j + 1)) + 1 = n0 + (m - j) by omega] at g3
    have g3' := g3
    obtain ⟨D, oN, cW, rW, rK, hM, hY, hR⟩ := g3
    have e0 : D.1 r 0 ≠ 0 := hR r hr (Nat.testBit_two_pow_self)
    obtain ⟨o0, o1, o2, o3, o4, o5, o6, o7, o8, o9⟩ := okD_V oN.1 r hr
    have v0 := rf_at0 rW hr
    have v3 := rf_at rW hr (show 3 < 8 by omega)
    have v4 := rf_at rW hr (show 4 < 8 by omega)
    have G3 := p4_hasGold fu cW (okD_V oN.1) hr e0
    have G4 := p4_hasSilver fu cW (okD_V oN.1) hr e0
    have IH := ih (by omega) q (q' + 1) v' tr' y' (by omega) (by omega) g3'
    have fin : bX6_gone_40 fu (q' + 1) y' (nI r) (nI mt) (nI m) (nI (m - (j + 1) + 1)) (nI (m - (j + 1) + 1 + 1)) = bX6_gone_137 fu y' (nI (m - (j + 1) + 1)) := by
      rw [bX6_gone_40_s]
      by_cases e2 : nI m < nI (m - (j + 1) + 1 + 1)
      · rw [if_pos e2]
      · rw [if_neg e2, if_neg (m4_nI (by omega))]
    rw [show m - j + 1 = m - (j + 1) + 1 + 1 by omega] at IH
    rw [bX5_gone_41_s, if_neg (by rw [nI_ltN (by omega) (by omega)]; omega), g1, bind_sm]
    rw [bX6_gone_40_s, if_neg (show ¬ nI m < nI (m - (j + 1) + 1) by rw [nI_ltN (by omega) (by omega)]; omega), if_pos (show (-4 : Int32) = -4 from rfl), g2, bind_sm]
    unfold bX6_gone_115 bX6_gone_129 bX5_gone_95
    simp only [bnd_eq, l32_0, l32_1, l32_3, l32_4, l32_9, nI_mulN, nI_addN, l64_0] at *
    simp (disch := omega) only [↓ix_no, ↓reduceIte, nI_clN, v0, v3, v4, G3, G4, bind_sm, lg_eqN, lg_geN, lN_eqN, lN_leN, nI_eqN]
    have z1 : ¬ (nI 1 = nI 0) := by decide
    by_cases em : mt = 0
    · rw [if_pos em, if_pos em]
      by_cases e : D.1 r 3 = 0
      · rw [if_pos e, if_pos e, if_pos rfl]
        exact ⟨_, _, _, y', rfl, fin, hY⟩
      · rw [if_neg e, if_neg e, if_neg z1]
        exact IH
    · rw [if_neg em, if_neg em]
      by_cases e : D.1 r 4 < D.1 r 0
      · rw [if_pos e, if_neg (Nat.not_le.mpr e), if_pos rfl]
        exact ⟨_, _, _, y', rfl, fin, hY⟩
      · rw [if_neg e, if_pos (Nat.not_lt.mp e), if_neg z1]
        exact IH
theorem st_gone (fu : Nat) (hfu : 100000 ≤ fu) : sx_gone fu Rl := by
  intro n z p1 p2 p3 hn hR
  have hR0 : Rq n (z 0) (z 1) (z 3) (z 6) (z 7) (z 9) (z 10) (z 11) := hR
  obtain ⟨D, E0, E1, K, kc, oK, oN, cW, rW, rK, hkc, hk5, hk6, h0, h1, hT, hM, hY⟩ := hR
  have od := oN.1
  unfold mX5_gone mX6_gone
  have z1 : ¬ ((1 : Int32) = 0) := by decide
  rcases both_has fu cW rW od p1 with ⟨a, b⟩ | ⟨a, b, r, hr, rfl, e0⟩
  · rw [a, b]; exact ⟨_, _, rfl, rfl, rfl, Rq_s hR0⟩
  rw [a, b, bind_sm, bind_sm, if_neg z1, if_neg z1, p5_01, p6_01, bind_sm, bind_sm]
  have hmt : is01 p2 = 0 ∨ (is01 p2 = 1 ∧ ∃ mt, mt ≤ 1 ∧ p2 = nI mt) := by
    rcases is01_c p2 with h | ⟨h, e | e⟩
    · exact Or.inl h
    · exact Or.inr ⟨h, 0, by omega, e⟩
    · exact Or.inr ⟨h, 1, by omega, e⟩
  rcases hmt with h | ⟨h, mt, hmt, rfl⟩
  · rw [h, if_pos rfl, if_pos rfl]; exact ⟨_, _, rfl, rfl, rfl, Rq_s hR0⟩
  rw [h, if_neg z1, if_neg z1, p5_yr, p6_yr, bind_sm, bind_sm]
  rcases isYr_c p3 with h | ⟨h, m, m1, m2, rfl⟩
  · rw [h, if_pos rfl, if_pos rfl]; exact ⟨_, _, rfl, rfl, rfl, Rq_s hR0⟩
  rw [h, if_neg z1, if_neg z1]
  obtain ⟨t1, a1, a2⟩ := p4_copyFrom fu (z 8) (z 7)
  obtain ⟨y1, b1, b2, b3, b4, b5⟩ := p6_look fu (by omega) (z 11)
  rw [a1, b1, bind_sm, bind_sm]
  have a3 : ahd K n (2 ^ r) (z 6) t1 y1 y1 := ⟨D, oN, agr_cl a2 cW, b3 _ _ rW, by rw [b2]; exact rK, mnR_y hM (by rw [b2]) (by rw [b2]), rfY_rf, fun k hk hb => by
    rw [Nat.testBit_two_pow] at hb
    have : r = k := of_decide_eq_true hb
    subst this; exact e0⟩
  obtain ⟨c, v', tr', y2, e1, e2, e3⟩ := st_gone_loop fu hfu oK (z 0) (z 7) (z 6) y1 n m hn m2 hr hmt m (Nat.le_refl _) fu fu (z 5) t1 y1 (by omega) (by omega) (by rw [Nat.sub_self]; exact a3)
  rw [Nat.sub_self] at e1 e2
  obtain ⟨y3, f1, f2⟩ := b5 y2 e3
  unfold bX6_gone_137 at e2
  rw [f1, bind_sm] at e2
  exact ⟨_, _, e1, e2, rfl, Rq_Q hR0 f2⟩
