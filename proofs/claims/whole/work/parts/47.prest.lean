/-! ===== PURE: the reference's rest, a round ===== -/
theorem p6_rest_round (fu : Nat) {K : Nat} (oK : okK K) (k4 : ob_T → Int32 → Int32 → Option (Int32 × ob_T)) (b : Nat) : ∀ (j : Nat), j ≤ 8 → ∀ (nn : Nat), j < nn → ∀ (s : sp_S) (y : ob_T), okD s.1 → rfW y 0 s.1.1 s.1.2 → y.1 4 0 = nI K → b + s.2.2 ≤ 200000 → (∀ n, 8 - j ≤ n → n < 8 → 0 < s.2.1 n) →
    ∃ y', rfK y y' ∧ (b + (sp_from K j s).2.2 ≤ 200000 → bX6_goRest_12 fu k4 nn y (nI (b + s.2.2)) (nI (fl s.2.2)) (nI (8 - j)) = k4 y' (nI (b + (sp_from K j s).2.2)) (nI (fl (sp_from K j s).2.2)) ∧ rfW y' 0 (sp_from K j s).1.1 (sp_from K j s).1.2) ∧ (200000 < b + (sp_from K j s).2.2 → bX6_goRest_12 fu k4 nn y (nI (b + s.2.2)) (nI (fl s.2.2)) (nI (8 - j)) = some (-5, y') ∧ ∃ D' : sp_D, okD D' ∧ rfW y' 0 D'.1 D'.2) := by
  intro j
  induction j with
  | zero =>
    intro _ nn hnn s y od cw cK hb hp
    obtain ⟨q, rfl⟩ : ∃ q, nn = q + 1 := ⟨nn - 1, by omega⟩
    refine ⟨y, rfK_rf, fun _ => ⟨by rw [bX6_goRest_12_s]; rfl, cw⟩, fun h => ?_⟩
    have h2 : 200000 < b + s.2.2 := h
    omega
  | succ j ih =>
    intro hj nn hnn s y od cw cK hb hp
    obtain ⟨q, rfl⟩ : ∃ q, nn = q + 1 := ⟨nn - 1, by omega⟩
    have hn : 8 - (j + 1) < 8 := by omega
    generalize hk : 8 - (j + 1) = n at hn hp
    have hn1 : n + 1 = 8 - j := by omega
    have oV := okD_V od
    have hgt := hp n (by omega) hn
    have hh : sp_mv s.1.1 s.1.2 K n = sp_h K n s := by unfold sp_h; rw [if_pos hgt]
    rw [bX6_goRest_12_s, l32_8, if_neg (by rw [nI_leN (by omega) (by omega)]; omega), p6_movesOf fu cw cK oV (okD_M od) oK hn, bind_sm, hh]
    have hle := sp_h_le (K := K) (n := n) (s := s)
    unfold bX6_goRest_51
    simp only [bnd_eq, l32_0, l32_1, nI_addN]
    by_cases e : sp_h K n s = 0
    · rw [e, if_pos (by decide)]
      have e1 : sp_one K n s = s := by unfold sp_one; rw [if_pos e]
      have e2 : sp_from K (j + 1) s = sp_from K j s := by show sp_from K j (sp_one K (8 - (j + 1)) s) = _; rw [hk, e1]
      rw [e2, hn1]
      exact ih (by omega) q (by omega) s y od cw cK hb (fun i h1 h2 => hp i (by omega) h2)
    · rw [if_neg (by rw [nI_leN (by omega) (by omega)]; omega)]
      have hcan := sp_h_can (K := K) (n := n) (s := s) e
      have e1 : sp_one K n s = (sp_gD s.1 n (sp_h K n s), (fun i => if i = n then s.2.1 n - 1 else s.2.1 i), s.2.2 + 1) := by unfold sp_one; rw [if_neg e]
      have e2 : sp_from K (j + 1) s = sp_from K j (sp_gD s.1 n (sp_h K n s), (fun i => if i = n then s.2.1 n - 1 else s.2.1 i), s.2.2 + 1) := by show sp_from K j (sp_one K (8 - (j + 1)) s) = _; rw [hk, e1]
      have hc := sp_from_c (K := K) j (sp_gD s.1 n (sp_h K n s), (fun i => if i = n then s.2.1 n - 1 else s.2.1 i), s.2.2 + 1)
      rw [e2]
      have hc1 := hc.1
      simp only at hc1
      by_cases eb : b + s.2.2 = 200000
      · refine ⟨y, rfK_rf, fun h => absurd h (by omega), fun _ => ⟨?_, s.1, od, cw⟩⟩
        rw [eb, if_pos (by decide)]
      · rw [if_neg (by rw [show (200000 : Int32) = nI 200000 from rfl, nI_eqN (by omega) (by omega)]; exact eb)]
        have od2 : okD (sp_gD s.1 n (sp_h K n s)) := okD_go od hn hcan
        obtain ⟨y2, E, k2, r2⟩ := p6_moveSack fu cw oV (okD_M od) hn hcan
        rw [E, bind_sm, hn1]
        obtain ⟨y', a1, a2, a3⟩ := ih (by omega) q (by omega) (sp_gD s.1 n (sp_h K n s), (fun i => if i = n then s.2.1 n - 1 else s.2.1 i), s.2.2 + 1) y2 od2 r2 (by rw [k2.1]; exact cK) (by show b + (s.2.2 + 1) ≤ 200000; omega) (fun i h1 h2 => by
          show 0 < (if i = n then s.2.1 n - 1 else s.2.1 i)
          rw [if_neg (by omega)]
          exact hp i (by omega) h2)
        exact ⟨y', rfK_tr k2 a1, a2, a3⟩
/-! ===== PURE: rounds till none moves ===== -/
/-- a round of a world that comes to rest: every realm may move -/
def sp_rdj (K j : Nat) (D : sp_D) : sp_D × Nat := ((sp_from K j (D, (fun _ => 1), 0)).1, (sp_from K j (D, (fun _ => 1), 0)).2.2)
def sp_rd (K : Nat) (D : sp_D) : sp_D × Nat := sp_rdj K 8 D
/-- the round does not hang on how much is left, as long as something is -/
theorem sp_from_L {K : Nat} : ∀ (j : Nat), j ≤ 8 → ∀ (D : sp_D) (L L' : Nat → Nat) (c c' : Nat), (∀ n, 8 - j ≤ n → n < 8 → 0 < L n ∧ 0 < L' n) → (sp_from K j (D, L, c)).1 = (sp_from K j (D, L', c')).1 ∧ (sp_from K j (D, L, c)).2.2 + c' = (sp_from K j (D, L', c')).2.2 + c := by
  intro j
  induction j with
  | zero => intro _ D L L' c c' _; exact ⟨rfl, Nat.add_comm _ _⟩
  | succ j ih =>
    intro hj D L L' c c' hp
    have hn : 8 - (j + 1) < 8 := by omega
    show (sp_from K j (sp_one K (8 - (j + 1)) (D, L, c))).1 = (sp_from K j (sp_one K (8 - (j + 1)) (D, L', c'))).1 ∧ (sp_from K j (sp_one K (8 - (j + 1)) (D, L, c))).2.2 + c' = (sp_from K j (sp_one K (8 - (j + 1)) (D, L', c'))).2.2 + c
    generalize hk : 8 - (j + 1) = n at hn hp
    obtain ⟨p1, p2⟩ := hp n (Nat.le_refl _) hn
    have h1 : sp_h K n (D, L, c) = sp_mv D.1 D.2 K n := by unfold sp_h; rw [if_pos p1]
    have h2 : sp_h K n (D, L', c') = sp_mv D.1 D.2 K n := by unfold sp_h; rw [if_pos p2]
    unfold sp_one
    rw [h1, h2]
    by_cases e : sp_mv D.1 D.2 K n = 0
    · rw [if_pos e, if_pos e]
      exact ih (by omega) D L L' c c' (fun i a b => hp i (by omega) b)
    · rw [if_neg e, if_neg e]
      have := ih (by omega) (sp_gD D n (sp_mv D.1 D.2 K n)) (fun i => if i = n then L n - 1 else L i) (fun i => if i = n then L' n - 1 else L' i) (c + 1) (c' + 1) (fun i a b => by
        simp only [if_neg (show ¬ i = n by omega)]
        exact hp i (by omega) b)
      refine ⟨this.1, ?_⟩
      have h3 := this.2
      simp only at h3 ⊢
      omega
theorem sp_from_rd {K : Nat} (D : sp_D) (L : Nat → Nat) (h : ∀ n, n < 8 → 0 < L n) : (sp_from K 8 (D, L, 0)).1 = (sp_rd K D).1 ∧ (sp_from K 8 (D, L, 0)).2.2 = (sp_rd K D).2 := by
  obtain ⟨h1, h2⟩ := sp_from_L (K := K) 8 (by omega) D L (fun _ => 1) 0 0 (fun n _ hn => ⟨h n hn, by omega⟩)
  rw [Nat.add_zero, Nat.add_zero] at h2
  simp only [sp_rd, sp_rdj]
  exact ⟨h1, h2⟩
