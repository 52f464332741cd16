/-! ===== PURE: the reference's rounds ===== -/
def rfS (K : Nat) (s : sp_S) (y : ob_T) : Prop := rfW y 0 s.1.1 s.1.2 ∧ y.1 4 0 = nI K ∧ ∀ n, n < 8 → s.1.1 n 0 ≠ 0 → ∃ q, y.1 10 n = nI q ∧ s.2.1 n + q = s.1.1 n 5
def fl (c : Nat) : Nat := if c = 0 then 0 else 1
/-- what the reference keeps outside its first world and its counts of the year -/
def rfY (y y' : ob_T) : Prop := (∀ f, f ≠ 10 → y'.1 f = y.1 f) ∧ ∀ f k, (f ≠ 2 ∧ f ≠ 3) ∨ (f = 2 ∧ 72 ≤ k) ∨ (f = 3 ∧ 3 ≤ k) → y'.2 f k = y.2 f k
theorem rfY_rf {y : ob_T} : rfY y y := ⟨fun _ _ => rfl, fun _ _ _ => rfl⟩
theorem rfY_tr {a b c : ob_T} (h : rfY a b) (g : rfY b c) : rfY a c := ⟨fun f q => (g.1 f q).trans (h.1 f q), fun f k q => (g.2 f k q).trans (h.2 f k q)⟩
theorem rfK_Y {a b : ob_T} (h : rfK a b) : rfY a b := ⟨fun f _ => by rw [h.1], h.2⟩
theorem rfW_1 {y : ob_T} {f : Nat} {g : Nat → Int32} {b : Nat} {V : Nat → Nat → Nat} {M : Nat → Nat} (h : rfW y b V M) : rfW (ob_I y f g) b V M := h
theorem sp_from_c {K : Nat} : ∀ (j : Nat) (s : sp_S), s.2.2 ≤ (sp_from K j s).2.2 ∧ (sp_from K j s).2.2 ≤ s.2.2 + j := by
  intro j
  induction j with
  | zero => intro s; exact ⟨Nat.le_refl _, Nat.le_refl _⟩
  | succ j ih =>
    intro s
    have h := ih (sp_one K (8 - (j + 1)) s)
    have h1 : (sp_one K (8 - (j + 1)) s).2.2 = s.2.2 ∨ (sp_one K (8 - (j + 1)) s).2.2 = s.2.2 + 1 := by
      unfold sp_one
      split
      · exact Or.inl rfl
      · exact Or.inr rfl
    show s.2.2 ≤ (sp_from K j (sp_one K (8 - (j + 1)) s)).2.2 ∧ (sp_from K j (sp_one K (8 - (j + 1)) s)).2.2 ≤ _
    omega
theorem p6_year_round (fu : Nat) {K : Nat} (oK : okK K) (k146 : ob_T → Int32 → Int32 → Option (Int32 × ob_T)) (b : Nat) : ∀ (j : Nat), j ≤ 8 → ∀ (nn : Nat), j < nn → ∀ (s : sp_S) (y : ob_T), okD s.1 → rfS K s y → b + s.2.2 + j < 1000000 → ∃ y', bX6_goYear_155 fu k146 nn y (nI (b + s.2.2)) (nI (fl s.2.2)) (nI (8 - j)) = k146 y' (nI (b + (sp_from K j s).2.2)) (nI (fl (sp_from K j s).2.2)) ∧ rfS K (sp_from K j s) y' ∧ rfY y y' ∧ okD (sp_from K j s).1 := by
  intro j
  induction j with
  | zero =>
    intro _ nn hnn s y od hc hs
    obtain ⟨q, rfl⟩ : ∃ q, nn = q + 1 := ⟨nn - 1, by omega⟩
    exact ⟨y, by rw [bX6_goYear_155_s]; rfl, hc, rfY_rf, od⟩
  | succ j ih =>
    intro hj nn hnn s y od hc hs
    obtain ⟨q, rfl⟩ : ∃ q, nn = q + 1 := ⟨nn - 1, by omega⟩
    obtain ⟨cw, cK, cl⟩ := hc
    have hn : 8 - (j + 1) < 8 := by omega
    generalize hk : 8 - (j + 1) = n at hn
    have hn1 : n + 1 = 8 - j := by omega
    have oV := okD_V od
    rw [bX6_goYear_155_s, l32_8, if_neg (by rw [nI_leN (by omega) (by omega)]; omega), p6_isRealm fu cw oV hn, bind_sm]
    have key : ∀ (h : Nat), h = sp_h K n s → ∃ y', bX6_goYear_205 fu k146 (bX6_goYear_155 fu k146 q) y (nI (b + s.2.2)) (nI (fl s.2.2)) (nI n) (nI h) = k146 y' (nI (b + (sp_from K (j + 1) s).2.2)) (nI (fl (sp_from K (j + 1) s).2.2)) ∧ rfS K (sp_from K (j + 1) s) y' ∧ rfY y y' ∧ okD (sp_from K (j + 1) s).1 := by
      intro h eh
      have hle : h ≤ 2 := by rw [eh]; exact sp_h_le
      unfold bX6_goYear_205 bX6_goYear_236
      simp only [bnd_eq, l32_0, l32_1, nI_addN]
      by_cases e : h = 0
      · rw [e, if_pos (by decide)]
        have e1 : sp_one K n s = s := by unfold sp_one; rw [if_pos (by omega)]
        have e2 : sp_from K (j + 1) s = sp_from K j s := by show sp_from K j (sp_one K (8 - (j + 1)) s) = _; rw [hk, e1]
        rw [e2, hn1]
        exact ih (by omega) q (by omega) s y od ⟨cw, cK, cl⟩ (by omega)
      · rw [if_neg (by rw [nI_leN (by omega) (by omega)]; omega)]
        have hcan := sp_h_can (K := K) (n := n) (s := s) (by omega)
        rw [← eh] at hcan
        have hgt : 0 < s.2.1 n := by
          rcases Nat.eq_zero_or_pos (s.2.1 n) with z | z
          · exfalso
            have : sp_h K n s = 0 := by unfold sp_h; rw [if_neg (by omega)]
            omega
          · exact z
        have od2 : okD (sp_gD s.1 n h) := okD_go od hn hcan
        obtain ⟨y2, E, k2, r2⟩ := p6_moveSack fu cw oV (okD_M od) hn hcan
        obtain ⟨m, hm1, hm2⟩ := cl n hn hcan.1
        have hF := (od.1 n hn).2.2.2.1
        have hm3 : y2.1 10 n = nI m := by rw [k2.1]; exact hm1
        rw [E, bind_sm]
        simp (disch := omega) only [↓ix_no, ↓reduceIte, nI_clN, hm3, nI_addN]
        have e1 : sp_one K n s = (sp_gD s.1 n h, (fun i => if i = n then s.2.1 n - 1 else s.2.1 i), s.2.2 + 1) := by unfold sp_one; rw [← eh, if_neg e]
        have e2 : sp_from K (j + 1) s = sp_from K j (sp_gD s.1 n h, (fun i => if i = n then s.2.1 n - 1 else s.2.1 i), s.2.2 + 1) := by show sp_from K j (sp_one K (8 - (j + 1)) s) = _; rw [hk, e1]
        rw [e2, hn1]
        obtain ⟨y', a1, a2, a3, a4⟩ := ih (by omega) q (by omega) (sp_gD s.1 n h, (fun i => if i = n then s.2.1 n - 1 else s.2.1 i), s.2.2 + 1) (ob_I y2 10 (upd (y2.1 10) n (nI (m + 1)))) od2 ⟨rfW_1 r2, by
            show y2.1 4 0 = nI K
            rw [k2.1]; exact cK, fun i hi h0 => by
            have h0' : s.1.1 i 0 ≠ 0 := by
              have := go_st s.1.1 n h i 0 (by omega) (by omega)
              rw [← this]; exact h0
            obtain ⟨mi, hi1, hi2⟩ := cl i hi h0'
            show ∃ q, upd (y2.1 10) n (nI (m + 1)) i = nI q ∧ (if i = n then s.2.1 n - 1 else s.2.1 i) + q = sp_go s.1.1 n h i 5
            rw [go_st s.1.1 n h i 5 (by omega) (by omega)]
            by_cases z : i = n
            · subst z
              exact ⟨m + 1, by rw [updI_at, if_pos rfl], by rw [if_pos rfl]; omega⟩
            · exact ⟨mi, by rw [updI_at, if_neg z, k2.1]; exact hi1, by rw [if_neg z]; exact hi2⟩⟩ (by show b + (s.2.2 + 1) + j < 1000000; omega)
        have a0 : rfY y2 (ob_I y2 10 (upd (y2.1 10) n (nI (m + 1)))) := by
          refine ⟨fun f hf => ?_, fun _ _ _ => rfl⟩
          show (if f = 10 then _ else y2.1 f) = y2.1 f
          rw [if_neg hf]
        refine ⟨y', ?_, a2, rfY_tr (rfK_Y k2) (rfY_tr a0 a3), a4⟩
        rw [← a1]
        rfl
    by_cases e0 : s.1.1 n 0 = 0
    · rw [if_pos e0, if_pos rfl]
      refine key 0 ?_
      unfold sp_h sp_mv
      rw [if_pos e0]
      split <;> rfl
    · obtain ⟨m, hm1, hm2⟩ := cl n hn e0
      have hF := (od.1 n hn).2.2.2.1
      have v5 := rf_at cw hn (show 5 < 8 by omega)
      rw [if_neg e0, if_neg (by decide)]
      simp only [l32_0, l32_5, l32_9, nI_mulN, nI_addN]
      simp (disch := omega) only [↓ix_no, ↓reduceIte, nI_clN, hm1, v5, nI_toL, lg_geN, lN_leN]
      by_cases e : s.1.1 n 5 ≤ m
      · rw [if_pos e]
        exact key 0 (by unfold sp_h; rw [if_neg (by omega)])
      · rw [if_neg e, p6_movesOf fu cw cK oV (okD_M od) oK hn, bind_sm]
        exact key _ (by unfold sp_h; rw [if_pos (by omega)])
