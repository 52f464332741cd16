/-! ===== PURE: a year ===== -/
def SL (L : Nat → Nat) : Nat := L 0 + L 1 + L 2 + L 3 + L 4 + L 5 + L 6 + L 7
theorem SL_dec {L : Nat → Nat} {n : Nat} (hn : n < 8) (h : 0 < L n) : SL (fun i => if i = n then L n - 1 else L i) + 1 = SL L := by
  unfold SL
  rcases lt8 hn with rfl | rfl | rfl | rfl | rfl | rfl | rfl | rfl <;> simp <;> omega
theorem one_SL {K n : Nat} {s : sp_S} (hn : n < 8) : SL (sp_one K n s).2.1 + (sp_one K n s).2.2 = SL s.2.1 + s.2.2 := by
  unfold sp_one
  by_cases e : sp_h K n s = 0
  · rw [if_pos e]
  · rw [if_neg e]
    have hgt : 0 < s.2.1 n := by
      rcases Nat.eq_zero_or_pos (s.2.1 n) with z | z
      · exfalso
        have : sp_h K n s = 0 := by unfold sp_h; rw [if_neg (by omega)]
        omega
      · exact z
    have := SL_dec hn hgt
    show SL (fun i => if i = n then s.2.1 n - 1 else s.2.1 i) + (s.2.2 + 1) = _
    omega
theorem from_SL {K : Nat} : ∀ (j : Nat), j ≤ 8 → ∀ (s : sp_S), SL (sp_from K j s).2.1 + (sp_from K j s).2.2 = SL s.2.1 + s.2.2 := by
  intro j
  induction j with
  | zero => intro _ s; rfl
  | succ j ih =>
    intro hj s
    show SL (sp_from K j (sp_one K (8 - (j + 1)) s)).2.1 + (sp_from K j (sp_one K (8 - (j + 1)) s)).2.2 = _
    rw [ih (by omega), one_SL (by omega)]
theorem yr_loop (J : Nat) (hJ : J = 8) (fu : Nat) (hfu : 9 ≤ fu) {K : Nat} (oK : okK K) (mn : ob_T) : ∀ (m : Nat) (D : sp_D) (L : Nat → Nat) (v w y : ob_T) (i c nn nn' : Nat), SL L ≤ m → i + SL L ≤ 7992 → c + SL L ≤ 7992 → m + 1 ≤ nn → m + 2 ≤ nn' → okD D → clS K (D, L, 0) v w → rfS K (D, L, 0) y →
    ∃ (D' : sp_D) (v' w' y' : ob_T) (c' : Nat), c' ≤ 7992 ∧ bX1_passYear_25 fu mn nn v w (nI c) (nI i) = bX1_passYear_59 fu mn v' w' (nI c') ∧ bX6_goYear_146 fu nn' y (nI c) (nI 1) = bX6_goYear_248 fu fu y' (nI c') 0 ∧ clW w' D'.1 D'.2 K ∧ rfW y' 0 D'.1 D'.2 ∧ rfY y y' ∧ okD D' ∧ sp_cons D D' := by
  intro m
  induction m with
  | zero =>
    intro D L v w y i c nn nn' h1 h2 h3 h4 h5 od hc hr
    obtain ⟨q, rfl⟩ : ∃ q, nn = q + 1 := ⟨nn - 1, by omega⟩
    obtain ⟨q2, rfl⟩ : ∃ q2, nn' = q2 + 2 := ⟨nn' - 2, by omega⟩
    obtain ⟨v2, w2, a1, a2, a3, a4, a5⟩ := p1_goRound_loop fu oK J (by omega) fu (by omega) (D, L, 0) v w od hc (by show 0 + J < 1000000; omega)
    obtain ⟨y2, b1, b2, b3, b4⟩ := p6_year_round fu oK (bX6_goYear_146 fu (q2 + 1)) c J (by omega) fu (by omega) (D, L, 0) y od hr (by show c + 0 + J < 1000000; omega)
    have hS := from_SL (K := K) J (by omega) (D, L, 0)
    have hC := cons_from (K := K) J (by omega) (D, L, 0)
    have hS2 : SL (sp_from K J (D, L, 0)).2.1 + (sp_from K J (D, L, 0)).2.2 = SL L + 0 := hS
    have hz : (sp_from K J (D, L, 0)).2.2 = 0 := by omega
    rw [hz] at a1 b1
    generalize sp_from K J (D, L, 0) = S at a1 a2 a5 b1 b2 b4 hC
    have hG : mX1_goRound fu v w = some (nI 0, v2, w2) := by
      rw [show 8 - J = 0 by omega] at a1
      exact a1
    refine ⟨S.1, v2, w2, y2, c, by omega, ?_, ?_, a2.1, b2.1, b3, a5, hC⟩
    · rw [bX1_passYear_25_s, show (7993 : Int32) = nI 7993 from rfl, if_neg (by rw [nI_leN (by omega) (by omega)]; omega), hG, bind_sm]
      simp only
      rw [if_pos (show nI 0 = 0 from rfl)]
    · rw [bX6_goYear_146_s, if_neg (by decide)]
      have e0 : bX6_goYear_155 fu (bX6_goYear_146 fu (q2 + 1)) fu y (nI c) 0 0 = bX6_goYear_155 fu (bX6_goYear_146 fu (q2 + 1)) fu y (nI (c + 0)) (nI (fl 0)) (nI (8 - J)) := by rw [hJ]; rfl
      rw [e0]
      refine b1.trans ?_
      rw [bX6_goYear_146_s, if_pos (by decide)]
      rfl
  | succ m ih =>
    intro D L v w y i c nn nn' h1 h2 h3 h4 h5 od hc hr
    obtain ⟨q, rfl⟩ : ∃ q, nn = q + 1 := ⟨nn - 1, by omega⟩
    obtain ⟨q2, rfl⟩ : ∃ q2, nn' = q2 + 2 := ⟨nn' - 2, by omega⟩
    obtain ⟨v2, w2, a1, a2, a3, a4, a5⟩ := p1_goRound_loop fu oK J (by omega) fu (by omega) (D, L, 0) v w od hc (by show 0 + J < 1000000; omega)
    obtain ⟨y2, b1, b2, b3, b4⟩ := p6_year_round fu oK (bX6_goYear_146 fu (q2 + 1)) c J (by omega) fu (by omega) (D, L, 0) y od hr (by show c + 0 + J < 1000000; omega)
    have hS := from_SL (K := K) J (by omega) (D, L, 0)
    have hC := cons_from (K := K) J (by omega) (D, L, 0)
    have hS2 : SL (sp_from K J (D, L, 0)).2.1 + (sp_from K J (D, L, 0)).2.2 = SL L + 0 := hS
    generalize sp_from K J (D, L, 0) = S at a1 a2 a5 b1 b2 b4 hC hS2
    have hG : mX1_goRound fu v w = some (nI S.2.2, v2, w2) := by
      rw [show 8 - J = 0 by omega] at a1
      exact a1
    have e0 : bX6_goYear_155 fu (bX6_goYear_146 fu (q2 + 1)) fu y (nI c) 0 0 = bX6_goYear_155 fu (bX6_goYear_146 fu (q2 + 1)) fu y (nI (c + 0)) (nI (fl 0)) (nI (8 - J)) := by rw [hJ]; rfl
    by_cases hz : S.2.2 = 0
    · rw [hz] at hG b1
      refine ⟨S.1, v2, w2, y2, c, by omega, ?_, ?_, a2.1, b2.1, b3, a5, hC⟩
      · rw [bX1_passYear_25_s, show (7993 : Int32) = nI 7993 from rfl, if_neg (by rw [nI_leN (by omega) (by omega)]; omega), hG, bind_sm]
        simp only
        rw [if_pos (show nI 0 = 0 from rfl)]
      · rw [bX6_goYear_146_s, if_neg (by decide), e0]
        refine b1.trans ?_
        rw [bX6_goYear_146_s, if_pos (by decide)]
        rfl
    · obtain ⟨D', v', w', y', c', g0, g1, g2, g3, g4, g5, g6, g7⟩ := ih S.1 S.2.1 v2 w2 y2 (i + 1) (c + S.2.2) q (q2 + 1) (by omega) (by omega) (by omega) (by omega) (by omega) a5 a2 b2
      refine ⟨D', v', w', y', c', g0, ?_, ?_, g3, g4, rfY_tr b3 g5, g6, cons_tr hC g7⟩
      · rw [bX1_passYear_25_s, show (7993 : Int32) = nI 7993 from rfl, if_neg (by rw [nI_leN (by omega) (by omega)]; omega), hG, bind_sm]
        simp only [bnd_eq, l32_1, nI_addN]
        rw [if_neg (by rw [l32_0, nI_eqN (by omega) (by omega)]; exact hz)]
        exact g1
      · rw [bX6_goYear_146_s, if_neg (by decide), e0]
        refine b1.trans ?_
        unfold fl
        rw [if_neg hz]
        exact g2
theorem p6_clear_loop (fu : Nat) : ∀ (j : Nat), j ≤ 8 → ∀ (nn : Nat), j < nn → ∀ (y : ob_T), (∀ k, k < 8 - j → y.1 10 k = 0) → ∃ y', bX6_goYear_123 fu nn y (nI (8 - j)) = bX6_goYear_146 fu fu y' 0 1 ∧ (∀ k, k < 8 → y'.1 10 k = 0) ∧ y'.2 = y.2 ∧ ∀ f, f ≠ 10 → y'.1 f = y.1 f := by
  intro j
  induction j with
  | zero =>
    intro _ nn hnn y h
    obtain ⟨q, rfl⟩ : ∃ q, nn = q + 1 := ⟨nn - 1, by omega⟩
    refine ⟨y, ?_, fun k hk => h k (by omega), rfl, fun _ _ => rfl⟩
    rw [bX6_goYear_123_s, if_pos (by decide)]
  | succ j ih =>
    intro hj nn hnn y h
    obtain ⟨q, rfl⟩ : ∃ q, nn = q + 1 := ⟨nn - 1, by omega⟩
    have hn : 8 - (j + 1) < 8 := by omega
    have hn1 : 8 - (j + 1) + 1 = 8 - j := by omega
    generalize 8 - (j + 1) = n at hn hn1 h
    rw [bX6_goYear_123_s]
    simp only [l32_8, l32_1, bnd_eq]
    simp (disch := omega) only [↓ix_no0, ↓reduceIte, nI_clN, nI_leN, nI_addN]
    rw [if_neg (by omega), hn1]
    obtain ⟨y', a1, a2, a3, a4⟩ := ih (by omega) q (by omega) (ob_I y 10 (upd (y.1 10) n 0)) (fun k hk => by
      show upd (y.1 10) n 0 k = 0
      rw [updI_at]
      by_cases e : k = n
      · rw [if_pos e]
      · rw [if_neg e]; exact h k (by omega))
    refine ⟨y', a1, a2, a3, fun f hf => ?_⟩
    rw [a4 f hf]
    show (if f = 10 then _ else y.1 f) = _
    rw [if_neg hf]
/-- a world as it may be behind n calls -/
def okN (n : Nat) (D : sp_D) : Prop := okD D ∧ TG D ≤ 200000 + 10000 * n ∧ TS D ≤ 200000000 + 10000000 * n ∧ D.2 2 ≤ n
theorem okN_mono {n m : Nat} {D : sp_D} (h : okN n D) (hm : n ≤ m) : okN m D := by
  obtain ⟨a, b, c, d⟩ := h
  exact ⟨a, by omega, by omega, by omega⟩
theorem okN_cons {n : Nat} {D D' : sp_D} (h : okN n D) (hc : sp_cons D D') (od : okD D') : okN n D' := by
  obtain ⟨a, b, c, d⟩ := h
  obtain ⟨-, -, -, g, s, m⟩ := hc
  exact ⟨od, by rw [g]; exact b, by rw [s]; exact c, by rw [m 2 (by omega) (by omega)]; exact d⟩
theorem mn_ok {n : Nat} {D : sp_D} (hn : n ≤ 700) (h : okN n D) {g s : Nat} (hg : g ≤ 9999) (hs : s ≤ 9999) : okD (D.1, mn_M D.2 g s) ∧ TG (D.1, mn_M D.2 g s) ≤ 200000 + 10000 * (n + 1) ∧ TS (D.1, mn_M D.2 g s) ≤ 200000000 + 10000000 * (n + 1) := by
  obtain ⟨a, b, c, d⟩ := h
  have e1 : TG (D.1, mn_M D.2 g s) = TG D + g := by unfold TG mn_M; simp; omega
  have e2 : TS (D.1, mn_M D.2 g s) = TS D + 1000 * s := by unfold TS mn_M; simp; omega
  refine ⟨⟨a.1, by omega, by omega, ?_⟩, by omega, by omega⟩
  show D.2 2 < 100000
  exact a.2.2.2
theorem yr_all (fu : Nat) (hfu : 100000 ≤ fu) {K : Nat} (oK : okK K) {n : Nat} (hn : n ≤ 700) {D : sp_D} (oN : okN n D) {v w mn y : ob_T} (hc : clW w D.1 D.2 K) (hW : rfW y 0 D.1 D.2) (hK : y.1 4 0 = nI K) (hM : mnR mn y) :
    ∃ (D' : sp_D) (c : Nat) (v' w' y' : ob_T), c ≤ 7992 ∧ mX1_passYear fu v w mn = some (nI c, v', w') ∧ mX6_goYear fu y = some (nI c, y') ∧ okN (n + 1) D' ∧ clW w' D'.1 D'.2 K ∧ rfW y' 0 D'.1 D'.2 ∧ rfY y y' ∧ ∀ k, D'.1 k 0 = D.1 k 0 := by
  obtain ⟨m, Y, A, B, hm, h5, hL, hR⟩ := hM
  have oM := okD_M oN.1
  have hA := mn_v_le (Y := Y) (A := A) (a := D.2 2) (m := m) (fun k hk => (hL k hk).1.2.1)
  have hB := mn_v_le (Y := Y) (A := B) (a := D.2 2) (m := m) (fun k hk => (hL k hk).1.2.2)
  obtain ⟨od1, tg1, ts1⟩ := mn_ok hn oN hA hB
  obtain ⟨w1, a1, a2⟩ := p0_bringTo fu hc oK oM hL hR (okD_M od1)
  obtain ⟨y1, b1, b2, b3⟩ := p6_bring_loop fu hm h5 hL hW oM m (Nat.le_refl _) fu (by omega)
  rw [Nat.sub_self] at b1
  generalize hg : mn_v A (mn_pk Y (D.2 2) m) = g at *
  generalize hs : mn_v B (mn_pk Y (D.2 2) m) = s at *
  obtain ⟨y2, c1, c2, c3, c4⟩ := p6_clear_loop fu 8 (by omega) fu (by omega) y1 (fun k hk => absurd hk (by omega))
  have hq : ∀ k, k < 8 → w1.1 3 k = nI (w1.1 3 k).toNatClampNeg ∧ (w1.1 3 k).toNatClampNeg ≤ 999 := by
    intro k hk
    obtain ⟨q, q1, q2⟩ := a2.1.2.2.2 k hk
    rw [q2, nI_clN (by omega)]
    exact ⟨rfl, q1⟩
  have hSL : SL (fun k => (w1.1 3 k).toNatClampNeg) ≤ 7992 := by
    unfold SL
    simp only
    have h0 := (hq 0 (by omega)).2
    have h1 := (hq 1 (by omega)).2
    have h2 := (hq 2 (by omega)).2
    have h3 := (hq 3 (by omega)).2
    have h4 := (hq 4 (by omega)).2
    have h5 := (hq 5 (by omega)).2
    have h6 := (hq 6 (by omega)).2
    have h7 := (hq 7 (by omega)).2
    omega
  have r2 : rfW y2 0 D.1 (mn_M D.2 g s) := by unfold rfW; rw [c3]; exact b2
  obtain ⟨D', v3, w3, y3, c', g0, g1, g2, g3, g4, g5, g6, g7⟩ := yr_loop 8 rfl fu (by omega) oK mn 7992 (D.1, mn_M D.2 g s) (fun k => (w1.1 3 k).toNatClampNeg) (ob_I v 0 (va_cpy (w1.1 3) (v.1 0) (0 : Int32).toNatClampNeg (0 : Int32).toNatClampNeg (8 : Int32).toNatClampNeg)) w1 y2 0 0 fu fu hSL (by omega) (by omega) (by omega) (by omega) od1 ⟨a2, fun k hk => by
      show va_cpy (w1.1 3) (v.1 0) (0 : Int32).toNatClampNeg (0 : Int32).toNatClampNeg (8 : Int32).toNatClampNeg k = _
      rw [cpy8I _ _ hk]
      exact (hq k hk).1, fun k hk => by have := (hq k hk).2; show (w1.1 3 k).toNatClampNeg < 1000000; omega⟩ ⟨r2, by
      rw [c4 4 (by omega), b3.1 4 (by omega)]; exact hK, fun k hk h0 => ⟨0, c2 k hk, by
      have h3 := (a2.2.1 k hk h0).2.2.2.1
      have hF := (od1.1 k hk).2.2.2.1
      show (w1.1 3 k).toNatClampNeg + 0 = D.1 k 5
      rw [h3, nI_clN (by have : D.1 k 5 ≤ 999 := hF; omega), Nat.add_zero]⟩⟩
  obtain ⟨w4, e1, e2⟩ := p4_stop_loop fu (K := K) (M := D'.2) 8 (by omega) fu (by omega) D'.1 w3 g6 g3
  obtain ⟨y4, f1, f2, f3⟩ := p6_stop_loop fu (M := D'.2) (nI c') 8 (by omega) fu (by omega) D'.1 y3 g6 g4
  have oS := stf_ok 8 (D := D') g6
  have hst : ∀ i f, f ≠ 6 → sp_stf 8 D'.1 i f = D'.1 i f := fun i f h => stf_st 8 D'.1 i f h
  generalize sp_stf 8 D'.1 = V4 at e2 f2 oS hst
  obtain ⟨x1, x2, x3, x4, x5, x6⟩ := g7
  have y2' : D'.2 2 = D.2 2 := x6 2 (by omega) (by omega)
  refine ⟨(V4, sp_nx D'.2), c', v3, ob_I w4 16 (fun _ => nI (D'.2 2 + 1)), y4, g0, ?_, ?_, ⟨⟨oS.1, ?_, ?_, ?_⟩, ?_, ?_, ?_⟩, ?_, f2, ?_, fun k => ?_⟩
  · unfold mX1_passYear
    rw [a1, bind_sm, bnd_eq]
    refine g1.trans ?_
    unfold bX1_passYear_59
    have : mX4_stopThoseThatRanLow fu w3 = some w4 := e1
    rw [this, bind_sm, bnd_eq, e2.2.2.2.2.2.2, l32_1, nI_addN]
  · refine b1.trans ?_
    unfold bX6_goYear_121
    refine c1.trans ?_
    refine g2.trans ?_
    exact f1
  · exact oS.2.1
  · exact oS.2.2.1
  · show D'.2 2 + 1 < 100000
    have := oN.2.2.2
    omega
  · have : TG (V4, sp_nx D'.2) = TG D' := by unfold TG sp_nx; simp [hst]
    rw [this, x4]; exact tg1
  · have : TS (V4, sp_nx D'.2) = TS D' := by unfold TS sp_nx; simp [hst]
    rw [this, x5]; exact ts1
  · show D'.2 2 + 1 ≤ n + 1
    have := oN.2.2.2
    omega
  · exact ⟨e2.1, e2.2.1, e2.2.2.1, e2.2.2.2.1, e2.2.2.2.2.1, e2.2.2.2.2.2.1, rfl⟩
  · refine rfY_tr b3 (rfY_tr ⟨c4, fun f k _ => by rw [c3]⟩ (rfY_tr g5 f3))
  · rw [show (V4, sp_nx D'.2).1 k 0 = V4 k 0 from rfl, hst k 0 (by omega), x1 k 0 (by omega) (by omega)]
