/-! ===== PURE: rounds ===== -/
abbrev sp_D : Type := (Nat → Nat → Nat) × (Nat → Nat)
def TG (D : sp_D) : Nat := D.2 0 + (D.1 0 3 + D.1 1 3 + D.1 2 3 + D.1 3 3 + D.1 4 3 + D.1 5 3 + D.1 6 3 + D.1 7 3)
def TS (D : sp_D) : Nat := D.2 1 + (D.1 0 4 + D.1 1 4 + D.1 2 4 + D.1 3 4 + D.1 4 4 + D.1 5 4 + D.1 6 4 + D.1 7 4)
theorem lt8 {n : Nat} (h : n < 8) : n = 0 ∨ n = 1 ∨ n = 2 ∨ n = 3 ∨ n = 4 ∨ n = 5 ∨ n = 6 ∨ n = 7 := by omega
theorem TG_V {D : sp_D} {n : Nat} (h : n < 8) : D.1 n 3 ≤ TG D := by
  unfold TG
  rcases lt8 h with rfl | rfl | rfl | rfl | rfl | rfl | rfl | rfl <;> omega
theorem TS_V {D : sp_D} {n : Nat} (h : n < 8) : D.1 n 4 ≤ TS D := by
  unfold TS
  rcases lt8 h with rfl | rfl | rfl | rfl | rfl | rfl | rfl | rfl <;> omega
/-- a world as it may be -/
def okD (D : sp_D) : Prop := (∀ n, n < 8 → (D.1 n 0 = 0 ∨ (1000 ≤ D.1 n 0 ∧ D.1 n 0 ≤ 99999)) ∧ D.1 n 1 ≤ 999 ∧ D.1 n 2 ≤ 200 ∧ D.1 n 5 ≤ 999 ∧ D.1 n 6 ≤ 1 ∧ D.1 n 7 ≤ 1 ∧ D.1 n 8 ≤ 10000 ∧ (D.1 n 0 = 0 → D.1 n 3 = 0 ∧ D.1 n 4 = 0 ∧ D.1 n 6 = 0 ∧ D.1 n 7 = 0)) ∧ TG D < 100000000 ∧ TS D < 1000000000000 ∧ D.2 2 < 100000
theorem okD_V {D : sp_D} (h : okD D) : okV D.1 := by
  intro n hn
  obtain ⟨a, b, c, d, e, f, g, i⟩ := h.1 n hn
  have h3 := TG_V (D := D) hn
  have h4 := TS_V (D := D) hn
  have := h.2.1
  have := h.2.2.1
  exact ⟨a, b, c, by omega, by omega, d, e, f, g, i⟩
theorem okD_M {D : sp_D} (h : okD D) : okM D.2 := by
  have h1 : D.2 0 ≤ TG D := by unfold TG; omega
  have h2 : D.2 1 ≤ TS D := by unfold TS; omega
  have := h.2.1
  have := h.2.2.1
  exact ⟨by omega, by omega, h.2.2.2⟩
def sp_gD (D : sp_D) (n how : Nat) : sp_D := (sp_go D.1 n how, sp_gM D.1 D.2 n how)
theorem TG_go {D : sp_D} {n how : Nat} (hn : n < 8) (hc : sp_can D.1 D.2 n how) : TG (sp_gD D n how) = TG D := by
  obtain ⟨-, hc⟩ := hc
  unfold TG sp_gD sp_go sp_gM
  rcases hc with ⟨rfl, c1, c2⟩ | ⟨rfl, c1, c2⟩ <;> rcases lt8 hn with rfl | rfl | rfl | rfl | rfl | rfl | rfl | rfl <;> simp <;> omega
theorem TS_go {D : sp_D} {n how : Nat} (hn : n < 8) (hc : sp_can D.1 D.2 n how) : TS (sp_gD D n how) = TS D := by
  obtain ⟨-, hc⟩ := hc
  unfold TS sp_gD sp_go sp_gM
  rcases hc with ⟨rfl, c1, c2⟩ | ⟨rfl, c1, c2⟩ <;> rcases lt8 hn with rfl | rfl | rfl | rfl | rfl | rfl | rfl | rfl <;> simp <;> omega
theorem go_st (V : Nat → Nat → Nat) (n how k f : Nat) (h3 : f ≠ 3) (h4 : f ≠ 4) : sp_go V n how k f = V k f := by
  unfold sp_go
  by_cases e : k = n
  · subst e; rw [if_pos rfl, if_neg h3, if_neg h4]
  · rw [if_neg e]
theorem okD_go {D : sp_D} {n how : Nat} (h : okD D) (hn : n < 8) (hc : sp_can D.1 D.2 n how) : okD (sp_gD D n how) := by
  refine ⟨fun k hk => ?_, ?_, ?_, ?_⟩
  · obtain ⟨a, b, c, d, e, f, g, i⟩ := h.1 k hk
    show (sp_go D.1 n how k 0 = 0 ∨ _) ∧ _
    simp only [sp_gD]
    rw [go_st _ _ _ _ 0 (by omega) (by omega), go_st _ _ _ _ 1 (by omega) (by omega), go_st _ _ _ _ 2 (by omega) (by omega), go_st _ _ _ _ 5 (by omega) (by omega), go_st _ _ _ _ 6 (by omega) (by omega), go_st _ _ _ _ 7 (by omega) (by omega), go_st _ _ _ _ 8 (by omega) (by omega)]
    refine ⟨a, b, c, d, e, f, g, fun z => ?_⟩
    have hne : k ≠ n := fun q => hc.1 (q ▸ z)
    have := i z
    simp only [sp_go, if_neg hne]
    exact this
  · rw [TG_go hn hc]; exact h.2.1
  · rw [TS_go hn hc]; exact h.2.2.1
  · exact h.2.2.2
/-- what is left to each realm, how many have moved -/
abbrev sp_S : Type := sp_D × (Nat → Nat) × Nat
def sp_h (K n : Nat) (s : sp_S) : Nat := if 0 < s.2.1 n then sp_mv s.1.1 s.1.2 K n else 0
def sp_one (K n : Nat) (s : sp_S) : sp_S := if sp_h K n s = 0 then s else (sp_gD s.1 n (sp_h K n s), (fun i => if i = n then s.2.1 n - 1 else s.2.1 i), s.2.2 + 1)
def sp_from (K : Nat) : Nat → sp_S → sp_S
  | 0, s => s
  | j + 1, s => sp_from K j (sp_one K (8 - (j + 1)) s)
theorem sp_h_can {K n : Nat} {s : sp_S} (h : sp_h K n s ≠ 0) : sp_can s.1.1 s.1.2 n (sp_h K n s) := by
  unfold sp_h at h ⊢
  by_cases e : 0 < s.2.1 n
  · rw [if_pos e] at h ⊢; exact sp_mv_can h
  · rw [if_neg e] at h; exact absurd rfl h
theorem sp_one_ok {K n : Nat} {s : sp_S} (hn : n < 8) (h : okD s.1) : okD (sp_one K n s).1 := by
  unfold sp_one
  by_cases e : sp_h K n s = 0
  · rw [if_pos e]; exact h
  · rw [if_neg e]; exact okD_go h hn (sp_h_can e)
theorem sp_mv_le {V : Nat → Nat → Nat} {M : Nat → Nat} {K n : Nat} : sp_mv V M K n ≤ 2 := by
  unfold sp_mv
  repeat' split
  all_goals omega
theorem sp_h_le {K n : Nat} {s : sp_S} : sp_h K n s ≤ 2 := by
  unfold sp_h
  split
  · exact sp_mv_le
  · omega
/-- the class: mover v, world w -/
def clS (K : Nat) (s : sp_S) (v w : ob_T) : Prop := clW w s.1.1 s.1.2 K ∧ (∀ n, n < 8 → v.1 0 n = nI (s.2.1 n)) ∧ ∀ n, n < 8 → s.2.1 n < 1000000
theorem p1_goRound_loop (fu : Nat) {K : Nat} (oK : okK K) : ∀ (j : Nat), j ≤ 8 → ∀ (nn : Nat), j < nn → ∀ (s : sp_S) (v w : ob_T), okD s.1 → clS K s v w → s.2.2 + j < 1000000 → ∃ v' w', bX1_goRound_4 fu nn v w (nI s.2.2) (nI (8 - j)) = some (nI (sp_from K j s).2.2, v', w') ∧ clS K (sp_from K j s) v' w' ∧ v'.2 = v.2 ∧ (∀ k, (∀ n, n < 8 → s.1.1 n 0 ≠ 0 → k ≠ n) → w'.2 7 k = w.2 7 k) ∧ okD (sp_from K j s).1 := by
  intro j
  induction j with
  | zero =>
    intro _ nn hnn s v w od hc hs
    obtain ⟨q, rfl⟩ : ∃ q, nn = q + 1 := ⟨nn - 1, by omega⟩
    exact ⟨v, w, by rw [bX1_goRound_4_s]; rfl, hc, rfl, fun _ _ => rfl, od⟩
  | succ j ih =>
    intro hj nn hnn s v w od hc hs
    obtain ⟨q, rfl⟩ : ∃ q, nn = q + 1 := ⟨nn - 1, by omega⟩
    obtain ⟨cw, cl, cb⟩ := hc
    have hn : 8 - (j + 1) < 8 := by omega
    generalize hk : 8 - (j + 1) = n at hn
    have hn1 : n + 1 = 8 - j := by omega
    have hL := cl n hn
    have hLb := cb n hn
    rw [bX1_goRound_4_s]
    simp only [l32_8, l32_0]
    simp (disch := omega) only [↓ix_no, ↓reduceIte, nI_clN, hL, nI_leN]
    rw [if_neg (by omega)]
    have key : ∀ (h : Nat), h = sp_h K n s → ∃ v' w', bX1_goRound_28 fu (bX1_goRound_4 fu q) v w (nI s.2.2) (nI n) (nI h) = some (nI (sp_from K (j + 1) s).2.2, v', w') ∧ clS K (sp_from K (j + 1) s) v' w' ∧ v'.2 = v.2 ∧ (∀ k, (∀ n, n < 8 → s.1.1 n 0 ≠ 0 → k ≠ n) → w'.2 7 k = w.2 7 k) ∧ okD (sp_from K (j + 1) s).1 := by
      intro h eh
      have hle : h ≤ 2 := by rw [eh]; exact sp_h_le
      unfold bX1_goRound_28 bX1_goRound_55
      simp only [bnd_eq, l32_0, l32_1, nI_addN]
      by_cases e : h = 0
      · rw [e, if_pos rfl]
        have e1 : sp_one K n s = s := by unfold sp_one; rw [if_pos (by omega)]
        have e2 : sp_from K (j + 1) s = sp_from K j s := by show sp_from K j (sp_one K (8 - (j + 1)) s) = _; rw [hk, e1]
        rw [e2, hn1]
        exact ih (by omega) q (by omega) s v w od ⟨cw, cl, cb⟩ (by omega)
      · rw [if_neg (by rw [nI_eqN (by omega) (by omega)]; exact e)]
        have hcan := sp_h_can (K := K) (n := n) (s := s) (by omega)
        rw [← eh] at hcan
        have hgt : 0 < s.2.1 n := by
          rcases Nat.eq_zero_or_pos (s.2.1 n) with z | z
          · exfalso
            have : sp_h K n s = 0 := by unfold sp_h; rw [if_neg (by omega)]
            omega
          · exact z
        have od2 : okD (sp_gD s.1 n h) := okD_go od hn hcan
        obtain ⟨w2, E, cw2, g7, gf⟩ := p4_carry fu cw (okD_V od) (okD_M od) oK hn hcan (okD_M od2)
        rw [E, bind_sm]
        simp (disch := omega) only [↓ix_no, ↓reduceIte, nI_clN, hL, nI_subN]
        have e1 : sp_one K n s = (sp_gD s.1 n h, (fun i => if i = n then s.2.1 n - 1 else s.2.1 i), s.2.2 + 1) := by unfold sp_one; rw [← eh, if_neg e]
        have e2 : sp_from K (j + 1) s = sp_from K j (sp_gD s.1 n h, (fun i => if i = n then s.2.1 n - 1 else s.2.1 i), s.2.2 + 1) := by show sp_from K j (sp_one K (8 - (j + 1)) s) = _; rw [hk, e1]
        rw [e2, hn1]
        obtain ⟨v', w', a1, a2, a3, a4, a5⟩ := ih (by omega) q (by omega) (sp_gD s.1 n h, (fun i => if i = n then s.2.1 n - 1 else s.2.1 i), s.2.2 + 1) (ob_I v 0 (upd (v.1 0) n (nI (s.2.1 n - 1)))) w2 od2 ⟨cw2, fun i hi => by
              show upd (v.1 0) n (nI (s.2.1 n - 1)) i = _
              rw [updI_at]
              by_cases z : i = n
              · subst z; simp
              · simp only [if_neg z]; exact cl i hi, fun i hi => by
              show (if i = n then s.2.1 n - 1 else s.2.1 i) < 1000000
              by_cases z : i = n
              · rw [if_pos z]; omega
              · rw [if_neg z]; exact cb i hi⟩ (by show s.2.2 + 1 + j < 1000000; omega)
        refine ⟨v', w', a1, a2, a3, fun k hk2 => ?_, a5⟩
        rw [a4 k (fun i hi h0 => hk2 i hi (by rw [show (sp_gD s.1 n h).1 i 0 = s.1.1 i 0 from go_st _ _ _ _ 0 (by omega) (by omega)] at h0; exact h0)), g7 k (hk2 n hn hcan.1)]
    by_cases e : s.2.1 n ≤ 0
    · rw [if_pos e]
      exact key 0 (by unfold sp_h; rw [if_neg (by omega)])
    · rw [if_neg e, p4_heading fu cw (okD_V od) (okD_M od) hn, bind_sm]
      exact key _ (by unfold sp_h; rw [if_pos (by omega)])
