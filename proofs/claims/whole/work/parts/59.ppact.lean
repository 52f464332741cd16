/-! ===== PURE: holders; looks at another world; pacts, purchases ===== -/
theorem p4_holders (fu : Nat) (hf : 9 ≤ fu) {w : ob_T} {D : sp_D} {K : Nat} (h : clW w D.1 D.2 K) (od : okD D) : mX4_holders fu w = some (nI (bt8 (sp_hold D.1 D.2 K) 8)) := by
  have o := okD_V od
  refine lp_bits0 (b := bX4_holders_4 fu w) hf (fun nn a => ?_) (fun nn a n hn => ?_)
  · rw [bX4_holders_4_s]; rfl
  · obtain ⟨o0, o1, o2, o3, o4, o5, o6, o7, o8, o9⟩ := o n hn
    rw [bX4_holders_4_s, l32_8, if_neg (by rw [nI_leN (by omega) (by omega)]; omega)]
    have G6 := p4_mints fu h hn
    have S : ∀ s0 : Int32, bX4_holders_41 fu w (bX4_holders_4 fu w nn) (nI a) (nI n) s0 = if D.1 n 6 = 0 ∨ s0 = 0 then bX4_holders_4 fu w nn (nI a) (nI (n + 1)) else if D.1 n 3 = 0 ∨ D.1 n 4 < D.1 n 0 then bX4_holders_4 fu w nn (nI a) (nI (n + 1)) else bX4_holders_4 fu w nn (nI (a ||| 2 ^ n)) (nI (n + 1)) := by
      intro s0
      unfold bX4_holders_41
      rw [G6, bind_sm]
      simp only [bX4_holders_76, bnd_eq, l32_1, nI_addN, nI_sh1 n hn, nI_orN]
      by_cases e6 : D.1 n 6 = 0
      · rw [if_pos e6, if_pos (show (0 : Int32) = 0 from rfl), if_pos (Or.inl e6)]
      have e0 : D.1 n 0 ≠ 0 := fun e => e6 (o9 e).2.2.1
      rw [if_neg e6, if_neg (by decide)]
      by_cases es : s0 = 0
      · rw [if_pos es, if_pos (Or.inr es)]
      rw [if_neg es, if_neg (by simp [e6, es]), p4_hasGold fu h o hn e0, bind_sm]
      by_cases e3 : D.1 n 3 = 0
      · rw [if_pos e3, if_pos (show (0 : Int32) = 0 from rfl), if_pos (Or.inl e3)]
      rw [if_neg e3, if_neg (by decide), p4_hasSilver fu h o hn e0, bind_sm]
      by_cases e4 : D.1 n 4 < D.1 n 0
      · rw [if_pos e4, if_pos (show (0 : Int32) = 0 from rfl), if_pos (Or.inr e4)]
      · rw [if_neg e4, if_neg (by decide), if_neg (by simp [e3, e4])]
    rw [S 0, S 1]
    simp (disch := omega) only [↓ix_no0, ↓reduceIte, nI_clN]
    have hO : bX4_holders_4 fu w nn (nI (a ||| if sp_hold D.1 D.2 K n = true then 2 ^ n else 0)) (nI (n + 1)) = if sp_hold D.1 D.2 K n = true then bX4_holders_4 fu w nn (nI (a ||| 2 ^ n)) (nI (n + 1)) else bX4_holders_4 fu w nn (nI a) (nI (n + 1)) := by
      by_cases e : sp_hold D.1 D.2 K n = true
      · rw [if_pos e, if_pos e]
      · rw [if_neg e, if_neg e, Nat.or_zero]
    rw [hO]
    by_cases e6 : D.1 n 6 = 0
    · have : sp_hold D.1 D.2 K n = false := by simp [sp_hold, e6]
      simp only [e6, this]
      simp
    have e0 : D.1 n 0 ≠ 0 := fun e => e6 (o9 e).2.2.1
    obtain ⟨c0, c1, c2, c3, c4, c5, c6, c7, c8⟩ := h.2.1 n hn e0
    obtain ⟨a0, a1, a2, a3, a4⟩ := h.2.2
    have hrt := rt_le K D.2
    have d0 : sp_lo D.1 n < 1000000000 := Nat.lt_of_le_of_lt (Nat.div_le_self _ _) (by omega)
    have d1 : sp_hi D.1 n ≤ 1000000 := by unfold sp_hi; split <;> omega
    rw [a3, c5, c6]
    simp (disch := omega) only [nI_ltN]
    have z1 : ¬ ((1 : Int32) = 0) := by decide
    simp only [sp_hold, decide_eq_true_eq, e6, e0, z1, or_self, false_or, or_true, ↓reduceIte, ne_eq, not_false_eq_true, true_and]
    repeat' split
    all_goals first | rfl | (exfalso; omega)
/-- what the reference keeps from call to call: all but its scratch -/
def rfQ (y y' : ob_T) : Prop := (∀ f, f ≠ 10 → y'.1 f = y.1 f) ∧ ∀ c V M, c < 3 → rfW y c V M → rfW y' c V M
theorem rfQ_rf {y : ob_T} : rfQ y y := ⟨fun _ _ => rfl, fun _ _ _ _ h => h⟩
theorem rfQ_tr {a b c : ob_T} (h : rfQ a b) (g : rfQ b c) : rfQ a c := ⟨fun f q => (g.1 f q).trans (h.1 f q), fun k V M hk w => g.2 k V M hk (h.2 k V M hk w)⟩
theorem rfY_slot {y y' : ob_T} (h : rfY y y') {c : Nat} (hc : 1 ≤ c) {V : Nat → Nat → Nat} {M : Nat → Nat} (w : rfW y c V M) : rfW y' c V M := by
  refine ⟨fun n hn => ⟨fun f hf => ?_, ?_⟩, fun f hf => ?_⟩
  · rw [h.2 2 _ (Or.inr (Or.inl ⟨rfl, by omega⟩))]; exact (w.1 n hn).1 f hf
  · rw [h.2 2 _ (Or.inr (Or.inl ⟨rfl, by omega⟩))]; exact (w.1 n hn).2
  · rw [h.2 3 _ (Or.inr (Or.inr ⟨rfl, by omega⟩))]; exact w.2 f hf
theorem p6_look (fu : Nat) (hfu : 100 ≤ fu) (y : ob_T) : ∃ y1, mX6_copy fu y 0 3 = some y1 ∧ y1.1 = y.1 ∧ (∀ V M, rfW y 0 V M → rfW y1 0 V M) ∧ (∀ c V M, c < 3 → rfW y c V M → rfW y1 c V M) ∧ ∀ y2, rfY y1 y2 → ∃ y3, mX6_copy fu y2 3 0 = some y3 ∧ rfQ y y3 := by
  obtain ⟨y1, a1, a2, a3, a4⟩ := p6_copy fu hfu (a := 0) (b := 3) (by omega) (by omega) (by omega) y
  refine ⟨y1, a1, a2, fun V M h => a4 0 V M (by omega) (by omega) h, fun c V M hc h => a4 c V M (by omega) (by omega) h, fun y2 hY => ?_⟩
  obtain ⟨y3, b1, b2, b3, b4⟩ := p6_copy fu hfu (a := 3) (b := 0) (by omega) (by omega) (by omega) y2
  refine ⟨y3, b1, fun f hf => by rw [b2, hY.1 f hf, a2], fun c V M hc h => ?_⟩
  by_cases e : c = 0
  · subst e
    exact b3 V M (rfY_slot hY (by omega) (a3 V M h))
  · exact b4 c V M (by omega) e (rfY_slot hY (by omega) (a4 c V M (by omega) (by omega) h))
/-! pacts -/
def sp_pt (set r : Nat) : Nat → (Nat → Nat → Nat) → Nat → Nat → Nat
  | 0, V => V
  | j + 1, V => sp_pt set r j (if set.testBit (8 - (j + 1)) = true then sp_law V (8 - (j + 1)) r else V)
theorem law_ok {D : sp_D} {n r : Nat} (h : okD D) (e0 : D.1 n 0 ≠ 0) (r1 : 1000 ≤ r) (r2 : r ≤ 99999) : okD (sp_law D.1 n r, D.2) := by
  refine ⟨fun k hk => ?_, ?_, ?_, h.2.2.2⟩
  · obtain ⟨a, b, c, d, e, f, g, i⟩ := h.1 k hk
    show (sp_law D.1 n r k 0 = 0 ∨ _) ∧ _
    simp only [law_st D.1 n r k 1 (by omega), law_st D.1 n r k 2 (by omega), law_st D.1 n r k 5 (by omega), law_st D.1 n r k 6 (by omega), law_st D.1 n r k 7 (by omega), law_st D.1 n r k 8 (by omega), law_st D.1 n r k 3 (by omega), law_st D.1 n r k 4 (by omega)]
    have h0 : sp_law D.1 n r k 0 = if k = n then r else D.1 k 0 := by unfold sp_law; by_cases z : k = n <;> simp [z]
    rw [h0]
    by_cases z : k = n
    · rw [if_pos z]
      exact ⟨Or.inr ⟨r1, r2⟩, b, c, d, e, f, g, fun q => absurd q (by omega)⟩
    · rw [if_neg z]
      exact ⟨a, b, c, d, e, f, g, i⟩
  · have : TG (sp_law D.1 n r, D.2) = TG D := by unfold TG; simp only [law_st _ _ _ _ 3 (show (3 : Nat) ≠ 0 by omega)]
    rw [this]; exact h.2.1
  · have : TS (sp_law D.1 n r, D.2) = TS D := by unfold TS; simp only [law_st _ _ _ _ 4 (show (4 : Nat) ≠ 0 by omega)]
    rw [this]; exact h.2.2.1
theorem law_0 {V : Nat → Nat → Nat} {n r k : Nat} (h : V k 0 ≠ 0) (r1 : 1000 ≤ r) : sp_law V n r k 0 ≠ 0 := by
  unfold sp_law
  split
  · omega
  · exact h
theorem p5_pact_loop (fu : Nat) (o nw v : ob_T) {K : Nat} {M : Nat → Nat} {set r : Nat} (hs : set < 256) (r1 : 1000 ≤ r) (r2 : r ≤ 99999) : ∀ (j : Nat), j ≤ 8 → ∀ (nn : Nat), j < nn → ∀ (V : Nat → Nat → Nat) (w : ob_T), okD (V, M) → clW w V M K → (∀ n, n < 8 → set.testBit n = true → V n 0 ≠ 0) → ∃ w', clW w' (sp_pt set r j V) M K ∧ okD (sp_pt set r j V, M) ∧ bX5_tryPact_13 fu o nw nn v w (nI set) (nI r) (nI (8 - j)) = Option.bind (mX1_settle fu v w') (fun (r3 : Int32 × ob_T × ob_T) => some (r3.1, r3.2.1, r3.2.2)) := by
  intro j
  induction j with
  | zero =>
    intro _ nn hnn V w od hc ht
    obtain ⟨q, rfl⟩ : ∃ q, nn = q + 1 := ⟨nn - 1, by omega⟩
    exact ⟨w, hc, od, by rw [bX5_tryPact_13_s, if_pos (by decide)]⟩
  | succ j ih =>
    intro hj nn hnn V w od hc ht
    obtain ⟨q, rfl⟩ : ∃ q, nn = q + 1 := ⟨nn - 1, by omega⟩
    have hn : 8 - (j + 1) < 8 := by omega
    show ∃ w', clW w' (sp_pt set r j (if set.testBit (8 - (j + 1)) = true then sp_law V (8 - (j + 1)) r else V)) M K ∧ okD (sp_pt set r j (if set.testBit (8 - (j + 1)) = true then sp_law V (8 - (j + 1)) r else V), M) ∧ _
    generalize hk : 8 - (j + 1) = n at hn
    have hn1 : n + 1 = 8 - j := by omega
    rw [bX5_tryPact_13_s, l32_8, if_neg (show ¬ nI 8 ≤ nI n by rw [nI_leN (by omega) (by omega)]; omega)]
    simp only [l32_1, bX5_tryPact_37, bnd_eq, nI_addN, propext (bit_dec set hs n hn), hn1]
    by_cases e : set.testBit n = true
    · have e0 := ht n hn e
      obtain ⟨w2, a1, a2, a3⟩ := p4_move fu hc (okD_V od) hn e0 r1 r2
      rw [if_pos e, if_pos e, a1, bind_sm]
      exact ih (by omega) q (by omega) (sp_law V n r) w2 (law_ok (D := (V, M)) od e0 r1 r2) a2 (fun k hk2 h => law_0 (ht k hk2 h) r1)
    · rw [if_neg e, if_neg e]
      exact ih (by omega) q (by omega) V w od hc ht
def sp_pD (D : sp_D) (set r : Nat) : sp_D := (sp_pt set r 8 D.1, D.2)
theorem ends_m5 {K : Nat} {D : sp_D} {k : Nat} (h : sp_ends K D k) : ¬ nI (sp_sm K D k) = (-5 : Int32) := by
  have := h.2.2
  intro e
  have h1 : nI 0 ≤ nI (sp_sm K D k) := by rw [nI_leN (by omega) (by omega)]; omega
  rw [e] at h1
  exact absurd h1 (by decide)
theorem p5_tryPact (fu : Nat) (hfu : 1000000 ≤ fu) (o : ob_T) {nw v tr : ob_T} {K : Nat} (oK : okK K) {D : sp_D} (od : okD D) (hc : clW nw D.1 D.2 K) {set r : Nat} (hs : set < 256) (r1 : 1000 ≤ r) (r2 : r ≤ 99999) (ht : ∀ n, n < 8 → set.testBit n = true → D.1 n 0 ≠ 0) : okD (sp_pD D set r) ∧ ∃ v' w', (∃ k', sp_ends K (sp_pD D set r) k' ∧ mX5_tryPact fu o v nw tr (nI set) (nI r) = some (nI (sp_sm K (sp_pD D set r) k'), v', w') ∧ clW w' (sp_it K (sp_pD D set r) k').1 (sp_it K (sp_pD D set r) k').2 K) ∨ ((∀ k', ¬ sp_ends K (sp_pD D set r) k') ∧ mX5_tryPact fu o v nw tr (nI set) (nI r) = some (-5, v', w')) := by
  obtain ⟨t1, a1, a2⟩ := p4_copyFrom fu tr nw
  obtain ⟨t2, b1, b2, b3⟩ := p5_pact_loop fu o nw v (K := K) (M := D.2) hs r1 r2 8 (by omega) fu (by omega) D.1 t1 od (agr_cl a2 hc) ht
  have e : mX5_tryPact fu o v nw tr (nI set) (nI r) = Option.bind (mX1_settle fu v t2) (fun (r3 : Int32 × ob_T × ob_T) => some (r3.1, r3.2.1, r3.2.2)) := by
    unfold mX5_tryPact
    rw [a1, bind_sm]
    exact b3
  refine ⟨b2, ?_⟩
  have b2' : okD (sp_pD D set r) := b2
  have b1' : clW t2 (sp_pD D set r).1 (sp_pD D set r).2 K := b1
  generalize sp_pD D set r = E at b2' b1'
  obtain ⟨v', w', c⟩ := p1_settle fu hfu oK b2' (v := v) b1'
  refine ⟨v', w', ?_⟩
  rw [e]
  rcases c with ⟨k', c1, c2, c3⟩ | ⟨c1, c2⟩
  · exact Or.inl ⟨k', c1, by rw [c2, bind_sm], c3⟩
  · exact Or.inr ⟨c1, by rw [c2, bind_sm]⟩
def pk_tail (fu : Nat) (w0 : ob_T) (l1 l3 : Int32) : Option (Int32 × ob_T) := (Option.bind (mX6_goRest fu w0) (fun (r4 : Int32 × ob_T) => (if l3 = (1 : Int32) then (Option.bind (mX6_ratio fu r4.2) (fun (r6 : Int64) => bX6_pactOf_78 fu r4.2 r4.1 r6.toInt32)) else (Option.bind (mX6_held fu r4.2) (fun (r5 : Int32) => (if (l1 &&& (r5 ^^^ (-1 : Int32))) = 0 then bX6_pactOf_78 fu r4.2 r4.1 (1 : Int32) else bX6_pactOf_78 fu r4.2 r4.1 (0 : Int32)))))))
theorem p6_pact_loop (fu : Nat) {M : Nat → Nat} {set r : Nat} (hs : set < 256) (r2 : r ≤ 99999) (wh : Int32) : ∀ (j : Nat), j ≤ 8 → ∀ (nn : Nat), j < nn → ∀ (V : Nat → Nat → Nat) (y : ob_T), rfW y 0 V M → ∃ y', rfW y' 0 (sp_pt set r j V) M ∧ rfY y y' ∧ bX6_pactOf_9 fu nn y (nI set) (nI r) wh (nI (8 - j)) = pk_tail fu y' (nI set) wh := by
  intro j
  induction j with
  | zero =>
    intro _ nn hnn V y hc
    obtain ⟨q, rfl⟩ : ∃ q, nn = q + 1 := ⟨nn - 1, by omega⟩
    exact ⟨y, hc, rfY_rf, by rw [bX6_pactOf_9_s, if_pos (by decide)]; rfl⟩
  | succ j ih =>
    intro hj nn hnn V y hc
    obtain ⟨q, rfl⟩ : ∃ q, nn = q + 1 := ⟨nn - 1, by omega⟩
    have hn : 8 - (j + 1) < 8 := by omega
    show ∃ y', rfW y' 0 (sp_pt set r j (if set.testBit (8 - (j + 1)) = true then sp_law V (8 - (j + 1)) r else V)) M ∧ _ ∧ _
    generalize hk : 8 - (j + 1) = n at hn
    have hn1 : n + 1 = 8 - j := by omega
    rw [bX6_pactOf_9_s, l32_8, if_neg (show ¬ nI 8 ≤ nI n by rw [nI_leN (by omega) (by omega)]; omega)]
    unfold mX6_has
    simp only [l32_1, l32_9, nI_mulN, bX6_pactOf_37, bnd_eq, nI_addN, propext (bit_dec set hs n hn), hn1]
    by_cases e : set.testBit n = true
    · rw [if_pos e, if_pos e, bind_sm, if_neg (by decide)]
      simp (disch := omega) only [↓ix_no0, ↓reduceIte, nI_clN, nI_toL]
      have r3 := rf_upd2 hc hn (show 0 < 8 by omega) r
      rw [show 72 * 0 + 9 * n + 0 = 9 * n by omega] at r3
      obtain ⟨y', a1, a2, a3⟩ := ih (by omega) q (by omega) (sp_law V n r) _ r3
      exact ⟨y', a1, rfY_tr (rfY_upd2 (by omega) _) a2, a3⟩
    · rw [if_neg e, if_neg e, bind_sm, if_pos (by decide)]
      exact ih (by omega) q (by omega) V y hc
/-- what a pact answers, at rest -/
def sp_pa (K : Nat) (E : sp_D) (set : Nat) (wh : Int32) : Int32 := if wh = 1 then nI (rt K E.2) else if (nI set &&& (nI (bt8 (sp_hold E.1 E.2 K) 8) ^^^ (-1 : Int32))) = 0 then 1 else 0
theorem p6_pactOf (fu : Nat) (hfu : 1000000 ≤ fu) {y : ob_T} {K : Nat} (oK : okK K) {D : sp_D} (hW : rfW y 0 D.1 D.2) (hK : y.1 4 0 = nI K) {set r : Nat} (hs : set < 256) (r2 : r ≤ 99999) (wh : Int32) (oP : okD (sp_pD D set r)) : ∃ y', rfQ y y' ∧ ((∃ k', sp_ends K (sp_pD D set r) k' ∧ mX6_pactOf fu y (nI set) (nI r) wh = some (sp_pa K (sp_it K (sp_pD D set r) k') set wh, y')) ∨ ((∀ k', ¬ sp_ends K (sp_pD D set r) k') ∧ mX6_pactOf fu y (nI set) (nI r) wh = some (-5, y'))) := by
  obtain ⟨y1, a1, a2, a3, a4, a5⟩ := p6_look fu (by omega) y
  obtain ⟨y2, b1, b2, b3⟩ := p6_pact_loop fu (M := D.2) hs r2 wh 8 (by omega) fu (by omega) D.1 y1 (a3 _ _ hW)
  have hE : mX6_pactOf fu y (nI set) (nI r) wh = pk_tail fu y2 (nI set) wh := by
    unfold mX6_pactOf
    rw [a1, bind_sm]
    exact b3
  rw [hE]
  have b1' : rfW y2 0 (sp_pD D set r).1 (sp_pD D set r).2 := b1
  have k2 : y2.1 4 0 = nI K := by rw [b2.1 4 (by omega), a2]; exact hK
  generalize sp_pD D set r = E at b1' oP
  obtain ⟨y3, c1, c2⟩ := p6_goRest fu hfu oK oP b1' k2
  have k3 : y3.1 4 0 = nI K := by rw [c1.1]; exact k2
  obtain ⟨y4, d1, d2⟩ := a5 y3 (rfY_tr b2 (rfK_Y c1))
  refine ⟨y4, d2, ?_⟩
  unfold pk_tail
  rcases c2 with ⟨k', e1, e2, e3⟩ | ⟨e1, e2, D', e3, e4⟩
  · refine Or.inl ⟨k', e1, ?_⟩
    have oF := sp_it_ok (K := K) oP k'
    have n5 := ends_m5 e1
    rw [e2, bind_sm]
    generalize sp_it K E k' = F at e3 oF
    unfold bX6_pactOf_78 sp_pa
    simp only [d1, bind_sm, if_neg n5]
    rw [p6_ratio fu e3 k3 (okD_M oF) oK, p6_held fu (by omega) e3 k3 (okD_V oF) (okD_M oF) oK]
    simp only [bind_sm, lN_toI]
    repeat' split
    all_goals rfl
  · refine Or.inr ⟨e1, ?_⟩
    rw [e2, bind_sm]
    unfold bX6_pactOf_78
    simp only [d1, bind_sm]
    rw [p6_ratio fu e4 k3 (okD_M e3) oK, p6_held fu (by omega) e4 k3 (okD_V e3) (okD_M e3) oK]
    simp only [bind_sm]
    repeat' split
    all_goals first | rfl | contradiction
/-! purchases -/
def sp_bD (D : sp_D) (n : Nat) : sp_D := (D.1, fun f => if f = 0 then D.2 0 - n else D.2 f)
theorem bD_ok {D : sp_D} (h : okD D) (n : Nat) : okD (sp_bD D n) := by
  refine ⟨h.1, ?_, ?_, h.2.2.2⟩
  · have := h.2.1
    unfold TG sp_bD at *
    simp only at *
    simp
    omega
  · exact h.2.2.1
theorem p5_tryPurchase (fu : Nat) (hfu : 1000000 ≤ fu) (o : ob_T) {nw v tr : ob_T} {K : Nat} (oK : okK K) {D : sp_D} (od : okD D) (hc : clW nw D.1 D.2 K) {n : Nat} (hn : n ≤ D.2 0) : ∃ v' w', (∃ k', sp_ends K (sp_bD D n) k' ∧ mX5_tryPurchase fu o v nw tr (nI n) = some (nI (sp_sm K (sp_bD D n) k'), v', w') ∧ clW w' (sp_it K (sp_bD D n) k').1 (sp_it K (sp_bD D n) k').2 K) ∨ ((∀ k', ¬ sp_ends K (sp_bD D n) k') ∧ mX5_tryPurchase fu o v nw tr (nI n) = some (-5, v', w')) := by
  have q0 := (okD_M od).1
  obtain ⟨t1, a1, a2⟩ := p4_copyFrom fu tr nw
  have c1 := agr_cl a2 hc
  obtain ⟨g0, g1, g2, g3, g4⟩ := c1.2.2
  have ob := bD_ok od n
  have e1 : mX4_weigh fu (ob_L t1 12 (fun _ => (t1.2 12 0) - (nI n).toInt64)) = some (ob_I (ob_L t1 12 (fun _ => (t1.2 12 0) - (nI n).toInt64)) 15 (fun _ => nI (rt K (sp_bD D n).2))) := by
    refine p4_weigh fu (M := (sp_bD D n).2) ?_ ?_ g2 (okD_M ob) oK
    · show t1.2 12 0 - (nI n).toInt64 = lN (D.2 0 - n)
      rw [g0, nI_toL (by omega), lN_subN hn]
    · exact g1
  have c2 : clW (ob_I (ob_L t1 12 (fun _ => (t1.2 12 0) - (nI n).toInt64)) 15 (fun _ => nI (rt K (sp_bD D n).2))) (sp_bD D n).1 (sp_bD D n).2 K := by
    refine ⟨c1.1, c1.2.1, ?_, g1, g2, rfl, g4⟩
    show t1.2 12 0 - (nI n).toInt64 = lN (D.2 0 - n)
    rw [g0, nI_toL (by omega), lN_subN hn]
  have e : mX5_tryPurchase fu o v nw tr (nI n) = Option.bind (mX1_settle fu v (ob_I (ob_L t1 12 (fun _ => (t1.2 12 0) - (nI n).toInt64)) 15 (fun _ => nI (rt K (sp_bD D n).2)))) (fun (r3 : Int32 × ob_T × ob_T) => some (r3.1, r3.2.1, r3.2.2)) := by
    unfold mX5_tryPurchase
    rw [a1, bind_sm, bnd_eq, e1, bind_sm]
  generalize sp_bD D n = E at ob e c2
  obtain ⟨v', w', c⟩ := p1_settle fu hfu oK ob (v := v) c2
  refine ⟨v', w', ?_⟩
  rw [e]
  rcases c with ⟨k', c1, c2, c3⟩ | ⟨c1, c2⟩
  · exact Or.inl ⟨k', c1, by rw [c2, bind_sm], c3⟩
  · exact Or.inr ⟨c1, by rw [c2, bind_sm]⟩
/-- what a purchase answers, at rest: the ratio (8) or a realm's gold -/
def sp_ba (K : Nat) (E : sp_D) (r : Nat) : Int32 := if r = 8 then nI (rt K E.2) else nI (E.1 r 3)
def ix_ba (r : Nat) : Int32 := if r = 8 then -1 else nI r
theorem p6_boughtOf (fu : Nat) (hfu : 1000000 ≤ fu) {y : ob_T} {K : Nat} (oK : okK K) {D : sp_D} (od : okD D) (hW : rfW y 0 D.1 D.2) (hK : y.1 4 0 = nI K) {n r : Nat} (hn : n ≤ D.2 0) (hr : r ≤ 8) : ∃ y', rfQ y y' ∧ ((∃ k', sp_ends K (sp_bD D n) k' ∧ mX6_boughtOf fu y (lN n) (ix_ba r) = some (sp_ba K (sp_it K (sp_bD D n) k') r, y')) ∨ ((∀ k', ¬ sp_ends K (sp_bD D n) k') ∧ mX6_boughtOf fu y (lN n) (ix_ba r) = some (-5, y'))) := by
  obtain ⟨y1, a1, a2, a3, a4, a5⟩ := p6_look fu (by omega) y
  have w1 := a3 _ _ hW
  have m0 : y1.2 3 0 = lN (D.2 0) := w1.2 0 (by omega)
  have w2 : rfW (ob_L y1 3 (vp_updL (y1.2 3) 0 (lN (D.2 0 - n)))) 0 (sp_bD D n).1 (sp_bD D n).2 := rf_upd3 w1 0 (D.2 0 - n)
  have Y2 : rfY y1 (ob_L y1 3 (vp_updL (y1.2 3) 0 (lN (D.2 0 - n)))) := rfY_upd3 (by omega) _
  have oP := bD_ok od n
  have k2 : (ob_L y1 3 (vp_updL (y1.2 3) 0 (lN (D.2 0 - n)))).1 4 0 = nI K := by rw [obL_1, a2]; exact hK
  unfold mX6_boughtOf
  rw [a1, bind_sm]
  simp only [l32_0]
  simp (disch := omega) only [↓ix_no, ↓reduceIte, nI_clN, m0, lN_subN, bnd_eq]
  generalize ob_L y1 3 (vp_updL (y1.2 3) 0 (lN (D.2 0 - n))) = y2 at w2 Y2 k2
  generalize sp_bD D n = E at w2 oP
  obtain ⟨y3, c1, c2⟩ := p6_goRest fu hfu oK oP w2 k2
  have k3 : y3.1 4 0 = nI K := by rw [c1.1]; exact k2
  obtain ⟨y4, d1, d2⟩ := a5 y3 (rfY_tr Y2 (rfK_Y c1))
  refine ⟨y4, d2, ?_⟩
  have hcond : (nI 0 ≤ ix_ba r) = (r ≠ 8) := by
    unfold ix_ba
    by_cases e : r = 8
    · rw [if_pos e]; simp [e]; decide
    · rw [if_neg e, nI_leN (by omega) (by omega)]; simp [e]
  simp only [hcond]
  rcases c2 with ⟨k', e1, e2, e3⟩ | ⟨e1, e2, D', e3, e4⟩
  · refine Or.inl ⟨k', e1, ?_⟩
    have oF := sp_it_ok (K := K) oP k'
    have n5 := ends_m5 e1
    rw [e2, bind_sm]
    generalize sp_it K E k' = F at e3 oF
    unfold bX6_boughtOf_46 sp_ba
    simp only [d1, bind_sm, if_neg n5]
    by_cases e : r = 8
    · rw [if_neg (by simp [e]), if_pos e, p6_ratio fu e3 k3 (okD_M oF) oK]
      simp only [bind_sm, lN_toI]
    · rw [if_pos e, if_neg e]
      have v3 := rf_at e3 (show r < 8 by omega) (show 3 < 8 by omega)
      unfold ix_ba
      rw [if_neg e]
      simp only [l32_3, l32_9, nI_mulN, nI_addN]
      simp (disch := omega) only [↓ix_no, ↓reduceIte, nI_clN, v3, lN_toI]
  · refine Or.inr ⟨e1, ?_⟩
    rw [e2, bind_sm]
    unfold bX6_boughtOf_46
    simp only [d1, bind_sm]
    by_cases e : r = 8
    · rw [if_neg (by simp [e]), p6_ratio fu e4 k3 (okD_M e3) oK]
      rfl
    · rw [if_pos e]
      unfold ix_ba
      rw [if_neg e]
      simp only [l32_3, l32_9, nI_mulN, nI_addN]
      simp (disch := omega) only [↓ix_no, ↓reduceIte]
