/-! ===== STEPS: corner ===== -/
def sp_emp (K : Nat) (D : sp_D) (r n : Nat) : Prop := ∃ k', sp_ends K (sp_bD D n) k' ∧ (sp_it K (sp_bD D n) k').1 r 3 = 0
def sp_due (s : Nat) : Nat := if s = 0 then 0 else 2 ^ (s - 1)
theorem due_sh : ∀ s, s < 32 → 1 ≤ s → (1 : Int32) <<< ((nI s - (1 : Int32)) &&& 31) = nI (2 ^ (s - 1)) := by decide
theorem cor_cls (fu : Nat) (hfu : 1000000 ≤ fu) (o : ob_T) {nw : ob_T} {K : Nat} (oK : okK K) {D : sp_D} (od : okD D) (hc : clW nw D.1 D.2 K) {r : Nat} (hr : r < 8) (e0 : D.1 r 0 ≠ 0) (k38 : ob_T → ob_T → Int32 → Int32 → Int32 → Option (Int32 × ob_T × ob_T)) (v tr : ob_T) (l3 : Int32) {due n : Nat} (hd : due < 2147483648) (hn : n = if D.2 0 < due then D.2 0 else due) : ∃ v' tr', (sp_emp K D r n ∧ bX5_corner_57 fu o nw k38 v tr (nI r) (nI (D.2 0)) l3 (nI due) = some (nI n, v', tr')) ∨ (¬ sp_emp K D r n ∧ bX5_corner_57 fu o nw k38 v tr (nI r) (nI (D.2 0)) l3 (nI due) = bX5_corner_92 fu o nw k38 v' tr' (nI r) (nI (D.2 0)) l3 (nI n)) := by
  have q0 := (okD_M od).1
  have hle : n ≤ D.2 0 := by rw [hn]; split <;> omega
  obtain ⟨v', w', c⟩ := p5_tryPurchase fu hfu o (v := v) (tr := tr) oK od hc hle
  refine ⟨v', w', ?_⟩
  have hx : (if nI (D.2 0) < nI due then nI (D.2 0) else nI due) = nI n := by
    rw [hn]
    simp (disch := omega) only [nI_ltN]
    split <;> rfl
  unfold bX5_corner_57
  rw [bnd_eq, hx]
  have oP := bD_ok od n
  have hC : ∀ k i, (sp_it K (sp_bD D n) k).1 i 0 = D.1 i 0 := fun k i => (cons_it (K := K) (D := sp_bD D n) k).1 i 0 (by omega) (by omega)
  unfold sp_emp
  generalize sp_bD D n = E at oP c hC
  rcases c with ⟨k, e1, e2, e3⟩ | ⟨e1, e2⟩
  · have n5 := ends_m5 e1
    have oF := sp_it_ok (K := K) oP k
    have G := p4_hasGold fu e3 (okD_V oF) hr (by rw [hC k r]; exact e0)
    rw [e2, bind_sm]
    simp only
    rw [if_neg n5, G, bind_sm]
    by_cases g : (sp_it K E k).1 r 3 = 0
    · rw [if_pos g, if_pos rfl]
      exact Or.inl ⟨⟨k, e1, g⟩, rfl⟩
    · rw [if_neg g, if_neg (by decide)]
      refine Or.inr ⟨fun h => ?_, rfl⟩
      obtain ⟨k', f1, f2⟩ := h
      rw [sp_ends_one f1 e1] at f2
      exact g f2
  · rw [e2, bind_sm, if_pos (show ((-5 : Int32), v', w').1 = (-5 : Int32) from rfl)]
    exact Or.inr ⟨fun h => by obtain ⟨k', f1, f2⟩ := h; exact e1 k' f1, rfl⟩
theorem cor_ref (fu : Nat) (hfu : 1000000 ≤ fu) {y : ob_T} {K : Nat} (oK : okK K) {D : sp_D} (od : okD D) (hW : rfW y 0 D.1 D.2) (hK : y.1 4 0 = nI K) {r n : Nat} (hr : r < 8) (hn : n ≤ D.2 0) : ∃ y' x, rfQ y y' ∧ mX6_boughtOf fu y (lN n) (nI r) = some (x, y') ∧ (x = 0 ↔ sp_emp K D r n) := by
  obtain ⟨y', q, c⟩ := p6_boughtOf fu hfu oK od hW hK hn (show r ≤ 8 by omega)
  have e : ix_ba r = nI r := by unfold ix_ba; rw [if_neg (by omega)]
  rw [e] at c
  have oP := bD_ok od n
  unfold sp_emp
  generalize sp_bD D n = E at oP c
  rcases c with ⟨k, e1, e2⟩ | ⟨e1, e2⟩
  · refine ⟨y', _, q, e2, ?_⟩
    have oF := (okD_V (sp_it_ok (K := K) oP k) r hr).2.2.2.1
    unfold sp_ba
    rw [if_neg (by omega), l32_0, nI_eqN (by omega) (by omega)]
    constructor
    · intro h; exact ⟨k, e1, h⟩
    · rintro ⟨k', f1, f2⟩
      rw [sp_ends_one f1 e1] at f2
      exact f2
  · refine ⟨y', _, q, e2, ?_⟩
    constructor
    · intro h; exact absurd h (by decide)
    · rintro ⟨k', f1, f2⟩; exact absurd f1 (e1 k')
theorem cor_loop (fu : Nat) (hfu : 1000000 ≤ fu) (o : ob_T) {nw : ob_T} {K : Nat} (oK : okK K) {D : sp_D} (od : okD D) (hc : clW nw D.1 D.2 K) {r : Nat} (hr : r < 8) (e0 : D.1 r 0 ≠ 0) : ∀ (j : Nat), j ≤ 28 → ∀ (nn nn' : Nat) (v tr y : ob_T), j < nn → j < nn' → rfW y 0 D.1 D.2 → y.1 4 0 = nI K → ∃ (c : Int32) (v' tr' y' : ob_T), bX5_corner_38 fu o nw nn v tr (nI r) (nI (D.2 0)) (nI (28 - j)) = some (c, v', tr') ∧ bX6_corner_31 fu nn' y (nI r) (lN (D.2 0)) (lN (sp_due (28 - j))) = some (c, y') ∧ rfQ y y' := by
  have q0 := (okD_M od).1
  intro j
  induction j with
  | zero =>
    intro _ nn nn' v tr y hnn hnn' rW rK
    obtain ⟨q, rfl⟩ : ∃ q, nn = q + 1 := ⟨nn - 1, by omega⟩
    obtain ⟨q', rfl⟩ : ∃ q, nn' = q + 1 := ⟨nn' - 1, by omega⟩
    have hd : sp_due (28 - 0) = 134217728 := rfl
    rw [hd, Nat.sub_zero, bX5_corner_38_s, bX6_corner_31_s, if_neg (by decide), if_neg (by decide), due_sh 28 (by omega) (by omega)]
    have hg : ((0 : Int32) ≤ lg_cmp (lN 134217728) (lN (D.2 0))) = (D.2 0 ≤ 134217728) := by rw [l32_0, lg_geN, lN_leN (by omega) (by omega)]
    simp only [hg]
    rw [if_pos (show D.2 0 ≤ 134217728 by omega)]
    obtain ⟨v', tr', c⟩ := cor_cls fu hfu o oK od hc hr e0 (bX5_corner_38 fu o nw q) v tr (nI 28) (due := 2 ^ (28 - 1)) (n := D.2 0) (by omega) (by rw [if_pos (by omega)])
    obtain ⟨y', x, q1, q2, q3⟩ := cor_ref fu hfu oK od rW rK hr (Nat.le_refl (D.2 0))
    rw [q2, bind_sm]
    rcases c with ⟨c1, c2⟩ | ⟨c1, c2⟩
    · rw [c2]
      simp only
      rw [if_pos (show x = 0 from q3.mpr c1), lN_toI]
      exact ⟨_, v', tr', y', rfl, rfl, q1⟩
    · rw [c2]
      simp only
      rw [if_neg (show ¬ x = 0 from fun h => c1 (q3.mp h))]
      unfold bX5_corner_92
      rw [if_pos rfl]
      exact ⟨_, v', tr', y', rfl, rfl, q1⟩
  | succ j ih =>
    intro hj nn nn' v tr y hnn hnn' rW rK
    obtain ⟨q, rfl⟩ : ∃ q, nn = q + 1 := ⟨nn - 1, by omega⟩
    obtain ⟨q', rfl⟩ : ∃ q, nn' = q + 1 := ⟨nn' - 1, by omega⟩
    have hs : 28 - (j + 1) < 28 := by omega
    have IH := ih (by omega) q q'
    rw [show 28 - j = 28 - (j + 1) + 1 by omega] at IH
    generalize 28 - (j + 1) = s at hs IH
    have hdl : sp_due s < 134217729 := by
      unfold sp_due
      split
      · omega
      · have : 2 ^ (s - 1) ≤ 2 ^ 27 := Nat.pow_le_pow_right (by omega) (by omega)
        omega
    have hcls : bX5_corner_38 fu o nw (q + 1) v tr (nI r) (nI (D.2 0)) (nI s) = bX5_corner_57 fu o nw (bX5_corner_38 fu o nw q) v tr (nI r) (nI (D.2 0)) (nI s) (nI (sp_due s)) := by
      rw [bX5_corner_38_s, show (32 : Int32) = nI 32 from rfl, if_neg (by rw [nI_leN (by omega) (by omega)]; omega)]
      unfold sp_due
      by_cases e : s = 0
      · rw [if_pos (by rw [e]; rfl), if_pos e]; rfl
      · rw [if_neg (by rw [l32_0]; exact nI_ne (by omega) (by omega) e), if_neg e, due_sh s (by omega) (by omega)]
    have hnext : lN (sp_due (s + 1)) = if sp_due s = 0 then lN 1 else lN 2 * lN (sp_due s) := by
      rw [lN_mulN]
      by_cases e : s = 0
      · subst e; rfl
      · have e1 : sp_due s = 2 ^ (s - 1) := by unfold sp_due; rw [if_neg e]
        have e2 : sp_due (s + 1) = 2 * 2 ^ (s - 1) := by
          unfold sp_due
          rw [if_neg (by omega), show s + 1 - 1 = (s - 1) + 1 by omega, Nat.pow_succ]
          omega
        have : 0 < 2 ^ (s - 1) := Nat.two_pow_pos _
        rw [e1, e2, if_neg (by omega)]
    rw [hcls, bX6_corner_31_s]
    have hg : ((0 : Int32) ≤ lg_cmp (lN (sp_due s)) (lN (D.2 0))) = (D.2 0 ≤ sp_due s) := by rw [l32_0, lg_geN, lN_leN (by omega) (by omega)]
    have hz : (lg_cmp (lN (sp_due s)) (0 : Int64) = 0) = (sp_due s = 0) := by rw [l32_0, l64_0, lg_eqN, lN_eqN (by omega) (by omega)]
    simp only [hg, hz]
    by_cases g : D.2 0 ≤ sp_due s
    · rw [if_pos g]
      obtain ⟨v', tr', c⟩ := cor_cls fu hfu o oK od hc hr e0 (bX5_corner_38 fu o nw q) v tr (nI s) (due := sp_due s) (n := D.2 0) (by omega) (by split <;> omega)
      obtain ⟨y', x, q1, q2, q3⟩ := cor_ref fu hfu oK od rW rK hr (Nat.le_refl (D.2 0))
      rw [q2, bind_sm]
      rcases c with ⟨c1, c2⟩ | ⟨c1, c2⟩
      · rw [c2]
        simp only
        rw [if_pos (show x = 0 from q3.mpr c1), lN_toI]
        exact ⟨_, v', tr', y', rfl, rfl, q1⟩
      · rw [c2]
        simp only
        rw [if_neg (show ¬ x = 0 from fun h => c1 (q3.mp h))]
        unfold bX5_corner_92
        rw [if_pos rfl]
        exact ⟨_, v', tr', y', rfl, rfl, q1⟩
    · rw [if_neg g]
      obtain ⟨v', tr', c⟩ := cor_cls fu hfu o oK od hc hr e0 (bX5_corner_38 fu o nw q) v tr (nI s) (due := sp_due s) (n := sp_due s) (by omega) (by rw [if_neg (by omega)])
      obtain ⟨y', x, q1, q2, q3⟩ := cor_ref fu hfu oK od rW rK hr (show sp_due s ≤ D.2 0 by omega)
      rw [q2, bind_sm]
      rcases c with ⟨c1, c2⟩ | ⟨c1, c2⟩
      · rw [c2]
        simp only
        rw [if_pos (show x = 0 from q3.mpr c1), lN_toI]
        exact ⟨_, v', tr', y', rfl, rfl, q1⟩
      · rw [c2]
        simp only
        rw [if_neg (show ¬ x = 0 from fun h => c1 (q3.mp h))]
        unfold bX5_corner_92 bX6_corner_69
        rw [if_neg (nI_ne (by omega) (by omega) (by omega)), bnd_eq, l32_1, nI_addN]
        obtain ⟨c3, v2, t2, y2, f1, f2, f3⟩ := IH v' tr' y' (by omega) (by omega) (q1.2 0 _ _ (by omega) rW) (by rw [q1.1 4 (by omega)]; exact rK)
        refine ⟨c3, v2, t2, y2, f1, ?_, rfQ_tr q1 f3⟩
        rw [hnext] at f2
        by_cases e : sp_due s = 0
        · rw [if_pos e] at f2 ⊢; exact f2
        · rw [if_neg e] at f2 ⊢; exact f2
theorem st_corner (fu : Nat) (hfu : 1000000 ≤ fu) : sx_corner fu Rl := by
  intro n z p1 hn hR
  have hR0 : Rq n (z 0) (z 1) (z 3) (z 6) (z 7) (z 9) (z 10) (z 11) := hR
  obtain ⟨D, E0, E1, K, kc, oK, oN, cW, rW, rK, hkc, hk5, hk6, h0, h1, hT, hM, hY⟩ := hR
  have od := oN.1
  have z1 : ¬ ((1 : Int32) = 0) := by decide
  have m0 : (z 11).2 3 0 = lN (D.2 0) := rW.2 0 (by omega)
  unfold mX5_corner mX6_corner
  rcases both_has fu cW rW od p1 with ⟨a, b⟩ | ⟨a, b, r, hr, rfl, e0⟩
  · rw [a, b]; exact ⟨_, _, rfl, rfl, rfl, Rq_s hR0⟩
  rw [a, b, bind_sm, bind_sm, if_neg z1, if_neg z1, p4_mints fu cW hr, p6_mints fu rW (okD_V od) hr, bind_sm, bind_sm]
  by_cases e6 : D.1 r 6 = 0
  · rw [if_pos e6, if_pos rfl, if_pos rfl]; exact ⟨_, _, rfl, rfl, rfl, Rq_s hR0⟩
  rw [if_neg e6, if_neg z1, if_neg z1, if_neg (show ¬ ((0 : Int32) < 0 ∨ 15 ≤ ((0 : Int32)).toNatClampNeg) by decide), bnd_eq, bnd_eq, show (0 : Int32).toNatClampNeg = 0 from rfl, m0, cW.2.2.1, lN_toI]
  obtain ⟨c, v', tr', y', f1, f2, f3⟩ := cor_loop fu hfu (z 0) oK od cW hr e0 28 (by omega) fu fu (z 5) (z 8) (z 11) (by omega) (by omega) rW rK
  exact ⟨_, _, f1, f2, rfl, Rq_Q hR0 f3⟩
