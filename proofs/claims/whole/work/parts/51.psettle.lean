/-! ===== PURE: the class's settle ===== -/
theorem from_left {K : Nat} : ∀ (j : Nat) (s : sp_S) (n : Nat), s.2.1 n + s.2.2 ≤ (sp_from K j s).2.1 n + (sp_from K j s).2.2 ∧ (sp_from K j s).2.1 n ≤ s.2.1 n := by
  intro j
  induction j with
  | zero => intro s n; exact ⟨Nat.le_refl _, Nat.le_refl _⟩
  | succ j ih =>
    intro s n
    have h := ih (sp_one K (8 - (j + 1)) s) n
    have h1 : s.2.1 n + s.2.2 ≤ (sp_one K (8 - (j + 1)) s).2.1 n + (sp_one K (8 - (j + 1)) s).2.2 ∧ (sp_one K (8 - (j + 1)) s).2.1 n ≤ s.2.1 n := by
      unfold sp_one
      by_cases e : sp_h K (8 - (j + 1)) s = 0
      · rw [if_pos e]; exact ⟨Nat.le_refl _, Nat.le_refl _⟩
      · rw [if_neg e]
        show s.2.1 n + s.2.2 ≤ (if n = 8 - (j + 1) then s.2.1 (8 - (j + 1)) - 1 else s.2.1 n) + (s.2.2 + 1) ∧ (if n = 8 - (j + 1) then s.2.1 (8 - (j + 1)) - 1 else s.2.1 n) ≤ s.2.1 n
        by_cases z : n = 8 - (j + 1)
        · rw [if_pos z, ← z]; omega
        · rw [if_neg z]; omega
    show _ ≤ (sp_from K j (sp_one K (8 - (j + 1)) s)).2.1 n + (sp_from K j (sp_one K (8 - (j + 1)) s)).2.2 ∧ (sp_from K j (sp_one K (8 - (j + 1)) s)).2.1 n ≤ _
    omega
theorem sm_ge {K : Nat} {D : sp_D} : ∀ k, (∀ i, i < k → sp_c K D i ≠ 0) → k ≤ sp_sm K D k := by
  intro k
  induction k with
  | zero => intro _; exact Nat.le_refl _
  | succ k ih =>
    intro h
    have h1 := ih (fun i hi => h i (by omega))
    have h2 := h k (by omega)
    show k + 1 ≤ sp_sm K D k + sp_c K D k
    omega
theorem p1_goRoundJ (J : Nat) (hJ : J = 8) (fu : Nat) (hf : 9 ≤ fu) {K : Nat} (oK : okK K) {D : sp_D} (od : okD D) {L : Nat → Nat} {v w : ob_T} (hc : clS K (D, L, 0) v w) (hL : ∀ n, n < 8 → 0 < L n) : ∃ v' w' L', mX1_goRound fu v w = some (nI (sp_rdj K J D).2, v', w') ∧ clS K ((sp_rdj K J D).1, L', 0) v' w' ∧ v'.2 = v.2 ∧ (∀ k, (∀ n, n < 8 → D.1 n 0 ≠ 0 → k ≠ n) → w'.2 7 k = w.2 7 k) ∧ (∀ n, L n ≤ L' n + (sp_rdj K J D).2 ∧ L' n ≤ L n) := by
  obtain ⟨v', w', a1, a2, a3, a4, a5⟩ := p1_goRound_loop fu oK J (by omega) fu (by omega) (D, L, 0) v w od hc (by show 0 + J < 1000000; omega)
  obtain ⟨e1, e2⟩ := sp_from_L (K := K) J (by omega) D L (fun _ => 1) 0 0 (fun n _ hn => ⟨hL n hn, by omega⟩)
  rw [Nat.add_zero, Nat.add_zero, sp_rdj_2] at e2
  rw [sp_rdj_1] at e1
  have hl := fun n => from_left (K := K) J (D, L, 0) n
  rw [e2, show 8 - J = 0 by omega] at a1
  obtain ⟨b1, b2, b3⟩ := a2
  rw [e1] at b1
  refine ⟨v', w', (sp_from K J (D, L, 0)).2.1, a1, ⟨b1, b2, b3⟩, a3, a4, fun n => ?_⟩
  have h3 := hl n
  rw [e2] at h3
  have h4 : L n + 0 ≤ (sp_from K J (D, L, 0)).2.1 n + (sp_rdj K J D).2 ∧ (sp_from K J (D, L, 0)).2.1 n ≤ L n := h3
  omega
theorem p1_goRound (fu : Nat) (hf : 9 ≤ fu) {K : Nat} (oK : okK K) {D : sp_D} (od : okD D) {L : Nat → Nat} {v w : ob_T} (hc : clS K (D, L, 0) v w) (hL : ∀ n, n < 8 → 0 < L n) : ∃ v' w' L', mX1_goRound fu v w = some (nI (sp_rdj K 8 D).2, v', w') ∧ clS K ((sp_rdj K 8 D).1, L', 0) v' w' ∧ v'.2 = v.2 ∧ (∀ k, (∀ n, n < 8 → D.1 n 0 ≠ 0 → k ≠ n) → w'.2 7 k = w.2 7 k) ∧ (∀ n, L n ≤ L' n + (sp_rdj K 8 D).2 ∧ L' n ≤ L n) := p1_goRoundJ 8 rfl fu hf oK od hc hL
/-- the mark: gold as it was behind a rounds -/
def mkd (K : Nat) (D : sp_D) (k : Nat) (v w : ob_T) : Prop := ∃ a, a ≤ k ∧ ∀ i, i < 8 → v.2 1 i = if D.1 i 0 = 0 then w.2 7 i else lN ((sp_it K D a).1 i 3)
theorem mkd_now {K : Nat} {D : sp_D} {k : Nat} {v w : ob_T} (hw : clW w (sp_it K D k).1 (sp_it K D k).2 K) (h : ∀ i, i < 8 → v.2 1 i = w.2 7 i) : mkd K D k v w := by
  refine ⟨k, Nat.le_refl _, fun i hi => ?_⟩
  rw [h i hi]
  by_cases e : D.1 i 0 = 0
  · rw [if_pos e]
  · rw [if_neg e]
    have e2 : (sp_it K D k).1 i 0 ≠ 0 := by rw [(cons_it (K := K) k).1 i 0 (by omega) (by omega)]; exact e
    exact (hw.2.1 i hi e2).2.2.2.2.2.2.2.1
theorem p1_settle_loop (fu : Nat) (hfu : 9 ≤ fu) {K : Nat} (oK : okK K) (D : sp_D) (od : okD D) : ∀ (m k nn : Nat) (v w : ob_T) (L : Nat → Nat), 200001 ≤ sp_sm K D k + m → sp_sm K D k ≤ 200000 → m + 1 ≤ nn → clS K (sp_it K D k, L, 0) v w → (∀ n, n < 8 → 200001 ≤ L n + sp_sm K D k) → (∀ i, i < k → sp_c K D i ≠ 0) → mkd K D k v w →
    ∃ v' w', (∃ k', sp_ends K D k' ∧ bX1_settle_18 fu nn v w (nI (sp_sm K D k)) (nI (k + 1)) = some (nI (sp_sm K D k'), v', w') ∧ clW w' (sp_it K D k').1 (sp_it K D k').2 K) ∨ ((∀ k', ¬ sp_ends K D k') ∧ bX1_settle_18 fu nn v w (nI (sp_sm K D k)) (nI (k + 1)) = some (-5, v', w')) := by
  intro m
  induction m with
  | zero => intro k nn v w L h1 h2; exact absurd h1 (by omega)
  | succ m ih =>
    intro k nn v w L h1 h2 hnn hc hL hcc hm
    obtain ⟨q, rfl⟩ : ∃ q, nn = q + 1 := ⟨nn - 1, by omega⟩
    have hk := sm_ge k hcc
    obtain ⟨v2, w2, L2, a1, a2, a3, a4, a5⟩ := p1_goRound fu hfu oK (sp_it_ok od k) hc (fun n hn => by have := hL n hn; omega)
    rw [← sp_c_eq] at a1 a5
    rw [← sp_it_eq] at a2
    have oE := sp_it_ok (K := K) od (k + 1)
    have cE := cons_it (K := K) (D := D) (k + 1)
    have b2 := a2.1
    simp only at b2
    generalize hE : sp_it K D (k + 1) = E at a2 oE cE b2
    have hcle := sp_c_le (K := K) (D := D) (k := k)
    rw [bX1_settle_18_s, show (200001 : Int32) = nI 200001 from rfl, if_neg (by rw [nI_ltN (by omega) (by omega)]; omega), a1, bind_sm]
    simp only [bnd_eq, show (200000 : Int32) = nI 200000 from rfl, l32_0, nI_addN]
    by_cases z : sp_c K D k = 0
    · rw [z, if_pos rfl]
      have e5 : sp_it K D (k + 1) = sp_it K D k := by
        rw [sp_c_eq] at z
        rw [sp_it_eq]
        exact sp_rdj_same z
      rw [← hE, e5] at b2
      exact ⟨v2, w2, Or.inl ⟨k, ⟨z, hcc, h2⟩, rfl, b2⟩⟩
    rw [if_neg (by rw [nI_eqN (by omega) (by omega)]; exact z)]
    have hcc2 : ∀ i, i < k + 1 → sp_c K D i ≠ 0 := by
      intro i hi
      rcases Nat.lt_or_ge i k with q2 | q2
      · exact hcc i q2
      · rw [show i = k by omega]; exact z
    by_cases e : 200000 < sp_sm K D k + sp_c K D k
    · rw [if_pos (by rw [nI_ltN (by omega) (by omega)]; exact e)]
      exact ⟨v2, w2, Or.inr ⟨sp_no_end (k := k + 1) hcc2 e, rfl⟩⟩
    rw [if_neg (by rw [nI_ltN (by omega) (by omega)]; exact e)]
    obtain ⟨r, r1, r2, r3⟩ := p1_isMarked fu hfu v2 w2
    rw [r1, bind_sm]
    obtain ⟨a, ha, hma⟩ := hm
    by_cases er : r = 1
    · rw [if_neg (by rw [nI_eqN (by omega) (by omega)]; omega)]
      refine ⟨v2, w2, Or.inr ⟨cycle_no_end (a := a) (b := k + 1) (by omega) ?_ hcc2, rfl⟩⟩
      rw [hE]
      refine cons_eq (cons_it (K := K) a) cE (fun i hi => ?_)
      have hm2 := (r3.mp er) i hi
      rw [a3, hma i hi] at hm2
      by_cases e0 : D.1 i 0 = 0
      · have f1 := ((sp_it_ok (K := K) od a).1 i hi).2.2.2.2.2.2.2 (by rw [(cons_it (K := K) a).1 i 0 (by omega) (by omega)]; exact e0)
        have f2 := (oE.1 i hi).2.2.2.2.2.2.2 (by rw [cE.1 i 0 (by omega) (by omega)]; exact e0)
        rw [f1.1, f2.1]
      · rw [if_neg e0] at hm2
        have e2 : E.1 i 0 ≠ 0 := by rw [cE.1 i 0 (by omega) (by omega)]; exact e0
        rw [(b2.2.1 i hi e2).2.2.2.2.2.2.2.1] at hm2
        have o1 := (okD_V (sp_it_ok (K := K) od a) i hi).2.2.2.1
        have o2 := (okD_V oE i hi).2.2.2.1
        rw [lN_eqN (by omega) (by omega)] at hm2
        exact hm2
    rw [if_pos (by rw [nI_eqN (by omega) (by omega)]; omega)]
    have go : ∀ (v3 : ob_T), v3.1 = v2.1 → mkd K D (k + 1) v3 w2 → ∃ v' w', (∃ k', sp_ends K D k' ∧ bX1_settle_73 fu (bX1_settle_18 fu q) v3 w2 (nI (sp_sm K D k + sp_c K D k)) (nI (k + 1)) = some (nI (sp_sm K D k'), v', w') ∧ clW w' (sp_it K D k').1 (sp_it K D k').2 K) ∨ ((∀ k', ¬ sp_ends K D k') ∧ bX1_settle_73 fu (bX1_settle_18 fu q) v3 w2 (nI (sp_sm K D k + sp_c K D k)) (nI (k + 1)) = some (-5, v', w')) := by
      intro v3 hv hm3
      unfold bX1_settle_73
      simp only [bnd_eq, l32_1, nI_addN]
      exact ih (k + 1) q v3 w2 L2 (by show 200001 ≤ sp_sm K D k + sp_c K D k + m; omega) (by show sp_sm K D k + sp_c K D k ≤ 200000; omega) (by omega) (by rw [hE]; exact ⟨b2, fun n hn => by rw [hv]; exact a2.2.1 n hn, a2.2.2⟩) (fun n hn => by
        have x1 := hL n hn
        have x2 := a5 n
        show 200001 ≤ L2 n + (sp_sm K D k + sp_c K D k)
        omega) hcc2 hm3
    obtain ⟨bc, hbc⟩ := pJ_bitCount fu (nI (k + 1))
    rw [hbc, bind_sm]
    by_cases eb : bc = 1
    · rw [if_pos eb]
      obtain ⟨v3, c1, c2, c3⟩ := p1_mark fu v2 w2
      rw [c1, bind_sm]
      exact go v3 c2 (mkd_now (by rw [hE]; exact b2) c3)
    · rw [if_neg eb]
      refine go v2 rfl ⟨a, by omega, fun i hi => ?_⟩
      rw [a3, hma i hi]
      by_cases e0 : D.1 i 0 = 0
      · rw [if_pos e0, if_pos e0, a4 i (fun n hn h0 => fun en => h0 (by rw [← en, (cons_it (K := K) k).1 i 0 (by omega) (by omega)]; exact e0))]
      · rw [if_neg e0, if_neg e0]
