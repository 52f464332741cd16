/-! ===== PURE: rounds one behind the other ===== -/
def sp_it (K : Nat) (D : sp_D) : Nat → sp_D
  | 0 => D
  | k + 1 => (sp_rd K (sp_it K D k)).1
def sp_c (K : Nat) (D : sp_D) (k : Nat) : Nat := (sp_rd K (sp_it K D k)).2
def sp_sm (K : Nat) (D : sp_D) : Nat → Nat
  | 0 => 0
  | k + 1 => sp_sm K D k + sp_c K D k
/-- all comes to rest behind k rounds -/
def sp_ends (K : Nat) (D : sp_D) (k : Nat) : Prop := sp_c K D k = 0 ∧ (∀ i, i < k → sp_c K D i ≠ 0) ∧ sp_sm K D k ≤ 200000
theorem sp_ends_one {K : Nat} {D : sp_D} {k k' : Nat} (h : sp_ends K D k) (h' : sp_ends K D k') : k = k' := by
  rcases Nat.lt_trichotomy k k' with q | q | q
  · exact absurd h.1 (h'.2.1 k q)
  · exact q
  · exact absurd h'.1 (h.2.1 k' q)
theorem sp_sm_mono {K : Nat} {D : sp_D} : ∀ {k k' : Nat}, k ≤ k' → sp_sm K D k ≤ sp_sm K D k' := by
  intro k k' h
  induction k' with
  | zero => rw [Nat.le_zero.mp h]; exact Nat.le_refl _
  | succ k' ih =>
    rcases Nat.lt_or_ge k (k' + 1) with q | q
    · have := ih (by omega)
      show _ ≤ sp_sm K D k' + sp_c K D k'
      omega
    · rw [show k = k' + 1 by omega]; exact Nat.le_refl _
theorem sp_no_end {K : Nat} {D : sp_D} {k : Nat} (h : ∀ i, i < k → sp_c K D i ≠ 0) (hs : 200000 < sp_sm K D k) : ∀ k', ¬ sp_ends K D k' := by
  intro k' he
  rcases Nat.lt_or_ge k' k with q | q
  · exact h k' q he.1
  · have := sp_sm_mono (K := K) (D := D) q
    have := he.2.2
    omega
theorem sp_rdj_1 (K j : Nat) (D : sp_D) : (sp_from K j (D, (fun _ => 1), 0)).1 = (sp_rdj K j D).1 := rfl
theorem sp_rdj_2 (K j : Nat) (D : sp_D) : (sp_from K j (D, (fun _ => 1), 0)).2.2 = (sp_rdj K j D).2 := rfl
theorem sp_from_ok {K : Nat} : ∀ (j : Nat), j ≤ 8 → ∀ (s : sp_S), okD s.1 → okD (sp_from K j s).1 := by
  intro j
  induction j with
  | zero => intro _ s h; exact h
  | succ j ih => intro hj s h; exact ih (by omega) _ (sp_one_ok (by omega) h)
theorem sp_rdj_ok {K j : Nat} {D : sp_D} (hj : j ≤ 8) (h : okD D) : okD (sp_rdj K j D).1 := sp_from_ok j hj (D, (fun _ => 1), 0) h
theorem sp_from_same {K : Nat} : ∀ (j : Nat) (s : sp_S), (sp_from K j s).2.2 = s.2.2 → sp_from K j s = s := by
  intro j
  induction j with
  | zero => intro s _; rfl
  | succ j ih =>
    intro s h
    have h1 : (sp_from K j (sp_one K (8 - (j + 1)) s)).2.2 = s.2.2 := h
    have h2 := (sp_from_c (K := K) j (sp_one K (8 - (j + 1)) s)).1
    have h3 : sp_one K (8 - (j + 1)) s = s := by
      by_cases e : sp_h K (8 - (j + 1)) s = 0
      · unfold sp_one; rw [if_pos e]
      · exfalso
        have : (sp_one K (8 - (j + 1)) s).2.2 = s.2.2 + 1 := by unfold sp_one; rw [if_neg e]
        omega
    show sp_from K j (sp_one K (8 - (j + 1)) s) = s
    rw [h3] at h1 ⊢
    exact ih s h1
theorem sp_rdj_same {K j : Nat} {D : sp_D} (h : (sp_rdj K j D).2 = 0) : (sp_rdj K j D).1 = D := congrArg Prod.fst (sp_from_same (K := K) j (D, (fun _ => 1), 0) h)
theorem sp_rdj_le {K j : Nat} {D : sp_D} : (sp_rdj K j D).2 ≤ j := by
  have h : (sp_rdj K j D).2 ≤ 0 + j := (sp_from_c (K := K) j (D, (fun _ => 1), 0)).2
  omega
theorem sp_c_eq (K : Nat) (D : sp_D) (k : Nat) : sp_c K D k = (sp_rdj K 8 (sp_it K D k)).2 := by unfold sp_c sp_rd; rfl
theorem sp_it_eq (K : Nat) (D : sp_D) (k : Nat) : sp_it K D (k + 1) = (sp_rdj K 8 (sp_it K D k)).1 := by rw [sp_it]; unfold sp_rd; rfl
theorem sp_it_ok {K : Nat} {D : sp_D} (h : okD D) : ∀ k, okD (sp_it K D k) := by
  intro k
  induction k with
  | zero => exact h
  | succ k ih => rw [sp_it_eq]; exact sp_rdj_ok (by omega) ih
theorem sp_c_le {K : Nat} {D : sp_D} {k : Nat} : sp_c K D k ≤ 8 := by
  rw [sp_c_eq]; exact sp_rdj_le
theorem p6_goRest_loop (fu : Nat) (hfu : 9 ≤ fu) {K : Nat} (oK : okK K) (D : sp_D) (od : okD D) : ∀ (m k nn : Nat) (y : ob_T), 200001 ≤ sp_sm K D k + m → sp_sm K D k ≤ 200000 → m + 1 ≤ nn → rfW y 0 (sp_it K D k).1 (sp_it K D k).2 → y.1 4 0 = nI K → (∀ i, i < k → sp_c K D i ≠ 0) →
    ∃ y', rfK y y' ∧ ((∃ k', sp_ends K D k' ∧ bX6_goRest_4 fu nn y (nI (sp_sm K D k)) (nI 1) = some (nI (sp_sm K D k'), y') ∧ rfW y' 0 (sp_it K D k').1 (sp_it K D k').2) ∨ ((∀ k', ¬ sp_ends K D k') ∧ bX6_goRest_4 fu nn y (nI (sp_sm K D k)) (nI 1) = some (-5, y') ∧ ∃ D' : sp_D, okD D' ∧ rfW y' 0 D'.1 D'.2)) := by
  intro m
  induction m with
  | zero => intro k nn y h1 h2; exact absurd h1 (by omega)
  | succ m ih =>
    intro k nn y h1 h2 hnn cw cK hc
    obtain ⟨q, rfl⟩ : ∃ q, nn = q + 1 := ⟨nn - 1, by omega⟩
    obtain ⟨y2, k2, r1, r2⟩ := p6_rest_round fu oK (bX6_goRest_4 fu q) (sp_sm K D k) 8 (by omega) fu (by omega) (sp_it K D k, (fun _ => 1), 0) y (sp_it_ok od k) cw cK h2 (fun _ _ _ => by show 0 < 1; omega)
    have ec : (sp_from K 8 (sp_it K D k, (fun _ => 1), 0)).2.2 = sp_c K D k := by rw [sp_c_eq, sp_rdj_2]
    have eD : (sp_from K 8 (sp_it K D k, (fun _ => 1), 0)).1 = sp_it K D (k + 1) := by rw [sp_it_eq, sp_rdj_1]
    rw [ec, eD] at r1
    rw [ec] at r2
    rw [bX6_goRest_4_s, if_neg (by decide)]
    have e0 : bX6_goRest_12 fu (bX6_goRest_4 fu q) fu y (nI (sp_sm K D k)) 0 0 = bX6_goRest_12 fu (bX6_goRest_4 fu q) fu y (nI (sp_sm K D k + 0)) (nI (fl 0)) (nI (8 - 8)) := rfl
    rw [e0]
    by_cases e : sp_sm K D k + sp_c K D k ≤ 200000
    · obtain ⟨a1, a2⟩ := r1 e
      rw [a1]
      by_cases z : sp_c K D k = 0
      · obtain ⟨q2, rfl⟩ : ∃ q2, q = q2 + 1 := ⟨q - 1, by omega⟩
        refine ⟨y2, k2, Or.inl ⟨k, ⟨z, hc, h2⟩, ?_, ?_⟩⟩
        · rw [z, bX6_goRest_4_s]; rfl
        · have e5 : sp_it K D (k + 1) = sp_it K D k := by
            rw [sp_c_eq] at z
            rw [sp_it_eq]
            exact sp_rdj_same z
          rw [e5] at a2
          exact a2
      · have hf : nI (fl (sp_c K D k)) = nI 1 := by unfold fl; rw [if_neg z]
        rw [hf]
        obtain ⟨y', b1, b2⟩ := ih (k + 1) q y2 (by show 200001 ≤ sp_sm K D k + sp_c K D k + m; omega) e (by omega) a2 (by rw [k2.1]; exact cK) (fun i hi => by
          rcases Nat.lt_or_ge i k with w | w
          · exact hc i w
          · rw [show i = k by omega]; exact z)
        exact ⟨y', rfK_tr k2 b1, b2⟩
    · refine ⟨y2, k2, Or.inr ⟨sp_no_end (k := k + 1) (fun i hi => ?_) (by show 200000 < sp_sm K D k + sp_c K D k; omega), r2 (by omega)⟩⟩
      rcases Nat.lt_or_ge i k with w | w
      · exact hc i w
      · rw [show i = k by omega]
        omega
