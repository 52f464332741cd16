/-! ===== PURE: gold tells all ===== -/
def sp_cons (D D' : sp_D) : Prop := (∀ k f, f ≠ 3 → f ≠ 4 → D'.1 k f = D.1 k f) ∧ (∀ k, 8 ≤ k → ∀ f, D'.1 k f = D.1 k f) ∧ (∀ k, D'.1 k 4 + D.1 k 0 * D'.1 k 3 = D.1 k 4 + D.1 k 0 * D.1 k 3) ∧ TG D' = TG D ∧ TS D' = TS D ∧ ∀ f, f ≠ 0 → f ≠ 1 → D'.2 f = D.2 f
theorem cons_rf (D : sp_D) : sp_cons D D := ⟨fun _ _ _ _ => rfl, fun _ _ _ => rfl, fun _ => rfl, rfl, rfl, fun _ _ _ => rfl⟩
theorem cons_tr {A B C : sp_D} (h : sp_cons A B) (g : sp_cons B C) : sp_cons A C := by
  obtain ⟨h1, h2, h3, h4, h5, h6⟩ := h
  obtain ⟨g1, g2, g3, g4, g5, g6⟩ := g
  refine ⟨fun k f a b => (g1 k f a b).trans (h1 k f a b), fun k hk f => (g2 k hk f).trans (h2 k hk f), fun k => ?_, g4.trans h4, g5.trans h5, fun f a b => (g6 f a b).trans (h6 f a b)⟩
  have := g3 k
  rw [h1 k 0 (by omega) (by omega)] at this
  rw [this]
  exact h3 k
theorem cons_go {D : sp_D} {n how : Nat} (hn : n < 8) (hc : sp_can D.1 D.2 n how) : sp_cons D (sp_gD D n how) := by
  refine ⟨fun k f a b => go_st _ _ _ _ _ a b, fun k hk f => ?_, fun k => ?_, TG_go hn hc, TS_go hn hc, fun f a b => ?_⟩
  · show sp_go D.1 n how k f = _
    unfold sp_go
    rw [if_neg (by omega)]
  · show sp_go D.1 n how k 4 + D.1 k 0 * sp_go D.1 n how k 3 = _
    unfold sp_go
    by_cases e : k = n
    · subst e
      obtain ⟨-, hc⟩ := hc
      rcases hc with ⟨rfl, c1, c2⟩ | ⟨rfl, c1, c2⟩
      · obtain ⟨g, hg⟩ : ∃ g, D.1 k 3 = g + 1 := ⟨D.1 k 3 - 1, by omega⟩
        simp [hg, Nat.mul_succ]
        omega
      · simp [Nat.mul_succ]
        omega
    · simp [e]
  · show sp_gM D.1 D.2 n how f = _
    unfold sp_gM
    rw [if_neg a, if_neg b]
theorem cons_one {K n : Nat} {s : sp_S} (hn : n < 8) : sp_cons s.1 (sp_one K n s).1 := by
  unfold sp_one
  by_cases e : sp_h K n s = 0
  · rw [if_pos e]; exact cons_rf _
  · rw [if_neg e]; exact cons_go hn (sp_h_can e)
theorem cons_from {K : Nat} : ∀ (j : Nat), j ≤ 8 → ∀ (s : sp_S), sp_cons s.1 (sp_from K j s).1 := by
  intro j
  induction j with
  | zero => intro _ s; exact cons_rf _
  | succ j ih => intro hj s; exact cons_tr (cons_one (K := K) (n := 8 - (j + 1)) (by omega)) (ih (by omega) _)
theorem cons_rdj {K j : Nat} {D : sp_D} (hj : j ≤ 8) : sp_cons D (sp_rdj K j D).1 := cons_from j hj (D, (fun _ => 1), 0)
theorem cons_it {K : Nat} {D : sp_D} : ∀ k, sp_cons D (sp_it K D k) := by
  intro k
  induction k with
  | zero => exact cons_rf D
  | succ k ih => rw [sp_it_eq]; exact cons_tr ih (cons_rdj (by omega))
theorem cons_eq {D A B : sp_D} (hA : sp_cons D A) (hB : sp_cons D B) (h : ∀ k, k < 8 → A.1 k 3 = B.1 k 3) : A = B := by
  obtain ⟨a1, a2, a3, a4, a5, a6⟩ := hA
  obtain ⟨b1, b2, b3, b4, b5, b6⟩ := hB
  have h4 : ∀ k, k < 8 → A.1 k 4 = B.1 k 4 := by
    intro k hk
    have x := a3 k
    have y := b3 k
    rw [h k hk] at x
    omega
  have hV : A.1 = B.1 := by
    funext k f
    by_cases hk : k < 8
    · by_cases e3 : f = 3
      · subst e3; exact h k hk
      · by_cases e4 : f = 4
        · subst e4; exact h4 k hk
        · rw [a1 k f e3 e4, b1 k f e3 e4]
    · rw [a2 k (by omega) f, b2 k (by omega) f]
  have hM : A.2 = B.2 := by
    funext f
    by_cases e0 : f = 0
    · subst e0
      have x := a4.trans b4.symm
      unfold TG at x
      rw [hV] at x
      omega
    · by_cases e1 : f = 1
      · subst e1
        have x := a5.trans b5.symm
        unfold TS at x
        rw [hV] at x
        omega
      · rw [a6 f e0 e1, b6 f e0 e1]
  exact Prod.ext hV hM
theorem it_add {K : Nat} {D : sp_D} {a b : Nat} (h : sp_it K D a = sp_it K D b) : ∀ i, sp_it K D (a + i) = sp_it K D (b + i) := by
  intro i
  induction i with
  | zero => exact h
  | succ i ih => rw [← Nat.add_assoc, ← Nat.add_assoc, sp_it_eq, sp_it_eq, ih]
/-- a world that comes back never rests -/
theorem cycle_no {K : Nat} {D : sp_D} {a b : Nat} (hab : a < b) (h : sp_it K D a = sp_it K D b) (hc : ∀ i, i < b → sp_c K D i ≠ 0) : ∀ i, sp_c K D i ≠ 0 := by
  have main : ∀ m i, i < m → sp_c K D i ≠ 0 := by
    intro m
    induction m with
    | zero => intro i hi; omega
    | succ m ih =>
      intro i hi
      rcases Nat.lt_or_ge i b with q | q
      · exact hc i q
      · have e := it_add h (i - b)
        rw [show b + (i - b) = i by omega] at e
        rw [sp_c_eq, ← e, ← sp_c_eq]
        exact ih _ (by omega)
  exact fun i => main (i + 1) i (by omega)
theorem cycle_no_end {K : Nat} {D : sp_D} {a b : Nat} (hab : a < b) (h : sp_it K D a = sp_it K D b) (hc : ∀ i, i < b → sp_c K D i ≠ 0) : ∀ k', ¬ sp_ends K D k' := fun k' he => cycle_no hab h hc k' he.1
