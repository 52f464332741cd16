/-! ===== PURE: rest, whole ===== -/
theorem p6_goRest (fu : Nat) (hfu : 1000000 ≤ fu) {K : Nat} (oK : okK K) {D : sp_D} (od : okD D) {y : ob_T} (cw : rfW y 0 D.1 D.2) (cK : y.1 4 0 = nI K) : ∃ y', rfK y y' ∧ ((∃ k', sp_ends K D k' ∧ mX6_goRest fu y = some (nI (sp_sm K D k'), y') ∧ rfW y' 0 (sp_it K D k').1 (sp_it K D k').2) ∨ ((∀ k', ¬ sp_ends K D k') ∧ mX6_goRest fu y = some (-5, y') ∧ ∃ D' : sp_D, okD D' ∧ rfW y' 0 D'.1 D'.2)) :=
  p6_goRest_loop fu (by omega) oK D od 200001 0 fu y (by show 200001 ≤ 0 + 200001; omega) (by show 0 ≤ 200000; omega) (by omega) cw cK (fun i hi => absurd hi (by omega))
theorem p1_settle (fu : Nat) (hfu : 1000000 ≤ fu) {K : Nat} (oK : okK K) {D : sp_D} (od : okD D) {v w : ob_T} (cw : clW w D.1 D.2 K) : ∃ v' w', (∃ k', sp_ends K D k' ∧ mX1_settle fu v w = some (nI (sp_sm K D k'), v', w') ∧ clW w' (sp_it K D k').1 (sp_it K D k').2 K) ∨ ((∀ k', ¬ sp_ends K D k') ∧ mX1_settle fu v w = some (-5, v', w')) := by
  obtain ⟨r9, a1, a2⟩ := pJ_fill fu 8 (by omega) (by omega) (200001 : Int32) (fun _ => v.1 0, fun _ _ => 0)
  obtain ⟨v3, c1, c2, c3⟩ := p1_mark fu (ob_I v 0 (r9.1 0)) w
  unfold mX1_settle
  rw [a1, bind_sm, c1, bind_sm]
  exact p1_settle_loop fu (by omega) oK D od 200001 0 fu v3 w (fun _ => 200001) (by show 200001 ≤ 0 + 200001; omega) (by show 0 ≤ 200000; omega) (by omega) ⟨cw, fun n hn => by
    rw [c2]
    exact a2 n hn, fun n hn => by show 200001 < 1000000; omega⟩ (fun n hn => by show 200001 ≤ 200001 + 0; omega) (fun i hi => absurd hi (by omega)) (mkd_now (k := 0) cw c3)
