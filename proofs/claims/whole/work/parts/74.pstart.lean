/-! ===== START: a new object, and the law out of all steps ===== -/
theorem clW_0 : clW w4_0 (fun _ _ => 0) (fun _ => 0) 1000 := by
  refine ⟨⟨?_, ?_, ?_, fun n _ => ⟨0, by omega, rfl⟩⟩, fun n _ h => absurd rfl h, rfl, rfl, rfl, rfl, rfl⟩
  · show (0 : Int32) = nI (bt8 (sp_told fun _ _ => 0) 8); decide
  · show (0 : Int32) = nI (bt8 (sp_mint fun _ _ => 0) 8); decide
  · show (0 : Int32) = nI (bt8 (sp_limp fun _ _ => 0) 8); decide
theorem Rl_0 (fu : Nat) (hfu : 100 ≤ fu) : ∃ R6, mX6_noWorld fu w_0 (0 : Int32) (0 : Int32) = some R6 ∧ Rq 0 w_0 w_0 w4_0 w_0 w4_0 w4_0 w4_0 R6 := by
  obtain ⟨y, c1, c2, c3, c4, c5, c6, c7⟩ := p6_noWorld fu hfu (s := 0) (b := 0) (by omega) (by omega) w_0
  refine ⟨y, c1, (fun _ _ => 0, fun _ => 0), (fun _ _ => 0, fun _ => 0), (fun _ _ => 0, fun _ => 0), 1000, 0, ⟨by omega, by omega⟩, okR_N okR_0, clW_0, c5, ?_, by omega, rfl, ?_, fun h => absurd h (by omega), fun h => absurd h (by omega), ⟨0, by omega, rfl, ?_, fun k hk => absurd hk (by omega)⟩, ⟨0, fun _ => 0, fun _ => 0, fun _ => 0, by omega, ?_, fun k hk => absurd hk (by omega), fun r _ => ⟨rfl, rfl⟩⟩, clW_yl clW_0⟩
  · rw [c3, updI_at, if_pos rfl]; rfl
  · rw [c2 7 (by omega) (by omega)]; rfl
  · rw [c2 0 (by omega) (by omega)]; rfl
  · rw [c4, updI_at, if_pos rfl]; rfl
theorem st_all (fu : Nat) (hfu : 1000000 ≤ fu) : sx_all fu Rl := ⟨st_write fu (by omega), st_wipe fu, st_fault fu (by omega), st_lay fu (by omega), st_realm fu, st_market fu, st_moves fu, st_ends fu, st_held fu (by omega), st_year fu (by omega), st_rest fu hfu, st_gone fu (by omega), st_stopped fu (by omega), st_free fu (by omega), st_ahead fu (by omega), st_debt fu, st_pact fu hfu, st_fewest fu hfu, st_bought fu hfu, st_corner fu hfu, st_move fu, st_melted fu (by omega), st_keep fu (by omega), st_back fu (by omega), st_count fu (by omega), fun n z h => Rq_s h⟩
theorem fuel_ex : ∃ fu : Nat, 1000000 ≤ fu := ⟨1000000, Nat.le_refl _⟩
theorem whole_start {p : Program} {e : Env} {s : State} {m : MethodId} {below : List Frame} {meth : Method} {c : Code} (l : Launch) {b L : Nat} {xs : Nat → Int32} (hL : L ≤ 2048) (C0 : lw_At p s m meth c b L xs) : W p l e room_1 s m #[Value.ref b] below meth c s.heap [] 0 0 (lw_Z below #[Value.ref b] s) (entryFrame m ([Value.ref b] : List Value).toArray 4) := by
  obtain ⟨fu, hfu⟩ := fuel_ex
  obtain ⟨R6, h1, h2⟩ := Rl_0 fu (by omega)
  exact start_of (st_all fu hfu) R6 h1 h2 l hL C0
