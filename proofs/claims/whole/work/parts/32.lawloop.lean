theorem va_nd_of : ∀ (l : List Nat), l.Nodup → va_nd l = true
  | [], _ => rfl
  | a :: l, h => by
    have h2 := List.nodup_cons.mp h
    simp only [va_nd, Bool.and_eq_true, decide_eq_true_eq]
    exact ⟨h2.1, va_nd_of l h2.2⟩
theorem va_nd_range (n : Nat) : va_nd (List.range n) = true := va_nd_of _ List.nodup_range
theorem in_12 {i : Nat} (h : i < 12) : i ∈ [0, 1, 2, 3, 4, 5, 6, 7, 8, 9, 10, 11] := by
  rcases (show i = 0 ∨ i = 1 ∨ i = 2 ∨ i = 3 ∨ i = 4 ∨ i = 5 ∨ i = 6 ∨ i = 7 ∨ i = 8 ∨ i = 9 ∨ i = 10 ∨ i = 11 by omega) with rfl | rfl | rfl | rfl | rfl | rfl | rfl | rfl | rfl | rfl | rfl | rfl <;> decide
theorem range_split : ∀ (N i j : Nat), i < j → j < N → ∃ a b, List.range N = a ++ i :: b ∧ j ∈ b := by
  intro N i j hij hj
  refine ⟨List.range i, (List.range (N - i - 1)).map (fun k => i + 1 + k), ?_, ?_⟩
  · apply List.ext_getElem?
    intro k
    by_cases h1 : k < i
    · rw [List.getElem?_append_left (by simpa using h1)]
      simp [List.getElem?_range, h1, show k < N by omega]
    · rw [List.getElem?_append_right (by simpa using h1)]
      simp only [List.length_range]
      by_cases h2 : k = i
      · subst h2; simp [show k < N by omega]
      · have h3 : k - i = (k - i - 1) + 1 := by omega
        rw [h3, List.getElem?_cons_succ, List.getElem?_map]
        by_cases h4 : k < N
        · rw [List.getElem?_range h4, List.getElem?_range (by omega)]
          simp; omega
        · rw [List.getElem?_eq_none (by simp; omega), List.getElem?_eq_none (by simp; omega)]; rfl
  · exact List.mem_map.mpr ⟨j - i - 1, List.mem_range.mpr (by omega), by omega⟩
theorem oc_G_12 {A : Nat → Prop} {oc : Nat → ob_T → va_W} {x : Nat → ob_T} (had : ∀ i w w', (oc i w).map Prod.fst = (oc i w').map Prod.fst) (h : va_D A (oc_cat oc x [0, 1, 2, 3, 4, 5, 6, 7, 8, 9, 10, 11])) : oc_G A oc 12 := by
  have h' : va_D A (oc_cat oc x (List.range 12)) := h
  obtain ⟨g1, g2⟩ := oc_G_of had _ h'
  refine ⟨fun i hi w => g1 i (List.mem_range.mpr hi) w, fun i j hi hj hij w w' p hp q hq => ?_⟩
  rcases Nat.lt_or_gt_of_ne hij with h1 | h1
  · obtain ⟨a, b, e1, e2⟩ := range_split 12 i j h1 hj
    exact g2 a b i j e1 e2 w w' p hp q hq
  · obtain ⟨a, b, e1, e2⟩ := range_split 12 j i h1 hi
    exact fun e => g2 a b j i e1 e2 w' w q hq p hp e.symm
theorem ca_jp {p : Program} {l : Launch} {e : Env} {R : Room} {s : State} {m : MethodId} {args : Array Value} {below : List Frame} {meth : Method} {c : Code} {H : Heap} {locs : List Loc} {cells slots : Nat} {Q : State → Prop} {dC : Nat → ClassId} {dI : Nat → Nat → Nat} {cy : Nat → ClassId} {cc : ByteArray} {nL : Nat} {Ts : List Cond} {own : String} {A : Nat → Prop} {wr : va_W} {ev : va_E} {St : Type} {w1 : St → va_W} {y : MethodName} {wsy : List Cond} {F mc ms Lc maxL index b : Nat} {bytes : ByteArray} {rest st : List Value} {ls : Array Slot} {pc : Nat}
    (S : CallFix p m c cc nL s args Ts own) (hK : va_K (dC, dI) vwCl (tyL cy) s) (hN : nwP s) (hA : ∀ q : Nat, s.heap.size ≤ q → A q) (hD : va_D A (wr ++ [(b, ev)])) (hP : va_P (dC, dI) vwCl (wr ++ [(b, ev)]) H) (hS : va_S A s.heap H locs)
    (hM : ∀ sz, Met l y wsy (rmA F mc ms Lc) (va_Pc [.ref b] (iPre dC dI cy [(b, ev)] sz)) (va_Qv (fun (_ : St) => True) (fun u => cPost dC dI cy [(b, ev)] (w1 u) sz) (va_A [(b, ev)] sz)) mc ms (va_A [(b, ev)] sz))
    (cw : CallB R s args own index y bytes maxL none wsy (rmA F mc ms Lc) mc ms 0 ∧ y.name = "<init>" ∧ (Cond.instanceMethod y).before args s = true)
    (hls : ls.size = nL) (hst : st = .ref b :: rest) (hW : (rest.map fun v => v.category).sum ≤ 8) (hdg : decode cc pc = .ok (.invokespecial index, 3)) (hf : cells + mc ≤ R.cells ∧ slots + ms ≤ R.slots)
    (kk : ∀ (u : St) (H1 : Heap) (locs1 : List Loc), va_P (dC, dI) vwCl (wr ++ w1 u) H1 → va_D A (wr ++ w1 u) → va_S A s.heap H1 locs1 → W p l e R s m args below meth c H1 locs1 (cells + mc) (slots + ms) Q (F0 m (pc + 3) ls rest)) : W p l e R s m args below meth c H locs cells slots Q (F0 m pc ls st) := by
  refine ca_ip (wc := [(b, ev)]) (wr := wr) S hK hN hA hD hP hS [wr.length] (List.range wr.length) hM ?_ ?_ rfl (va_nd_range _) ?_ cw hls hst hW hdg hf kk
  · simp
  · apply List.ext_getElem?
    intro k
    simp only [List.getElem?_map]
    by_cases h : k < wr.length
    · rw [List.getElem?_range h]
      simp only [Option.map_some]
      rw [List.getElem?_append_left h]
      rw [List.getElem?_eq_getElem h]; rfl
    · rw [List.getElem?_eq_none (by simp; omega), List.getElem?_eq_none (by omega)]; rfl
  · intro i hi h
    have h1 := List.mem_range.mp hi
    simp at h
    omega
def sx_all (fu : Nat) (Rl : Nat → (Nat → ob_T) → Prop) : Prop := sx_write fu Rl ∧ sx_wipe fu Rl ∧ sx_fault fu Rl ∧ sx_lay fu Rl ∧ sx_realm fu Rl ∧ sx_market fu Rl ∧ sx_moves fu Rl ∧ sx_ends fu Rl ∧ sx_held fu Rl ∧ sx_year fu Rl ∧ sx_rest fu Rl ∧ sx_gone fu Rl ∧ sx_stopped fu Rl ∧ sx_free fu Rl ∧ sx_ahead fu Rl ∧ sx_debt fu Rl ∧ sx_pact fu Rl ∧ sx_fewest fu Rl ∧ sx_bought fu Rl ∧ sx_corner fu Rl ∧ sx_move fu Rl ∧ sx_melted fu Rl ∧ sx_keep fu Rl ∧ sx_back fu Rl ∧ sx_count fu Rl ∧ ∀ n z, Rl n z → Rl (n + 1) z
set_option maxHeartbeats 4000000 in
set_option maxRecDepth 100000 in
theorem law_loop {p : Program} {l : Launch} {e : Env} {s : State} {m : MethodId} {below : List Frame} {meth : Method} {c : Code} {dC : Nat → ClassId} {dI : Nat → Nat → Nat} {cy : Nat → ClassId} {b L q0 q1 fu : Nat} {u : Nat → Nat → Nat} {am : Nat → Nat} {xs : Nat → Int32} {Rl : Nat → (Nat → ob_T) → Prop} (hs : sx_all fu Rl) (hL : L ≤ 2048) (C0 : lw_At p s m meth c b L xs) (hK : va_K (dC, dI) vwCl (tyL cy) s) (hG : oc_G (fun q : Nat => s.heap.size ≤ q) (lo cy q0 q1 u am) 12) : ∀ (k n : Nat) (z : Nat → ob_T) (H : Heap) (locs : List Loc) (ls : Array Slot), L < 4 * n + 4 * k → 4 * n ≤ L → Rl n z → (∀ i, i < 12 → va_P (dC, dI) vwCl (lo cy q0 q1 u am i (z i)) H) → va_S (fun q : Nat => s.heap.size ≤ q) s.heap H locs → lv_has ls 4 [(0, .ref b), (1, .ref q0), (2, .ref q1), (3, .int (nI (4 * n)))] → W p l e room_1 s m #[Value.ref b] below meth c H locs 76 2657 (lw_Z below #[Value.ref b] s) (F0 m 18 ls []) := by
  obtain ⟨hx, hb, hr, hml, hown, hts, hX, hbl, hlocks, hgv⟩ := id C0
  have hbA : ¬ (fun q : Nat => s.heap.size ≤ q) b := Nat.not_le.mpr hbl
  intro k
  induction k with
  | zero => intro n z H locs ls h1 h2; exact absurd h1 (by omega)
  | succ k ih =>
    intro n z H locs ls hk hnL hR hP hS hl
    refine lv_iload_n hx hb dL_law_18 rfl (lv_at hl 3 rfl) ?_
    refine lv_aload_n hx hb dL_law_19 rfl (lv_at hl 0 rfl) ?_
    refine va_slen hx hb hX hbl hbA hS dL_law_20 ?_
    refine lv_iconst (v := (4 : Int32)) hx hb dL_law_21 (by decide) ?_
    refine lv_isub hx hb dL_law_22 ?_
    have e1 : (nI L - nI 4).toInt = (L : Int) - 4 := by rw [pk_sub_toInt (by omega) (by omega)]; rfl
    have e2 : (nI (4 * n)).toInt = ((4 * n : Nat) : Int) := nI_toInt (by omega)
    refine lv_icmp_gt (tgt := 791) hx hb dL_law_23 (by decide) (fun hc => ?_) (fun hc => ?_)
    · refine lv_iconst (v := 1) hx hb dL_law_791 (by decide) ?_
      refine va_forget (fun q hq => hS.2.2 q hq) ?_
      refine W.widen (k := 600000) (n := 7302250) (by decide) (by decide) ?_
      exact lw_ret hx hb hr hlocks dL_law_792
    have hn : 4 * n + 4 ≤ L := by
      have h3 : ¬ (nI L - nI 4).toInt < (nI (4 * n)).toInt := fun q => hc (Int32.lt_iff_toInt_lt.mpr q)
      rw [e1, e2] at h3
      omega
    have next : ∀ (z : Nat → ob_T) (H : Heap) (locs : List Loc), Rl (n + 1) z → (∀ i, i < 12 → va_P (dC, dI) vwCl (lo cy q0 q1 u am i (z i)) H) → va_S (fun q : Nat => s.heap.size ≤ q) s.heap H locs → ∀ (ls : Array Slot), lv_has ls 4 [(0, .ref b), (1, .ref q0), (2, .ref q1), (3, .int (nI (4 * n)))] → W p l e room_1 s m #[Value.ref b] below meth c H locs 76 2657 (lw_Z below #[Value.ref b] s) (F0 m 785 ls []) := by
      intro z H locs hR hP hS ls hl
      refine lv_iinc (v := nI (4 * (n + 1))) (lv' := [(3, .int (nI (4 * (n + 1)))), (0, .ref b), (1, .ref q0), (2, .ref q1)]) hx hb dL_law_785 hl (k := 3) rfl (by show nI (4 * n) + nI 4 = _; rw [nI_add]; congr 1) (by decide) rfl (fun ls hl => ?_)
      refine lv_goto (tgt := 18) hx hb dL_law_788 (by decide) ?_
      exact ih (n + 1) z H locs ls (by omega) (by omega) hR hP hS (lv_sub hl [1, 2, 3, 0] rfl)
    refine lv_aload_n hx hb dL_law_26 rfl (lv_at hl 0 rfl) ?_
    refine lv_iload_n hx hb dL_law_27 rfl (lv_at hl 3 rfl) ?_
    refine va_sld hx hb hX hbl hbA hS (vp_in_nI (by omega) (by omega)) dL_law_28 ?_
    refine lv_bipush (v := (31 : Int32)) hx hb dL_law_29 (by decide) ?_
    refine lv_iand hx hb dL_law_31 ?_
    refine lv_topi (fun x ex => ?_)
    obtain ⟨hs0, hs1, hs2, hs3, hs4, hs5, hs6, hs7, hs8, hs9, hs10, hs11, hs12, hs13, hs14, hs15, hs16, hs17, hs18, hs19, hs20, hs21, hs22, hs23, hs24, hmono⟩ := hs
    by_cases hv0 : x = (0 : Int32)
    · refine W.eq (g2 := F0 m 32 ls [.int (0 : Int32)]) (by rw [hv0]) ?_
      refine lv_tableIn (tgt := 148) hx hb dL_law_32 (by decide) (by decide) rfl (by decide) ?_
      exact lc_write hs0 hL C0 hK hG n z H locs ls hn hR hP hS hl next
    by_cases hv1 : x = (1 : Int32)
    · refine W.eq (g2 := F0 m 32 ls [.int (1 : Int32)]) (by rw [hv1]) ?_
      refine lv_tableIn (tgt := 211) hx hb dL_law_32 (by decide) (by decide) rfl (by decide) ?_
      exact lc_wipe hs1 hL C0 hK hG n z H locs ls hn hR hP hS hl next
    by_cases hv2 : x = (2 : Int32)
    · refine W.eq (g2 := F0 m 32 ls [.int (2 : Int32)]) (by rw [hv2]) ?_
      refine lv_tableIn (tgt := 224) hx hb dL_law_32 (by decide) (by decide) rfl (by decide) ?_
      exact lc_fault hs2 hL C0 hK hG n z H locs ls hn hR hP hS hl next
    by_cases hv3 : x = (3 : Int32)
    · refine W.eq (g2 := F0 m 32 ls [.int (3 : Int32)]) (by rw [hv3]) ?_
      refine lv_tableIn (tgt := 237) hx hb dL_law_32 (by decide) (by decide) rfl (by decide) ?_
      exact lc_lay hs3 hL C0 hK hG n z H locs ls hn hR hP hS hl next
    by_cases hv4 : x = (4 : Int32)
    · refine W.eq (g2 := F0 m 32 ls [.int (4 : Int32)]) (by rw [hv4]) ?_
      refine lv_tableIn (tgt := 250) hx hb dL_law_32 (by decide) (by decide) rfl (by decide) ?_
      exact lc_realm hs4 hL C0 hK hG n z H locs ls hn hR hP hS hl next
    by_cases hv5 : x = (5 : Int32)
    · refine W.eq (g2 := F0 m 32 ls [.int (5 : Int32)]) (by rw [hv5]) ?_
      refine lv_tableIn (tgt := 284) hx hb dL_law_32 (by decide) (by decide) rfl (by decide) ?_
      exact lc_market hs5 hL C0 hK hG n z H locs ls hn hR hP hS hl next
    by_cases hv6 : x = (6 : Int32)
    · refine W.eq (g2 := F0 m 32 ls [.int (6 : Int32)]) (by rw [hv6]) ?_
      refine lv_tableIn (tgt := 308) hx hb dL_law_32 (by decide) (by decide) rfl (by decide) ?_
      exact lc_moves hs6 hL C0 hK hG n z H locs ls hn hR hP hS hl next
    by_cases hv7 : x = (7 : Int32)
    · refine W.eq (g2 := F0 m 32 ls [.int (7 : Int32)]) (by rw [hv7]) ?_
      refine lv_tableIn (tgt := 331) hx hb dL_law_32 (by decide) (by decide) rfl (by decide) ?_
      exact lc_ends hs7 hL C0 hK hG n z H locs ls hn hR hP hS hl next
    by_cases hv8 : x = (8 : Int32)
    · refine W.eq (g2 := F0 m 32 ls [.int (8 : Int32)]) (by rw [hv8]) ?_
      refine lv_tableIn (tgt := 364) hx hb dL_law_32 (by decide) (by decide) rfl (by decide) ?_
      exact lc_held hs8 hL C0 hK hG n z H locs ls hn hR hP hS hl next
    by_cases hv9 : x = (9 : Int32)
    · refine W.eq (g2 := F0 m 32 ls [.int (9 : Int32)]) (by rw [hv9]) ?_
      refine lv_tableIn (tgt := 377) hx hb dL_law_32 (by decide) (by decide) rfl (by decide) ?_
      exact lc_year hs9 hL C0 hK hG n z H locs ls hn hR hP hS hl next
    by_cases hv10 : x = (10 : Int32)
    · refine W.eq (g2 := F0 m 32 ls [.int (10 : Int32)]) (by rw [hv10]) ?_
      refine lv_tableIn (tgt := 390) hx hb dL_law_32 (by decide) (by decide) rfl (by decide) ?_
      exact lc_rest hs10 hL C0 hK hG n z H locs ls hn hR hP hS hl next
    by_cases hv11 : x = (11 : Int32)
    · refine W.eq (g2 := F0 m 32 ls [.int (11 : Int32)]) (by rw [hv11]) ?_
      refine lv_tableIn (tgt := 403) hx hb dL_law_32 (by decide) (by decide) rfl (by decide) ?_
      exact lc_gone hs11 hL C0 hK hG n z H locs ls hn hR hP hS hl next
    by_cases hv12 : x = (12 : Int32)
    · refine W.eq (g2 := F0 m 32 ls [.int (12 : Int32)]) (by rw [hv12]) ?_
      refine lv_tableIn (tgt := 446) hx hb dL_law_32 (by decide) (by decide) rfl (by decide) ?_
      exact lc_stopped hs12 hL C0 hK hG n z H locs ls hn hR hP hS hl next
    by_cases hv13 : x = (13 : Int32)
    · refine W.eq (g2 := F0 m 32 ls [.int (13 : Int32)]) (by rw [hv13]) ?_
      refine lv_tableIn (tgt := 479) hx hb dL_law_32 (by decide) (by decide) rfl (by decide) ?_
      exact lc_free hs13 hL C0 hK hG n z H locs ls hn hR hP hS hl next
    by_cases hv14 : x = (14 : Int32)
    · refine W.eq (g2 := F0 m 32 ls [.int (14 : Int32)]) (by rw [hv14]) ?_
      refine lv_tableIn (tgt := 502) hx hb dL_law_32 (by decide) (by decide) rfl (by decide) ?_
      exact lc_ahead hs14 hL C0 hK hG n z H locs ls hn hR hP hS hl next
    by_cases hv15 : x = (15 : Int32)
    · refine W.eq (g2 := F0 m 32 ls [.int (15 : Int32)]) (by rw [hv15]) ?_
      refine lv_tableIn (tgt := 525) hx hb dL_law_32 (by decide) (by decide) rfl (by decide) ?_
      exact lc_debt hs15 hL C0 hK hG n z H locs ls hn hR hP hS hl next
    by_cases hv16 : x = (16 : Int32)
    · refine W.eq (g2 := F0 m 32 ls [.int (16 : Int32)]) (by rw [hv16]) ?_
      refine lv_tableIn (tgt := 568) hx hb dL_law_32 (by decide) (by decide) rfl (by decide) ?_
      exact lc_pact hs16 hL C0 hK hG n z H locs ls hn hR hP hS hl next
    by_cases hv17 : x = (17 : Int32)
    · refine W.eq (g2 := F0 m 32 ls [.int (17 : Int32)]) (by rw [hv17]) ?_
      refine lv_tableIn (tgt := 611) hx hb dL_law_32 (by decide) (by decide) rfl (by decide) ?_
      exact lc_fewest hs17 hL C0 hK hG n z H locs ls hn hR hP hS hl next
    by_cases hv18 : x = (18 : Int32)
    · refine W.eq (g2 := F0 m 32 ls [.int (18 : Int32)]) (by rw [hv18]) ?_
      refine lv_tableIn (tgt := 634) hx hb dL_law_32 (by decide) (by decide) rfl (by decide) ?_
      exact lc_bought hs18 hL C0 hK hG n z H locs ls hn hR hP hS hl next
    by_cases hv19 : x = (19 : Int32)
    · refine W.eq (g2 := F0 m 32 ls [.int (19 : Int32)]) (by rw [hv19]) ?_
      refine lv_tableIn (tgt := 667) hx hb dL_law_32 (by decide) (by decide) rfl (by decide) ?_
      exact lc_corner hs19 hL C0 hK hG n z H locs ls hn hR hP hS hl next
    by_cases hv20 : x = (20 : Int32)
    · refine W.eq (g2 := F0 m 32 ls [.int (20 : Int32)]) (by rw [hv20]) ?_
      refine lv_tableIn (tgt := 690) hx hb dL_law_32 (by decide) (by decide) rfl (by decide) ?_
      exact lc_move hs20 hL C0 hK hG n z H locs ls hn hR hP hS hl next
    by_cases hv21 : x = (21 : Int32)
    · refine W.eq (g2 := F0 m 32 ls [.int (21 : Int32)]) (by rw [hv21]) ?_
      refine lv_tableIn (tgt := 723) hx hb dL_law_32 (by decide) (by decide) rfl (by decide) ?_
      exact lc_melted hs21 hL C0 hK hG n z H locs ls hn hR hP hS hl next
    by_cases hv22 : x = (22 : Int32)
    · refine W.eq (g2 := F0 m 32 ls [.int (22 : Int32)]) (by rw [hv22]) ?_
      refine lv_tableIn (tgt := 736) hx hb dL_law_32 (by decide) (by decide) rfl (by decide) ?_
      exact lc_keep hs22 hL C0 hK hG n z H locs ls hn hR hP hS hl next
    by_cases hv23 : x = (23 : Int32)
    · refine W.eq (g2 := F0 m 32 ls [.int (23 : Int32)]) (by rw [hv23]) ?_
      refine lv_tableIn (tgt := 749) hx hb dL_law_32 (by decide) (by decide) rfl (by decide) ?_
      exact lc_back hs23 hL C0 hK hG n z H locs ls hn hR hP hS hl next
    by_cases hv24 : x = (24 : Int32)
    · refine W.eq (g2 := F0 m 32 ls [.int (24 : Int32)]) (by rw [hv24]) ?_
      refine lv_tableIn (tgt := 762) hx hb dL_law_32 (by decide) (by decide) rfl (by decide) ?_
      exact lc_count hs24 hL C0 hK hG n z H locs ls hn hR hP hS hl next
    refine lv_tableOut (tgt := 785) hx hb dL_law_32 (by
        have hv0 := sw_ne hv0 (z := 0) rfl
        have hv1 := sw_ne hv1 (z := 1) rfl
        have hv2 := sw_ne hv2 (z := 2) rfl
        have hv3 := sw_ne hv3 (z := 3) rfl
        have hv4 := sw_ne hv4 (z := 4) rfl
        have hv5 := sw_ne hv5 (z := 5) rfl
        have hv6 := sw_ne hv6 (z := 6) rfl
        have hv7 := sw_ne hv7 (z := 7) rfl
        have hv8 := sw_ne hv8 (z := 8) rfl
        have hv9 := sw_ne hv9 (z := 9) rfl
        have hv10 := sw_ne hv10 (z := 10) rfl
        have hv11 := sw_ne hv11 (z := 11) rfl
        have hv12 := sw_ne hv12 (z := 12) rfl
        have hv13 := sw_ne hv13 (z := 13) rfl
        have hv14 := sw_ne hv14 (z := 14) rfl
        have hv15 := sw_ne hv15 (z := 15) rfl
        have hv16 := sw_ne hv16 (z := 16) rfl
        have hv17 := sw_ne hv17 (z := 17) rfl
        have hv18 := sw_ne hv18 (z := 18) rfl
        have hv19 := sw_ne hv19 (z := 19) rfl
        have hv20 := sw_ne hv20 (z := 20) rfl
        have hv21 := sw_ne hv21 (z := 21) rfl
        have hv22 := sw_ne hv22 (z := 22) rfl
        have hv23 := sw_ne hv23 (z := 23) rfl
        have hv24 := sw_ne hv24 (z := 24) rfl
        omega) (by decide) ?_
    exact next z H locs (hmono n z hR) hP hS ls hl
set_option maxHeartbeats 4000000 in
set_option maxRecDepth 100000 in
theorem start_of {fu : Nat} {Rl : Nat → (Nat → ob_T) → Prop} (hs : sx_all fu Rl) (R6 : ob_T) (hm : mX6_noWorld fu w_0 (0 : Int32) (0 : Int32) = some R6) (h0 : Rl 0 (fun i => if i = 11 then R6 else if i = 3 then w4_0 else if i = 7 then w4_0 else if i = 8 then w4_0 else if i = 9 then w4_0 else if i = 10 then w4_0 else w_0)) {p : Program} {e : Env} {s : State} {m : MethodId} {below : List Frame} {meth : Method} {c : Code} (l : Launch) {b L : Nat} {xs : Nat → Int32} (hL : L ≤ 2048) (C0 : lw_At p s m meth c b L xs) : W p l e room_1 s m #[Value.ref b] below meth c s.heap [] 0 0 (lw_Z below #[Value.ref b] s) (entryFrame m ([Value.ref b] : List Value).toArray 4) := by
  obtain ⟨hx, hb, hr, hml, hown, hts, hX, hbl, hlocks, hgv⟩ := id C0
  have hA : ∀ q : Nat, s.heap.size ≤ q → (fun q : Nat => s.heap.size ≤ q) q := fun _ h => h
  obtain ⟨c0, iS0, hKn0⟩ := u_known (C := RX0) (T := TX0) (N := 3) (n := 3) hts lwi_wsX00 (hts (.instantiable RX0 3) (List.mem_append_right _ (List.mem_append_left _ (List.mem_of_getElem? (i := 137) rfl))))
  obtain ⟨c1, iS1, hKn1⟩ := u_known (C := RX1) (T := TX1) (N := 2) (n := 2) hts lwi_wsX10 (hts (.instantiable RX1 2) (List.mem_append_right _ (List.mem_append_left _ (List.mem_of_getElem? (i := 168) rfl))))
  obtain ⟨c2, iS2, hKn2⟩ := u_known (C := RX2) (T := TX2) (N := 4) (n := 4) hts lwi_wsX20 (hts (.instantiable RX2 4) (List.mem_append_right _ (List.mem_append_left _ (List.mem_of_getElem? (i := 38) rfl))))
  obtain ⟨c3, iS3, hKn3⟩ := u_known (C := RX3) (T := TX3) (N := 2) (n := 2) hts lwi_wsX30 (hts (.instantiable RX3 2) (List.mem_append_right _ (List.mem_append_left _ (List.mem_of_getElem? (i := 21) rfl))))
  obtain ⟨c4, iS4, hKn4⟩ := u_known (C := RX4) (T := TX4) (N := 17) (n := 17) hts lwi_wsX40 (hts (.instantiable RX4 17) (List.mem_append_right _ (List.mem_append_left _ (List.mem_of_getElem? (i := 44) rfl))))
  obtain ⟨c5, iS5, hKn5⟩ := u_known (C := RX5) (T := TX5) (N := 8) (n := 8) hts lwi_wsX50 (hts (.instantiable RX5 8) (List.mem_append_right _ (List.mem_append_left _ (List.mem_of_getElem? (i := 13) rfl))))
  obtain ⟨c6, iS6, hKn6⟩ := u_known (C := RX6) (T := TX6) (N := 11) (n := 11) hts lwi_wsX60 (hts (.instantiable RX6 11) (List.mem_append_right _ (List.mem_append_right _ (List.mem_append_right _ (List.mem_append_left _ (List.mem_of_getElem? (i := 63) rfl))))))
  obtain ⟨dC, dI, hKc⟩ : ∃ (dC : Nat → ClassId) (dI : Nat → Nat → Nat), ∀ (k : Nat) (q : vw_C), vwCl[k]? = some q → u_Kn s q.1 q.2.1 q.2.2 (dC k) (dI k) := by
    refine ⟨fun k => if k = 0 then c0 else if k = 1 then c1 else if k = 2 then c2 else if k = 3 then c3 else if k = 4 then c4 else if k = 5 then c5 else  c6, fun k => if k = 0 then iS0 else if k = 1 then iS1 else if k = 2 then iS2 else if k = 3 then iS3 else if k = 4 then iS4 else if k = 5 then iS5 else  iS6, ?_⟩
    intro k q hq
    match k, hq with
    | 0, hq => cases hq; exact hKn0
    | 1, hq => cases hq; exact hKn1
    | 2, hq => cases hq; exact hKn2
    | 3, hq => cases hq; exact hKn3
    | 4, hq => cases hq; exact hKn4
    | 5, hq => cases hq; exact hKn5
    | 6, hq => cases hq; exact hKn6
    | k + 7, hq => simp [vwCl] at hq
  obtain ⟨gi, ki, pi, fi1, fi2, fi3⟩ := Cond.arrayClass_spec (hts (.arrayClass .int) (List.mem_append_right _ (List.mem_append_left _ (List.mem_of_getElem? (i := 134) rfl))))
  obtain ⟨gj, kj, pj, fj1, fj2, fj3⟩ := Cond.arrayClass_spec (hts (.arrayClass .long) (List.mem_append_right _ (List.mem_append_left _ (List.mem_of_getElem? (i := 135) rfl))))
  obtain ⟨gb, kb, pb, fb1, fb2, fb3⟩ := Cond.arrayClass_spec (hts (.arrayClass .byte) (List.mem_append_right _ (List.mem_append_left _ (List.mem_of_getElem? (i := 36) rfl))))
  have hao : (Cond.arrayOver (.object RX4)).before #[Value.ref b] s = true := hts (.arrayOver (.object RX4)) (List.mem_append_right _ (List.mem_append_left _ (List.mem_of_getElem? (i := 184) rfl)))
  obtain ⟨pw, gw, kw, fw1, -, fw2, fw3, fw4⟩ := Cond.arrayOver_spec hao
  obtain ⟨cy, ecy⟩ : ∃ cy : Nat → ClassId, cy = fun k => if k = 0 then gi else if k = 1 then gj else if k = 2 then gb else gw := ⟨_, rfl⟩
  have hK : va_K (dC, dI) vwCl (tyL cy) s := by
    refine ⟨hKc, fun k q h => ?_⟩
    subst ecy
    match k, h with
    | 0, h => cases h; exact ⟨fun n z => ⟨fun k h => (by cases h), ki, fi2, pi, fi3⟩, fi1⟩
    | 1, h => cases h; exact ⟨fun n z => ⟨fun k h => (by cases h), kj, fj2, pj, fj3⟩, fj1⟩
    | 2, h => cases h; exact ⟨fun n z => ⟨fun k h => (by cases h), kb, fb2, pb, fb3⟩, fb1⟩
    | 3, h => cases h; exact ⟨fun n z => ⟨fun k h => (by cases h), kw, fw2, pw, fw3⟩, kw, pw, fw2, fw3, fw1, fw4⟩
    | k + 4, h => simp [tyL] at h
  have hN : nwP s := ⟨va_Nw.of rfl (hts (.methodLinkNest RX5 9 yX3_init RX5) (List.mem_append_right _ (List.mem_append_left _ (List.mem_of_getElem? (i := 22) rfl)))), va_Nw.of rfl (hts (.methodLinkNest RX5 18 yX2_init RX5) (List.mem_append_right _ (List.mem_append_left _ (List.mem_of_getElem? (i := 39) rfl)))), va_Nw.of rfl (hts (.methodLinkNest RX2 11 yX4_init RX5) (List.mem_append_right _ (List.mem_append_left _ (List.mem_of_getElem? (i := 45) rfl)))), va_Nw.of rfl (hts (.methodLinkNest RX2 20 yX0_init RX5) (List.mem_append_right _ (List.mem_append_left _ (List.mem_of_getElem? (i := 138) rfl)))), va_Nw.of rfl (hts (.methodLinkNest RX5 25 yX1_init RX5) (List.mem_append_right _ (List.mem_append_left _ (List.mem_of_getElem? (i := 169) rfl)))), va_Nw.of rfl (hts (.methodLinkNest RX5 32 yX0_init RX5) (List.mem_append_right _ (List.mem_append_left _ (List.mem_of_getElem? (i := 181) rfl)))), va_Nw.of rfl (hts (.methodLinkNest RX5 39 yX4_init RX5) (List.mem_append_right _ (List.mem_append_left _ (List.mem_of_getElem? (i := 183) rfl)))), va_AO.of hao⟩
  have hS : va_S (fun q : Nat => s.heap.size ≤ q) s.heap s.heap [] := va_S.rf
  have hP : va_P (dC, dI) vwCl [] s.heap := fun k q h => by simp at h
  have hD : va_D (fun q : Nat => s.heap.size ≤ q) [] := ⟨fun i j p q h => by simp at h, fun k q h => by simp at h⟩
  have hl := lv_entry ([.ref b]) (n := 4) (Nat.le_of_ble_eq_true rfl)
  rw [lg_entry_eq]
  generalize (lg_sl ([.ref b]) ++ List.replicate (4 - (lg_sl ([.ref b])).length) Slot.unset).toArray = ls at hl ⊢
  have hl : lv_has ls 4 [(0, .ref b)] := hl
  refine va_new (ci := 5) (fs := [.null, .null, .null, .null, .null, .null, .null, .int 0]) (C := RX5) (T := TX5) (N := 8) hx hb hts lwi_wsX50 tyX5 tyX5_ok hown (hts (.classLink RL 7 RX5) (List.mem_append_right _ (List.mem_append_left _ (List.mem_of_getElem? (i := 12) rfl)))) (hts (.instantiable RX5 8) (List.mem_append_right _ (List.mem_append_left _ (List.mem_of_getElem? (i := 13) rfl)))) (hts (.initialized RX5) (List.mem_append_right _ (List.mem_append_left _ (List.mem_of_getElem? (i := 1) rfl)))) hK hP hD hS hA rfl (fun j hj => by rcases (show j = 0 ∨ j = 1 ∨ j = 2 ∨ j = 3 ∨ j = 4 ∨ j = 5 ∨ j = 6 ∨ j = 7 by omega) with rfl | rfl | rfl | rfl | rfl | rfl | rfl | rfl <;> rfl) (by decide) (by decide) dL_law_0 (fun q0 H hP hD hS => ?_)
  have hP : va_P (dC, dI) vwCl [(q0, .inr (5, [.null, .null, .null, .null, .null, .null, .null, .int 0]))] H := hP
  have hD : va_D (fun q : Nat => s.heap.size ≤ q) [(q0, .inr (5, [.null, .null, .null, .null, .null, .null, .null, .int 0]))] := hD
  refine lv_dup hx hb dL_law_3 rfl ?_
  refine ca_ip (wr := []) ⟨hx, hb, hml, hown, hts⟩ hK hN hA hD hP hS [0] [] (fun sz => kcX5_init l dC dI cy q0 sz) rfl rfl (by decide) (by decide) (by decide) (cwI 0 hts gT_X5_init rfl rfl rfl (hts (.initialized RX5) (List.mem_append_right _ (List.mem_append_left _ (List.mem_of_getElem? (i := 1) rfl)))) (hts (.methodLink RL 9 yX5_init) (List.mem_append_right _ (List.mem_append_left _ (List.mem_of_getElem? (i := 14) rfl)))) (hts (.instanceMethod yX5_init) (List.mem_append_right _ (List.mem_append_left _ (List.mem_of_getElem? (i := 15) rfl)))) rfl ydX5_init ⟨by decide, by decide⟩) hl.1 rfl (Nat.le_of_ble_eq_true rfl) dL_law_4 ⟨by decide, by decide⟩ (fun u H locs hP hD hS => ?_)
  have hP : va_P (dC, dI) vwCl (o_X5 cy q0 (u 0) w_0 ++ o_X3 cy (u 0 0) (u 1) w_0 ++ o_X2 cy (u 0 1) (u 2) w_0 ++ o_X4 cy (u 2 0) (u 3) w4_0 ++ o_X0 cy (u 2 1) (u 4) w_0 ++ o_X1 cy (u 0 2) (u 5) w_0 ++ o_X0 cy (u 0 3) (u 6) w_0 ++ o_X4 cy (u 0 4) (u 7) w4_0 ++ o_X4 cy (u 0 5) (u 8) w4_0 ++ o_X4 cy (u 0 10) (u 9) w4_0 ++ o_X4 cy (u 0 11) (u 10) w4_0) H := hP
  have hD : va_D (fun q : Nat => s.heap.size ≤ q) (o_X5 cy q0 (u 0) w_0 ++ o_X3 cy (u 0 0) (u 1) w_0 ++ o_X2 cy (u 0 1) (u 2) w_0 ++ o_X4 cy (u 2 0) (u 3) w4_0 ++ o_X0 cy (u 2 1) (u 4) w_0 ++ o_X1 cy (u 0 2) (u 5) w_0 ++ o_X0 cy (u 0 3) (u 6) w_0 ++ o_X4 cy (u 0 4) (u 7) w4_0 ++ o_X4 cy (u 0 5) (u 8) w4_0 ++ o_X4 cy (u 0 10) (u 9) w4_0 ++ o_X4 cy (u 0 11) (u 10) w4_0) := hD
  obtain ⟨wX, eX⟩ : ∃ wX : va_W, wX = o_X5 cy q0 (u 0) w_0 ++ o_X3 cy (u 0 0) (u 1) w_0 ++ o_X2 cy (u 0 1) (u 2) w_0 ++ o_X4 cy (u 2 0) (u 3) w4_0 ++ o_X0 cy (u 2 1) (u 4) w_0 ++ o_X1 cy (u 0 2) (u 5) w_0 ++ o_X0 cy (u 0 3) (u 6) w_0 ++ o_X4 cy (u 0 4) (u 7) w4_0 ++ o_X4 cy (u 0 5) (u 8) w4_0 ++ o_X4 cy (u 0 10) (u 9) w4_0 ++ o_X4 cy (u 0 11) (u 10) w4_0 := ⟨_, rfl⟩
  rw [← eX] at hP hD
  refine lv_astore_n (lv' := [(1, .ref q0), (0, .ref b)]) hx hb dL_law_7 rfl hl (by decide) rfl (fun ls hl => ?_)
  refine va_new (ci := 6) (fs := [.int 0, .null, .null, .null, .null, .null, .null, .int 0, .int 0, .null, .null]) (C := RX6) (T := TX6) (N := 11) hx hb hts lwi_wsX60 tyX6 tyX6_ok hown (hts (.classLink RL 10 RX6) (List.mem_append_right _ (List.mem_append_right _ (List.mem_append_right _ (List.mem_append_left _ (List.mem_of_getElem? (i := 62) rfl)))))) (hts (.instantiable RX6 11) (List.mem_append_right _ (List.mem_append_right _ (List.mem_append_right _ (List.mem_append_left _ (List.mem_of_getElem? (i := 63) rfl)))))) (hts (.initialized RX6) (List.mem_append_right _ (List.mem_append_left _ (List.mem_of_getElem? (i := 7) rfl)))) hK hP hD hS hA rfl (fun j hj => by rcases (show j = 0 ∨ j = 1 ∨ j = 2 ∨ j = 3 ∨ j = 4 ∨ j = 5 ∨ j = 6 ∨ j = 7 ∨ j = 8 ∨ j = 9 ∨ j = 10 by omega) with rfl | rfl | rfl | rfl | rfl | rfl | rfl | rfl | rfl | rfl | rfl <;> rfl) (by decide) (by decide) dL_law_8 (fun q1 H hP hD hS => ?_)
  refine lv_dup hx hb dL_law_11 rfl ?_
  have hlen : wX.length = 67 := by rw [eX]; rfl
  refine ca_jp ⟨hx, hb, hml, hown, hts⟩ hK hN hA hD hP hS (fun sz => kcX6_init l dC dI cy fu R6 hm q1 sz) (cwI 0 hts gT_X6_init rfl rfl rfl (hts (.initialized RX6) (List.mem_append_right _ (List.mem_append_left _ (List.mem_of_getElem? (i := 7) rfl)))) (hts (.methodLink RL 12 yX6_init) (List.mem_append_right _ (List.mem_append_right _ (List.mem_append_right _ (List.mem_append_left _ (List.mem_of_getElem? (i := 64) rfl)))))) (hts (.instanceMethod yX6_init) (List.mem_append_right _ (List.mem_append_right _ (List.mem_append_right _ (List.mem_append_left _ (List.mem_of_getElem? (i := 65) rfl)))))) rfl ydX6_init ⟨by decide, by decide⟩) hl.1 rfl (Nat.le_of_ble_eq_true rfl) dL_law_12 ⟨by decide, by decide⟩ (fun am H locs hP hD hS => ?_)
  refine lv_astore_n (lv' := [(2, .ref q1), (1, .ref q0), (0, .ref b)]) hx hb dL_law_15 rfl hl (by decide) rfl (fun ls hl => ?_)
  refine lv_iconst (v := 0) hx hb dL_law_16 (by decide) ?_
  refine lv_istore_n (lv' := [(3, .int 0), (2, .ref q1), (1, .ref q0), (0, .ref b)]) hx hb dL_law_17 rfl hl (by decide) rfl (fun ls hl => ?_)
  have ew : wX ++ o_X6 cy q1 am R6 = oc_cat (lo cy q0 q1 u am) (fun i => if i = 11 then R6 else if i = 3 then w4_0 else if i = 7 then w4_0 else if i = 8 then w4_0 else if i = 9 then w4_0 else if i = 10 then w4_0 else w_0) [0, 1, 2, 3, 4, 5, 6, 7, 8, 9, 10, 11] := by rw [eX]; rfl
  have hP : va_P (dC, dI) vwCl (wX ++ o_X6 cy q1 am R6) H := hP
  have hD : va_D (fun q : Nat => s.heap.size ≤ q) (wX ++ o_X6 cy q1 am R6) := hD
  rw [ew] at hP hD
  have hG : oc_G (fun q : Nat => s.heap.size ≤ q) (lo cy q0 q1 u am) 12 := oc_G_12 (lo_adr cy q0 q1 u am) hD
  exact law_loop hs hL C0 hK hG (L + 1) 0 _ _ _ _ (by omega) (by omega) h0 (fun i hi => va_Pm.mpr (fun q hq => va_Pm.mp hP q (oc_mem.mpr ⟨i, in_12 hi, hq⟩))) hS (lv_sub hl [3, 2, 1, 0] rfl)
