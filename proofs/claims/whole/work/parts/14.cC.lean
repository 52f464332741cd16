set_option maxHeartbeats 4000000 in
set_option maxRecDepth 100000 in
theorem kcX2_numbersBehind (l : Launch) (dC : Nat → ClassId) (dI : Nat → Nat → Nat) (cy : Nat → ClassId) (fu : Nat) (p1 : Int32) (sz : Nat) (R : Int32) (hm : mX2_numbersBehind fu p1 = some R) : Met l yX2_numbersBehind wsX2_numbersBehind (rmN 0 0) (va_Pc [.int p1] (cPre dC dI cy (([] : va_W)) sz)) (va_Qi (fun (r : Int32) (_ : Unit) => r = R) (fun _ => cPost dC dI cy (([] : va_W)) (([] : va_W)) sz) (va_A (([] : va_W)) sz)) 0 0 (va_A (([] : va_W)) sz) := by
  refine mt_i (cc := cX2_numbersBehind) (maxL := 1) (by decide) rfl (Nat.le_of_ble_eq_true rfl) rfl ?_
  intro p e s m below meth c Q A hx hb hml hown hts hK hA hD hP hret ls hl
  have hown : s.vm.findClass RX2 = some m.cls := hown
  have hl : lv_has ls 1 [(0, .int p1)] := hl
  have hS : va_S A s.heap s.heap [] := va_S.rf
  unfold mX2_numbersBehind at hm
  refine lv_iload_n hx hb dX2_numbersBehind_0 rfl (lv_at hl 0 rfl) ?_
  by_cases hv1 : p1 = (103 : Int32)
  · replace hm := (if_pos hv1).symm.trans hm
    refine W.eq (g2 := F0 m 1 ls (.int (103 : Int32) :: [])) (by rw [hv1]) ?_
    refine lv_tableIn (tgt := 79) hx hb dX2_numbersBehind_1 (by decide) (by decide) rfl (by decide) ?_
    refine lv_iconst (v := (3 : Int32)) hx hb dX2_numbersBehind_79 (by decide) ?_
    obtain rfl := Option.some.inj hm
    exact hret 80 ls _ _ dX2_numbersBehind_80 hP hS
  replace hm := (if_neg hv1).symm.trans hm
  by_cases hv2 : p1 = (104 : Int32)
  · replace hm := (if_pos hv2).symm.trans hm
    refine W.eq (g2 := F0 m 1 ls (.int (104 : Int32) :: [])) (by rw [hv2]) ?_
    refine lv_tableIn (tgt := 81) hx hb dX2_numbersBehind_1 (by decide) (by decide) rfl (by decide) ?_
    refine lv_iconst (v := (0 : Int32)) hx hb dX2_numbersBehind_81 (by decide) ?_
    obtain rfl := Option.some.inj hm
    exact hret 82 ls _ _ dX2_numbersBehind_82 hP hS
  replace hm := (if_neg hv2).symm.trans hm
  by_cases hv3 : p1 = (105 : Int32)
  · replace hm := (if_pos hv3).symm.trans hm
    refine W.eq (g2 := F0 m 1 ls (.int (105 : Int32) :: [])) (by rw [hv3]) ?_
    refine lv_tableIn (tgt := 81) hx hb dX2_numbersBehind_1 (by decide) (by decide) rfl (by decide) ?_
    refine lv_iconst (v := (0 : Int32)) hx hb dX2_numbersBehind_81 (by decide) ?_
    obtain rfl := Option.some.inj hm
    exact hret 82 ls _ _ dX2_numbersBehind_82 hP hS
  replace hm := (if_neg hv3).symm.trans hm
  by_cases hv4 : p1 = (106 : Int32)
  · replace hm := (if_pos hv4).symm.trans hm
    refine W.eq (g2 := F0 m 1 ls (.int (106 : Int32) :: [])) (by rw [hv4]) ?_
    refine lv_tableIn (tgt := 81) hx hb dX2_numbersBehind_1 (by decide) (by decide) rfl (by decide) ?_
    refine lv_iconst (v := (0 : Int32)) hx hb dX2_numbersBehind_81 (by decide) ?_
    obtain rfl := Option.some.inj hm
    exact hret 82 ls _ _ dX2_numbersBehind_82 hP hS
  replace hm := (if_neg hv4).symm.trans hm
  by_cases hv5 : p1 = (107 : Int32)
  · replace hm := (if_pos hv5).symm.trans hm
    refine W.eq (g2 := F0 m 1 ls (.int (107 : Int32) :: [])) (by rw [hv5]) ?_
    refine lv_tableIn (tgt := 77) hx hb dX2_numbersBehind_1 (by decide) (by decide) rfl (by decide) ?_
    refine lv_iconst (v := (1 : Int32)) hx hb dX2_numbersBehind_77 (by decide) ?_
    obtain rfl := Option.some.inj hm
    exact hret 78 ls _ _ dX2_numbersBehind_78 hP hS
  replace hm := (if_neg hv5).symm.trans hm
  by_cases hv6 : p1 = (108 : Int32)
  · replace hm := (if_pos hv6).symm.trans hm
    refine W.eq (g2 := F0 m 1 ls (.int (108 : Int32) :: [])) (by rw [hv6]) ?_
    refine lv_tableIn (tgt := 71) hx hb dX2_numbersBehind_1 (by decide) (by decide) rfl (by decide) ?_
    refine lv_iconst (v := (1 : Int32)) hx hb dX2_numbersBehind_71 (by decide) ?_
    obtain rfl := Option.some.inj hm
    exact hret 72 ls _ _ dX2_numbersBehind_72 hP hS
  replace hm := (if_neg hv6).symm.trans hm
  by_cases hv7 : p1 = (109 : Int32)
  · replace hm := (if_pos hv7).symm.trans hm
    refine W.eq (g2 := F0 m 1 ls (.int (109 : Int32) :: [])) (by rw [hv7]) ?_
    refine lv_tableIn (tgt := 75) hx hb dX2_numbersBehind_1 (by decide) (by decide) rfl (by decide) ?_
    refine lv_iconst (v := (2 : Int32)) hx hb dX2_numbersBehind_75 (by decide) ?_
    obtain rfl := Option.some.inj hm
    exact hret 76 ls _ _ dX2_numbersBehind_76 hP hS
  replace hm := (if_neg hv7).symm.trans hm
  by_cases hv8 : p1 = (110 : Int32)
  · replace hm := (if_pos hv8).symm.trans hm
    refine W.eq (g2 := F0 m 1 ls (.int (110 : Int32) :: [])) (by rw [hv8]) ?_
    refine lv_tableIn (tgt := 81) hx hb dX2_numbersBehind_1 (by decide) (by decide) rfl (by decide) ?_
    refine lv_iconst (v := (0 : Int32)) hx hb dX2_numbersBehind_81 (by decide) ?_
    obtain rfl := Option.some.inj hm
    exact hret 82 ls _ _ dX2_numbersBehind_82 hP hS
  replace hm := (if_neg hv8).symm.trans hm
  by_cases hv9 : p1 = (111 : Int32)
  · replace hm := (if_pos hv9).symm.trans hm
    refine W.eq (g2 := F0 m 1 ls (.int (111 : Int32) :: [])) (by rw [hv9]) ?_
    refine lv_tableIn (tgt := 81) hx hb dX2_numbersBehind_1 (by decide) (by decide) rfl (by decide) ?_
    refine lv_iconst (v := (0 : Int32)) hx hb dX2_numbersBehind_81 (by decide) ?_
    obtain rfl := Option.some.inj hm
    exact hret 82 ls _ _ dX2_numbersBehind_82 hP hS
  replace hm := (if_neg hv9).symm.trans hm
  by_cases hv10 : p1 = (112 : Int32)
  · replace hm := (if_pos hv10).symm.trans hm
    refine W.eq (g2 := F0 m 1 ls (.int (112 : Int32) :: [])) (by rw [hv10]) ?_
    refine lv_tableIn (tgt := 81) hx hb dX2_numbersBehind_1 (by decide) (by decide) rfl (by decide) ?_
    refine lv_iconst (v := (0 : Int32)) hx hb dX2_numbersBehind_81 (by decide) ?_
    obtain rfl := Option.some.inj hm
    exact hret 82 ls _ _ dX2_numbersBehind_82 hP hS
  replace hm := (if_neg hv10).symm.trans hm
  by_cases hv11 : p1 = (113 : Int32)
  · replace hm := (if_pos hv11).symm.trans hm
    refine W.eq (g2 := F0 m 1 ls (.int (113 : Int32) :: [])) (by rw [hv11]) ?_
    refine lv_tableIn (tgt := 81) hx hb dX2_numbersBehind_1 (by decide) (by decide) rfl (by decide) ?_
    refine lv_iconst (v := (0 : Int32)) hx hb dX2_numbersBehind_81 (by decide) ?_
    obtain rfl := Option.some.inj hm
    exact hret 82 ls _ _ dX2_numbersBehind_82 hP hS
  replace hm := (if_neg hv11).symm.trans hm
  by_cases hv12 : p1 = (114 : Int32)
  · replace hm := (if_pos hv12).symm.trans hm
    refine W.eq (g2 := F0 m 1 ls (.int (114 : Int32) :: [])) (by rw [hv12]) ?_
    refine lv_tableIn (tgt := 68) hx hb dX2_numbersBehind_1 (by decide) (by decide) rfl (by decide) ?_
    refine lv_bipush (v := (7 : Int32)) hx hb dX2_numbersBehind_68 (by decide) ?_
    obtain rfl := Option.some.inj hm
    exact hret 70 ls _ _ dX2_numbersBehind_70 hP hS
  replace hm := (if_neg hv12).symm.trans hm
  by_cases hv13 : p1 = (115 : Int32)
  · replace hm := (if_pos hv13).symm.trans hm
    refine W.eq (g2 := F0 m 1 ls (.int (115 : Int32) :: [])) (by rw [hv13]) ?_
    refine lv_tableIn (tgt := 73) hx hb dX2_numbersBehind_1 (by decide) (by decide) rfl (by decide) ?_
    refine lv_iconst (v := (2 : Int32)) hx hb dX2_numbersBehind_73 (by decide) ?_
    obtain rfl := Option.some.inj hm
    exact hret 74 ls _ _ dX2_numbersBehind_74 hP hS
  replace hm := (if_neg hv13).symm.trans hm
  refine lv_tableOut (tgt := 81) hx hb dX2_numbersBehind_1 (by
      have hv1 := sw_ne hv1 (z := 103) rfl
      have hv2 := sw_ne hv2 (z := 104) rfl
      have hv3 := sw_ne hv3 (z := 105) rfl
      have hv4 := sw_ne hv4 (z := 106) rfl
      have hv5 := sw_ne hv5 (z := 107) rfl
      have hv6 := sw_ne hv6 (z := 108) rfl
      have hv7 := sw_ne hv7 (z := 109) rfl
      have hv8 := sw_ne hv8 (z := 110) rfl
      have hv9 := sw_ne hv9 (z := 111) rfl
      have hv10 := sw_ne hv10 (z := 112) rfl
      have hv11 := sw_ne hv11 (z := 113) rfl
      have hv12 := sw_ne hv12 (z := 114) rfl
      have hv13 := sw_ne hv13 (z := 115) rfl
      omega) (by decide) ?_
  refine lv_iconst (v := (0 : Int32)) hx hb dX2_numbersBehind_81 (by decide) ?_
  obtain rfl := Option.some.inj hm
  exact hret 82 ls _ _ dX2_numbersBehind_82 hP hS
set_option maxHeartbeats 4000000 in
set_option maxRecDepth 100000 in
theorem kcX2_isFigure (l : Launch) (dC : Nat → ClassId) (dI : Nat → Nat → Nat) (cy : Nat → ClassId) (fu : Nat) (p1 : Int32) (sz : Nat) (R : Int32) (hm : mX2_isFigure fu p1 = some R) : Met l yX2_isFigure wsX2_isFigure (rmN 0 0) (va_Pc [.int p1] (cPre dC dI cy (([] : va_W)) sz)) (va_Qi (fun (r : Int32) (_ : Unit) => r = R) (fun _ => cPost dC dI cy (([] : va_W)) (([] : va_W)) sz) (va_A (([] : va_W)) sz)) 0 0 (va_A (([] : va_W)) sz) := by
  refine mt_z (cc := cX2_isFigure) (maxL := 1) (by decide) rfl (Nat.le_of_ble_eq_true rfl) rfl ?_
  intro p e s m below meth c Q A hx hb hml hown hts hK hA hD hP hret ls hl
  have hown : s.vm.findClass RX2 = some m.cls := hown
  have hl : lv_has ls 1 [(0, .int p1)] := hl
  have hS : va_S A s.heap s.heap [] := va_S.rf
  unfold mX2_isFigure at hm
  refine lv_iload_n hx hb dX2_isFigure_0 rfl (lv_at hl 0 rfl) ?_
  refine lv_bipush (v := (48 : Int32)) hx hb dX2_isFigure_1 (by decide) ?_
  refine lv_icmp_lt (tgt := 16) hx hb dX2_isFigure_3 (by decide) (fun hc => ?_) (fun hc => ?_)
  · replace hm := (if_pos hc).symm.trans hm
    refine lv_iconst (v := (0 : Int32)) hx hb dX2_isFigure_16 (by decide) ?_
    obtain rfl := Option.some.inj hm
    exact hret 17 ls _ _ dX2_isFigure_17 nar_0 hP hS
  replace hm := (if_neg hc).symm.trans hm
  refine lv_iload_n hx hb dX2_isFigure_6 rfl (lv_at hl 0 rfl) ?_
  refine lv_bipush (v := (57 : Int32)) hx hb dX2_isFigure_7 (by decide) ?_
  refine lv_icmp_gt (tgt := 16) hx hb dX2_isFigure_9 (by decide) (fun hc => ?_) (fun hc => ?_)
  · replace hm := (if_pos hc).symm.trans hm
    refine lv_iconst (v := (0 : Int32)) hx hb dX2_isFigure_16 (by decide) ?_
    obtain rfl := Option.some.inj hm
    exact hret 17 ls _ _ dX2_isFigure_17 nar_0 hP hS
  replace hm := (if_neg hc).symm.trans hm
  refine lv_iconst (v := (1 : Int32)) hx hb dX2_isFigure_12 (by decide) ?_
  refine lv_goto (tgt := 17) hx hb dX2_isFigure_13 (by decide) ?_
  obtain rfl := Option.some.inj hm
  exact hret 17 ls _ _ dX2_isFigure_17 nar_1 hP hS
set_option maxHeartbeats 4000000 in
set_option maxRecDepth 100000 in
theorem kcX2_readNumber (l : Launch) (dC : Nat → ClassId) (dI : Nat → Nat → Nat) (cy : Nat → ClassId) (fu : Nat) (h0 : Nat) (a0 : Nat → Nat) (w0 : ob_T) (h1 : Nat) (a1 : Nat → Nat) (w1 : ob_T) (p1 : Int32) (sz : Nat) (R : Int32 × ob_T) (hm : mX2_readNumber fu w0 w1 p1 = some R) : Met l yX2_readNumber wsX2_readNumber (rmN 1 20) (va_Pc [.ref h0, .ref h1, .int p1] (cPre dC dI cy ((o_X2 cy h0 a0 w0) ++ (o_X3 cy h1 a1 w1)) sz)) (va_Qi (fun (r : Int32) (_ : Unit) => r = R.1) (fun _ => cPost dC dI cy ((o_X2 cy h0 a0 w0) ++ (o_X3 cy h1 a1 w1)) ((o_X2 cy h0 a0 R.2) ++ (o_X3 cy h1 a1 w1)) sz) (va_A ((o_X2 cy h0 a0 w0) ++ (o_X3 cy h1 a1 w1)) sz)) 0 0 (va_A ((o_X2 cy h0 a0 w0) ++ (o_X3 cy h1 a1 w1)) sz) := by
  refine mt_z (cc := cX2_readNumber) (maxL := 5) (by decide) rfl (Nat.le_of_ble_eq_true rfl) rfl ?_
  intro p e s m below meth c Q A hx hb hml hown hts hK hA hD hP hret ls hl
  have hown : s.vm.findClass RX2 = some m.cls := hown
  have hl : lv_has ls 5 [(0, .ref h0), (1, .ref h1), (2, .int p1)] := hl
  have hDa : ∀ v0 v1 : ob_T, va_D A ((o_X2 cy h0 a0 v0) ++ (o_X3 cy h1 a1 v1)) := fun _ _ => va_D_adr hD rfl
  have i2 : ∀ w ∈ wsX20, w ∈ wsX2_readNumber := fun _ h => List.mem_cons_of_mem _ (List.mem_append_left _ (List.mem_append_right _ h))
  have i3 : ∀ w ∈ wsX30, w ∈ wsX2_readNumber := fun _ h => List.mem_cons_of_mem _ (List.mem_append_right _ h)
  have hS : va_S A s.heap s.heap [] := va_S.rf
  have hB72 : ∀ (w0 : ob_T) (l2 : Int32) (l3 : Int32) (l4 : Int32) (H : Heap) (locs : List Loc) (ls : Array Slot), bX2_readNumber_72 fu w1 w0 l2 l3 l4 = some R → va_P (dC, dI) vwCl ((o_X2 cy h0 a0 w0) ++ (o_X3 cy h1 a1 w1)) H → va_S A s.heap H locs → lv_has ls 5 [(0, .ref h0), (2, .int l2), (3, .int l3), (4, .int l4)] → W p l e (rmN 1 20) s m ([.ref h0, .ref h1, .int p1] : List Value).toArray below meth c H locs 0 0 Q (F0 m 72 ls []) := by
    intro w0 l2 l3 l4 H locs ls hm hP hS hl
    unfold bX2_readNumber_72 at hm
    refine lv_aload_n hx hb dX2_readNumber_72 rfl (lv_at hl 0 rfl) ?_
    refine va_get (D := (dC, dI)) (ci := 2) (v := .ref (a0 2)) (C := RX2) (T := TX2) (N := 4) hx hb hts i2 hown hK hP 0 rfl rfl 2 (by decide) (hts (.fieldLink RX2 25 "TwoMetals$Reader" "number" "[I") (List.mem_of_getElem? (i := 4) rfl)) (fun _ h9 => h9) rfl dX2_readNumber_73 ?_
    refine lv_iload_n hx hb dX2_readNumber_76 rfl (lv_at hl 1 rfl) ?_
    refine lv_iload hx hb dX2_readNumber_77 (lv_at hl 3 rfl) ?_
    obtain ⟨hi1, hm⟩ := ck_in hm
    refine va_iast hx hb hK hP (hDa _ _) hS 1 0 rfl rfl hi1 dX2_readNumber_79 (fun H locs hP _ hS => ?_)
    have hP : va_P (dC, dI) vwCl ((o_X2 cy h0 a0 (ob_I w0 2 (upd (w0.1 2) l2.toNatClampNeg l4))) ++ (o_X3 cy h1 a1 w1)) H := hP
    obtain ⟨u2, hP, hm⟩ := bn_ob (P := fun zz => va_P (dC, dI) vwCl ((o_X2 cy h0 a0 zz) ++ (o_X3 cy h1 a1 w1)) H) hm hP
    refine lv_iload_n hx hb dX2_readNumber_80 rfl (lv_at hl 2 rfl) ?_
    refine lv_if_le (tgt := 88) hx hb dX2_readNumber_81 (by decide) (fun hc => ?_) (fun hc => ?_)
    · replace hm := (if_pos hc).symm.trans hm
      refine lv_iconst (v := (0 : Int32)) hx hb dX2_readNumber_88 (by decide) ?_
      obtain rfl := Option.some.inj hm
      exact hret 89 ls _ _ dX2_readNumber_89 nar_0 hP hS
    replace hm := (if_neg hc).symm.trans hm
    refine lv_iconst (v := (1 : Int32)) hx hb dX2_readNumber_84 (by decide) ?_
    refine lv_goto (tgt := 89) hx hb dX2_readNumber_85 (by decide) ?_
    obtain rfl := Option.some.inj hm
    exact hret 89 ls _ _ dX2_readNumber_89 nar_1 hP hS
  have hB5 : ∀ (nn : Nat) (w0 : ob_T) (l2 : Int32) (l3 : Int32) (l4 : Int32) (H : Heap) (locs : List Loc) (ls : Array Slot), bX2_readNumber_5 fu w1 nn w0 l2 l3 l4 = some R → va_P (dC, dI) vwCl ((o_X2 cy h0 a0 w0) ++ (o_X3 cy h1 a1 w1)) H → va_S A s.heap H locs → lv_has ls 5 [(0, .ref h0), (1, .ref h1), (2, .int l2), (3, .int l3), (4, .int l4)] → W p l e (rmN 1 20) s m ([.ref h0, .ref h1, .int p1] : List Value).toArray below meth c H locs 0 0 Q (F0 m 5 ls []) := by
    intro nn
    induction nn with
    | zero => intro w0 l2 l3 l4 H locs ls hm; exact no_some ((bX2_readNumber_5_0 fu w1 w0 l2 l3 l4).symm.trans hm)
    | succ nn ih =>
      intro w0 l2 l3 l4 H locs ls hm hP hS hl
      replace hm := (bX2_readNumber_5_s fu w1 nn w0 l2 l3 l4).symm.trans hm
      refine lv_iload_n hx hb dX2_readNumber_5 rfl (lv_at hl 3 rfl) ?_
      refine lv_iconst (v := (5 : Int32)) hx hb dX2_readNumber_6 (by decide) ?_
      refine lv_icmp_ge (tgt := 72) hx hb dX2_readNumber_7 (by decide) (fun hc => ?_) (fun hc => ?_)
      · replace hm := (if_pos hc).symm.trans hm
        exact hB72 w0 l2 l3 l4 _ _ ls hm hP hS (lv_sub hl [0, 2, 3, 4] rfl)
      replace hm := (if_neg hc).symm.trans hm
      refine lv_aload_n hx hb dX2_readNumber_10 rfl (lv_at hl 0 rfl) ?_
      refine va_get (D := (dC, dI)) (ci := 2) (v := .int (w0.1 3 0)) (C := RX2) (T := TX2) (N := 4) hx hb hts i2 hown hK hP 0 rfl rfl 3 (by decide) (hts (.fieldLink RX2 29 "TwoMetals$Reader" "at" "I") (List.mem_of_getElem? (i := 1) rfl)) (fun _ h9 => h9) rfl dX2_readNumber_11 ?_
      refine lv_aload_n hx hb dX2_readNumber_14 rfl (lv_at hl 1 rfl) ?_
      refine va_get (D := (dC, dI)) (ci := 3) (v := .int (w1.1 1 0)) (C := RX3) (T := TX3) (N := 2) hx hb hts i3 hown hK hP 2 rfl rfl 1 (by decide) (hts (.fieldLink RX2 39 "TwoMetals$Text" "length" "I") (List.mem_of_getElem? (i := 2) rfl)) (fun _ h9 => h9) rfl dX2_readNumber_15 ?_
      refine lv_icmp_ge (tgt := 72) hx hb dX2_readNumber_18 (by decide) (fun hc => ?_) (fun hc => ?_)
      · replace hm := (if_pos hc).symm.trans hm
        exact hB72 w0 l2 l3 l4 _ _ ls hm hP hS (lv_sub hl [0, 2, 3, 4] rfl)
      replace hm := (if_neg hc).symm.trans hm
      refine lv_aload_n hx hb dX2_readNumber_21 rfl (lv_at hl 1 rfl) ?_
      refine va_get (D := (dC, dI)) (ci := 3) (v := .ref (a1 0)) (C := RX3) (T := TX3) (N := 2) hx hb hts i3 hown hK hP 2 rfl rfl 0 (by decide) (hts (.fieldLink RX2 52 "TwoMetals$Text" "bytes" "[B") (List.mem_of_getElem? (i := 3) rfl)) (fun _ h9 => h9) rfl dX2_readNumber_22 ?_
      refine lv_aload_n hx hb dX2_readNumber_25 rfl (lv_at hl 0 rfl) ?_
      refine va_get (D := (dC, dI)) (ci := 2) (v := .int (w0.1 3 0)) (C := RX2) (T := TX2) (N := 4) hx hb hts i2 hown hK hP 0 rfl rfl 3 (by decide) (hts (.fieldLink RX2 29 "TwoMetals$Reader" "at" "I") (List.mem_of_getElem? (i := 1) rfl)) (fun _ h9 => h9) rfl dX2_readNumber_26 ?_
      obtain ⟨hi3, hm⟩ := ck_in hm
      refine va_bald hx hb hK hP 3 2 rfl rfl hi3 dX2_readNumber_29 ?_
      obtain ⟨r4, hr4, hm⟩ := bn_call hm
      refine ca_si (wr := (o_X2 cy h0 a0 w0) ++ (o_X3 cy h1 a1 w1)) (wn := (o_X2 cy h0 a0 w0) ++ (o_X3 cy h1 a1 w1)) ⟨hx, hb, hml, hown, hts⟩ hK hA (hDa _ _) hP hS [] [0, 1, 2, 3] [0, 1, 2, 3] (fun sz => kcX2_isFigure l dC dI cy fu (w1.1 0 (w0.1 3 0).toNatClampNeg) sz r4 hr4) rfl rfl (by decide) (by decide) (by decide) rfl (va_cwS 1 hts gX2_readNumber_X2_isFigure rfl rfl rfl ydX2_isFigure ⟨Nat.le_of_ble_eq_true rfl, Nat.le_of_ble_eq_true rfl⟩) rfl hl.1 rfl (Nat.le_of_ble_eq_true rfl) dX2_readNumber_30 ⟨Nat.zero_le _, Nat.zero_le _⟩ (fun H locs hP hS => ?_)
      refine lv_if_eq (tgt := 72) hx hb dX2_readNumber_33 (by decide) (fun hc => ?_) (fun hc => ?_)
      · replace hm := (if_pos hc).symm.trans hm
        exact hB72 w0 l2 l3 l4 _ _ ls hm hP hS (lv_sub hl [0, 2, 3, 4] rfl)
      replace hm := (if_neg hc).symm.trans hm
      refine lv_iload hx hb dX2_readNumber_36 (lv_at hl 4 rfl) ?_
      refine lv_bipush (v := (10 : Int32)) hx hb dX2_readNumber_38 (by decide) ?_
      refine lv_imul hx hb dX2_readNumber_40 ?_
      refine lv_aload_n hx hb dX2_readNumber_41 rfl (lv_at hl 1 rfl) ?_
      refine va_get (D := (dC, dI)) (ci := 3) (v := .ref (a1 0)) (C := RX3) (T := TX3) (N := 2) hx hb hts i3 hown hK hP 2 rfl rfl 0 (by decide) (hts (.fieldLink RX2 52 "TwoMetals$Text" "bytes" "[B") (List.mem_of_getElem? (i := 3) rfl)) (fun _ h9 => h9) rfl dX2_readNumber_42 ?_
      refine lv_aload_n hx hb dX2_readNumber_45 rfl (lv_at hl 0 rfl) ?_
      refine va_get (D := (dC, dI)) (ci := 2) (v := .int (w0.1 3 0)) (C := RX2) (T := TX2) (N := 4) hx hb hts i2 hown hK hP 0 rfl rfl 3 (by decide) (hts (.fieldLink RX2 29 "TwoMetals$Reader" "at" "I") (List.mem_of_getElem? (i := 1) rfl)) (fun _ h9 => h9) rfl dX2_readNumber_46 ?_
      refine va_bald hx hb hK hP 3 2 rfl rfl hi3 dX2_readNumber_49 ?_
      refine lv_bipush (v := (48 : Int32)) hx hb dX2_readNumber_50 (by decide) ?_
      refine lv_isub hx hb dX2_readNumber_52 ?_
      refine lv_iadd hx hb dX2_readNumber_53 ?_
      refine lv_topi (fun x5 e6 => ?_)
      replace hm := bn_at e6 hm
      refine lv_istore (lv' := [(4, .int x5), (0, .ref h0), (1, .ref h1), (2, .int l2), (3, .int l3)]) hx hb dX2_readNumber_54 hl (by decide) rfl (fun ls hl => ?_)
      refine lv_aload_n hx hb dX2_readNumber_56 rfl (lv_at hl 1 rfl) ?_
      refine lv_dup hx hb dX2_readNumber_57 rfl ?_
      refine va_get (D := (dC, dI)) (ci := 2) (v := .int (w0.1 3 0)) (C := RX2) (T := TX2) (N := 4) hx hb hts i2 hown hK hP 0 rfl rfl 3 (by decide) (hts (.fieldLink RX2 29 "TwoMetals$Reader" "at" "I") (List.mem_of_getElem? (i := 1) rfl)) (fun _ h9 => h9) rfl dX2_readNumber_58 ?_
      refine lv_iconst (v := (1 : Int32)) hx hb dX2_readNumber_61 (by decide) ?_
      refine lv_iadd hx hb dX2_readNumber_62 ?_
      refine va_put (D := (dC, dI)) (ci := 2) (v := .int ((w0.1 3 0) + (1 : Int32))) (ty := .int) (C := RX2) (T := TX2) (N := 4) hx hb hts i2 tyX2 tyX2_ok nmX2 hown hK hP (hDa _ _) hS 0 rfl rfl 3 (by decide) (hts (.fieldLink RX2 29 "TwoMetals$Reader" "at" "I") (List.mem_of_getElem? (i := 1) rfl)) (fun _ h9 => h9) rfl (tyX2_ok 3 (by decide)) rfl rfl (Nat.le_of_ble_eq_true rfl) dX2_readNumber_63 (fun H locs hP _ hS => ?_)
      have hP : va_P (dC, dI) vwCl ((o_X2 cy h0 a0 (ob_I w0 3 (fun _ => (w0.1 3 0) + (1 : Int32)))) ++ (o_X3 cy h1 a1 w1)) H := hP
      obtain ⟨u7, hP, hm⟩ := bn_ob (P := fun zz => va_P (dC, dI) vwCl ((o_X2 cy h0 a0 zz) ++ (o_X3 cy h1 a1 w1)) H) hm hP
      obtain ⟨x8, e9⟩ : ∃ y : Int32, y = l3 + (1 : Int32) := ⟨_, rfl⟩
      replace hm := bn_at e9 hm
      refine lv_iinc (v := x8) (lv' := [(3, .int x8), (4, .int x5), (0, .ref h0), (1, .ref h1), (2, .int l2)]) hx hb dX2_readNumber_66 hl (k := 4) rfl (by rw [e9]; rfl) (by decide) rfl (fun ls hl => ?_)
      refine lv_goto (tgt := 5) hx hb dX2_readNumber_69 (by decide) ?_
      exact ih u7 l2 x8 x5 _ _ ls hm hP hS (lv_sub hl [2, 3, 4, 0, 1] rfl)
  unfold mX2_readNumber at hm
  refine lv_iconst (v := (0 : Int32)) hx hb dX2_readNumber_0 (by decide) ?_
  refine lv_istore_n (lv' := [(3, .int (0 : Int32)), (0, .ref h0), (1, .ref h1), (2, .int p1)]) hx hb dX2_readNumber_1 rfl hl (by decide) rfl (fun ls hl => ?_)
  refine lv_iconst (v := (0 : Int32)) hx hb dX2_readNumber_2 (by decide) ?_
  refine lv_istore (lv' := [(4, .int (0 : Int32)), (3, .int (0 : Int32)), (0, .ref h0), (1, .ref h1), (2, .int p1)]) hx hb dX2_readNumber_3 hl (by decide) rfl (fun ls hl => ?_)
  exact hB5 fu w0 p1 (0 : Int32) (0 : Int32) _ _ ls hm hP hS (lv_sub hl [2, 3, 4, 1, 0] rfl)
set_option maxHeartbeats 4000000 in
set_option maxRecDepth 100000 in
theorem kcX2_readSign (l : Launch) (dC : Nat → ClassId) (dI : Nat → Nat → Nat) (cy : Nat → ClassId) (fu : Nat) (h0 : Nat) (a0 : Nat → Nat) (w0 : ob_T) (h1 : Nat) (a1 : Nat → Nat) (w1 : ob_T) (p1 : Int32) (sz : Nat) (R : Int32 × ob_T) (hm : mX2_readSign fu w0 w1 p1 = some R) : Met l yX2_readSign wsX2_readSign (rmN 0 0) (va_Pc [.ref h0, .ref h1, .int p1] (cPre dC dI cy ((o_X2 cy h0 a0 w0) ++ (o_X3 cy h1 a1 w1)) sz)) (va_Qi (fun (r : Int32) (_ : Unit) => r = R.1) (fun _ => cPost dC dI cy ((o_X2 cy h0 a0 w0) ++ (o_X3 cy h1 a1 w1)) ((o_X2 cy h0 a0 R.2) ++ (o_X3 cy h1 a1 w1)) sz) (va_A ((o_X2 cy h0 a0 w0) ++ (o_X3 cy h1 a1 w1)) sz)) 0 0 (va_A ((o_X2 cy h0 a0 w0) ++ (o_X3 cy h1 a1 w1)) sz) := by
  refine mt_z (cc := cX2_readSign) (maxL := 3) (by decide) rfl (Nat.le_of_ble_eq_true rfl) rfl ?_
  intro p e s m below meth c Q A hx hb hml hown hts hK hA hD hP hret ls hl
  have hown : s.vm.findClass RX2 = some m.cls := hown
  have hl : lv_has ls 3 [(0, .ref h0), (1, .ref h1), (2, .int p1)] := hl
  have hDa : ∀ v0 v1 : ob_T, va_D A ((o_X2 cy h0 a0 v0) ++ (o_X3 cy h1 a1 v1)) := fun _ _ => va_D_adr hD rfl
  have i2 : ∀ w ∈ wsX20, w ∈ wsX2_readSign := fun _ h => List.mem_cons_of_mem _ (List.mem_append_left _ (List.mem_append_right _ h))
  have i3 : ∀ w ∈ wsX30, w ∈ wsX2_readSign := fun _ h => List.mem_cons_of_mem _ (List.mem_append_right _ h)
  have hS : va_S A s.heap s.heap [] := va_S.rf
  unfold mX2_readSign at hm
  refine lv_aload_n hx hb dX2_readSign_0 rfl (lv_at hl 0 rfl) ?_
  refine va_get (D := (dC, dI)) (ci := 2) (v := .int (w0.1 3 0)) (C := RX2) (T := TX2) (N := 4) hx hb hts i2 hown hK hP 0 rfl rfl 3 (by decide) (hts (.fieldLink RX2 29 "TwoMetals$Reader" "at" "I") (List.mem_of_getElem? (i := 1) rfl)) (fun _ h9 => h9) rfl dX2_readSign_1 ?_
  refine lv_aload_n hx hb dX2_readSign_4 rfl (lv_at hl 1 rfl) ?_
  refine va_get (D := (dC, dI)) (ci := 3) (v := .int (w1.1 1 0)) (C := RX3) (T := TX3) (N := 2) hx hb hts i3 hown hK hP 2 rfl rfl 1 (by decide) (hts (.fieldLink RX2 39 "TwoMetals$Text" "length" "I") (List.mem_of_getElem? (i := 2) rfl)) (fun _ h9 => h9) rfl dX2_readSign_5 ?_
  refine lv_icmp_ge (tgt := 24) hx hb dX2_readSign_8 (by decide) (fun hc => ?_) (fun hc => ?_)
  · replace hm := (if_pos hc).symm.trans hm
    refine lv_iconst (v := (0 : Int32)) hx hb dX2_readSign_24 (by decide) ?_
    obtain rfl := Option.some.inj hm
    exact hret 25 ls _ _ dX2_readSign_25 nar_0 hP hS
  replace hm := (if_neg hc).symm.trans hm
  refine lv_aload_n hx hb dX2_readSign_11 rfl (lv_at hl 1 rfl) ?_
  refine va_get (D := (dC, dI)) (ci := 3) (v := .ref (a1 0)) (C := RX3) (T := TX3) (N := 2) hx hb hts i3 hown hK hP 2 rfl rfl 0 (by decide) (hts (.fieldLink RX2 52 "TwoMetals$Text" "bytes" "[B") (List.mem_of_getElem? (i := 3) rfl)) (fun _ h9 => h9) rfl dX2_readSign_12 ?_
  refine lv_aload_n hx hb dX2_readSign_15 rfl (lv_at hl 0 rfl) ?_
  refine va_get (D := (dC, dI)) (ci := 2) (v := .int (w0.1 3 0)) (C := RX2) (T := TX2) (N := 4) hx hb hts i2 hown hK hP 0 rfl rfl 3 (by decide) (hts (.fieldLink RX2 29 "TwoMetals$Reader" "at" "I") (List.mem_of_getElem? (i := 1) rfl)) (fun _ h9 => h9) rfl dX2_readSign_16 ?_
  obtain ⟨hi1, hm⟩ := ck_in hm
  refine va_bald hx hb hK hP 3 2 rfl rfl hi1 dX2_readSign_19 ?_
  refine lv_iload_n hx hb dX2_readSign_20 rfl (lv_at hl 2 rfl) ?_
  refine lv_icmp_eq (tgt := 26) hx hb dX2_readSign_21 (by decide) (fun hc => ?_) (fun hc => ?_)
  · replace hm := (if_pos hc).symm.trans hm
    refine lv_aload_n hx hb dX2_readSign_26 rfl (lv_at hl 0 rfl) ?_
    refine lv_dup hx hb dX2_readSign_27 rfl ?_
    refine va_get (D := (dC, dI)) (ci := 2) (v := .int (w0.1 3 0)) (C := RX2) (T := TX2) (N := 4) hx hb hts i2 hown hK hP 0 rfl rfl 3 (by decide) (hts (.fieldLink RX2 29 "TwoMetals$Reader" "at" "I") (List.mem_of_getElem? (i := 1) rfl)) (fun _ h9 => h9) rfl dX2_readSign_28 ?_
    refine lv_iconst (v := (1 : Int32)) hx hb dX2_readSign_31 (by decide) ?_
    refine lv_iadd hx hb dX2_readSign_32 ?_
    refine va_put (D := (dC, dI)) (ci := 2) (v := .int ((w0.1 3 0) + (1 : Int32))) (ty := .int) (C := RX2) (T := TX2) (N := 4) hx hb hts i2 tyX2 tyX2_ok nmX2 hown hK hP (hDa _ _) hS 0 rfl rfl 3 (by decide) (hts (.fieldLink RX2 29 "TwoMetals$Reader" "at" "I") (List.mem_of_getElem? (i := 1) rfl)) (fun _ h9 => h9) rfl (tyX2_ok 3 (by decide)) rfl rfl (Nat.le_of_ble_eq_true rfl) dX2_readSign_33 (fun H locs hP _ hS => ?_)
    have hP : va_P (dC, dI) vwCl ((o_X2 cy h0 a0 (ob_I w0 3 (fun _ => (w0.1 3 0) + (1 : Int32)))) ++ (o_X3 cy h1 a1 w1)) H := hP
    obtain ⟨u2, hP, hm⟩ := bn_ob (P := fun zz => va_P (dC, dI) vwCl ((o_X2 cy h0 a0 zz) ++ (o_X3 cy h1 a1 w1)) H) hm hP
    refine lv_iconst (v := (1 : Int32)) hx hb dX2_readSign_36 (by decide) ?_
    obtain rfl := Option.some.inj hm
    exact hret 37 ls _ _ dX2_readSign_37 nar_1 hP hS
  replace hm := (if_neg hc).symm.trans hm
  refine lv_iconst (v := (0 : Int32)) hx hb dX2_readSign_24 (by decide) ?_
  obtain rfl := Option.some.inj hm
  exact hret 25 ls _ _ dX2_readSign_25 nar_0 hP hS
set_option maxHeartbeats 4000000 in
set_option maxRecDepth 100000 in
theorem kcX2_readNumbers (l : Launch) (dC : Nat → ClassId) (dI : Nat → Nat → Nat) (cy : Nat → ClassId) (fu : Nat) (h0 : Nat) (a0 : Nat → Nat) (w0 : ob_T) (h1 : Nat) (a1 : Nat → Nat) (w1 : ob_T) (p1 : Int32) (sz : Nat) (R : Int32 × ob_T) (hm : mX2_readNumbers fu w0 w1 p1 = some R) : Met l yX2_readNumbers wsX2_readNumbers (rmN 2 44) (va_Pc [.ref h0, .ref h1, .int p1] (cPre dC dI cy ((o_X2 cy h0 a0 w0) ++ (o_X3 cy h1 a1 w1)) sz)) (va_Qi (fun (r : Int32) (_ : Unit) => r = R.1) (fun _ => cPost dC dI cy ((o_X2 cy h0 a0 w0) ++ (o_X3 cy h1 a1 w1)) ((o_X2 cy h0 a0 R.2) ++ (o_X3 cy h1 a1 w1)) sz) (va_A ((o_X2 cy h0 a0 w0) ++ (o_X3 cy h1 a1 w1)) sz)) 0 0 (va_A ((o_X2 cy h0 a0 w0) ++ (o_X3 cy h1 a1 w1)) sz) := by
  refine mt_z (cc := cX2_readNumbers) (maxL := 5) (by decide) rfl (Nat.le_of_ble_eq_true rfl) rfl ?_
  intro p e s m below meth c Q A hx hb hml hown hts hK hA hD hP hret ls hl
  have hown : s.vm.findClass RX2 = some m.cls := hown
  have hl : lv_has ls 5 [(0, .ref h0), (1, .ref h1), (2, .int p1)] := hl
  have hDa : ∀ v0 v1 : ob_T, va_D A ((o_X2 cy h0 a0 v0) ++ (o_X3 cy h1 a1 v1)) := fun _ _ => va_D_adr hD rfl
  have hS : va_S A s.heap s.heap [] := va_S.rf
  have hB27 : ∀ (k2 : ob_T → Int32 → Int32 → Option (Int32 × ob_T)) (_ : ∀ (w0 : ob_T) (l2 : Int32) (l3 : Int32) (H : Heap) (locs : List Loc) (ls : Array Slot), k2 w0 l2 l3 = some R → va_P (dC, dI) vwCl ((o_X2 cy h0 a0 w0) ++ (o_X3 cy h1 a1 w1)) H → va_S A s.heap H locs → lv_has ls 5 [(0, .ref h0), (1, .ref h1), (2, .int l2), (3, .int l3)] → W p l e (rmN 2 44) s m ([.ref h0, .ref h1, .int p1] : List Value).toArray below meth c H locs 0 0 Q (F0 m 2 ls [])) (w0 : ob_T) (l2 : Int32) (l3 : Int32) (s0 : Int32) (H : Heap) (locs : List Loc) (ls : Array Slot), bX2_readNumbers_27 fu w1 k2 w0 l2 l3 s0 = some R → va_P (dC, dI) vwCl ((o_X2 cy h0 a0 w0) ++ (o_X3 cy h1 a1 w1)) H → va_S A s.heap H locs → lv_has ls 5 [(0, .ref h0), (1, .ref h1), (2, .int l2), (3, .int l3)] → W p l e (rmN 2 44) s m ([.ref h0, .ref h1, .int p1] : List Value).toArray below meth c H locs 0 0 Q (F0 m 27 ls [.int s0]) := by
    intro k2 hk2 w0 l2 l3 s0 H locs ls hm hP hS hl
    unfold bX2_readNumbers_27 at hm
    refine lv_istore (lv' := [(4, .int s0), (0, .ref h0), (1, .ref h1), (2, .int l2), (3, .int l3)]) hx hb dX2_readNumbers_27 hl (by decide) rfl (fun ls hl => ?_)
    refine lv_aload_n hx hb dX2_readNumbers_29 rfl (lv_at hl 1 rfl) ?_
    refine lv_aload_n hx hb dX2_readNumbers_30 rfl (lv_at hl 2 rfl) ?_
    refine lv_iload_n hx hb dX2_readNumbers_31 rfl (lv_at hl 4 rfl) ?_
    obtain ⟨r1, hr1, hm⟩ := bn_call hm
    refine ca_vi (wr := []) (wn := (o_X2 cy h0 a0 r1.2) ++ (o_X3 cy h1 a1 w1)) ⟨hx, hb, hml, hown, hts⟩ hK hA (hDa _ _) hP hS [0, 1, 2, 3] [] [0, 1, 2, 3] (fun sz => kcX2_readNumber l dC dI cy fu h0 a0 w0 h1 a1 w1 l3 sz r1 hr1) rfl rfl (by decide) (by decide) (by decide) rfl (cwV 2 hts gX2_readNumbers_X2_readNumber rfl rfl rfl ⟨rfl, ydX2_readNumber⟩ ⟨Nat.le_of_ble_eq_true rfl, Nat.le_of_ble_eq_true rfl⟩) 2 0 rfl rfl rfl rfl hl.1 rfl (Nat.le_of_ble_eq_true rfl) dX2_readNumbers_32 ⟨Nat.zero_le _, Nat.zero_le _⟩ (fun H locs hP hS => ?_)
    refine lv_if_eq (tgt := 48) hx hb dX2_readNumbers_35 (by decide) (fun hc => ?_) (fun hc => ?_)
    · replace hm := (if_pos hc).symm.trans hm
      refine lv_iconst (v := (0 : Int32)) hx hb dX2_readNumbers_48 (by decide) ?_
      obtain rfl := Option.some.inj hm
      exact hret 49 ls _ _ dX2_readNumbers_49 nar_0 hP hS
    replace hm := (if_neg hc).symm.trans hm
    refine lv_aload_n hx hb dX2_readNumbers_38 rfl (lv_at hl 1 rfl) ?_
    refine lv_aload_n hx hb dX2_readNumbers_39 rfl (lv_at hl 2 rfl) ?_
    refine lv_iload hx hb dX2_readNumbers_40 (lv_at hl 0 rfl) ?_
    obtain ⟨r2, hr2, hm⟩ := bn_call hm
    refine ca_vi (wr := []) (wn := (o_X2 cy h0 a0 r2.2) ++ (o_X3 cy h1 a1 w1)) ⟨hx, hb, hml, hown, hts⟩ hK hA (hDa _ _) hP hS [0, 1, 2, 3] [] [0, 1, 2, 3] (fun sz => kcX2_readSign l dC dI cy fu h0 a0 r1.2 h1 a1 w1 s0 sz r2 hr2) rfl rfl (by decide) (by decide) (by decide) rfl (cwV 2 hts gX2_readNumbers_X2_readSign rfl rfl rfl ⟨rfl, ydX2_readSign⟩ ⟨Nat.le_of_ble_eq_true rfl, Nat.le_of_ble_eq_true rfl⟩) 2 0 rfl rfl rfl rfl hl.1 rfl (Nat.le_of_ble_eq_true rfl) dX2_readNumbers_42 ⟨Nat.zero_le _, Nat.zero_le _⟩ (fun H locs hP hS => ?_)
    refine lv_if_ne (tgt := 50) hx hb dX2_readNumbers_45 (by decide) (fun hc => ?_) (fun hc => ?_)
    · replace hm := (if_neg hc).symm.trans hm
      obtain ⟨x3, e4⟩ : ∃ y : Int32, y = l3 + (1 : Int32) := ⟨_, rfl⟩
      replace hm := bn_at e4 hm
      refine lv_iinc (v := x3) (lv' := [(3, .int x3), (4, .int s0), (0, .ref h0), (1, .ref h1), (2, .int l2)]) hx hb dX2_readNumbers_50 hl (k := 4) rfl (by rw [e4]; rfl) (by decide) rfl (fun ls hl => ?_)
      refine lv_goto (tgt := 2) hx hb dX2_readNumbers_53 (by decide) ?_
      exact hk2 r2.2 l2 x3 _ _ ls hm hP hS (lv_sub hl [2, 3, 4, 0] rfl)
    replace hm := (if_pos hc).symm.trans hm
    refine lv_iconst (v := (0 : Int32)) hx hb dX2_readNumbers_48 (by decide) ?_
    obtain rfl := Option.some.inj hm
    exact hret 49 ls _ _ dX2_readNumbers_49 nar_0 hP hS
  have hB2 : ∀ (nn : Nat) (w0 : ob_T) (l2 : Int32) (l3 : Int32) (H : Heap) (locs : List Loc) (ls : Array Slot), bX2_readNumbers_2 fu w1 nn w0 l2 l3 = some R → va_P (dC, dI) vwCl ((o_X2 cy h0 a0 w0) ++ (o_X3 cy h1 a1 w1)) H → va_S A s.heap H locs → lv_has ls 5 [(0, .ref h0), (1, .ref h1), (2, .int l2), (3, .int l3)] → W p l e (rmN 2 44) s m ([.ref h0, .ref h1, .int p1] : List Value).toArray below meth c H locs 0 0 Q (F0 m 2 ls []) := by
    intro nn
    induction nn with
    | zero => intro w0 l2 l3 H locs ls hm; exact no_some ((bX2_readNumbers_2_0 fu w1 w0 l2 l3).symm.trans hm)
    | succ nn ih =>
      intro w0 l2 l3 H locs ls hm hP hS hl
      replace hm := (bX2_readNumbers_2_s fu w1 nn w0 l2 l3).symm.trans hm
      refine lv_iload_n hx hb dX2_readNumbers_2 rfl (lv_at hl 3 rfl) ?_
      refine lv_iload_n hx hb dX2_readNumbers_3 rfl (lv_at hl 2 rfl) ?_
      refine lv_icmp_ge (tgt := 56) hx hb dX2_readNumbers_4 (by decide) (fun hc => ?_) (fun hc => ?_)
      · replace hm := (if_pos hc).symm.trans hm
        refine lv_iconst (v := (1 : Int32)) hx hb dX2_readNumbers_56 (by decide) ?_
        obtain rfl := Option.some.inj hm
        exact hret 57 ls _ _ dX2_readNumbers_57 nar_1 hP hS
      replace hm := (if_neg hc).symm.trans hm
      refine lv_iload_n hx hb dX2_readNumbers_7 rfl (lv_at hl 3 rfl) ?_
      refine lv_bipush (v := (7 : Int32)) hx hb dX2_readNumbers_8 (by decide) ?_
      refine lv_icmp_ge (tgt := 56) hx hb dX2_readNumbers_10 (by decide) (fun hc => ?_) (fun hc => ?_)
      · replace hm := (if_pos hc).symm.trans hm
        refine lv_iconst (v := (1 : Int32)) hx hb dX2_readNumbers_56 (by decide) ?_
        obtain rfl := Option.some.inj hm
        exact hret 57 ls _ _ dX2_readNumbers_57 nar_1 hP hS
      replace hm := (if_neg hc).symm.trans hm
      refine lv_iload_n hx hb dX2_readNumbers_13 rfl (lv_at hl 3 rfl) ?_
      refine lv_iconst (v := (1 : Int32)) hx hb dX2_readNumbers_14 (by decide) ?_
      refine lv_iadd hx hb dX2_readNumbers_15 ?_
      refine lv_iload_n hx hb dX2_readNumbers_16 rfl (lv_at hl 2 rfl) ?_
      refine lv_icmp_ge (tgt := 25) hx hb dX2_readNumbers_17 (by decide) (fun hc => ?_) (fun hc => ?_)
      · replace hm := (if_pos hc).symm.trans hm
        refine lv_bipush (v := (59 : Int32)) hx hb dX2_readNumbers_25 (by decide) ?_
        exact hB27 (bX2_readNumbers_2 fu w1 nn) ih w0 l2 l3 (59 : Int32) _ _ ls hm hP hS (lv_sub hl [0, 1, 2, 3] rfl)
      replace hm := (if_neg hc).symm.trans hm
      refine lv_bipush (v := (44 : Int32)) hx hb dX2_readNumbers_20 (by decide) ?_
      refine lv_goto (tgt := 27) hx hb dX2_readNumbers_22 (by decide) ?_
      exact hB27 (bX2_readNumbers_2 fu w1 nn) ih w0 l2 l3 (44 : Int32) _ _ ls hm hP hS (lv_sub hl [0, 1, 2, 3] rfl)
  unfold mX2_readNumbers at hm
  refine lv_iconst (v := (0 : Int32)) hx hb dX2_readNumbers_0 (by decide) ?_
  refine lv_istore_n (lv' := [(3, .int (0 : Int32)), (0, .ref h0), (1, .ref h1), (2, .int p1)]) hx hb dX2_readNumbers_1 rfl hl (by decide) rfl (fun ls hl => ?_)
  exact hB2 fu w0 p1 (0 : Int32) _ _ ls hm hP hS (lv_sub hl [1, 2, 3, 0] rfl)
set_option maxHeartbeats 4000000 in
set_option maxRecDepth 100000 in
theorem kcX2_isWithin (l : Launch) (dC : Nat → ClassId) (dI : Nat → Nat → Nat) (cy : Nat → ClassId) (fu : Nat) (h0 : Nat) (a0 : Nat → Nat) (w0 : ob_T) (p1 : Int32) (p2 : Int32) (p3 : Int32) (sz : Nat) (R : Int32) (hm : mX2_isWithin fu w0 p1 p2 p3 = some R) : Met l yX2_isWithin wsX2_isWithin (rmN 0 0) (va_Pc [.ref h0, .int p1, .int p2, .int p3] (cPre dC dI cy ((o_X2 cy h0 a0 w0)) sz)) (va_Qi (fun (r : Int32) (_ : Unit) => r = R) (fun _ => cPost dC dI cy ((o_X2 cy h0 a0 w0)) ((o_X2 cy h0 a0 w0)) sz) (va_A ((o_X2 cy h0 a0 w0)) sz)) 0 0 (va_A ((o_X2 cy h0 a0 w0)) sz) := by
  refine mt_z (cc := cX2_isWithin) (maxL := 4) (by decide) rfl (Nat.le_of_ble_eq_true rfl) rfl ?_
  intro p e s m below meth c Q A hx hb hml hown hts hK hA hD hP hret ls hl
  have hown : s.vm.findClass RX2 = some m.cls := hown
  have hl : lv_has ls 4 [(0, .ref h0), (1, .int p1), (2, .int p2), (3, .int p3)] := hl
  have hDa : ∀ v0 : ob_T, va_D A ((o_X2 cy h0 a0 v0)) := fun _ => va_D_adr hD rfl
  have i2 : ∀ w ∈ wsX20, w ∈ wsX2_isWithin := fun _ h => List.mem_cons_of_mem _ (List.mem_append_right _ h)
  have hS : va_S A s.heap s.heap [] := va_S.rf
  unfold mX2_isWithin at hm
  refine lv_aload_n hx hb dX2_isWithin_0 rfl (lv_at hl 0 rfl) ?_
  refine va_get (D := (dC, dI)) (ci := 2) (v := .ref (a0 2)) (C := RX2) (T := TX2) (N := 4) hx hb hts i2 hown hK hP 0 rfl rfl 2 (by decide) (hts (.fieldLink RX2 25 "TwoMetals$Reader" "number" "[I") (List.mem_of_getElem? (i := 1) rfl)) (fun _ h9 => h9) rfl dX2_isWithin_1 ?_
  refine lv_iload_n hx hb dX2_isWithin_4 rfl (lv_at hl 1 rfl) ?_
  obtain ⟨hi1, hm⟩ := ck_in hm
  refine va_iald hx hb hK hP 1 0 rfl rfl hi1 dX2_isWithin_5 ?_
  refine lv_iload_n hx hb dX2_isWithin_6 rfl (lv_at hl 2 rfl) ?_
  refine lv_icmp_lt (tgt := 24) hx hb dX2_isWithin_7 (by decide) (fun hc => ?_) (fun hc => ?_)
  · replace hm := (if_pos hc).symm.trans hm
    refine lv_iconst (v := (0 : Int32)) hx hb dX2_isWithin_24 (by decide) ?_
    obtain rfl := Option.some.inj hm
    exact hret 25 ls _ _ dX2_isWithin_25 nar_0 hP hS
  replace hm := (if_neg hc).symm.trans hm
  refine lv_aload_n hx hb dX2_isWithin_10 rfl (lv_at hl 0 rfl) ?_
  refine va_get (D := (dC, dI)) (ci := 2) (v := .ref (a0 2)) (C := RX2) (T := TX2) (N := 4) hx hb hts i2 hown hK hP 0 rfl rfl 2 (by decide) (hts (.fieldLink RX2 25 "TwoMetals$Reader" "number" "[I") (List.mem_of_getElem? (i := 1) rfl)) (fun _ h9 => h9) rfl dX2_isWithin_11 ?_
  refine lv_iload_n hx hb dX2_isWithin_14 rfl (lv_at hl 1 rfl) ?_
  refine va_iald hx hb hK hP 1 0 rfl rfl hi1 dX2_isWithin_15 ?_
  refine lv_iload_n hx hb dX2_isWithin_16 rfl (lv_at hl 3 rfl) ?_
  refine lv_icmp_gt (tgt := 24) hx hb dX2_isWithin_17 (by decide) (fun hc => ?_) (fun hc => ?_)
  · replace hm := (if_pos hc).symm.trans hm
    refine lv_iconst (v := (0 : Int32)) hx hb dX2_isWithin_24 (by decide) ?_
    obtain rfl := Option.some.inj hm
    exact hret 25 ls _ _ dX2_isWithin_25 nar_0 hP hS
  replace hm := (if_neg hc).symm.trans hm
  refine lv_iconst (v := (1 : Int32)) hx hb dX2_isWithin_20 (by decide) ?_
  refine lv_goto (tgt := 25) hx hb dX2_isWithin_21 (by decide) ?_
  obtain rfl := Option.some.inj hm
  exact hret 25 ls _ _ dX2_isWithin_25 nar_1 hP hS
set_option maxHeartbeats 4000000 in
set_option maxRecDepth 100000 in
theorem kcX2_takeMines (l : Launch) (dC : Nat → ClassId) (dI : Nat → Nat → Nat) (cy : Nat → ClassId) (fu : Nat) (h0 : Nat) (a0 : Nat → Nat) (w0 : ob_T) (a1 : Nat → Nat) (w1 : ob_T) (sz : Nat) (R : Int32 × ob_T) (hm : mX2_takeMines fu w0 w1 = some R) : Met l yX2_takeMines wsX2_takeMines (rmN 1 23) (va_Pc [.ref h0] (cPre dC dI cy ((o_X2 cy h0 a0 w0) ++ (o_X0 cy (a0 1) a1 w1)) sz)) (va_Qi (fun (r : Int32) (_ : Unit) => r = R.1) (fun _ => cPost dC dI cy ((o_X2 cy h0 a0 w0) ++ (o_X0 cy (a0 1) a1 w1)) ((o_X2 cy h0 a0 w0) ++ (o_X0 cy (a0 1) a1 R.2)) sz) (va_A ((o_X2 cy h0 a0 w0) ++ (o_X0 cy (a0 1) a1 w1)) sz)) 0 0 (va_A ((o_X2 cy h0 a0 w0) ++ (o_X0 cy (a0 1) a1 w1)) sz) := by
  refine mt_z (cc := cX2_takeMines) (maxL := 1) (by decide) rfl (Nat.le_of_ble_eq_true rfl) rfl ?_
  intro p e s m below meth c Q A hx hb hml hown hts hK hA hD hP hret ls hl
  have hown : s.vm.findClass RX2 = some m.cls := hown
  have hl : lv_has ls 1 [(0, .ref h0)] := hl
  have hDa : ∀ v0 v1 : ob_T, va_D A ((o_X2 cy h0 a0 v0) ++ (o_X0 cy (a0 1) a1 v1)) := fun _ _ => va_D_adr hD rfl
  have i2 : ∀ w ∈ wsX20, w ∈ wsX2_takeMines := fun _ h => List.mem_cons_of_mem _ (List.mem_append_left _ (List.mem_append_right _ h))
  have hS : va_S A s.heap s.heap [] := va_S.rf
  unfold mX2_takeMines at hm
  refine lv_aload_n hx hb dX2_takeMines_0 rfl (lv_at hl 0 rfl) ?_
  refine lv_iconst (v := (0 : Int32)) hx hb dX2_takeMines_1 (by decide) ?_
  refine lv_iconst (v := (0 : Int32)) hx hb dX2_takeMines_2 (by decide) ?_
  refine lv_bipush (v := (99 : Int32)) hx hb dX2_takeMines_3 (by decide) ?_
  obtain ⟨r1, hr1, hm⟩ := bn_call hm
  refine ca_vi (wr := (o_X0 cy (a0 1) a1 w1)) (wn := (o_X2 cy h0 a0 w0) ++ (o_X0 cy (a0 1) a1 w1)) ⟨hx, hb, hml, hown, hts⟩ hK hA (hDa _ _) hP hS [0, 1] [2, 3, 4, 5] [4, 5, 0, 1, 2, 3] (fun sz => kcX2_isWithin l dC dI cy fu h0 a0 w0 (0 : Int32) (0 : Int32) (99 : Int32) sz r1 hr1) rfl rfl (by decide) (by decide) (by decide) rfl (cwV 3 hts gX2_takeMines_X2_isWithin rfl rfl rfl ⟨rfl, ydX2_isWithin⟩ ⟨Nat.le_of_ble_eq_true rfl, Nat.le_of_ble_eq_true rfl⟩) 2 0 rfl rfl rfl rfl hl.1 rfl (Nat.le_of_ble_eq_true rfl) dX2_takeMines_5 ⟨Nat.zero_le _, Nat.zero_le _⟩ (fun H locs hP hS => ?_)
  refine lv_if_eq (tgt := 35) hx hb dX2_takeMines_8 (by decide) (fun hc => ?_) (fun hc => ?_)
  · replace hm := (if_pos hc).symm.trans hm
    refine lv_iconst (v := (0 : Int32)) hx hb dX2_takeMines_35 (by decide) ?_
    obtain rfl := Option.some.inj hm
    exact hret 36 ls _ _ dX2_takeMines_36 nar_0 hP hS
  replace hm := (if_neg hc).symm.trans hm
  refine lv_aload_n hx hb dX2_takeMines_11 rfl (lv_at hl 0 rfl) ?_
  refine lv_iconst (v := (1 : Int32)) hx hb dX2_takeMines_12 (by decide) ?_
  refine lv_iconst (v := (0 : Int32)) hx hb dX2_takeMines_13 (by decide) ?_
  refine lv_sipush (v := (9999 : Int32)) hx hb dX2_takeMines_14 (by decide) ?_
  obtain ⟨r2, hr2, hm⟩ := bn_call hm
  refine ca_vi (wr := (o_X0 cy (a0 1) a1 w1)) (wn := (o_X2 cy h0 a0 w0) ++ (o_X0 cy (a0 1) a1 w1)) ⟨hx, hb, hml, hown, hts⟩ hK hA (hDa _ _) hP hS [0, 1] [2, 3, 4, 5] [4, 5, 0, 1, 2, 3] (fun sz => kcX2_isWithin l dC dI cy fu h0 a0 w0 (1 : Int32) (0 : Int32) (9999 : Int32) sz r2 hr2) rfl rfl (by decide) (by decide) (by decide) rfl (cwV 3 hts gX2_takeMines_X2_isWithin rfl rfl rfl ⟨rfl, ydX2_isWithin⟩ ⟨Nat.le_of_ble_eq_true rfl, Nat.le_of_ble_eq_true rfl⟩) 2 0 rfl rfl rfl rfl hl.1 rfl (Nat.le_of_ble_eq_true rfl) dX2_takeMines_17 ⟨Nat.zero_le _, Nat.zero_le _⟩ (fun H locs hP hS => ?_)
  refine lv_if_eq (tgt := 35) hx hb dX2_takeMines_20 (by decide) (fun hc => ?_) (fun hc => ?_)
  · replace hm := (if_pos hc).symm.trans hm
    refine lv_iconst (v := (0 : Int32)) hx hb dX2_takeMines_35 (by decide) ?_
    obtain rfl := Option.some.inj hm
    exact hret 36 ls _ _ dX2_takeMines_36 nar_0 hP hS
  replace hm := (if_neg hc).symm.trans hm
  refine lv_aload_n hx hb dX2_takeMines_23 rfl (lv_at hl 0 rfl) ?_
  refine lv_iconst (v := (2 : Int32)) hx hb dX2_takeMines_24 (by decide) ?_
  refine lv_iconst (v := (0 : Int32)) hx hb dX2_takeMines_25 (by decide) ?_
  refine lv_sipush (v := (9999 : Int32)) hx hb dX2_takeMines_26 (by decide) ?_
  obtain ⟨r3, hr3, hm⟩ := bn_call hm
  refine ca_vi (wr := (o_X0 cy (a0 1) a1 w1)) (wn := (o_X2 cy h0 a0 w0) ++ (o_X0 cy (a0 1) a1 w1)) ⟨hx, hb, hml, hown, hts⟩ hK hA (hDa _ _) hP hS [0, 1] [2, 3, 4, 5] [4, 5, 0, 1, 2, 3] (fun sz => kcX2_isWithin l dC dI cy fu h0 a0 w0 (2 : Int32) (0 : Int32) (9999 : Int32) sz r3 hr3) rfl rfl (by decide) (by decide) (by decide) rfl (cwV 3 hts gX2_takeMines_X2_isWithin rfl rfl rfl ⟨rfl, ydX2_isWithin⟩ ⟨Nat.le_of_ble_eq_true rfl, Nat.le_of_ble_eq_true rfl⟩) 2 0 rfl rfl rfl rfl hl.1 rfl (Nat.le_of_ble_eq_true rfl) dX2_takeMines_29 ⟨Nat.zero_le _, Nat.zero_le _⟩ (fun H locs hP hS => ?_)
  refine lv_if_ne (tgt := 37) hx hb dX2_takeMines_32 (by decide) (fun hc => ?_) (fun hc => ?_)
  · replace hm := (if_neg hc).symm.trans hm
    refine lv_aload_n hx hb dX2_takeMines_37 rfl (lv_at hl 0 rfl) ?_
    refine va_get (D := (dC, dI)) (ci := 2) (v := .ref (a0 1)) (C := RX2) (T := TX2) (N := 4) hx hb hts i2 hown hK hP 0 rfl rfl 1 (by decide) (hts (.fieldLink RX2 21 "TwoMetals$Reader" "mines" "LTwoMetals$Mines;") (List.mem_of_getElem? (i := 1) rfl)) (fun _ h9 => h9) rfl dX2_takeMines_38 ?_
    refine lv_aload_n hx hb dX2_takeMines_41 rfl (lv_at hl 0 rfl) ?_
    refine va_get (D := (dC, dI)) (ci := 2) (v := .ref (a0 2)) (C := RX2) (T := TX2) (N := 4) hx hb hts i2 hown hK hP 0 rfl rfl 2 (by decide) (hts (.fieldLink RX2 25 "TwoMetals$Reader" "number" "[I") (List.mem_of_getElem? (i := 2) rfl)) (fun _ h9 => h9) rfl dX2_takeMines_42 ?_
    refine lv_iconst (v := (0 : Int32)) hx hb dX2_takeMines_45 (by decide) ?_
    obtain ⟨hi4, hm⟩ := ck_in hm
    refine va_iald hx hb hK hP 1 0 rfl rfl hi4 dX2_takeMines_46 ?_
    refine lv_aload_n hx hb dX2_takeMines_47 rfl (lv_at hl 0 rfl) ?_
    refine va_get (D := (dC, dI)) (ci := 2) (v := .ref (a0 2)) (C := RX2) (T := TX2) (N := 4) hx hb hts i2 hown hK hP 0 rfl rfl 2 (by decide) (hts (.fieldLink RX2 25 "TwoMetals$Reader" "number" "[I") (List.mem_of_getElem? (i := 2) rfl)) (fun _ h9 => h9) rfl dX2_takeMines_48 ?_
    refine lv_iconst (v := (1 : Int32)) hx hb dX2_takeMines_51 (by decide) ?_
    obtain ⟨hi5, hm⟩ := ck_in hm
    refine va_iald hx hb hK hP 1 0 rfl rfl hi5 dX2_takeMines_52 ?_
    refine lv_aload_n hx hb dX2_takeMines_53 rfl (lv_at hl 0 rfl) ?_
    refine va_get (D := (dC, dI)) (ci := 2) (v := .ref (a0 2)) (C := RX2) (T := TX2) (N := 4) hx hb hts i2 hown hK hP 0 rfl rfl 2 (by decide) (hts (.fieldLink RX2 25 "TwoMetals$Reader" "number" "[I") (List.mem_of_getElem? (i := 2) rfl)) (fun _ h9 => h9) rfl dX2_takeMines_54 ?_
    refine lv_iconst (v := (2 : Int32)) hx hb dX2_takeMines_57 (by decide) ?_
    obtain ⟨hi6, hm⟩ := ck_in hm
    refine va_iald hx hb hK hP 1 0 rfl rfl hi6 dX2_takeMines_58 ?_
    obtain ⟨r7, hr7, hm⟩ := bn_call hm
    refine ca_vv (wr := (o_X2 cy h0 a0 w0)) (wn := (o_X2 cy h0 a0 w0) ++ (o_X0 cy (a0 1) a1 r7)) ⟨hx, hb, hml, hown, hts⟩ hK hA (hDa _ _) hP hS [2, 3, 4, 5] [0, 1] [0, 1, 2, 3, 4, 5] (fun sz => kcX0_tell l dC dI cy fu (a0 1) a1 w1 (w0.1 2 (0 : Int32).toNatClampNeg) (w0.1 2 (1 : Int32).toNatClampNeg) (w0.1 2 (2 : Int32).toNatClampNeg) sz r7 hr7) rfl rfl (by decide) (by decide) (by decide) rfl (cwV 3 hts gX2_takeMines_X0_tell rfl rfl rfl ⟨rfl, ydX0_tell⟩ ⟨Nat.le_of_ble_eq_true rfl, Nat.le_of_ble_eq_true rfl⟩) 0 0 rfl rfl rfl rfl hl.1 rfl (Nat.le_of_ble_eq_true rfl) dX2_takeMines_59 ⟨Nat.zero_le _, Nat.zero_le _⟩ (fun H locs hP hS => ?_)
    refine lv_iconst (v := (1 : Int32)) hx hb dX2_takeMines_62 (by decide) ?_
    obtain rfl := Option.some.inj hm
    exact hret 63 ls _ _ dX2_takeMines_63 nar_1 hP hS
  replace hm := (if_pos hc).symm.trans hm
  refine lv_iconst (v := (0 : Int32)) hx hb dX2_takeMines_35 (by decide) ?_
  obtain rfl := Option.some.inj hm
  exact hret 36 ls _ _ dX2_takeMines_36 nar_0 hP hS
set_option maxHeartbeats 4000000 in
set_option maxRecDepth 100000 in
theorem kcX2_takeScarcity (l : Launch) (dC : Nat → ClassId) (dI : Nat → Nat → Nat) (cy : Nat → ClassId) (fu : Nat) (h0 : Nat) (a0 : Nat → Nat) (w0 : ob_T) (a1 : Nat → Nat) (w1 : ob_T) (sz : Nat) (R : Int32 × ob_T) (hm : mX2_takeScarcity fu w0 w1 = some R) : Met l yX2_takeScarcity wsX2_takeScarcity (rmN 1 23) (va_Pc [.ref h0] (cPre dC dI cy ((o_X2 cy h0 a0 w0) ++ (o_X4 cy (a0 0) a1 w1)) sz)) (va_Qi (fun (r : Int32) (_ : Unit) => r = R.1) (fun _ => cPost dC dI cy ((o_X2 cy h0 a0 w0) ++ (o_X4 cy (a0 0) a1 w1)) ((o_X2 cy h0 a0 w0) ++ (o_X4 cy (a0 0) a1 R.2)) sz) (va_A ((o_X2 cy h0 a0 w0) ++ (o_X4 cy (a0 0) a1 w1)) sz)) 0 0 (va_A ((o_X2 cy h0 a0 w0) ++ (o_X4 cy (a0 0) a1 w1)) sz) := by
  refine mt_z (cc := cX2_takeScarcity) (maxL := 1) (by decide) rfl (Nat.le_of_ble_eq_true rfl) rfl ?_
  intro p e s m below meth c Q A hx hb hml hown hts hK hA hD hP hret ls hl
  have hown : s.vm.findClass RX2 = some m.cls := hown
  have hl : lv_has ls 1 [(0, .ref h0)] := hl
  have hDa : ∀ v0 v1 : ob_T, va_D A ((o_X2 cy h0 a0 v0) ++ (o_X4 cy (a0 0) a1 v1)) := fun _ _ => va_D_adr hD rfl
  have i2 : ∀ w ∈ wsX20, w ∈ wsX2_takeScarcity := fun _ h => List.mem_cons_of_mem _ (List.mem_append_left _ (List.mem_append_right _ h))
  have i4 : ∀ w ∈ wsX40, w ∈ wsX2_takeScarcity := fun _ h => List.mem_cons_of_mem _ (List.mem_append_right _ h)
  have hS : va_S A s.heap s.heap [] := va_S.rf
  unfold mX2_takeScarcity at hm
  refine lv_aload_n hx hb dX2_takeScarcity_0 rfl (lv_at hl 0 rfl) ?_
  refine lv_iconst (v := (0 : Int32)) hx hb dX2_takeScarcity_1 (by decide) ?_
  refine lv_iconst (v := (1 : Int32)) hx hb dX2_takeScarcity_2 (by decide) ?_
  refine lv_sipush (v := (9999 : Int32)) hx hb dX2_takeScarcity_3 (by decide) ?_
  obtain ⟨r1, hr1, hm⟩ := bn_call hm
  refine ca_vi (wr := (o_X4 cy (a0 0) a1 w1)) (wn := (o_X2 cy h0 a0 w0) ++ (o_X4 cy (a0 0) a1 w1)) ⟨hx, hb, hml, hown, hts⟩ hK hA (hDa _ _) hP hS [0, 1] [2, 3, 4, 5, 6, 7, 8, 9, 10, 11] [10, 11, 0, 1, 2, 3, 4, 5, 6, 7, 8, 9] (fun sz => kcX2_isWithin l dC dI cy fu h0 a0 w0 (0 : Int32) (1 : Int32) (9999 : Int32) sz r1 hr1) rfl rfl (by decide) (by decide) (by decide) rfl (cwV 3 hts gX2_takeScarcity_X2_isWithin rfl rfl rfl ⟨rfl, ydX2_isWithin⟩ ⟨Nat.le_of_ble_eq_true rfl, Nat.le_of_ble_eq_true rfl⟩) 2 0 rfl rfl rfl rfl hl.1 rfl (Nat.le_of_ble_eq_true rfl) dX2_takeScarcity_6 ⟨Nat.zero_le _, Nat.zero_le _⟩ (fun H locs hP hS => ?_)
  refine lv_if_ne (tgt := 14) hx hb dX2_takeScarcity_9 (by decide) (fun hc => ?_) (fun hc => ?_)
  · replace hm := (if_neg hc).symm.trans hm
    refine lv_aload_n hx hb dX2_takeScarcity_14 rfl (lv_at hl 0 rfl) ?_
    refine va_get (D := (dC, dI)) (ci := 2) (v := .ref (a0 0)) (C := RX2) (T := TX2) (N := 4) hx hb hts i2 hown hK hP 0 rfl rfl 0 (by decide) (hts (.fieldLink RX2 12 "TwoMetals$Reader" "world" "LTwoMetals$World;") (List.mem_of_getElem? (i := 1) rfl)) (fun _ h9 => h9) rfl dX2_takeScarcity_15 ?_
    refine lv_aload_n hx hb dX2_takeScarcity_18 rfl (lv_at hl 0 rfl) ?_
    refine va_get (D := (dC, dI)) (ci := 2) (v := .ref (a0 2)) (C := RX2) (T := TX2) (N := 4) hx hb hts i2 hown hK hP 0 rfl rfl 2 (by decide) (hts (.fieldLink RX2 25 "TwoMetals$Reader" "number" "[I") (List.mem_of_getElem? (i := 2) rfl)) (fun _ h9 => h9) rfl dX2_takeScarcity_19 ?_
    refine lv_iconst (v := (0 : Int32)) hx hb dX2_takeScarcity_22 (by decide) ?_
    obtain ⟨hi2, hm⟩ := ck_in hm
    refine va_iald hx hb hK hP 1 0 rfl rfl hi2 dX2_takeScarcity_23 ?_
    refine va_put (D := (dC, dI)) (ci := 4) (v := .int (w0.1 2 (0 : Int32).toNatClampNeg)) (ty := .int) (C := RX4) (T := TX4) (N := 17) hx hb hts i4 tyX4 tyX4_ok nmX4 hown hK hP (hDa _ _) hS 2 rfl rfl 14 (by decide) (hts (.fieldLink RX2 147 "TwoMetals$World" "scarcity" "I") (List.mem_of_getElem? (i := 3) rfl)) (fun _ h9 => h9) rfl (tyX4_ok 14 (by decide)) rfl rfl (Nat.le_of_ble_eq_true rfl) dX2_takeScarcity_24 (fun H locs hP _ hS => ?_)
    have hP : va_P (dC, dI) vwCl ((o_X2 cy h0 a0 w0) ++ (o_X4 cy (a0 0) a1 (ob_I w1 14 (fun _ => w0.1 2 (0 : Int32).toNatClampNeg)))) H := hP
    obtain ⟨u3, hP, hm⟩ := bn_ob (P := fun zz => va_P (dC, dI) vwCl ((o_X2 cy h0 a0 w0) ++ (o_X4 cy (a0 0) a1 zz)) H) hm hP
    refine lv_iconst (v := (1 : Int32)) hx hb dX2_takeScarcity_27 (by decide) ?_
    obtain rfl := Option.some.inj hm
    exact hret 28 ls _ _ dX2_takeScarcity_28 nar_1 hP hS
  replace hm := (if_pos hc).symm.trans hm
  refine lv_iconst (v := (0 : Int32)) hx hb dX2_takeScarcity_12 (by decide) ?_
  obtain rfl := Option.some.inj hm
  exact hret 13 ls _ _ dX2_takeScarcity_13 nar_0 hP hS
set_option maxHeartbeats 4000000 in
set_option maxRecDepth 100000 in
theorem kcX2_takeMarket (l : Launch) (dC : Nat → ClassId) (dI : Nat → Nat → Nat) (cy : Nat → ClassId) (fu : Nat) (h0 : Nat) (a0 : Nat → Nat) (w0 : ob_T) (a1 : Nat → Nat) (w1 : ob_T) (sz : Nat) (R : Int32 × ob_T) (hm : mX2_takeMarket fu w0 w1 = some R) : Met l yX2_takeMarket wsX2_takeMarket (rmN 0 0) (va_Pc [.ref h0] (cPre dC dI cy ((o_X2 cy h0 a0 w0) ++ (o_X4 cy (a0 0) a1 w1)) sz)) (va_Qi (fun (r : Int32) (_ : Unit) => r = R.1) (fun _ => cPost dC dI cy ((o_X2 cy h0 a0 w0) ++ (o_X4 cy (a0 0) a1 w1)) ((o_X2 cy h0 a0 w0) ++ (o_X4 cy (a0 0) a1 R.2)) sz) (va_A ((o_X2 cy h0 a0 w0) ++ (o_X4 cy (a0 0) a1 w1)) sz)) 0 0 (va_A ((o_X2 cy h0 a0 w0) ++ (o_X4 cy (a0 0) a1 w1)) sz) := by
  refine mt_z (cc := cX2_takeMarket) (maxL := 1) (by decide) rfl (Nat.le_of_ble_eq_true rfl) rfl ?_
  intro p e s m below meth c Q A hx hb hml hown hts hK hA hD hP hret ls hl
  have hown : s.vm.findClass RX2 = some m.cls := hown
  have hl : lv_has ls 1 [(0, .ref h0)] := hl
  have hDa : ∀ v0 v1 : ob_T, va_D A ((o_X2 cy h0 a0 v0) ++ (o_X4 cy (a0 0) a1 v1)) := fun _ _ => va_D_adr hD rfl
  have i2 : ∀ w ∈ wsX20, w ∈ wsX2_takeMarket := fun _ h => List.mem_cons_of_mem _ (List.mem_append_left _ (List.mem_append_right _ h))
  have i4 : ∀ w ∈ wsX40, w ∈ wsX2_takeMarket := fun _ h => List.mem_cons_of_mem _ (List.mem_append_right _ h)
  have hS : va_S A s.heap s.heap [] := va_S.rf
  unfold mX2_takeMarket at hm
  refine lv_aload_n hx hb dX2_takeMarket_0 rfl (lv_at hl 0 rfl) ?_
  refine va_get (D := (dC, dI)) (ci := 2) (v := .ref (a0 0)) (C := RX2) (T := TX2) (N := 4) hx hb hts i2 hown hK hP 0 rfl rfl 0 (by decide) (hts (.fieldLink RX2 12 "TwoMetals$Reader" "world" "LTwoMetals$World;") (List.mem_of_getElem? (i := 1) rfl)) (fun _ h9 => h9) rfl dX2_takeMarket_1 ?_
  refine lv_aload_n hx hb dX2_takeMarket_4 rfl (lv_at hl 0 rfl) ?_
  refine va_get (D := (dC, dI)) (ci := 2) (v := .ref (a0 2)) (C := RX2) (T := TX2) (N := 4) hx hb hts i2 hown hK hP 0 rfl rfl 2 (by decide) (hts (.fieldLink RX2 25 "TwoMetals$Reader" "number" "[I") (List.mem_of_getElem? (i := 2) rfl)) (fun _ h9 => h9) rfl dX2_takeMarket_5 ?_
  refine lv_iconst (v := (0 : Int32)) hx hb dX2_takeMarket_8 (by decide) ?_
  obtain ⟨hi1, hm⟩ := ck_in hm
  refine va_iald hx hb hK hP 1 0 rfl rfl hi1 dX2_takeMarket_9 ?_
  refine lv_i2l (v := (w0.1 2 (0 : Int32).toNatClampNeg).toInt64) hx hb dX2_takeMarket_10 rfl ?_
  refine va_put (D := (dC, dI)) (ci := 4) (v := .long ((w0.1 2 (0 : Int32).toNatClampNeg).toInt64)) (ty := .long) (C := RX4) (T := TX4) (N := 17) hx hb hts i4 tyX4 tyX4_ok nmX4 hown hK hP (hDa _ _) hS 2 rfl rfl 12 (by decide) (hts (.fieldLink RX2 140 "TwoMetals$World" "marketGold" "J") (List.mem_of_getElem? (i := 3) rfl)) (fun _ h9 => h9) rfl (tyX4_ok 12 (by decide)) rfl rfl (Nat.le_of_ble_eq_true rfl) dX2_takeMarket_11 (fun H locs hP _ hS => ?_)
  have hP : va_P (dC, dI) vwCl ((o_X2 cy h0 a0 w0) ++ (o_X4 cy (a0 0) a1 (ob_L w1 12 (fun _ => (w0.1 2 (0 : Int32).toNatClampNeg).toInt64)))) H := hP
  obtain ⟨u2, hP, hm⟩ := bn_ob (P := fun zz => va_P (dC, dI) vwCl ((o_X2 cy h0 a0 w0) ++ (o_X4 cy (a0 0) a1 zz)) H) hm hP
  refine lv_aload_n hx hb dX2_takeMarket_14 rfl (lv_at hl 0 rfl) ?_
  refine va_get (D := (dC, dI)) (ci := 2) (v := .ref (a0 0)) (C := RX2) (T := TX2) (N := 4) hx hb hts i2 hown hK hP 0 rfl rfl 0 (by decide) (hts (.fieldLink RX2 12 "TwoMetals$Reader" "world" "LTwoMetals$World;") (List.mem_of_getElem? (i := 1) rfl)) (fun _ h9 => h9) rfl dX2_takeMarket_15 ?_
  refine lv_ldc2 (v := (1000 : Int64)) hx hb hown (hts (.constantLong RX2 129 (1000)) (List.mem_of_getElem? (i := 4) rfl)) dX2_takeMarket_18 ?_
  refine lv_aload_n hx hb dX2_takeMarket_21 rfl (lv_at hl 0 rfl) ?_
  refine va_get (D := (dC, dI)) (ci := 2) (v := .ref (a0 2)) (C := RX2) (T := TX2) (N := 4) hx hb hts i2 hown hK hP 0 rfl rfl 2 (by decide) (hts (.fieldLink RX2 25 "TwoMetals$Reader" "number" "[I") (List.mem_of_getElem? (i := 2) rfl)) (fun _ h9 => h9) rfl dX2_takeMarket_22 ?_
  refine lv_iconst (v := (1 : Int32)) hx hb dX2_takeMarket_25 (by decide) ?_
  obtain ⟨hi3, hm⟩ := ck_in hm
  refine va_iald hx hb hK hP 1 0 rfl rfl hi3 dX2_takeMarket_26 ?_
  refine lv_i2l (v := (w0.1 2 (1 : Int32).toNatClampNeg).toInt64) hx hb dX2_takeMarket_27 rfl ?_
  refine lv_lmul hx hb dX2_takeMarket_28 ?_
  refine va_put (D := (dC, dI)) (ci := 4) (v := .long ((1000 : Int64) * ((w0.1 2 (1 : Int32).toNatClampNeg).toInt64))) (ty := .long) (C := RX4) (T := TX4) (N := 17) hx hb hts i4 tyX4 tyX4_ok nmX4 hown hK hP (hDa _ _) hS 2 rfl rfl 13 (by decide) (hts (.fieldLink RX2 144 "TwoMetals$World" "marketSilver" "J") (List.mem_of_getElem? (i := 5) rfl)) (fun _ h9 => h9) rfl (tyX4_ok 13 (by decide)) rfl rfl (Nat.le_of_ble_eq_true rfl) dX2_takeMarket_29 (fun H locs hP _ hS => ?_)
  have hP : va_P (dC, dI) vwCl ((o_X2 cy h0 a0 w0) ++ (o_X4 cy (a0 0) a1 (ob_L u2 13 (fun _ => (1000 : Int64) * ((w0.1 2 (1 : Int32).toNatClampNeg).toInt64))))) H := hP
  obtain ⟨u4, hP, hm⟩ := bn_ob (P := fun zz => va_P (dC, dI) vwCl ((o_X2 cy h0 a0 w0) ++ (o_X4 cy (a0 0) a1 zz)) H) hm hP
  refine lv_iconst (v := (1 : Int32)) hx hb dX2_takeMarket_32 (by decide) ?_
  obtain rfl := Option.some.inj hm
  exact hret 33 ls _ _ dX2_takeMarket_33 nar_1 hP hS
set_option maxHeartbeats 4000000 in
set_option maxRecDepth 100000 in
theorem kcX2_takeStop (l : Launch) (dC : Nat → ClassId) (dI : Nat → Nat → Nat) (cy : Nat → ClassId) (fu : Nat) (h0 : Nat) (a0 : Nat → Nat) (w0 : ob_T) (a1 : Nat → Nat) (w1 : ob_T) (sz : Nat) (R : Int32 × ob_T) (hm : mX2_takeStop fu w0 w1 = some R) : Met l yX2_takeStop wsX2_takeStop (rmN 1 23) (va_Pc [.ref h0] (cPre dC dI cy ((o_X2 cy h0 a0 w0) ++ (o_X4 cy (a0 0) a1 w1)) sz)) (va_Qi (fun (r : Int32) (_ : Unit) => r = R.1) (fun _ => cPost dC dI cy ((o_X2 cy h0 a0 w0) ++ (o_X4 cy (a0 0) a1 w1)) ((o_X2 cy h0 a0 w0) ++ (o_X4 cy (a0 0) a1 R.2)) sz) (va_A ((o_X2 cy h0 a0 w0) ++ (o_X4 cy (a0 0) a1 w1)) sz)) 0 0 (va_A ((o_X2 cy h0 a0 w0) ++ (o_X4 cy (a0 0) a1 w1)) sz) := by
  refine mt_z (cc := cX2_takeStop) (maxL := 1) (by decide) rfl (Nat.le_of_ble_eq_true rfl) rfl ?_
  intro p e s m below meth c Q A hx hb hml hown hts hK hA hD hP hret ls hl
  have hown : s.vm.findClass RX2 = some m.cls := hown
  have hl : lv_has ls 1 [(0, .ref h0)] := hl
  have hDa : ∀ v0 v1 : ob_T, va_D A ((o_X2 cy h0 a0 v0) ++ (o_X4 cy (a0 0) a1 v1)) := fun _ _ => va_D_adr hD rfl
  have i2 : ∀ w ∈ wsX20, w ∈ wsX2_takeStop := fun _ h => List.mem_cons_of_mem _ (List.mem_append_left _ (List.mem_append_right _ h))
  have i4 : ∀ w ∈ wsX40, w ∈ wsX2_takeStop := fun _ h => List.mem_cons_of_mem _ (List.mem_append_right _ h)
  have hS : va_S A s.heap s.heap [] := va_S.rf
  unfold mX2_takeStop at hm
  refine lv_aload_n hx hb dX2_takeStop_0 rfl (lv_at hl 0 rfl) ?_
  refine va_get (D := (dC, dI)) (ci := 2) (v := .ref (a0 0)) (C := RX2) (T := TX2) (N := 4) hx hb hts i2 hown hK hP 0 rfl rfl 0 (by decide) (hts (.fieldLink RX2 12 "TwoMetals$Reader" "world" "LTwoMetals$World;") (List.mem_of_getElem? (i := 1) rfl)) (fun _ h9 => h9) rfl dX2_takeStop_1 ?_
  refine lv_aload_n hx hb dX2_takeStop_4 rfl (lv_at hl 0 rfl) ?_
  refine va_get (D := (dC, dI)) (ci := 2) (v := .ref (a0 2)) (C := RX2) (T := TX2) (N := 4) hx hb hts i2 hown hK hP 0 rfl rfl 2 (by decide) (hts (.fieldLink RX2 25 "TwoMetals$Reader" "number" "[I") (List.mem_of_getElem? (i := 2) rfl)) (fun _ h9 => h9) rfl dX2_takeStop_5 ?_
  refine lv_iconst (v := (0 : Int32)) hx hb dX2_takeStop_8 (by decide) ?_
  obtain ⟨hi1, hm⟩ := ck_in hm
  refine va_iald hx hb hK hP 1 0 rfl rfl hi1 dX2_takeStop_9 ?_
  obtain ⟨r2, hr2, hm⟩ := bn_call hm
  refine ca_vi (wr := (o_X2 cy h0 a0 w0)) (wn := (o_X2 cy h0 a0 w0) ++ (o_X4 cy (a0 0) a1 w1)) ⟨hx, hb, hml, hown, hts⟩ hK hA (hDa _ _) hP hS [2, 3, 4, 5, 6, 7, 8, 9, 10, 11] [0, 1] [0, 1, 2, 3, 4, 5, 6, 7, 8, 9, 10, 11] (fun sz => kcX4_has l dC dI cy fu (a0 0) a1 w1 (w0.1 2 (0 : Int32).toNatClampNeg) sz r2 hr2) rfl rfl (by decide) (by decide) (by decide) rfl (cwV 1 hts gX2_takeStop_X4_has rfl rfl rfl ⟨rfl, ydX4_has⟩ ⟨Nat.le_of_ble_eq_true rfl, Nat.le_of_ble_eq_true rfl⟩) 4 0 rfl rfl rfl rfl hl.1 rfl (Nat.le_of_ble_eq_true rfl) dX2_takeStop_10 ⟨Nat.zero_le _, Nat.zero_le _⟩ (fun H locs hP hS => ?_)
  refine lv_if_eq (tgt := 28) hx hb dX2_takeStop_13 (by decide) (fun hc => ?_) (fun hc => ?_)
  · replace hm := (if_pos hc).symm.trans hm
    refine lv_iconst (v := (0 : Int32)) hx hb dX2_takeStop_28 (by decide) ?_
    obtain rfl := Option.some.inj hm
    exact hret 29 ls _ _ dX2_takeStop_29 nar_0 hP hS
  replace hm := (if_neg hc).symm.trans hm
  refine lv_aload_n hx hb dX2_takeStop_16 rfl (lv_at hl 0 rfl) ?_
  refine lv_iconst (v := (1 : Int32)) hx hb dX2_takeStop_17 (by decide) ?_
  refine lv_iconst (v := (0 : Int32)) hx hb dX2_takeStop_18 (by decide) ?_
  refine lv_sipush (v := (9999 : Int32)) hx hb dX2_takeStop_19 (by decide) ?_
  obtain ⟨r3, hr3, hm⟩ := bn_call hm
  refine ca_vi (wr := (o_X4 cy (a0 0) a1 w1)) (wn := (o_X2 cy h0 a0 w0) ++ (o_X4 cy (a0 0) a1 w1)) ⟨hx, hb, hml, hown, hts⟩ hK hA (hDa _ _) hP hS [0, 1] [2, 3, 4, 5, 6, 7, 8, 9, 10, 11] [10, 11, 0, 1, 2, 3, 4, 5, 6, 7, 8, 9] (fun sz => kcX2_isWithin l dC dI cy fu h0 a0 w0 (1 : Int32) (0 : Int32) (9999 : Int32) sz r3 hr3) rfl rfl (by decide) (by decide) (by decide) rfl (cwV 3 hts gX2_takeStop_X2_isWithin rfl rfl rfl ⟨rfl, ydX2_isWithin⟩ ⟨Nat.le_of_ble_eq_true rfl, Nat.le_of_ble_eq_true rfl⟩) 2 0 rfl rfl rfl rfl hl.1 rfl (Nat.le_of_ble_eq_true rfl) dX2_takeStop_22 ⟨Nat.zero_le _, Nat.zero_le _⟩ (fun H locs hP hS => ?_)
  refine lv_if_ne (tgt := 30) hx hb dX2_takeStop_25 (by decide) (fun hc => ?_) (fun hc => ?_)
  · replace hm := (if_neg hc).symm.trans hm
    refine lv_aload_n hx hb dX2_takeStop_30 rfl (lv_at hl 0 rfl) ?_
    refine va_get (D := (dC, dI)) (ci := 2) (v := .ref (a0 0)) (C := RX2) (T := TX2) (N := 4) hx hb hts i2 hown hK hP 0 rfl rfl 0 (by decide) (hts (.fieldLink RX2 12 "TwoMetals$Reader" "world" "LTwoMetals$World;") (List.mem_of_getElem? (i := 1) rfl)) (fun _ h9 => h9) rfl dX2_takeStop_31 ?_
    refine va_get (D := (dC, dI)) (ci := 4) (v := .ref (a1 4)) (C := RX4) (T := TX4) (N := 17) hx hb hts i4 hown hK hP 2 rfl rfl 4 (by decide) (hts (.fieldLink RX2 134 "TwoMetals$World" "stopAt" "[I") (List.mem_of_getElem? (i := 3) rfl)) (fun _ h9 => h9) rfl dX2_takeStop_34 ?_
    refine lv_aload_n hx hb dX2_takeStop_37 rfl (lv_at hl 0 rfl) ?_
    refine va_get (D := (dC, dI)) (ci := 2) (v := .ref (a0 2)) (C := RX2) (T := TX2) (N := 4) hx hb hts i2 hown hK hP 0 rfl rfl 2 (by decide) (hts (.fieldLink RX2 25 "TwoMetals$Reader" "number" "[I") (List.mem_of_getElem? (i := 2) rfl)) (fun _ h9 => h9) rfl dX2_takeStop_38 ?_
    refine lv_iconst (v := (0 : Int32)) hx hb dX2_takeStop_41 (by decide) ?_
    refine va_iald hx hb hK hP 1 0 rfl rfl hi1 dX2_takeStop_42 ?_
    refine lv_aload_n hx hb dX2_takeStop_43 rfl (lv_at hl 0 rfl) ?_
    refine va_get (D := (dC, dI)) (ci := 2) (v := .ref (a0 2)) (C := RX2) (T := TX2) (N := 4) hx hb hts i2 hown hK hP 0 rfl rfl 2 (by decide) (hts (.fieldLink RX2 25 "TwoMetals$Reader" "number" "[I") (List.mem_of_getElem? (i := 2) rfl)) (fun _ h9 => h9) rfl dX2_takeStop_44 ?_
    refine lv_iconst (v := (1 : Int32)) hx hb dX2_takeStop_47 (by decide) ?_
    obtain ⟨hi4, hm⟩ := ck_in hm
    refine va_iald hx hb hK hP 1 0 rfl rfl hi4 dX2_takeStop_48 ?_
    obtain ⟨hi5, hm⟩ := ck_in hm
    refine va_iast hx hb hK hP (hDa _ _) hS 7 0 rfl rfl hi5 dX2_takeStop_49 (fun H locs hP _ hS => ?_)
    have hP : va_P (dC, dI) vwCl ((o_X2 cy h0 a0 w0) ++ (o_X4 cy (a0 0) a1 (ob_I w1 4 (upd (w1.1 4) (w0.1 2 (0 : Int32).toNatClampNeg).toNatClampNeg (w0.1 2 (1 : Int32).toNatClampNeg))))) H := hP
    obtain ⟨u6, hP, hm⟩ := bn_ob (P := fun zz => va_P (dC, dI) vwCl ((o_X2 cy h0 a0 w0) ++ (o_X4 cy (a0 0) a1 zz)) H) hm hP
    refine lv_iconst (v := (1 : Int32)) hx hb dX2_takeStop_50 (by decide) ?_
    obtain rfl := Option.some.inj hm
    exact hret 51 ls _ _ dX2_takeStop_51 nar_1 hP hS
  replace hm := (if_pos hc).symm.trans hm
  refine lv_iconst (v := (0 : Int32)) hx hb dX2_takeStop_28 (by decide) ?_
  obtain rfl := Option.some.inj hm
  exact hret 29 ls _ _ dX2_takeStop_29 nar_0 hP hS
set_option maxHeartbeats 4000000 in
set_option maxRecDepth 100000 in
theorem kcX2_takeLimp (l : Launch) (dC : Nat → ClassId) (dI : Nat → Nat → Nat) (cy : Nat → ClassId) (fu : Nat) (h0 : Nat) (a0 : Nat → Nat) (w0 : ob_T) (a1 : Nat → Nat) (w1 : ob_T) (sz : Nat) (R : Int32 × ob_T) (hm : mX2_takeLimp fu w0 w1 = some R) : Met l yX2_takeLimp wsX2_takeLimp (rmN 1 21) (va_Pc [.ref h0] (cPre dC dI cy ((o_X2 cy h0 a0 w0) ++ (o_X4 cy (a0 0) a1 w1)) sz)) (va_Qi (fun (r : Int32) (_ : Unit) => r = R.1) (fun _ => cPost dC dI cy ((o_X2 cy h0 a0 w0) ++ (o_X4 cy (a0 0) a1 w1)) ((o_X2 cy h0 a0 w0) ++ (o_X4 cy (a0 0) a1 R.2)) sz) (va_A ((o_X2 cy h0 a0 w0) ++ (o_X4 cy (a0 0) a1 w1)) sz)) 0 0 (va_A ((o_X2 cy h0 a0 w0) ++ (o_X4 cy (a0 0) a1 w1)) sz) := by
  refine mt_z (cc := cX2_takeLimp) (maxL := 1) (by decide) rfl (Nat.le_of_ble_eq_true rfl) rfl ?_
  intro p e s m below meth c Q A hx hb hml hown hts hK hA hD hP hret ls hl
  have hown : s.vm.findClass RX2 = some m.cls := hown
  have hl : lv_has ls 1 [(0, .ref h0)] := hl
  have hDa : ∀ v0 v1 : ob_T, va_D A ((o_X2 cy h0 a0 v0) ++ (o_X4 cy (a0 0) a1 v1)) := fun _ _ => va_D_adr hD rfl
  have i2 : ∀ w ∈ wsX20, w ∈ wsX2_takeLimp := fun _ h => List.mem_cons_of_mem _ (List.mem_append_left _ (List.mem_append_right _ h))
  have i4 : ∀ w ∈ wsX40, w ∈ wsX2_takeLimp := fun _ h => List.mem_cons_of_mem _ (List.mem_append_right _ h)
  have hS : va_S A s.heap s.heap [] := va_S.rf
  unfold mX2_takeLimp at hm
  refine lv_aload_n hx hb dX2_takeLimp_0 rfl (lv_at hl 0 rfl) ?_
  refine va_get (D := (dC, dI)) (ci := 2) (v := .ref (a0 0)) (C := RX2) (T := TX2) (N := 4) hx hb hts i2 hown hK hP 0 rfl rfl 0 (by decide) (hts (.fieldLink RX2 12 "TwoMetals$Reader" "world" "LTwoMetals$World;") (List.mem_of_getElem? (i := 1) rfl)) (fun _ h9 => h9) rfl dX2_takeLimp_1 ?_
  refine lv_aload_n hx hb dX2_takeLimp_4 rfl (lv_at hl 0 rfl) ?_
  refine va_get (D := (dC, dI)) (ci := 2) (v := .ref (a0 2)) (C := RX2) (T := TX2) (N := 4) hx hb hts i2 hown hK hP 0 rfl rfl 2 (by decide) (hts (.fieldLink RX2 25 "TwoMetals$Reader" "number" "[I") (List.mem_of_getElem? (i := 2) rfl)) (fun _ h9 => h9) rfl dX2_takeLimp_5 ?_
  refine lv_iconst (v := (0 : Int32)) hx hb dX2_takeLimp_8 (by decide) ?_
  obtain ⟨hi1, hm⟩ := ck_in hm
  refine va_iald hx hb hK hP 1 0 rfl rfl hi1 dX2_takeLimp_9 ?_
  obtain ⟨r2, hr2, hm⟩ := bn_call hm
  refine ca_vi (wr := (o_X2 cy h0 a0 w0)) (wn := (o_X2 cy h0 a0 w0) ++ (o_X4 cy (a0 0) a1 w1)) ⟨hx, hb, hml, hown, hts⟩ hK hA (hDa _ _) hP hS [2, 3, 4, 5, 6, 7, 8, 9, 10, 11] [0, 1] [0, 1, 2, 3, 4, 5, 6, 7, 8, 9, 10, 11] (fun sz => kcX4_has l dC dI cy fu (a0 0) a1 w1 (w0.1 2 (0 : Int32).toNatClampNeg) sz r2 hr2) rfl rfl (by decide) (by decide) (by decide) rfl (cwV 1 hts gX2_takeLimp_X4_has rfl rfl rfl ⟨rfl, ydX4_has⟩ ⟨Nat.le_of_ble_eq_true rfl, Nat.le_of_ble_eq_true rfl⟩) 4 0 rfl rfl rfl rfl hl.1 rfl (Nat.le_of_ble_eq_true rfl) dX2_takeLimp_10 ⟨Nat.zero_le _, Nat.zero_le _⟩ (fun H locs hP hS => ?_)
  refine lv_if_ne (tgt := 18) hx hb dX2_takeLimp_13 (by decide) (fun hc => ?_) (fun hc => ?_)
  · replace hm := (if_neg hc).symm.trans hm
    refine lv_aload_n hx hb dX2_takeLimp_18 rfl (lv_at hl 0 rfl) ?_
    refine va_get (D := (dC, dI)) (ci := 2) (v := .ref (a0 0)) (C := RX2) (T := TX2) (N := 4) hx hb hts i2 hown hK hP 0 rfl rfl 0 (by decide) (hts (.fieldLink RX2 12 "TwoMetals$Reader" "world" "LTwoMetals$World;") (List.mem_of_getElem? (i := 1) rfl)) (fun _ h9 => h9) rfl dX2_takeLimp_19 ?_
    refine lv_dup hx hb dX2_takeLimp_22 rfl ?_
    refine va_get (D := (dC, dI)) (ci := 4) (v := .int (w1.1 11 0)) (C := RX4) (T := TX4) (N := 17) hx hb hts i4 hown hK hP 2 rfl rfl 11 (by decide) (hts (.fieldLink RX2 137 "TwoMetals$World" "limping" "I") (List.mem_of_getElem? (i := 3) rfl)) (fun _ h9 => h9) rfl dX2_takeLimp_23 ?_
    refine lv_iconst (v := (1 : Int32)) hx hb dX2_takeLimp_26 (by decide) ?_
    refine lv_aload_n hx hb dX2_takeLimp_27 rfl (lv_at hl 0 rfl) ?_
    refine va_get (D := (dC, dI)) (ci := 2) (v := .ref (a0 2)) (C := RX2) (T := TX2) (N := 4) hx hb hts i2 hown hK hP 0 rfl rfl 2 (by decide) (hts (.fieldLink RX2 25 "TwoMetals$Reader" "number" "[I") (List.mem_of_getElem? (i := 2) rfl)) (fun _ h9 => h9) rfl dX2_takeLimp_28 ?_
    refine lv_iconst (v := (0 : Int32)) hx hb dX2_takeLimp_31 (by decide) ?_
    refine va_iald hx hb hK hP 1 0 rfl rfl hi1 dX2_takeLimp_32 ?_
    refine lv_ishl hx hb dX2_takeLimp_33 ?_
    refine lv_ior hx hb dX2_takeLimp_34 ?_
    refine va_put (D := (dC, dI)) (ci := 4) (v := .int ((w1.1 11 0) ||| ((1 : Int32) <<< ((w0.1 2 (0 : Int32).toNatClampNeg) &&& 31)))) (ty := .int) (C := RX4) (T := TX4) (N := 17) hx hb hts i4 tyX4 tyX4_ok nmX4 hown hK hP (hDa _ _) hS 2 rfl rfl 11 (by decide) (hts (.fieldLink RX2 137 "TwoMetals$World" "limping" "I") (List.mem_of_getElem? (i := 3) rfl)) (fun _ h9 => h9) rfl (tyX4_ok 11 (by decide)) rfl rfl (Nat.le_of_ble_eq_true rfl) dX2_takeLimp_35 (fun H locs hP _ hS => ?_)
    have hP : va_P (dC, dI) vwCl ((o_X2 cy h0 a0 w0) ++ (o_X4 cy (a0 0) a1 (ob_I w1 11 (fun _ => (w1.1 11 0) ||| ((1 : Int32) <<< ((w0.1 2 (0 : Int32).toNatClampNeg) &&& 31)))))) H := hP
    obtain ⟨u3, hP, hm⟩ := bn_ob (P := fun zz => va_P (dC, dI) vwCl ((o_X2 cy h0 a0 w0) ++ (o_X4 cy (a0 0) a1 zz)) H) hm hP
    refine lv_iconst (v := (1 : Int32)) hx hb dX2_takeLimp_38 (by decide) ?_
    obtain rfl := Option.some.inj hm
    exact hret 39 ls _ _ dX2_takeLimp_39 nar_1 hP hS
  replace hm := (if_pos hc).symm.trans hm
  refine lv_iconst (v := (0 : Int32)) hx hb dX2_takeLimp_16 (by decide) ?_
  obtain rfl := Option.some.inj hm
  exact hret 17 ls _ _ dX2_takeLimp_17 nar_0 hP hS
set_option maxHeartbeats 4000000 in
set_option maxRecDepth 100000 in
theorem kcX2_takeRealm (l : Launch) (dC : Nat → ClassId) (dI : Nat → Nat → Nat) (cy : Nat → ClassId) (fu : Nat) (h0 : Nat) (a0 : Nat → Nat) (w0 : ob_T) (a1 : Nat → Nat) (w1 : ob_T) (sz : Nat) (R : Int32 × ob_T) (hm : mX2_takeRealm fu w0 w1 = some R) : Met l yX2_takeRealm wsX2_takeRealm (rmN 2 57) (va_Pc [.ref h0] (cPre dC dI cy ((o_X2 cy h0 a0 w0) ++ (o_X4 cy (a0 0) a1 w1)) sz)) (va_Qi (fun (r : Int32) (_ : Unit) => r = R.1) (fun _ => cPost dC dI cy ((o_X2 cy h0 a0 w0) ++ (o_X4 cy (a0 0) a1 w1)) ((o_X2 cy h0 a0 w0) ++ (o_X4 cy (a0 0) a1 R.2)) sz) (va_A ((o_X2 cy h0 a0 w0) ++ (o_X4 cy (a0 0) a1 w1)) sz)) 0 0 (va_A ((o_X2 cy h0 a0 w0) ++ (o_X4 cy (a0 0) a1 w1)) sz) := by
  refine mt_z (cc := cX2_takeRealm) (maxL := 5) (by decide) rfl (Nat.le_of_ble_eq_true rfl) rfl ?_
  intro p e s m below meth c Q A hx hb hml hown hts hK hA hD hP hret ls hl
  have hown : s.vm.findClass RX2 = some m.cls := hown
  have hl : lv_has ls 5 [(0, .ref h0)] := hl
  have hDa : ∀ v0 v1 : ob_T, va_D A ((o_X2 cy h0 a0 v0) ++ (o_X4 cy (a0 0) a1 v1)) := fun _ _ => va_D_adr hD rfl
  have i2 : ∀ w ∈ wsX20, w ∈ wsX2_takeRealm := fun _ h => List.mem_cons_of_mem _ (List.mem_append_left _ (List.mem_append_right _ h))
  have i4 : ∀ w ∈ wsX40, w ∈ wsX2_takeRealm := fun _ h => List.mem_cons_of_mem _ (List.mem_append_right _ h)
  have hS : va_S A s.heap s.heap [] := va_S.rf
  have hB118 : ∀ (w1 : ob_T) (l1 : Int32) (l2 : Int32) (s0 : Int32) (H : Heap) (locs : List Loc) (ls : Array Slot), bX2_takeRealm_118 fu w0 w1 l1 l2 s0 = some R → va_P (dC, dI) vwCl ((o_X2 cy h0 a0 w0) ++ (o_X4 cy (a0 0) a1 w1)) H → va_S A s.heap H locs → lv_has ls 5 [(0, .ref h0), (1, .int l1), (2, .int l2)] → W p l e (rmN 2 57) s m ([.ref h0] : List Value).toArray below meth c H locs 0 0 Q (F0 m 118 ls [.int s0]) := by
    intro w1 l1 l2 s0 H locs ls hm hP hS hl
    unfold bX2_takeRealm_118 at hm
    refine lv_istore_n (lv' := [(3, .int s0), (0, .ref h0), (1, .int l1), (2, .int l2)]) hx hb dX2_takeRealm_118 rfl hl (by decide) rfl (fun ls hl => ?_)
    refine lv_iload_n hx hb dX2_takeRealm_119 rfl (lv_at hl 2 rfl) ?_
    refine lv_if_eq (tgt := 131) hx hb dX2_takeRealm_120 (by decide) (fun hc => ?_) (fun hc => ?_)
    · replace hm := (if_pos hc).symm.trans hm
      refine lv_iconst (v := (0 : Int32)) hx hb dX2_takeRealm_131 (by decide) ?_
      obtain rfl := Option.some.inj hm
      exact hret 132 ls _ _ dX2_takeRealm_132 nar_0 hP hS
    replace hm := (if_neg hc).symm.trans hm
    refine lv_iload_n hx hb dX2_takeRealm_123 rfl (lv_at hl 3 rfl) ?_
    refine lv_if_eq (tgt := 131) hx hb dX2_takeRealm_124 (by decide) (fun hc => ?_) (fun hc => ?_)
    · replace hm := (if_pos hc).symm.trans hm
      refine lv_iconst (v := (0 : Int32)) hx hb dX2_takeRealm_131 (by decide) ?_
      obtain rfl := Option.some.inj hm
      exact hret 132 ls _ _ dX2_takeRealm_132 nar_0 hP hS
    replace hm := (if_neg hc).symm.trans hm
    refine lv_iload_n hx hb dX2_takeRealm_127 rfl (lv_at hl 0 rfl) ?_
    refine lv_if_ne (tgt := 133) hx hb dX2_takeRealm_128 (by decide) (fun hc => ?_) (fun hc => ?_)
    · replace hm := (if_neg hc).symm.trans hm
      refine lv_aload_n hx hb dX2_takeRealm_133 rfl (lv_at hl 1 rfl) ?_
      refine va_get (D := (dC, dI)) (ci := 2) (v := .ref (a0 2)) (C := RX2) (T := TX2) (N := 4) hx hb hts i2 hown hK hP 0 rfl rfl 2 (by decide) (hts (.fieldLink RX2 25 "TwoMetals$Reader" "number" "[I") (List.mem_of_getElem? (i := 2) rfl)) (fun _ h9 => h9) rfl dX2_takeRealm_134 ?_
      refine lv_iconst (v := (0 : Int32)) hx hb dX2_takeRealm_137 (by decide) ?_
      obtain ⟨hi1, hm⟩ := ck_in hm
      refine va_iald hx hb hK hP 1 0 rfl rfl hi1 dX2_takeRealm_138 ?_
      refine lv_topi (fun x2 e3 => ?_)
      replace hm := bn_at e3 hm
      refine lv_istore (lv' := [(4, .int x2), (3, .int s0), (0, .ref h0), (1, .int l1), (2, .int l2)]) hx hb dX2_takeRealm_139 hl (by decide) rfl (fun ls hl => ?_)
      refine lv_aload_n hx hb dX2_takeRealm_141 rfl (lv_at hl 2 rfl) ?_
      refine va_get (D := (dC, dI)) (ci := 2) (v := .ref (a0 0)) (C := RX2) (T := TX2) (N := 4) hx hb hts i2 hown hK hP 0 rfl rfl 0 (by decide) (hts (.fieldLink RX2 12 "TwoMetals$Reader" "world" "LTwoMetals$World;") (List.mem_of_getElem? (i := 1) rfl)) (fun _ h9 => h9) rfl dX2_takeRealm_142 ?_
      refine lv_dup hx hb dX2_takeRealm_145 rfl ?_
      refine va_get (D := (dC, dI)) (ci := 4) (v := .int (w1.1 9 0)) (C := RX4) (T := TX4) (N := 17) hx hb hts i4 hown hK hP 2 rfl rfl 9 (by decide) (hts (.fieldLink RX2 106 "TwoMetals$World" "told" "I") (List.mem_of_getElem? (i := 4) rfl)) (fun _ h9 => h9) rfl dX2_takeRealm_146 ?_
      refine lv_iconst (v := (1 : Int32)) hx hb dX2_takeRealm_149 (by decide) ?_
      refine lv_iload hx hb dX2_takeRealm_150 (lv_at hl 0 rfl) ?_
      refine lv_ishl hx hb dX2_takeRealm_152 ?_
      refine lv_ior hx hb dX2_takeRealm_153 ?_
      refine va_put (D := (dC, dI)) (ci := 4) (v := .int ((w1.1 9 0) ||| ((1 : Int32) <<< (x2 &&& 31)))) (ty := .int) (C := RX4) (T := TX4) (N := 17) hx hb hts i4 tyX4 tyX4_ok nmX4 hown hK hP (hDa _ _) hS 2 rfl rfl 9 (by decide) (hts (.fieldLink RX2 106 "TwoMetals$World" "told" "I") (List.mem_of_getElem? (i := 4) rfl)) (fun _ h9 => h9) rfl (tyX4_ok 9 (by decide)) rfl rfl (Nat.le_of_ble_eq_true rfl) dX2_takeRealm_154 (fun H locs hP _ hS => ?_)
      have hP : va_P (dC, dI) vwCl ((o_X2 cy h0 a0 w0) ++ (o_X4 cy (a0 0) a1 (ob_I w1 9 (fun _ => (w1.1 9 0) ||| ((1 : Int32) <<< (x2 &&& 31)))))) H := hP
      obtain ⟨u4, hP, hm⟩ := bn_ob (P := fun zz => va_P (dC, dI) vwCl ((o_X2 cy h0 a0 w0) ++ (o_X4 cy (a0 0) a1 zz)) H) hm hP
      refine lv_aload_n hx hb dX2_takeRealm_157 rfl (lv_at hl 2 rfl) ?_
      refine va_get (D := (dC, dI)) (ci := 2) (v := .ref (a0 0)) (C := RX2) (T := TX2) (N := 4) hx hb hts i2 hown hK hP 0 rfl rfl 0 (by decide) (hts (.fieldLink RX2 12 "TwoMetals$Reader" "world" "LTwoMetals$World;") (List.mem_of_getElem? (i := 1) rfl)) (fun _ h9 => h9) rfl dX2_takeRealm_158 ?_
      refine lv_dup hx hb dX2_takeRealm_161 rfl ?_
      refine va_get (D := (dC, dI)) (ci := 4) (v := .int (u4.1 10 0)) (C := RX4) (T := TX4) (N := 17) hx hb hts i4 hown hK hP 2 rfl rfl 10 (by decide) (hts (.fieldLink RX2 109 "TwoMetals$World" "minting" "I") (List.mem_of_getElem? (i := 5) rfl)) (fun _ h9 => h9) rfl dX2_takeRealm_162 ?_
      refine lv_iconst (v := (1 : Int32)) hx hb dX2_takeRealm_165 (by decide) ?_
      refine lv_iload hx hb dX2_takeRealm_166 (lv_at hl 0 rfl) ?_
      refine lv_ishl hx hb dX2_takeRealm_168 ?_
      refine lv_ior hx hb dX2_takeRealm_169 ?_
      refine va_put (D := (dC, dI)) (ci := 4) (v := .int ((u4.1 10 0) ||| ((1 : Int32) <<< (x2 &&& 31)))) (ty := .int) (C := RX4) (T := TX4) (N := 17) hx hb hts i4 tyX4 tyX4_ok nmX4 hown hK hP (hDa _ _) hS 2 rfl rfl 10 (by decide) (hts (.fieldLink RX2 109 "TwoMetals$World" "minting" "I") (List.mem_of_getElem? (i := 5) rfl)) (fun _ h9 => h9) rfl (tyX4_ok 10 (by decide)) rfl rfl (Nat.le_of_ble_eq_true rfl) dX2_takeRealm_170 (fun H locs hP _ hS => ?_)
      have hP : va_P (dC, dI) vwCl ((o_X2 cy h0 a0 w0) ++ (o_X4 cy (a0 0) a1 (ob_I u4 10 (fun _ => (u4.1 10 0) ||| ((1 : Int32) <<< (x2 &&& 31)))))) H := hP
      obtain ⟨u5, hP, hm⟩ := bn_ob (P := fun zz => va_P (dC, dI) vwCl ((o_X2 cy h0 a0 w0) ++ (o_X4 cy (a0 0) a1 zz)) H) hm hP
      refine lv_aload_n hx hb dX2_takeRealm_173 rfl (lv_at hl 2 rfl) ?_
      refine va_get (D := (dC, dI)) (ci := 2) (v := .ref (a0 0)) (C := RX2) (T := TX2) (N := 4) hx hb hts i2 hown hK hP 0 rfl rfl 0 (by decide) (hts (.fieldLink RX2 12 "TwoMetals$Reader" "world" "LTwoMetals$World;") (List.mem_of_getElem? (i := 1) rfl)) (fun _ h9 => h9) rfl dX2_takeRealm_174 ?_
      refine va_get (D := (dC, dI)) (ci := 4) (v := .ref (a1 1)) (C := RX4) (T := TX4) (N := 17) hx hb hts i4 hown hK hP 2 rfl rfl 1 (by decide) (hts (.fieldLink RX2 112 "TwoMetals$World" "cut" "[I") (List.mem_of_getElem? (i := 6) rfl)) (fun _ h9 => h9) rfl dX2_takeRealm_177 ?_
      refine lv_iload hx hb dX2_takeRealm_180 (lv_at hl 0 rfl) ?_
      refine lv_aload_n hx hb dX2_takeRealm_182 rfl (lv_at hl 2 rfl) ?_
      refine va_get (D := (dC, dI)) (ci := 2) (v := .ref (a0 2)) (C := RX2) (T := TX2) (N := 4) hx hb hts i2 hown hK hP 0 rfl rfl 2 (by decide) (hts (.fieldLink RX2 25 "TwoMetals$Reader" "number" "[I") (List.mem_of_getElem? (i := 2) rfl)) (fun _ h9 => h9) rfl dX2_takeRealm_183 ?_
      refine lv_iconst (v := (2 : Int32)) hx hb dX2_takeRealm_186 (by decide) ?_
      obtain ⟨hi6, hm⟩ := ck_in hm
      refine va_iald hx hb hK hP 1 0 rfl rfl hi6 dX2_takeRealm_187 ?_
      obtain ⟨hi7, hm⟩ := ck_in hm
      refine va_iast hx hb hK hP (hDa _ _) hS 4 0 rfl rfl hi7 dX2_takeRealm_188 (fun H locs hP _ hS => ?_)
      have hP : va_P (dC, dI) vwCl ((o_X2 cy h0 a0 w0) ++ (o_X4 cy (a0 0) a1 (ob_I u5 1 (upd (u5.1 1) x2.toNatClampNeg (w0.1 2 (2 : Int32).toNatClampNeg))))) H := hP
      obtain ⟨u8, hP, hm⟩ := bn_ob (P := fun zz => va_P (dC, dI) vwCl ((o_X2 cy h0 a0 w0) ++ (o_X4 cy (a0 0) a1 zz)) H) hm hP
      refine lv_aload_n hx hb dX2_takeRealm_189 rfl (lv_at hl 2 rfl) ?_
      refine va_get (D := (dC, dI)) (ci := 2) (v := .ref (a0 0)) (C := RX2) (T := TX2) (N := 4) hx hb hts i2 hown hK hP 0 rfl rfl 0 (by decide) (hts (.fieldLink RX2 12 "TwoMetals$Reader" "world" "LTwoMetals$World;") (List.mem_of_getElem? (i := 1) rfl)) (fun _ h9 => h9) rfl dX2_takeRealm_190 ?_
      refine va_get (D := (dC, dI)) (ci := 4) (v := .ref (a1 2)) (C := RX4) (T := TX4) (N := 17) hx hb hts i4 hown hK hP 2 rfl rfl 2 (by decide) (hts (.fieldLink RX2 115 "TwoMetals$World" "way" "[I") (List.mem_of_getElem? (i := 7) rfl)) (fun _ h9 => h9) rfl dX2_takeRealm_193 ?_
      refine lv_iload hx hb dX2_takeRealm_196 (lv_at hl 0 rfl) ?_
      refine lv_aload_n hx hb dX2_takeRealm_198 rfl (lv_at hl 2 rfl) ?_
      refine va_get (D := (dC, dI)) (ci := 2) (v := .ref (a0 2)) (C := RX2) (T := TX2) (N := 4) hx hb hts i2 hown hK hP 0 rfl rfl 2 (by decide) (hts (.fieldLink RX2 25 "TwoMetals$Reader" "number" "[I") (List.mem_of_getElem? (i := 2) rfl)) (fun _ h9 => h9) rfl dX2_takeRealm_199 ?_
      refine lv_iconst (v := (3 : Int32)) hx hb dX2_takeRealm_202 (by decide) ?_
      obtain ⟨hi9, hm⟩ := ck_in hm
      refine va_iald hx hb hK hP 1 0 rfl rfl hi9 dX2_takeRealm_203 ?_
      refine va_iast hx hb hK hP (hDa _ _) hS 5 0 rfl rfl hi7 dX2_takeRealm_204 (fun H locs hP _ hS => ?_)
      have hP : va_P (dC, dI) vwCl ((o_X2 cy h0 a0 w0) ++ (o_X4 cy (a0 0) a1 (ob_I u8 2 (upd (u8.1 2) x2.toNatClampNeg (w0.1 2 (3 : Int32).toNatClampNeg))))) H := hP
      obtain ⟨u10, hP, hm⟩ := bn_ob (P := fun zz => va_P (dC, dI) vwCl ((o_X2 cy h0 a0 w0) ++ (o_X4 cy (a0 0) a1 zz)) H) hm hP
      refine lv_aload_n hx hb dX2_takeRealm_205 rfl (lv_at hl 2 rfl) ?_
      refine va_get (D := (dC, dI)) (ci := 2) (v := .ref (a0 0)) (C := RX2) (T := TX2) (N := 4) hx hb hts i2 hown hK hP 0 rfl rfl 0 (by decide) (hts (.fieldLink RX2 12 "TwoMetals$Reader" "world" "LTwoMetals$World;") (List.mem_of_getElem? (i := 1) rfl)) (fun _ h9 => h9) rfl dX2_takeRealm_206 ?_
      refine lv_iload hx hb dX2_takeRealm_209 (lv_at hl 0 rfl) ?_
      refine lv_aload_n hx hb dX2_takeRealm_211 rfl (lv_at hl 2 rfl) ?_
      refine va_get (D := (dC, dI)) (ci := 2) (v := .ref (a0 2)) (C := RX2) (T := TX2) (N := 4) hx hb hts i2 hown hK hP 0 rfl rfl 2 (by decide) (hts (.fieldLink RX2 25 "TwoMetals$Reader" "number" "[I") (List.mem_of_getElem? (i := 2) rfl)) (fun _ h9 => h9) rfl dX2_takeRealm_212 ?_
      refine lv_iconst (v := (1 : Int32)) hx hb dX2_takeRealm_215 (by decide) ?_
      obtain ⟨hi11, hm⟩ := ck_in hm
      refine va_iald hx hb hK hP 1 0 rfl rfl hi11 dX2_takeRealm_216 ?_
      obtain ⟨r12, hr12, hm⟩ := bn_call hm
      refine ca_vv (wr := (o_X2 cy h0 a0 w0)) (wn := (o_X2 cy h0 a0 w0) ++ (o_X4 cy (a0 0) a1 r12)) ⟨hx, hb, hml, hown, hts⟩ hK hA (hDa _ _) hP hS [2, 3, 4, 5, 6, 7, 8, 9, 10, 11] [0, 1] [0, 1, 2, 3, 4, 5, 6, 7, 8, 9, 10, 11] (fun sz => kcX4_setLaw l dC dI cy fu (a0 0) a1 u10 x2 (w0.1 2 (1 : Int32).toNatClampNeg) sz r12 hr12) rfl rfl (by decide) (by decide) (by decide) rfl (cwV 2 hts gX2_takeRealm_X4_setLaw rfl rfl rfl ⟨rfl, ydX4_setLaw⟩ ⟨Nat.le_of_ble_eq_true rfl, Nat.le_of_ble_eq_true rfl⟩) 4 0 rfl rfl rfl rfl hl.1 rfl (Nat.le_of_ble_eq_true rfl) dX2_takeRealm_217 ⟨Nat.zero_le _, Nat.zero_le _⟩ (fun H locs hP hS => ?_)
      refine lv_aload_n hx hb dX2_takeRealm_220 rfl (lv_at hl 2 rfl) ?_
      refine va_get (D := (dC, dI)) (ci := 2) (v := .ref (a0 0)) (C := RX2) (T := TX2) (N := 4) hx hb hts i2 hown hK hP 0 rfl rfl 0 (by decide) (hts (.fieldLink RX2 12 "TwoMetals$Reader" "world" "LTwoMetals$World;") (List.mem_of_getElem? (i := 1) rfl)) (fun _ h9 => h9) rfl dX2_takeRealm_221 ?_
      refine va_get (D := (dC, dI)) (ci := 4) (v := .ref (a1 7)) (C := RX4) (T := TX4) (N := 17) hx hb hts i4 hown hK hP 2 rfl rfl 7 (by decide) (hts (.fieldLink RX2 122 "TwoMetals$World" "gold" "[J") (List.mem_of_getElem? (i := 8) rfl)) (fun _ h9 => h9) rfl dX2_takeRealm_224 ?_
      refine lv_iload hx hb dX2_takeRealm_227 (lv_at hl 0 rfl) ?_
      refine lv_aload_n hx hb dX2_takeRealm_229 rfl (lv_at hl 2 rfl) ?_
      refine va_get (D := (dC, dI)) (ci := 2) (v := .ref (a0 2)) (C := RX2) (T := TX2) (N := 4) hx hb hts i2 hown hK hP 0 rfl rfl 2 (by decide) (hts (.fieldLink RX2 25 "TwoMetals$Reader" "number" "[I") (List.mem_of_getElem? (i := 2) rfl)) (fun _ h9 => h9) rfl dX2_takeRealm_230 ?_
      refine lv_iconst (v := (4 : Int32)) hx hb dX2_takeRealm_233 (by decide) ?_
      obtain ⟨hi13, hm⟩ := ck_in hm
      refine va_iald hx hb hK hP 1 0 rfl rfl hi13 dX2_takeRealm_234 ?_
      refine lv_i2l (v := (w0.1 2 (4 : Int32).toNatClampNeg).toInt64) hx hb dX2_takeRealm_235 rfl ?_
      refine va_last hx hb hK hP (hDa _ _) hS 10 1 rfl rfl hi7 dX2_takeRealm_236 (fun H locs hP _ hS => ?_)
      have hP : va_P (dC, dI) vwCl ((o_X2 cy h0 a0 w0) ++ (o_X4 cy (a0 0) a1 (ob_L r12 7 (vp_updL (r12.2 7) x2.toNatClampNeg ((w0.1 2 (4 : Int32).toNatClampNeg).toInt64))))) H := hP
      obtain ⟨u14, hP, hm⟩ := bn_ob (P := fun zz => va_P (dC, dI) vwCl ((o_X2 cy h0 a0 w0) ++ (o_X4 cy (a0 0) a1 zz)) H) hm hP
      refine lv_aload_n hx hb dX2_takeRealm_237 rfl (lv_at hl 2 rfl) ?_
      refine va_get (D := (dC, dI)) (ci := 2) (v := .ref (a0 0)) (C := RX2) (T := TX2) (N := 4) hx hb hts i2 hown hK hP 0 rfl rfl 0 (by decide) (hts (.fieldLink RX2 12 "TwoMetals$Reader" "world" "LTwoMetals$World;") (List.mem_of_getElem? (i := 1) rfl)) (fun _ h9 => h9) rfl dX2_takeRealm_238 ?_
      refine va_get (D := (dC, dI)) (ci := 4) (v := .ref (a1 8)) (C := RX4) (T := TX4) (N := 17) hx hb hts i4 hown hK hP 2 rfl rfl 8 (by decide) (hts (.fieldLink RX2 126 "TwoMetals$World" "silver" "[J") (List.mem_of_getElem? (i := 9) rfl)) (fun _ h9 => h9) rfl dX2_takeRealm_241 ?_
      refine lv_iload hx hb dX2_takeRealm_244 (lv_at hl 0 rfl) ?_
      refine lv_ldc2 (v := (1000 : Int64)) hx hb hown (hts (.constantLong RX2 129 (1000)) (List.mem_of_getElem? (i := 10) rfl)) dX2_takeRealm_246 ?_
      refine lv_aload_n hx hb dX2_takeRealm_249 rfl (lv_at hl 2 rfl) ?_
      refine va_get (D := (dC, dI)) (ci := 2) (v := .ref (a0 2)) (C := RX2) (T := TX2) (N := 4) hx hb hts i2 hown hK hP 0 rfl rfl 2 (by decide) (hts (.fieldLink RX2 25 "TwoMetals$Reader" "number" "[I") (List.mem_of_getElem? (i := 2) rfl)) (fun _ h9 => h9) rfl dX2_takeRealm_250 ?_
      refine lv_iconst (v := (5 : Int32)) hx hb dX2_takeRealm_253 (by decide) ?_
      obtain ⟨hi15, hm⟩ := ck_in hm
      refine va_iald hx hb hK hP 1 0 rfl rfl hi15 dX2_takeRealm_254 ?_
      refine lv_i2l (v := (w0.1 2 (5 : Int32).toNatClampNeg).toInt64) hx hb dX2_takeRealm_255 rfl ?_
      refine lv_lmul hx hb dX2_takeRealm_256 ?_
      refine va_last hx hb hK hP (hDa _ _) hS 11 1 rfl rfl hi7 dX2_takeRealm_257 (fun H locs hP _ hS => ?_)
      have hP : va_P (dC, dI) vwCl ((o_X2 cy h0 a0 w0) ++ (o_X4 cy (a0 0) a1 (ob_L u14 8 (vp_updL (u14.2 8) x2.toNatClampNeg ((1000 : Int64) * ((w0.1 2 (5 : Int32).toNatClampNeg).toInt64)))))) H := hP
      obtain ⟨u16, hP, hm⟩ := bn_ob (P := fun zz => va_P (dC, dI) vwCl ((o_X2 cy h0 a0 w0) ++ (o_X4 cy (a0 0) a1 zz)) H) hm hP
      refine lv_aload_n hx hb dX2_takeRealm_258 rfl (lv_at hl 2 rfl) ?_
      refine va_get (D := (dC, dI)) (ci := 2) (v := .ref (a0 0)) (C := RX2) (T := TX2) (N := 4) hx hb hts i2 hown hK hP 0 rfl rfl 0 (by decide) (hts (.fieldLink RX2 12 "TwoMetals$Reader" "world" "LTwoMetals$World;") (List.mem_of_getElem? (i := 1) rfl)) (fun _ h9 => h9) rfl dX2_takeRealm_259 ?_
      refine va_get (D := (dC, dI)) (ci := 4) (v := .ref (a1 3)) (C := RX4) (T := TX4) (N := 17) hx hb hts i4 hown hK hP 2 rfl rfl 3 (by decide) (hts (.fieldLink RX2 131 "TwoMetals$World" "yearly" "[I") (List.mem_of_getElem? (i := 11) rfl)) (fun _ h9 => h9) rfl dX2_takeRealm_262 ?_
      refine lv_iload hx hb dX2_takeRealm_265 (lv_at hl 0 rfl) ?_
      refine lv_aload_n hx hb dX2_takeRealm_267 rfl (lv_at hl 2 rfl) ?_
      refine va_get (D := (dC, dI)) (ci := 2) (v := .ref (a0 2)) (C := RX2) (T := TX2) (N := 4) hx hb hts i2 hown hK hP 0 rfl rfl 2 (by decide) (hts (.fieldLink RX2 25 "TwoMetals$Reader" "number" "[I") (List.mem_of_getElem? (i := 2) rfl)) (fun _ h9 => h9) rfl dX2_takeRealm_268 ?_
      refine lv_bipush (v := (6 : Int32)) hx hb dX2_takeRealm_271 (by decide) ?_
      obtain ⟨hi17, hm⟩ := ck_in hm
      refine va_iald hx hb hK hP 1 0 rfl rfl hi17 dX2_takeRealm_273 ?_
      refine va_iast hx hb hK hP (hDa _ _) hS 6 0 rfl rfl hi7 dX2_takeRealm_274 (fun H locs hP _ hS => ?_)
      have hP : va_P (dC, dI) vwCl ((o_X2 cy h0 a0 w0) ++ (o_X4 cy (a0 0) a1 (ob_I u16 3 (upd (u16.1 3) x2.toNatClampNeg (w0.1 2 (6 : Int32).toNatClampNeg))))) H := hP
      obtain ⟨u18, hP, hm⟩ := bn_ob (P := fun zz => va_P (dC, dI) vwCl ((o_X2 cy h0 a0 w0) ++ (o_X4 cy (a0 0) a1 zz)) H) hm hP
      refine lv_aload_n hx hb dX2_takeRealm_275 rfl (lv_at hl 2 rfl) ?_
      refine va_get (D := (dC, dI)) (ci := 2) (v := .ref (a0 0)) (C := RX2) (T := TX2) (N := 4) hx hb hts i2 hown hK hP 0 rfl rfl 0 (by decide) (hts (.fieldLink RX2 12 "TwoMetals$Reader" "world" "LTwoMetals$World;") (List.mem_of_getElem? (i := 1) rfl)) (fun _ h9 => h9) rfl dX2_takeRealm_276 ?_
      refine va_get (D := (dC, dI)) (ci := 4) (v := .ref (a1 4)) (C := RX4) (T := TX4) (N := 17) hx hb hts i4 hown hK hP 2 rfl rfl 4 (by decide) (hts (.fieldLink RX2 134 "TwoMetals$World" "stopAt" "[I") (List.mem_of_getElem? (i := 12) rfl)) (fun _ h9 => h9) rfl dX2_takeRealm_279 ?_
      refine lv_iload hx hb dX2_takeRealm_282 (lv_at hl 0 rfl) ?_
      refine lv_iconst (v := (-1 : Int32)) hx hb dX2_takeRealm_284 (by decide) ?_
      refine va_iast hx hb hK hP (hDa _ _) hS 7 0 rfl rfl hi7 dX2_takeRealm_285 (fun H locs hP _ hS => ?_)
      have hP : va_P (dC, dI) vwCl ((o_X2 cy h0 a0 w0) ++ (o_X4 cy (a0 0) a1 (ob_I u18 4 (upd (u18.1 4) x2.toNatClampNeg (-1 : Int32))))) H := hP
      obtain ⟨u19, hP, hm⟩ := bn_ob (P := fun zz => va_P (dC, dI) vwCl ((o_X2 cy h0 a0 w0) ++ (o_X4 cy (a0 0) a1 zz)) H) hm hP
      refine lv_iconst (v := (1 : Int32)) hx hb dX2_takeRealm_286 (by decide) ?_
      obtain rfl := Option.some.inj hm
      exact hret 287 ls _ _ dX2_takeRealm_287 nar_1 hP hS
    replace hm := (if_pos hc).symm.trans hm
    refine lv_iconst (v := (0 : Int32)) hx hb dX2_takeRealm_131 (by decide) ?_
    obtain rfl := Option.some.inj hm
    exact hret 132 ls _ _ dX2_takeRealm_132 nar_0 hP hS
  have hB75 : ∀ (w1 : ob_T) (l1 : Int32) (s0 : Int32) (H : Heap) (locs : List Loc) (ls : Array Slot), bX2_takeRealm_75 fu w0 w1 l1 s0 = some R → va_P (dC, dI) vwCl ((o_X2 cy h0 a0 w0) ++ (o_X4 cy (a0 0) a1 w1)) H → va_S A s.heap H locs → lv_has ls 5 [(0, .ref h0), (1, .int l1)] → W p l e (rmN 2 57) s m ([.ref h0] : List Value).toArray below meth c H locs 0 0 Q (F0 m 75 ls [.int s0]) := by
    intro w1 l1 s0 H locs ls hm hP hS hl
    unfold bX2_takeRealm_75 at hm
    refine lv_istore_n (lv' := [(2, .int s0), (0, .ref h0), (1, .int l1)]) hx hb dX2_takeRealm_75 rfl hl (by decide) rfl (fun ls hl => ?_)
    refine lv_aload_n hx hb dX2_takeRealm_76 rfl (lv_at hl 1 rfl) ?_
    refine lv_iconst (v := (4 : Int32)) hx hb dX2_takeRealm_77 (by decide) ?_
    refine lv_iconst (v := (0 : Int32)) hx hb dX2_takeRealm_78 (by decide) ?_
    refine lv_sipush (v := (9999 : Int32)) hx hb dX2_takeRealm_79 (by decide) ?_
    obtain ⟨r20, hr20, hm⟩ := bn_call hm
    refine ca_vi (wr := (o_X4 cy (a0 0) a1 w1)) (wn := (o_X2 cy h0 a0 w0) ++ (o_X4 cy (a0 0) a1 w1)) ⟨hx, hb, hml, hown, hts⟩ hK hA (hDa _ _) hP hS [0, 1] [2, 3, 4, 5, 6, 7, 8, 9, 10, 11] [10, 11, 0, 1, 2, 3, 4, 5, 6, 7, 8, 9] (fun sz => kcX2_isWithin l dC dI cy fu h0 a0 w0 (4 : Int32) (0 : Int32) (9999 : Int32) sz r20 hr20) rfl rfl (by decide) (by decide) (by decide) rfl (cwV 3 hts gX2_takeRealm_X2_isWithin rfl rfl rfl ⟨rfl, ydX2_isWithin⟩ ⟨Nat.le_of_ble_eq_true rfl, Nat.le_of_ble_eq_true rfl⟩) 2 0 rfl rfl rfl rfl hl.1 rfl (Nat.le_of_ble_eq_true rfl) dX2_takeRealm_82 ⟨Nat.zero_le _, Nat.zero_le _⟩ (fun H locs hP hS => ?_)
    refine lv_if_eq (tgt := 117) hx hb dX2_takeRealm_85 (by decide) (fun hc => ?_) (fun hc => ?_)
    · replace hm := (if_pos hc).symm.trans hm
      refine lv_iconst (v := (0 : Int32)) hx hb dX2_takeRealm_117 (by decide) ?_
      exact hB118 w1 l1 s0 (0 : Int32) _ _ ls hm hP hS (lv_sub hl [1, 2, 0] rfl)
    replace hm := (if_neg hc).symm.trans hm
    refine lv_aload_n hx hb dX2_takeRealm_88 rfl (lv_at hl 1 rfl) ?_
    refine lv_iconst (v := (5 : Int32)) hx hb dX2_takeRealm_89 (by decide) ?_
    refine lv_iconst (v := (0 : Int32)) hx hb dX2_takeRealm_90 (by decide) ?_
    refine lv_sipush (v := (9999 : Int32)) hx hb dX2_takeRealm_91 (by decide) ?_
    obtain ⟨r21, hr21, hm⟩ := bn_call hm
    refine ca_vi (wr := (o_X4 cy (a0 0) a1 w1)) (wn := (o_X2 cy h0 a0 w0) ++ (o_X4 cy (a0 0) a1 w1)) ⟨hx, hb, hml, hown, hts⟩ hK hA (hDa _ _) hP hS [0, 1] [2, 3, 4, 5, 6, 7, 8, 9, 10, 11] [10, 11, 0, 1, 2, 3, 4, 5, 6, 7, 8, 9] (fun sz => kcX2_isWithin l dC dI cy fu h0 a0 w0 (5 : Int32) (0 : Int32) (9999 : Int32) sz r21 hr21) rfl rfl (by decide) (by decide) (by decide) rfl (cwV 3 hts gX2_takeRealm_X2_isWithin rfl rfl rfl ⟨rfl, ydX2_isWithin⟩ ⟨Nat.le_of_ble_eq_true rfl, Nat.le_of_ble_eq_true rfl⟩) 2 0 rfl rfl rfl rfl hl.1 rfl (Nat.le_of_ble_eq_true rfl) dX2_takeRealm_94 ⟨Nat.zero_le _, Nat.zero_le _⟩ (fun H locs hP hS => ?_)
    refine lv_if_eq (tgt := 117) hx hb dX2_takeRealm_97 (by decide) (fun hc => ?_) (fun hc => ?_)
    · replace hm := (if_pos hc).symm.trans hm
      refine lv_iconst (v := (0 : Int32)) hx hb dX2_takeRealm_117 (by decide) ?_
      exact hB118 w1 l1 s0 (0 : Int32) _ _ ls hm hP hS (lv_sub hl [1, 2, 0] rfl)
    replace hm := (if_neg hc).symm.trans hm
    refine lv_aload_n hx hb dX2_takeRealm_100 rfl (lv_at hl 1 rfl) ?_
    refine lv_bipush (v := (6 : Int32)) hx hb dX2_takeRealm_101 (by decide) ?_
    refine lv_iconst (v := (0 : Int32)) hx hb dX2_takeRealm_103 (by decide) ?_
    refine lv_sipush (v := (999 : Int32)) hx hb dX2_takeRealm_104 (by decide) ?_
    obtain ⟨r22, hr22, hm⟩ := bn_call hm
    refine ca_vi (wr := (o_X4 cy (a0 0) a1 w1)) (wn := (o_X2 cy h0 a0 w0) ++ (o_X4 cy (a0 0) a1 w1)) ⟨hx, hb, hml, hown, hts⟩ hK hA (hDa _ _) hP hS [0, 1] [2, 3, 4, 5, 6, 7, 8, 9, 10, 11] [10, 11, 0, 1, 2, 3, 4, 5, 6, 7, 8, 9] (fun sz => kcX2_isWithin l dC dI cy fu h0 a0 w0 (6 : Int32) (0 : Int32) (999 : Int32) sz r22 hr22) rfl rfl (by decide) (by decide) (by decide) rfl (cwV 3 hts gX2_takeRealm_X2_isWithin rfl rfl rfl ⟨rfl, ydX2_isWithin⟩ ⟨Nat.le_of_ble_eq_true rfl, Nat.le_of_ble_eq_true rfl⟩) 2 0 rfl rfl rfl rfl hl.1 rfl (Nat.le_of_ble_eq_true rfl) dX2_takeRealm_107 ⟨Nat.zero_le _, Nat.zero_le _⟩ (fun H locs hP hS => ?_)
    refine lv_if_eq (tgt := 117) hx hb dX2_takeRealm_110 (by decide) (fun hc => ?_) (fun hc => ?_)
    · replace hm := (if_pos hc).symm.trans hm
      refine lv_iconst (v := (0 : Int32)) hx hb dX2_takeRealm_117 (by decide) ?_
      exact hB118 w1 l1 s0 (0 : Int32) _ _ ls hm hP hS (lv_sub hl [1, 2, 0] rfl)
    replace hm := (if_neg hc).symm.trans hm
    refine lv_iconst (v := (1 : Int32)) hx hb dX2_takeRealm_113 (by decide) ?_
    refine lv_goto (tgt := 118) hx hb dX2_takeRealm_114 (by decide) ?_
    exact hB118 w1 l1 s0 (1 : Int32) _ _ ls hm hP hS (lv_sub hl [1, 2, 0] rfl)
  have hB32 : ∀ (w1 : ob_T) (s0 : Int32) (H : Heap) (locs : List Loc) (ls : Array Slot), bX2_takeRealm_32 fu w0 w1 s0 = some R → va_P (dC, dI) vwCl ((o_X2 cy h0 a0 w0) ++ (o_X4 cy (a0 0) a1 w1)) H → va_S A s.heap H locs → lv_has ls 5 [(0, .ref h0)] → W p l e (rmN 2 57) s m ([.ref h0] : List Value).toArray below meth c H locs 0 0 Q (F0 m 32 ls [.int s0]) := by
    intro w1 s0 H locs ls hm hP hS hl
    unfold bX2_takeRealm_32 at hm
    refine lv_istore_n (lv' := [(1, .int s0), (0, .ref h0)]) hx hb dX2_takeRealm_32 rfl hl (by decide) rfl (fun ls hl => ?_)
    refine lv_aload_n hx hb dX2_takeRealm_33 rfl (lv_at hl 1 rfl) ?_
    refine lv_iconst (v := (1 : Int32)) hx hb dX2_takeRealm_34 (by decide) ?_
    refine lv_sipush (v := (1000 : Int32)) hx hb dX2_takeRealm_35 (by decide) ?_
    refine lv_ldc (v := (99999 : Int32)) hx hb hown (hts (.constant RX2 103 (99999)) (List.mem_of_getElem? (i := 3) rfl)) dX2_takeRealm_38 ?_
    obtain ⟨r23, hr23, hm⟩ := bn_call hm
    refine ca_vi (wr := (o_X4 cy (a0 0) a1 w1)) (wn := (o_X2 cy h0 a0 w0) ++ (o_X4 cy (a0 0) a1 w1)) ⟨hx, hb, hml, hown, hts⟩ hK hA (hDa _ _) hP hS [0, 1] [2, 3, 4, 5, 6, 7, 8, 9, 10, 11] [10, 11, 0, 1, 2, 3, 4, 5, 6, 7, 8, 9] (fun sz => kcX2_isWithin l dC dI cy fu h0 a0 w0 (1 : Int32) (1000 : Int32) (99999 : Int32) sz r23 hr23) rfl rfl (by decide) (by decide) (by decide) rfl (cwV 3 hts gX2_takeRealm_X2_isWithin rfl rfl rfl ⟨rfl, ydX2_isWithin⟩ ⟨Nat.le_of_ble_eq_true rfl, Nat.le_of_ble_eq_true rfl⟩) 2 0 rfl rfl rfl rfl hl.1 rfl (Nat.le_of_ble_eq_true rfl) dX2_takeRealm_40 ⟨Nat.zero_le _, Nat.zero_le _⟩ (fun H locs hP hS => ?_)
    refine lv_if_eq (tgt := 74) hx hb dX2_takeRealm_43 (by decide) (fun hc => ?_) (fun hc => ?_)
    · replace hm := (if_pos hc).symm.trans hm
      refine lv_iconst (v := (0 : Int32)) hx hb dX2_takeRealm_74 (by decide) ?_
      exact hB75 w1 s0 (0 : Int32) _ _ ls hm hP hS (lv_sub hl [1, 0] rfl)
    replace hm := (if_neg hc).symm.trans hm
    refine lv_aload_n hx hb dX2_takeRealm_46 rfl (lv_at hl 1 rfl) ?_
    refine lv_iconst (v := (2 : Int32)) hx hb dX2_takeRealm_47 (by decide) ?_
    refine lv_iconst (v := (0 : Int32)) hx hb dX2_takeRealm_48 (by decide) ?_
    refine lv_sipush (v := (999 : Int32)) hx hb dX2_takeRealm_49 (by decide) ?_
    obtain ⟨r24, hr24, hm⟩ := bn_call hm
    refine ca_vi (wr := (o_X4 cy (a0 0) a1 w1)) (wn := (o_X2 cy h0 a0 w0) ++ (o_X4 cy (a0 0) a1 w1)) ⟨hx, hb, hml, hown, hts⟩ hK hA (hDa _ _) hP hS [0, 1] [2, 3, 4, 5, 6, 7, 8, 9, 10, 11] [10, 11, 0, 1, 2, 3, 4, 5, 6, 7, 8, 9] (fun sz => kcX2_isWithin l dC dI cy fu h0 a0 w0 (2 : Int32) (0 : Int32) (999 : Int32) sz r24 hr24) rfl rfl (by decide) (by decide) (by decide) rfl (cwV 3 hts gX2_takeRealm_X2_isWithin rfl rfl rfl ⟨rfl, ydX2_isWithin⟩ ⟨Nat.le_of_ble_eq_true rfl, Nat.le_of_ble_eq_true rfl⟩) 2 0 rfl rfl rfl rfl hl.1 rfl (Nat.le_of_ble_eq_true rfl) dX2_takeRealm_52 ⟨Nat.zero_le _, Nat.zero_le _⟩ (fun H locs hP hS => ?_)
    refine lv_if_eq (tgt := 74) hx hb dX2_takeRealm_55 (by decide) (fun hc => ?_) (fun hc => ?_)
    · replace hm := (if_pos hc).symm.trans hm
      refine lv_iconst (v := (0 : Int32)) hx hb dX2_takeRealm_74 (by decide) ?_
      exact hB75 w1 s0 (0 : Int32) _ _ ls hm hP hS (lv_sub hl [1, 0] rfl)
    replace hm := (if_neg hc).symm.trans hm
    refine lv_aload_n hx hb dX2_takeRealm_58 rfl (lv_at hl 1 rfl) ?_
    refine lv_iconst (v := (3 : Int32)) hx hb dX2_takeRealm_59 (by decide) ?_
    refine lv_iconst (v := (0 : Int32)) hx hb dX2_takeRealm_60 (by decide) ?_
    refine lv_sipush (v := (200 : Int32)) hx hb dX2_takeRealm_61 (by decide) ?_
    obtain ⟨r25, hr25, hm⟩ := bn_call hm
    refine ca_vi (wr := (o_X4 cy (a0 0) a1 w1)) (wn := (o_X2 cy h0 a0 w0) ++ (o_X4 cy (a0 0) a1 w1)) ⟨hx, hb, hml, hown, hts⟩ hK hA (hDa _ _) hP hS [0, 1] [2, 3, 4, 5, 6, 7, 8, 9, 10, 11] [10, 11, 0, 1, 2, 3, 4, 5, 6, 7, 8, 9] (fun sz => kcX2_isWithin l dC dI cy fu h0 a0 w0 (3 : Int32) (0 : Int32) (200 : Int32) sz r25 hr25) rfl rfl (by decide) (by decide) (by decide) rfl (cwV 3 hts gX2_takeRealm_X2_isWithin rfl rfl rfl ⟨rfl, ydX2_isWithin⟩ ⟨Nat.le_of_ble_eq_true rfl, Nat.le_of_ble_eq_true rfl⟩) 2 0 rfl rfl rfl rfl hl.1 rfl (Nat.le_of_ble_eq_true rfl) dX2_takeRealm_64 ⟨Nat.zero_le _, Nat.zero_le _⟩ (fun H locs hP hS => ?_)
    refine lv_if_eq (tgt := 74) hx hb dX2_takeRealm_67 (by decide) (fun hc => ?_) (fun hc => ?_)
    · replace hm := (if_pos hc).symm.trans hm
      refine lv_iconst (v := (0 : Int32)) hx hb dX2_takeRealm_74 (by decide) ?_
      exact hB75 w1 s0 (0 : Int32) _ _ ls hm hP hS (lv_sub hl [1, 0] rfl)
    replace hm := (if_neg hc).symm.trans hm
    refine lv_iconst (v := (1 : Int32)) hx hb dX2_takeRealm_70 (by decide) ?_
    refine lv_goto (tgt := 75) hx hb dX2_takeRealm_71 (by decide) ?_
    exact hB75 w1 s0 (1 : Int32) _ _ ls hm hP hS (lv_sub hl [1, 0] rfl)
  unfold mX2_takeRealm at hm
  refine lv_aload_n hx hb dX2_takeRealm_0 rfl (lv_at hl 0 rfl) ?_
  refine lv_iconst (v := (0 : Int32)) hx hb dX2_takeRealm_1 (by decide) ?_
  refine lv_iconst (v := (0 : Int32)) hx hb dX2_takeRealm_2 (by decide) ?_
  refine lv_bipush (v := (7 : Int32)) hx hb dX2_takeRealm_3 (by decide) ?_
  obtain ⟨r26, hr26, hm⟩ := bn_call hm
  refine ca_vi (wr := (o_X4 cy (a0 0) a1 w1)) (wn := (o_X2 cy h0 a0 w0) ++ (o_X4 cy (a0 0) a1 w1)) ⟨hx, hb, hml, hown, hts⟩ hK hA (hDa _ _) hP hS [0, 1] [2, 3, 4, 5, 6, 7, 8, 9, 10, 11] [10, 11, 0, 1, 2, 3, 4, 5, 6, 7, 8, 9] (fun sz => kcX2_isWithin l dC dI cy fu h0 a0 w0 (0 : Int32) (0 : Int32) (7 : Int32) sz r26 hr26) rfl rfl (by decide) (by decide) (by decide) rfl (cwV 3 hts gX2_takeRealm_X2_isWithin rfl rfl rfl ⟨rfl, ydX2_isWithin⟩ ⟨Nat.le_of_ble_eq_true rfl, Nat.le_of_ble_eq_true rfl⟩) 2 0 rfl rfl rfl rfl hl.1 rfl (Nat.le_of_ble_eq_true rfl) dX2_takeRealm_5 ⟨Nat.zero_le _, Nat.zero_le _⟩ (fun H locs hP hS => ?_)
  refine lv_if_eq (tgt := 31) hx hb dX2_takeRealm_8 (by decide) (fun hc => ?_) (fun hc => ?_)
  · replace hm := (if_pos hc).symm.trans hm
    refine lv_iconst (v := (0 : Int32)) hx hb dX2_takeRealm_31 (by decide) ?_
    exact hB32 w1 (0 : Int32) _ _ ls hm hP hS (lv_sub hl [0] rfl)
  replace hm := (if_neg hc).symm.trans hm
  refine lv_aload_n hx hb dX2_takeRealm_11 rfl (lv_at hl 0 rfl) ?_
  refine va_get (D := (dC, dI)) (ci := 2) (v := .ref (a0 0)) (C := RX2) (T := TX2) (N := 4) hx hb hts i2 hown hK hP 0 rfl rfl 0 (by decide) (hts (.fieldLink RX2 12 "TwoMetals$Reader" "world" "LTwoMetals$World;") (List.mem_of_getElem? (i := 1) rfl)) (fun _ h9 => h9) rfl dX2_takeRealm_12 ?_
  refine lv_aload_n hx hb dX2_takeRealm_15 rfl (lv_at hl 0 rfl) ?_
  refine va_get (D := (dC, dI)) (ci := 2) (v := .ref (a0 2)) (C := RX2) (T := TX2) (N := 4) hx hb hts i2 hown hK hP 0 rfl rfl 2 (by decide) (hts (.fieldLink RX2 25 "TwoMetals$Reader" "number" "[I") (List.mem_of_getElem? (i := 2) rfl)) (fun _ h9 => h9) rfl dX2_takeRealm_16 ?_
  refine lv_iconst (v := (0 : Int32)) hx hb dX2_takeRealm_19 (by decide) ?_
  obtain ⟨hi27, hm⟩ := ck_in hm
  refine va_iald hx hb hK hP 1 0 rfl rfl hi27 dX2_takeRealm_20 ?_
  obtain ⟨r28, hr28, hm⟩ := bn_call hm
  refine ca_vi (wr := (o_X2 cy h0 a0 w0)) (wn := (o_X2 cy h0 a0 w0) ++ (o_X4 cy (a0 0) a1 w1)) ⟨hx, hb, hml, hown, hts⟩ hK hA (hDa _ _) hP hS [2, 3, 4, 5, 6, 7, 8, 9, 10, 11] [0, 1] [0, 1, 2, 3, 4, 5, 6, 7, 8, 9, 10, 11] (fun sz => kcX4_has l dC dI cy fu (a0 0) a1 w1 (w0.1 2 (0 : Int32).toNatClampNeg) sz r28 hr28) rfl rfl (by decide) (by decide) (by decide) rfl (cwV 1 hts gX2_takeRealm_X4_has rfl rfl rfl ⟨rfl, ydX4_has⟩ ⟨Nat.le_of_ble_eq_true rfl, Nat.le_of_ble_eq_true rfl⟩) 4 0 rfl rfl rfl rfl hl.1 rfl (Nat.le_of_ble_eq_true rfl) dX2_takeRealm_21 ⟨Nat.zero_le _, Nat.zero_le _⟩ (fun H locs hP hS => ?_)
  refine lv_if_ne (tgt := 31) hx hb dX2_takeRealm_24 (by decide) (fun hc => ?_) (fun hc => ?_)
  · replace hm := (if_neg hc).symm.trans hm
    refine lv_iconst (v := (0 : Int32)) hx hb dX2_takeRealm_31 (by decide) ?_
    exact hB32 w1 (0 : Int32) _ _ ls hm hP hS (lv_sub hl [0] rfl)
  replace hm := (if_pos hc).symm.trans hm
  refine lv_iconst (v := (1 : Int32)) hx hb dX2_takeRealm_27 (by decide) ?_
  refine lv_goto (tgt := 32) hx hb dX2_takeRealm_28 (by decide) ?_
  exact hB32 w1 (1 : Int32) _ _ ls hm hP hS (lv_sub hl [0] rfl)
set_option maxHeartbeats 4000000 in
set_option maxRecDepth 100000 in
theorem kcX2_takeItem (l : Launch) (dC : Nat → ClassId) (dI : Nat → Nat → Nat) (cy : Nat → ClassId) (fu : Nat) (h0 : Nat) (a0 : Nat → Nat) (w0 : ob_T) (a1 : Nat → Nat) (w1 : ob_T) (a2 : Nat → Nat) (w2 : ob_T) (p1 : Int32) (sz : Nat) (R : Int32 × ob_T × ob_T) (hm : mX2_takeItem fu w0 w1 w2 p1 = some R) : Met l yX2_takeItem wsX2_takeItem (rmN 3 81) (va_Pc [.ref h0, .int p1] (cPre dC dI cy ((o_X2 cy h0 a0 w0) ++ (o_X4 cy (a0 0) a1 w1) ++ (o_X0 cy (a0 1) a2 w2)) sz)) (va_Qi (fun (r : Int32) (_ : Unit) => r = R.1) (fun _ => cPost dC dI cy ((o_X2 cy h0 a0 w0) ++ (o_X4 cy (a0 0) a1 w1) ++ (o_X0 cy (a0 1) a2 w2)) ((o_X2 cy h0 a0 w0) ++ (o_X4 cy (a0 0) a1 R.2.1) ++ (o_X0 cy (a0 1) a2 R.2.2)) sz) (va_A ((o_X2 cy h0 a0 w0) ++ (o_X4 cy (a0 0) a1 w1) ++ (o_X0 cy (a0 1) a2 w2)) sz)) 0 0 (va_A ((o_X2 cy h0 a0 w0) ++ (o_X4 cy (a0 0) a1 w1) ++ (o_X0 cy (a0 1) a2 w2)) sz) := by
  refine mt_z (cc := cX2_takeItem) (maxL := 2) (by decide) rfl (Nat.le_of_ble_eq_true rfl) rfl ?_
  intro p e s m below meth c Q A hx hb hml hown hts hK hA hD hP hret ls hl
  have hown : s.vm.findClass RX2 = some m.cls := hown
  have hl : lv_has ls 2 [(0, .ref h0), (1, .int p1)] := hl
  have hDa : ∀ v0 v1 v2 : ob_T, va_D A ((o_X2 cy h0 a0 v0) ++ (o_X4 cy (a0 0) a1 v1) ++ (o_X0 cy (a0 1) a2 v2)) := fun _ _ _ => va_D_adr hD rfl
  have hS : va_S A s.heap s.heap [] := va_S.rf
  unfold mX2_takeItem at hm
  refine lv_iload_n hx hb dX2_takeItem_0 rfl (lv_at hl 1 rfl) ?_
  by_cases hv1 : p1 = (103 : Int32)
  · replace hm := (if_pos hv1).symm.trans hm
    refine W.eq (g2 := F0 m 1 ls (.int (103 : Int32) :: [])) (by rw [hv1]) ?_
    refine lv_tableIn (tgt := 93) hx hb dX2_takeItem_1 (by decide) (by decide) rfl (by decide) ?_
    refine lv_aload_n hx hb dX2_takeItem_93 rfl (lv_at hl 0 rfl) ?_
    obtain ⟨r2, hr2, hm⟩ := bn_call hm
    refine ca_vi (wr := (o_X4 cy (a0 0) a1 w1)) (wn := (o_X2 cy h0 a0 w0) ++ (o_X4 cy (a0 0) a1 w1) ++ (o_X0 cy (a0 1) a2 r2.2)) ⟨hx, hb, hml, hown, hts⟩ hK hA (hDa _ _ _) hP hS [0, 1, 12, 13, 14, 15] [2, 3, 4, 5, 6, 7, 8, 9, 10, 11] [10, 11, 0, 1, 2, 3, 4, 5, 6, 7, 8, 9, 12, 13, 14, 15] (fun sz => kcX2_takeMines l dC dI cy fu h0 a0 w0 a2 w2 sz r2 hr2) rfl rfl (by decide) (by decide) (by decide) rfl (cwV 0 hts gX2_takeItem_X2_takeMines rfl rfl rfl ⟨rfl, ydX2_takeMines⟩ ⟨Nat.le_of_ble_eq_true rfl, Nat.le_of_ble_eq_true rfl⟩) 2 0 rfl rfl rfl rfl hl.1 rfl (Nat.le_of_ble_eq_true rfl) dX2_takeItem_94 ⟨Nat.zero_le _, Nat.zero_le _⟩ (fun H locs hP hS => ?_)
    obtain ⟨hn3, hm⟩ := ck_zb hm
    obtain rfl := Option.some.inj hm
    exact hret 97 ls _ _ dX2_takeItem_97 hn3 hP hS
  replace hm := (if_neg hv1).symm.trans hm
  by_cases hv4 : p1 = (104 : Int32)
  · replace hm := (if_pos hv4).symm.trans hm
    refine W.eq (g2 := F0 m 1 ls (.int (104 : Int32) :: [])) (by rw [hv4]) ?_
    refine lv_tableIn (tgt := 98) hx hb dX2_takeItem_1 (by decide) (by decide) rfl (by decide) ?_
    refine lv_iconst (v := (0 : Int32)) hx hb dX2_takeItem_98 (by decide) ?_
    obtain rfl := Option.some.inj hm
    exact hret 99 ls _ _ dX2_takeItem_99 nar_0 hP hS
  replace hm := (if_neg hv4).symm.trans hm
  by_cases hv5 : p1 = (105 : Int32)
  · replace hm := (if_pos hv5).symm.trans hm
    refine W.eq (g2 := F0 m 1 ls (.int (105 : Int32) :: [])) (by rw [hv5]) ?_
    refine lv_tableIn (tgt := 98) hx hb dX2_takeItem_1 (by decide) (by decide) rfl (by decide) ?_
    refine lv_iconst (v := (0 : Int32)) hx hb dX2_takeItem_98 (by decide) ?_
    obtain rfl := Option.some.inj hm
    exact hret 99 ls _ _ dX2_takeItem_99 nar_0 hP hS
  replace hm := (if_neg hv5).symm.trans hm
  by_cases hv6 : p1 = (106 : Int32)
  · replace hm := (if_pos hv6).symm.trans hm
    refine W.eq (g2 := F0 m 1 ls (.int (106 : Int32) :: [])) (by rw [hv6]) ?_
    refine lv_tableIn (tgt := 98) hx hb dX2_takeItem_1 (by decide) (by decide) rfl (by decide) ?_
    refine lv_iconst (v := (0 : Int32)) hx hb dX2_takeItem_98 (by decide) ?_
    obtain rfl := Option.some.inj hm
    exact hret 99 ls _ _ dX2_takeItem_99 nar_0 hP hS
  replace hm := (if_neg hv6).symm.trans hm
  by_cases hv7 : p1 = (107 : Int32)
  · replace hm := (if_pos hv7).symm.trans hm
    refine W.eq (g2 := F0 m 1 ls (.int (107 : Int32) :: [])) (by rw [hv7]) ?_
    refine lv_tableIn (tgt := 88) hx hb dX2_takeItem_1 (by decide) (by decide) rfl (by decide) ?_
    refine lv_aload_n hx hb dX2_takeItem_88 rfl (lv_at hl 0 rfl) ?_
    obtain ⟨r8, hr8, hm⟩ := bn_call hm
    refine ca_vi (wr := (o_X0 cy (a0 1) a2 w2)) (wn := (o_X2 cy h0 a0 w0) ++ (o_X4 cy (a0 0) a1 r8.2) ++ (o_X0 cy (a0 1) a2 w2)) ⟨hx, hb, hml, hown, hts⟩ hK hA (hDa _ _ _) hP hS [0, 1, 2, 3, 4, 5, 6, 7, 8, 9, 10, 11] [12, 13, 14, 15] [4, 5, 6, 7, 8, 9, 10, 11, 12, 13, 14, 15, 0, 1, 2, 3] (fun sz => kcX2_takeScarcity l dC dI cy fu h0 a0 w0 a1 w1 sz r8 hr8) rfl rfl (by decide) (by decide) (by decide) rfl (cwV 0 hts gX2_takeItem_X2_takeScarcity rfl rfl rfl ⟨rfl, ydX2_takeScarcity⟩ ⟨Nat.le_of_ble_eq_true rfl, Nat.le_of_ble_eq_true rfl⟩) 2 0 rfl rfl rfl rfl hl.1 rfl (Nat.le_of_ble_eq_true rfl) dX2_takeItem_89 ⟨Nat.zero_le _, Nat.zero_le _⟩ (fun H locs hP hS => ?_)
    obtain ⟨hn9, hm⟩ := ck_zb hm
    obtain rfl := Option.some.inj hm
    exact hret 92 ls _ _ dX2_takeItem_92 hn9 hP hS
  replace hm := (if_neg hv7).symm.trans hm
  by_cases hv10 : p1 = (108 : Int32)
  · replace hm := (if_pos hv10).symm.trans hm
    refine W.eq (g2 := F0 m 1 ls (.int (108 : Int32) :: [])) (by rw [hv10]) ?_
    refine lv_tableIn (tgt := 73) hx hb dX2_takeItem_1 (by decide) (by decide) rfl (by decide) ?_
    refine lv_aload_n hx hb dX2_takeItem_73 rfl (lv_at hl 0 rfl) ?_
    obtain ⟨r11, hr11, hm⟩ := bn_call hm
    refine ca_vi (wr := (o_X0 cy (a0 1) a2 w2)) (wn := (o_X2 cy h0 a0 w0) ++ (o_X4 cy (a0 0) a1 r11.2) ++ (o_X0 cy (a0 1) a2 w2)) ⟨hx, hb, hml, hown, hts⟩ hK hA (hDa _ _ _) hP hS [0, 1, 2, 3, 4, 5, 6, 7, 8, 9, 10, 11] [12, 13, 14, 15] [4, 5, 6, 7, 8, 9, 10, 11, 12, 13, 14, 15, 0, 1, 2, 3] (fun sz => kcX2_takeLimp l dC dI cy fu h0 a0 w0 a1 w1 sz r11 hr11) rfl rfl (by decide) (by decide) (by decide) rfl (cwV 0 hts gX2_takeItem_X2_takeLimp rfl rfl rfl ⟨rfl, ydX2_takeLimp⟩ ⟨Nat.le_of_ble_eq_true rfl, Nat.le_of_ble_eq_true rfl⟩) 2 0 rfl rfl rfl rfl hl.1 rfl (Nat.le_of_ble_eq_true rfl) dX2_takeItem_74 ⟨Nat.zero_le _, Nat.zero_le _⟩ (fun H locs hP hS => ?_)
    obtain ⟨hn12, hm⟩ := ck_zb hm
    obtain rfl := Option.some.inj hm
    exact hret 77 ls _ _ dX2_takeItem_77 hn12 hP hS
  replace hm := (if_neg hv10).symm.trans hm
  by_cases hv13 : p1 = (109 : Int32)
  · replace hm := (if_pos hv13).symm.trans hm
    refine W.eq (g2 := F0 m 1 ls (.int (109 : Int32) :: [])) (by rw [hv13]) ?_
    refine lv_tableIn (tgt := 83) hx hb dX2_takeItem_1 (by decide) (by decide) rfl (by decide) ?_
    refine lv_aload_n hx hb dX2_takeItem_83 rfl (lv_at hl 0 rfl) ?_
    obtain ⟨r14, hr14, hm⟩ := bn_call hm
    refine ca_vi (wr := (o_X0 cy (a0 1) a2 w2)) (wn := (o_X2 cy h0 a0 w0) ++ (o_X4 cy (a0 0) a1 r14.2) ++ (o_X0 cy (a0 1) a2 w2)) ⟨hx, hb, hml, hown, hts⟩ hK hA (hDa _ _ _) hP hS [0, 1, 2, 3, 4, 5, 6, 7, 8, 9, 10, 11] [12, 13, 14, 15] [4, 5, 6, 7, 8, 9, 10, 11, 12, 13, 14, 15, 0, 1, 2, 3] (fun sz => kcX2_takeMarket l dC dI cy fu h0 a0 w0 a1 w1 sz r14 hr14) rfl rfl (by decide) (by decide) (by decide) rfl (cwV 0 hts gX2_takeItem_X2_takeMarket rfl rfl rfl ⟨rfl, ydX2_takeMarket⟩ ⟨Nat.le_of_ble_eq_true rfl, Nat.le_of_ble_eq_true rfl⟩) 2 0 rfl rfl rfl rfl hl.1 rfl (Nat.le_of_ble_eq_true rfl) dX2_takeItem_84 ⟨Nat.zero_le _, Nat.zero_le _⟩ (fun H locs hP hS => ?_)
    obtain ⟨hn15, hm⟩ := ck_zb hm
    obtain rfl := Option.some.inj hm
    exact hret 87 ls _ _ dX2_takeItem_87 hn15 hP hS
  replace hm := (if_neg hv13).symm.trans hm
  by_cases hv16 : p1 = (110 : Int32)
  · replace hm := (if_pos hv16).symm.trans hm
    refine W.eq (g2 := F0 m 1 ls (.int (110 : Int32) :: [])) (by rw [hv16]) ?_
    refine lv_tableIn (tgt := 98) hx hb dX2_takeItem_1 (by decide) (by decide) rfl (by decide) ?_
    refine lv_iconst (v := (0 : Int32)) hx hb dX2_takeItem_98 (by decide) ?_
    obtain rfl := Option.some.inj hm
    exact hret 99 ls _ _ dX2_takeItem_99 nar_0 hP hS
  replace hm := (if_neg hv16).symm.trans hm
  by_cases hv17 : p1 = (111 : Int32)
  · replace hm := (if_pos hv17).symm.trans hm
    refine W.eq (g2 := F0 m 1 ls (.int (111 : Int32) :: [])) (by rw [hv17]) ?_
    refine lv_tableIn (tgt := 98) hx hb dX2_takeItem_1 (by decide) (by decide) rfl (by decide) ?_
    refine lv_iconst (v := (0 : Int32)) hx hb dX2_takeItem_98 (by decide) ?_
    obtain rfl := Option.some.inj hm
    exact hret 99 ls _ _ dX2_takeItem_99 nar_0 hP hS
  replace hm := (if_neg hv17).symm.trans hm
  by_cases hv18 : p1 = (112 : Int32)
  · replace hm := (if_pos hv18).symm.trans hm
    refine W.eq (g2 := F0 m 1 ls (.int (112 : Int32) :: [])) (by rw [hv18]) ?_
    refine lv_tableIn (tgt := 98) hx hb dX2_takeItem_1 (by decide) (by decide) rfl (by decide) ?_
    refine lv_iconst (v := (0 : Int32)) hx hb dX2_takeItem_98 (by decide) ?_
    obtain rfl := Option.some.inj hm
    exact hret 99 ls _ _ dX2_takeItem_99 nar_0 hP hS
  replace hm := (if_neg hv18).symm.trans hm
  by_cases hv19 : p1 = (113 : Int32)
  · replace hm := (if_pos hv19).symm.trans hm
    refine W.eq (g2 := F0 m 1 ls (.int (113 : Int32) :: [])) (by rw [hv19]) ?_
    refine lv_tableIn (tgt := 98) hx hb dX2_takeItem_1 (by decide) (by decide) rfl (by decide) ?_
    refine lv_iconst (v := (0 : Int32)) hx hb dX2_takeItem_98 (by decide) ?_
    obtain rfl := Option.some.inj hm
    exact hret 99 ls _ _ dX2_takeItem_99 nar_0 hP hS
  replace hm := (if_neg hv19).symm.trans hm
  by_cases hv20 : p1 = (114 : Int32)
  · replace hm := (if_pos hv20).symm.trans hm
    refine W.eq (g2 := F0 m 1 ls (.int (114 : Int32) :: [])) (by rw [hv20]) ?_
    refine lv_tableIn (tgt := 68) hx hb dX2_takeItem_1 (by decide) (by decide) rfl (by decide) ?_
    refine lv_aload_n hx hb dX2_takeItem_68 rfl (lv_at hl 0 rfl) ?_
    obtain ⟨r21, hr21, hm⟩ := bn_call hm
    refine ca_vi (wr := (o_X0 cy (a0 1) a2 w2)) (wn := (o_X2 cy h0 a0 w0) ++ (o_X4 cy (a0 0) a1 r21.2) ++ (o_X0 cy (a0 1) a2 w2)) ⟨hx, hb, hml, hown, hts⟩ hK hA (hDa _ _ _) hP hS [0, 1, 2, 3, 4, 5, 6, 7, 8, 9, 10, 11] [12, 13, 14, 15] [4, 5, 6, 7, 8, 9, 10, 11, 12, 13, 14, 15, 0, 1, 2, 3] (fun sz => kcX2_takeRealm l dC dI cy fu h0 a0 w0 a1 w1 sz r21 hr21) rfl rfl (by decide) (by decide) (by decide) rfl (cwV 0 hts gX2_takeItem_X2_takeRealm rfl rfl rfl ⟨rfl, ydX2_takeRealm⟩ ⟨Nat.le_of_ble_eq_true rfl, Nat.le_of_ble_eq_true rfl⟩) 2 0 rfl rfl rfl rfl hl.1 rfl (Nat.le_of_ble_eq_true rfl) dX2_takeItem_69 ⟨Nat.zero_le _, Nat.zero_le _⟩ (fun H locs hP hS => ?_)
    obtain ⟨hn22, hm⟩ := ck_zb hm
    obtain rfl := Option.some.inj hm
    exact hret 72 ls _ _ dX2_takeItem_72 hn22 hP hS
  replace hm := (if_neg hv20).symm.trans hm
  by_cases hv23 : p1 = (115 : Int32)
  · replace hm := (if_pos hv23).symm.trans hm
    refine W.eq (g2 := F0 m 1 ls (.int (115 : Int32) :: [])) (by rw [hv23]) ?_
    refine lv_tableIn (tgt := 78) hx hb dX2_takeItem_1 (by decide) (by decide) rfl (by decide) ?_
    refine lv_aload_n hx hb dX2_takeItem_78 rfl (lv_at hl 0 rfl) ?_
    obtain ⟨r24, hr24, hm⟩ := bn_call hm
    refine ca_vi (wr := (o_X0 cy (a0 1) a2 w2)) (wn := (o_X2 cy h0 a0 w0) ++ (o_X4 cy (a0 0) a1 r24.2) ++ (o_X0 cy (a0 1) a2 w2)) ⟨hx, hb, hml, hown, hts⟩ hK hA (hDa _ _ _) hP hS [0, 1, 2, 3, 4, 5, 6, 7, 8, 9, 10, 11] [12, 13, 14, 15] [4, 5, 6, 7, 8, 9, 10, 11, 12, 13, 14, 15, 0, 1, 2, 3] (fun sz => kcX2_takeStop l dC dI cy fu h0 a0 w0 a1 w1 sz r24 hr24) rfl rfl (by decide) (by decide) (by decide) rfl (cwV 0 hts gX2_takeItem_X2_takeStop rfl rfl rfl ⟨rfl, ydX2_takeStop⟩ ⟨Nat.le_of_ble_eq_true rfl, Nat.le_of_ble_eq_true rfl⟩) 2 0 rfl rfl rfl rfl hl.1 rfl (Nat.le_of_ble_eq_true rfl) dX2_takeItem_79 ⟨Nat.zero_le _, Nat.zero_le _⟩ (fun H locs hP hS => ?_)
    obtain ⟨hn25, hm⟩ := ck_zb hm
    obtain rfl := Option.some.inj hm
    exact hret 82 ls _ _ dX2_takeItem_82 hn25 hP hS
  replace hm := (if_neg hv23).symm.trans hm
  refine lv_tableOut (tgt := 98) hx hb dX2_takeItem_1 (by
      have hv1 := sw_ne hv1 (z := 103) rfl
      have hv4 := sw_ne hv4 (z := 104) rfl
      have hv5 := sw_ne hv5 (z := 105) rfl
      have hv6 := sw_ne hv6 (z := 106) rfl
      have hv7 := sw_ne hv7 (z := 107) rfl
      have hv10 := sw_ne hv10 (z := 108) rfl
      have hv13 := sw_ne hv13 (z := 109) rfl
      have hv16 := sw_ne hv16 (z := 110) rfl
      have hv17 := sw_ne hv17 (z := 111) rfl
      have hv18 := sw_ne hv18 (z := 112) rfl
      have hv19 := sw_ne hv19 (z := 113) rfl
      have hv20 := sw_ne hv20 (z := 114) rfl
      have hv23 := sw_ne hv23 (z := 115) rfl
      omega) (by decide) ?_
  refine lv_iconst (v := (0 : Int32)) hx hb dX2_takeItem_98 (by decide) ?_
  obtain rfl := Option.some.inj hm
  exact hret 99 ls _ _ dX2_takeItem_99 nar_0 hP hS
set_option maxHeartbeats 4000000 in
set_option maxRecDepth 100000 in
theorem kcX2_readItem (l : Launch) (dC : Nat → ClassId) (dI : Nat → Nat → Nat) (cy : Nat → ClassId) (fu : Nat) (h0 : Nat) (a0 : Nat → Nat) (w0 : ob_T) (a1 : Nat → Nat) (w1 : ob_T) (a2 : Nat → Nat) (w2 : ob_T) (h3 : Nat) (a3 : Nat → Nat) (w3 : ob_T) (sz : Nat) (R : Int32 × ob_T × ob_T × ob_T) (hm : mX2_readItem fu w0 w1 w2 w3 = some R) : Met l yX2_readItem wsX2_readItem (rmN 4 102) (va_Pc [.ref h0, .ref h3] (cPre dC dI cy ((o_X2 cy h0 a0 w0) ++ (o_X4 cy (a0 0) a1 w1) ++ (o_X0 cy (a0 1) a2 w2) ++ (o_X3 cy h3 a3 w3)) sz)) (va_Qi (fun (r : Int32) (_ : Unit) => r = R.1) (fun _ => cPost dC dI cy ((o_X2 cy h0 a0 w0) ++ (o_X4 cy (a0 0) a1 w1) ++ (o_X0 cy (a0 1) a2 w2) ++ (o_X3 cy h3 a3 w3)) ((o_X2 cy h0 a0 R.2.1) ++ (o_X4 cy (a0 0) a1 R.2.2.1) ++ (o_X0 cy (a0 1) a2 R.2.2.2) ++ (o_X3 cy h3 a3 w3)) sz) (va_A ((o_X2 cy h0 a0 w0) ++ (o_X4 cy (a0 0) a1 w1) ++ (o_X0 cy (a0 1) a2 w2) ++ (o_X3 cy h3 a3 w3)) sz)) 0 0 (va_A ((o_X2 cy h0 a0 w0) ++ (o_X4 cy (a0 0) a1 w1) ++ (o_X0 cy (a0 1) a2 w2) ++ (o_X3 cy h3 a3 w3)) sz) := by
  refine mt_z (cc := cX2_readItem) (maxL := 4) (by decide) rfl (Nat.le_of_ble_eq_true rfl) rfl ?_
  intro p e s m below meth c Q A hx hb hml hown hts hK hA hD hP hret ls hl
  have hown : s.vm.findClass RX2 = some m.cls := hown
  have hl : lv_has ls 4 [(0, .ref h0), (1, .ref h3)] := hl
  have hDa : ∀ v0 v1 v2 v3 : ob_T, va_D A ((o_X2 cy h0 a0 v0) ++ (o_X4 cy (a0 0) a1 v1) ++ (o_X0 cy (a0 1) a2 v2) ++ (o_X3 cy h3 a3 v3)) := fun _ _ _ _ => va_D_adr hD rfl
  have i2 : ∀ w ∈ wsX20, w ∈ wsX2_readItem := fun _ h => List.mem_cons_of_mem _ (List.mem_append_left _ (List.mem_append_left _ (List.mem_append_right _ h)))
  have i3 : ∀ w ∈ wsX30, w ∈ wsX2_readItem := fun _ h => List.mem_cons_of_mem _ (List.mem_append_left _ (List.mem_append_left _ (List.mem_append_left _ (List.mem_append_right _ h))))
  have hS : va_S A s.heap s.heap [] := va_S.rf
  unfold mX2_readItem at hm
  refine lv_aload_n hx hb dX2_readItem_0 rfl (lv_at hl 1 rfl) ?_
  refine va_get (D := (dC, dI)) (ci := 3) (v := .ref (a3 0)) (C := RX3) (T := TX3) (N := 2) hx hb hts i3 hown hK hP 16 rfl rfl 0 (by decide) (hts (.fieldLink RX2 52 "TwoMetals$Text" "bytes" "[B") (List.mem_of_getElem? (i := 1) rfl)) (fun _ h9 => h9) rfl dX2_readItem_1 ?_
  refine lv_aload_n hx hb dX2_readItem_4 rfl (lv_at hl 0 rfl) ?_
  refine va_get (D := (dC, dI)) (ci := 2) (v := .int (w0.1 3 0)) (C := RX2) (T := TX2) (N := 4) hx hb hts i2 hown hK hP 0 rfl rfl 3 (by decide) (hts (.fieldLink RX2 29 "TwoMetals$Reader" "at" "I") (List.mem_of_getElem? (i := 2) rfl)) (fun _ h9 => h9) rfl dX2_readItem_5 ?_
  obtain ⟨hi1, hm⟩ := ck_in hm
  refine va_bald hx hb hK hP 17 2 rfl rfl hi1 dX2_readItem_8 ?_
  refine lv_topi (fun x2 e3 => ?_)
  replace hm := bn_at e3 hm
  refine lv_istore_n (lv' := [(2, .int x2), (0, .ref h0), (1, .ref h3)]) hx hb dX2_readItem_9 rfl hl (by decide) rfl (fun ls hl => ?_)
  refine lv_aload_n hx hb dX2_readItem_10 rfl (lv_at hl 1 rfl) ?_
  refine lv_dup hx hb dX2_readItem_11 rfl ?_
  refine va_get (D := (dC, dI)) (ci := 2) (v := .int (w0.1 3 0)) (C := RX2) (T := TX2) (N := 4) hx hb hts i2 hown hK hP 0 rfl rfl 3 (by decide) (hts (.fieldLink RX2 29 "TwoMetals$Reader" "at" "I") (List.mem_of_getElem? (i := 2) rfl)) (fun _ h9 => h9) rfl dX2_readItem_12 ?_
  refine lv_iconst (v := (1 : Int32)) hx hb dX2_readItem_15 (by decide) ?_
  refine lv_iadd hx hb dX2_readItem_16 ?_
  refine va_put (D := (dC, dI)) (ci := 2) (v := .int ((w0.1 3 0) + (1 : Int32))) (ty := .int) (C := RX2) (T := TX2) (N := 4) hx hb hts i2 tyX2 tyX2_ok nmX2 hown hK hP (hDa _ _ _ _) hS 0 rfl rfl 3 (by decide) (hts (.fieldLink RX2 29 "TwoMetals$Reader" "at" "I") (List.mem_of_getElem? (i := 2) rfl)) (fun _ h9 => h9) rfl (tyX2_ok 3 (by decide)) rfl rfl (Nat.le_of_ble_eq_true rfl) dX2_readItem_17 (fun H locs hP _ hS => ?_)
  have hP : va_P (dC, dI) vwCl ((o_X2 cy h0 a0 (ob_I w0 3 (fun _ => (w0.1 3 0) + (1 : Int32)))) ++ (o_X4 cy (a0 0) a1 w1) ++ (o_X0 cy (a0 1) a2 w2) ++ (o_X3 cy h3 a3 w3)) H := hP
  obtain ⟨u4, hP, hm⟩ := bn_ob (P := fun zz => va_P (dC, dI) vwCl ((o_X2 cy h0 a0 zz) ++ (o_X4 cy (a0 0) a1 w1) ++ (o_X0 cy (a0 1) a2 w2) ++ (o_X3 cy h3 a3 w3)) H) hm hP
  refine lv_iload_n hx hb dX2_readItem_20 rfl (lv_at hl 0 rfl) ?_
  obtain ⟨r5, hr5, hm⟩ := bn_call hm
  refine ca_si (wr := (o_X2 cy h0 a0 u4) ++ (o_X4 cy (a0 0) a1 w1) ++ (o_X0 cy (a0 1) a2 w2) ++ (o_X3 cy h3 a3 w3)) (wn := (o_X2 cy h0 a0 u4) ++ (o_X4 cy (a0 0) a1 w1) ++ (o_X0 cy (a0 1) a2 w2) ++ (o_X3 cy h3 a3 w3)) ⟨hx, hb, hml, hown, hts⟩ hK hA (hDa _ _ _ _) hP hS [] [0, 1, 2, 3, 4, 5, 6, 7, 8, 9, 10, 11, 12, 13, 14, 15, 16, 17] [0, 1, 2, 3, 4, 5, 6, 7, 8, 9, 10, 11, 12, 13, 14, 15, 16, 17] (fun sz => kcX2_numbersBehind l dC dI cy fu x2 sz r5 hr5) rfl rfl (by decide) (by decide) (by decide) rfl (va_cwS 1 hts gX2_readItem_X2_numbersBehind rfl rfl rfl ydX2_numbersBehind ⟨Nat.le_of_ble_eq_true rfl, Nat.le_of_ble_eq_true rfl⟩) rfl hl.1 rfl (Nat.le_of_ble_eq_true rfl) dX2_readItem_21 ⟨Nat.zero_le _, Nat.zero_le _⟩ (fun H locs hP hS => ?_)
  refine lv_istore_n (lv' := [(3, .int r5), (2, .int x2), (0, .ref h0), (1, .ref h3)]) hx hb dX2_readItem_24 rfl hl (by decide) rfl (fun ls hl => ?_)
  refine lv_iload_n hx hb dX2_readItem_25 rfl (lv_at hl 0 rfl) ?_
  refine lv_if_le (tgt := 50) hx hb dX2_readItem_26 (by decide) (fun hc => ?_) (fun hc => ?_)
  · replace hm := (if_pos hc).symm.trans hm
    refine lv_iconst (v := (0 : Int32)) hx hb dX2_readItem_50 (by decide) ?_
    obtain rfl := Option.some.inj hm
    exact hret 51 ls _ _ dX2_readItem_51 nar_0 hP hS
  replace hm := (if_neg hc).symm.trans hm
  refine lv_aload_n hx hb dX2_readItem_29 rfl (lv_at hl 2 rfl) ?_
  refine lv_aload_n hx hb dX2_readItem_30 rfl (lv_at hl 3 rfl) ?_
  refine lv_iload_n hx hb dX2_readItem_31 rfl (lv_at hl 0 rfl) ?_
  obtain ⟨r6, hr6, hm⟩ := bn_call hm
  refine ca_vi (wr := (o_X4 cy (a0 0) a1 w1) ++ (o_X0 cy (a0 1) a2 w2)) (wn := (o_X2 cy h0 a0 r6.2) ++ (o_X4 cy (a0 0) a1 w1) ++ (o_X0 cy (a0 1) a2 w2) ++ (o_X3 cy h3 a3 w3)) ⟨hx, hb, hml, hown, hts⟩ hK hA (hDa _ _ _ _) hP hS [0, 1, 16, 17] [2, 3, 4, 5, 6, 7, 8, 9, 10, 11, 12, 13, 14, 15] [14, 15, 0, 1, 2, 3, 4, 5, 6, 7, 8, 9, 10, 11, 12, 13, 16, 17] (fun sz => kcX2_readNumbers l dC dI cy fu h0 a0 u4 h3 a3 w3 r5 sz r6 hr6) rfl rfl (by decide) (by decide) (by decide) rfl (cwV 2 hts gX2_readItem_X2_readNumbers rfl rfl rfl ⟨rfl, ydX2_readNumbers⟩ ⟨Nat.le_of_ble_eq_true rfl, Nat.le_of_ble_eq_true rfl⟩) 2 0 rfl rfl rfl rfl hl.1 rfl (Nat.le_of_ble_eq_true rfl) dX2_readItem_32 ⟨Nat.zero_le _, Nat.zero_le _⟩ (fun H locs hP hS => ?_)
  refine lv_if_eq (tgt := 50) hx hb dX2_readItem_35 (by decide) (fun hc => ?_) (fun hc => ?_)
  · replace hm := (if_pos hc).symm.trans hm
    refine lv_iconst (v := (0 : Int32)) hx hb dX2_readItem_50 (by decide) ?_
    obtain rfl := Option.some.inj hm
    exact hret 51 ls _ _ dX2_readItem_51 nar_0 hP hS
  replace hm := (if_neg hc).symm.trans hm
  refine lv_aload_n hx hb dX2_readItem_38 rfl (lv_at hl 2 rfl) ?_
  refine lv_iload_n hx hb dX2_readItem_39 rfl (lv_at hl 1 rfl) ?_
  obtain ⟨r7, hr7, hm⟩ := bn_call hm
  refine ca_vi (wr := (o_X3 cy h3 a3 w3)) (wn := (o_X2 cy h0 a0 r6.2) ++ (o_X4 cy (a0 0) a1 r7.2.1) ++ (o_X0 cy (a0 1) a2 r7.2.2) ++ (o_X3 cy h3 a3 w3)) ⟨hx, hb, hml, hown, hts⟩ hK hA (hDa _ _ _ _) hP hS [0, 1, 2, 3, 4, 5, 6, 7, 8, 9, 10, 11, 12, 13, 14, 15] [16, 17] [2, 3, 4, 5, 6, 7, 8, 9, 10, 11, 12, 13, 14, 15, 16, 17, 0, 1] (fun sz => kcX2_takeItem l dC dI cy fu h0 a0 r6.2 a1 w1 a2 w2 x2 sz r7 hr7) rfl rfl (by decide) (by decide) (by decide) rfl (cwV 1 hts gX2_readItem_X2_takeItem rfl rfl rfl ⟨rfl, ydX2_takeItem⟩ ⟨Nat.le_of_ble_eq_true rfl, Nat.le_of_ble_eq_true rfl⟩) 2 0 rfl rfl rfl rfl hl.1 rfl (Nat.le_of_ble_eq_true rfl) dX2_readItem_40 ⟨Nat.zero_le _, Nat.zero_le _⟩ (fun H locs hP hS => ?_)
  refine lv_if_eq (tgt := 50) hx hb dX2_readItem_43 (by decide) (fun hc => ?_) (fun hc => ?_)
  · replace hm := (if_pos hc).symm.trans hm
    refine lv_iconst (v := (0 : Int32)) hx hb dX2_readItem_50 (by decide) ?_
    obtain rfl := Option.some.inj hm
    exact hret 51 ls _ _ dX2_readItem_51 nar_0 hP hS
  replace hm := (if_neg hc).symm.trans hm
  refine lv_iconst (v := (1 : Int32)) hx hb dX2_readItem_46 (by decide) ?_
  refine lv_goto (tgt := 51) hx hb dX2_readItem_47 (by decide) ?_
  obtain rfl := Option.some.inj hm
  exact hret 51 ls _ _ dX2_readItem_51 nar_1 hP hS
set_option maxHeartbeats 4000000 in
set_option maxRecDepth 100000 in
theorem kcX2_firstFault (l : Launch) (dC : Nat → ClassId) (dI : Nat → Nat → Nat) (cy : Nat → ClassId) (fu : Nat) (h0 : Nat) (a0 : Nat → Nat) (w0 : ob_T) (a1 : Nat → Nat) (w1 : ob_T) (a2 : Nat → Nat) (w2 : ob_T) (h3 : Nat) (a3 : Nat → Nat) (w3 : ob_T) (sz : Nat) (R : Int32 × ob_T × ob_T × ob_T) (hm : mX2_firstFault fu w0 w1 w2 w3 = some R) : Met l yX2_firstFault wsX2_firstFault (rmN 5 125) (va_Pc [.ref h0, .ref h3] (cPre dC dI cy ((o_X2 cy h0 a0 w0) ++ (o_X4 cy (a0 0) a1 w1) ++ (o_X0 cy (a0 1) a2 w2) ++ (o_X3 cy h3 a3 w3)) sz)) (va_Qi (fun (r : Int32) (_ : Unit) => r = R.1) (fun _ => cPost dC dI cy ((o_X2 cy h0 a0 w0) ++ (o_X4 cy (a0 0) a1 w1) ++ (o_X0 cy (a0 1) a2 w2) ++ (o_X3 cy h3 a3 w3)) ((o_X2 cy h0 a0 R.2.1) ++ (o_X4 cy (a0 0) a1 R.2.2.1) ++ (o_X0 cy (a0 1) a2 R.2.2.2) ++ (o_X3 cy h3 a3 w3)) sz) (va_A ((o_X2 cy h0 a0 w0) ++ (o_X4 cy (a0 0) a1 w1) ++ (o_X0 cy (a0 1) a2 w2) ++ (o_X3 cy h3 a3 w3)) sz)) 0 0 (va_A ((o_X2 cy h0 a0 w0) ++ (o_X4 cy (a0 0) a1 w1) ++ (o_X0 cy (a0 1) a2 w2) ++ (o_X3 cy h3 a3 w3)) sz) := by
  refine mt_i (cc := cX2_firstFault) (maxL := 4) (by decide) rfl (Nat.le_of_ble_eq_true rfl) rfl ?_
  intro p e s m below meth c Q A hx hb hml hown hts hK hA hD hP hret ls hl
  have hown : s.vm.findClass RX2 = some m.cls := hown
  have hl : lv_has ls 4 [(0, .ref h0), (1, .ref h3)] := hl
  have hDa : ∀ v0 v1 v2 v3 : ob_T, va_D A ((o_X2 cy h0 a0 v0) ++ (o_X4 cy (a0 0) a1 v1) ++ (o_X0 cy (a0 1) a2 v2) ++ (o_X3 cy h3 a3 v3)) := fun _ _ _ _ => va_D_adr hD rfl
  have i2 : ∀ w ∈ wsX20, w ∈ wsX2_firstFault := fun _ h => List.mem_cons_of_mem _ (List.mem_append_left _ (List.mem_append_left _ (List.mem_append_left _ (List.mem_append_right _ h))))
  have i3 : ∀ w ∈ wsX30, w ∈ wsX2_firstFault := fun _ h => List.mem_cons_of_mem _ (List.mem_append_left _ (List.mem_append_left _ (List.mem_append_right _ h)))
  have hS : va_S A s.heap s.heap [] := va_S.rf
  have hB60 : ∀ (w0 : ob_T) (w1 : ob_T) (w2 : ob_T) (H : Heap) (locs : List Loc) (ls : Array Slot), bX2_firstFault_60 fu w3 w0 w1 w2 = some R → va_P (dC, dI) vwCl ((o_X2 cy h0 a0 w0) ++ (o_X4 cy (a0 0) a1 w1) ++ (o_X0 cy (a0 1) a2 w2) ++ (o_X3 cy h3 a3 w3)) H → va_S A s.heap H locs → lv_has ls 4 [(0, .ref h0)] → W p l e (rmN 5 125) s m ([.ref h0, .ref h3] : List Value).toArray below meth c H locs 0 0 Q (F0 m 60 ls []) := by
    intro w0 w1 w2 H locs ls hm hP hS hl
    unfold bX2_firstFault_60 at hm
    refine lv_aload_n hx hb dX2_firstFault_60 rfl (lv_at hl 0 rfl) ?_
    refine va_get (D := (dC, dI)) (ci := 2) (v := .ref (a0 1)) (C := RX2) (T := TX2) (N := 4) hx hb hts i2 hown hK hP 0 rfl rfl 1 (by decide) (hts (.fieldLink RX2 21 "TwoMetals$Reader" "mines" "LTwoMetals$Mines;") (List.mem_of_getElem? (i := 2) rfl)) (fun _ h9 => h9) rfl dX2_firstFault_61 ?_
    obtain ⟨r1, hr1, hm⟩ := bn_call hm
    refine ca_vv (wr := (o_X2 cy h0 a0 w0) ++ (o_X4 cy (a0 0) a1 w1) ++ (o_X3 cy h3 a3 w3)) (wn := (o_X2 cy h0 a0 w0) ++ (o_X4 cy (a0 0) a1 w1) ++ (o_X0 cy (a0 1) a2 r1) ++ (o_X3 cy h3 a3 w3)) ⟨hx, hb, hml, hown, hts⟩ hK hA (hDa _ _ _ _) hP hS [12, 13, 14, 15] [0, 1, 2, 3, 4, 5, 6, 7, 8, 9, 10, 11, 16, 17] [0, 1, 2, 3, 4, 5, 6, 7, 8, 9, 10, 11, 14, 15, 16, 17, 12, 13] (fun sz => kcX0_fillGaps l dC dI cy fu (a0 1) a2 w2 sz r1 hr1) rfl rfl (by decide) (by decide) (by decide) rfl (cwV 0 hts gX2_firstFault_X0_fillGaps rfl rfl rfl ⟨rfl, ydX0_fillGaps⟩ ⟨Nat.le_of_ble_eq_true rfl, Nat.le_of_ble_eq_true rfl⟩) 0 0 rfl rfl rfl rfl hl.1 rfl (Nat.le_of_ble_eq_true rfl) dX2_firstFault_64 ⟨Nat.zero_le _, Nat.zero_le _⟩ (fun H locs hP hS => ?_)
    refine lv_aload_n hx hb dX2_firstFault_67 rfl (lv_at hl 0 rfl) ?_
    refine va_get (D := (dC, dI)) (ci := 2) (v := .ref (a0 0)) (C := RX2) (T := TX2) (N := 4) hx hb hts i2 hown hK hP 0 rfl rfl 0 (by decide) (hts (.fieldLink RX2 12 "TwoMetals$Reader" "world" "LTwoMetals$World;") (List.mem_of_getElem? (i := 1) rfl)) (fun _ h9 => h9) rfl dX2_firstFault_68 ?_
    obtain ⟨r2, hr2, hm⟩ := bn_call hm
    refine ca_vv (wr := (o_X2 cy h0 a0 w0) ++ (o_X0 cy (a0 1) a2 r1) ++ (o_X3 cy h3 a3 w3)) (wn := (o_X2 cy h0 a0 w0) ++ (o_X4 cy (a0 0) a1 r2) ++ (o_X0 cy (a0 1) a2 r1) ++ (o_X3 cy h3 a3 w3)) ⟨hx, hb, hml, hown, hts⟩ hK hA (hDa _ _ _ _) hP hS [2, 3, 4, 5, 6, 7, 8, 9, 10, 11] [0, 1, 12, 13, 14, 15, 16, 17] [0, 1, 8, 9, 10, 11, 12, 13, 14, 15, 16, 17, 2, 3, 4, 5, 6, 7] (fun sz => kcX4_weigh l dC dI cy fu (a0 0) a1 w1 sz r2 hr2) rfl rfl (by decide) (by decide) (by decide) rfl (cwV 0 hts gX2_firstFault_X4_weigh rfl rfl rfl ⟨rfl, ydX4_weigh⟩ ⟨Nat.le_of_ble_eq_true rfl, Nat.le_of_ble_eq_true rfl⟩) 4 0 rfl rfl rfl rfl hl.1 rfl (Nat.le_of_ble_eq_true rfl) dX2_firstFault_71 ⟨Nat.zero_le _, Nat.zero_le _⟩ (fun H locs hP hS => ?_)
    refine lv_bipush (v := (-4 : Int32)) hx hb dX2_firstFault_74 (by decide) ?_
    obtain rfl := Option.some.inj hm
    exact hret 76 ls _ _ dX2_firstFault_76 hP hS
  have hB21 : ∀ (nn : Nat) (w0 : ob_T) (w1 : ob_T) (w2 : ob_T) (l2 : Int32) (H : Heap) (locs : List Loc) (ls : Array Slot), bX2_firstFault_21 fu w3 nn w0 w1 w2 l2 = some R → va_P (dC, dI) vwCl ((o_X2 cy h0 a0 w0) ++ (o_X4 cy (a0 0) a1 w1) ++ (o_X0 cy (a0 1) a2 w2) ++ (o_X3 cy h3 a3 w3)) H → va_S A s.heap H locs → lv_has ls 4 [(0, .ref h0), (1, .ref h3), (2, .int l2)] → W p l e (rmN 5 125) s m ([.ref h0, .ref h3] : List Value).toArray below meth c H locs 0 0 Q (F0 m 21 ls []) := by
    intro nn
    induction nn with
    | zero => intro w0 w1 w2 l2 H locs ls hm; exact no_some ((bX2_firstFault_21_0 fu w3 w0 w1 w2 l2).symm.trans hm)
    | succ nn ih =>
      intro w0 w1 w2 l2 H locs ls hm hP hS hl
      replace hm := (bX2_firstFault_21_s fu w3 nn w0 w1 w2 l2).symm.trans hm
      refine lv_iload_n hx hb dX2_firstFault_21 rfl (lv_at hl 2 rfl) ?_
      refine lv_sipush (v := (400 : Int32)) hx hb dX2_firstFault_22 (by decide) ?_
      refine lv_icmp_ge (tgt := 60) hx hb dX2_firstFault_25 (by decide) (fun hc => ?_) (fun hc => ?_)
      · replace hm := (if_pos hc).symm.trans hm
        exact hB60 w0 w1 w2 _ _ ls hm hP hS (lv_sub hl [0] rfl)
      replace hm := (if_neg hc).symm.trans hm
      refine lv_aload_n hx hb dX2_firstFault_28 rfl (lv_at hl 0 rfl) ?_
      refine va_get (D := (dC, dI)) (ci := 2) (v := .int (w0.1 3 0)) (C := RX2) (T := TX2) (N := 4) hx hb hts i2 hown hK hP 0 rfl rfl 3 (by decide) (hts (.fieldLink RX2 29 "TwoMetals$Reader" "at" "I") (List.mem_of_getElem? (i := 3) rfl)) (fun _ h9 => h9) rfl dX2_firstFault_29 ?_
      refine lv_aload_n hx hb dX2_firstFault_32 rfl (lv_at hl 1 rfl) ?_
      refine va_get (D := (dC, dI)) (ci := 3) (v := .int (w3.1 1 0)) (C := RX3) (T := TX3) (N := 2) hx hb hts i3 hown hK hP 16 rfl rfl 1 (by decide) (hts (.fieldLink RX2 39 "TwoMetals$Text" "length" "I") (List.mem_of_getElem? (i := 4) rfl)) (fun _ h9 => h9) rfl dX2_firstFault_33 ?_
      refine lv_icmp_ge (tgt := 60) hx hb dX2_firstFault_36 (by decide) (fun hc => ?_) (fun hc => ?_)
      · replace hm := (if_pos hc).symm.trans hm
        exact hB60 w0 w1 w2 _ _ ls hm hP hS (lv_sub hl [0] rfl)
      replace hm := (if_neg hc).symm.trans hm
      refine lv_aload_n hx hb dX2_firstFault_39 rfl (lv_at hl 0 rfl) ?_
      refine va_get (D := (dC, dI)) (ci := 2) (v := .int (w0.1 3 0)) (C := RX2) (T := TX2) (N := 4) hx hb hts i2 hown hK hP 0 rfl rfl 3 (by decide) (hts (.fieldLink RX2 29 "TwoMetals$Reader" "at" "I") (List.mem_of_getElem? (i := 3) rfl)) (fun _ h9 => h9) rfl dX2_firstFault_40 ?_
      refine lv_topi (fun x3 e4 => ?_)
      replace hm := bn_at e4 hm
      refine lv_istore_n (lv' := [(3, .int x3), (0, .ref h0), (1, .ref h3), (2, .int l2)]) hx hb dX2_firstFault_43 rfl hl (by decide) rfl (fun ls hl => ?_)
      refine lv_aload_n hx hb dX2_firstFault_44 rfl (lv_at hl 1 rfl) ?_
      refine lv_aload_n hx hb dX2_firstFault_45 rfl (lv_at hl 2 rfl) ?_
      obtain ⟨r5, hr5, hm⟩ := bn_call hm
      refine ca_vi (wr := []) (wn := (o_X2 cy h0 a0 r5.2.1) ++ (o_X4 cy (a0 0) a1 r5.2.2.1) ++ (o_X0 cy (a0 1) a2 r5.2.2.2) ++ (o_X3 cy h3 a3 w3)) ⟨hx, hb, hml, hown, hts⟩ hK hA (hDa _ _ _ _) hP hS [0, 1, 2, 3, 4, 5, 6, 7, 8, 9, 10, 11, 12, 13, 14, 15, 16, 17] [] [0, 1, 2, 3, 4, 5, 6, 7, 8, 9, 10, 11, 12, 13, 14, 15, 16, 17] (fun sz => kcX2_readItem l dC dI cy fu h0 a0 w0 a1 w1 a2 w2 h3 a3 w3 sz r5 hr5) rfl rfl (by decide) (by decide) (by decide) rfl (cwV 1 hts gX2_firstFault_X2_readItem rfl rfl rfl ⟨rfl, ydX2_readItem⟩ ⟨Nat.le_of_ble_eq_true rfl, Nat.le_of_ble_eq_true rfl⟩) 2 0 rfl rfl rfl rfl hl.1 rfl (Nat.le_of_ble_eq_true rfl) dX2_firstFault_46 ⟨Nat.zero_le _, Nat.zero_le _⟩ (fun H locs hP hS => ?_)
      refine lv_if_ne (tgt := 54) hx hb dX2_firstFault_49 (by decide) (fun hc => ?_) (fun hc => ?_)
      · replace hm := (if_neg hc).symm.trans hm
        obtain ⟨x6, e7⟩ : ∃ y : Int32, y = l2 + (1 : Int32) := ⟨_, rfl⟩
        replace hm := bn_at e7 hm
        refine lv_iinc (v := x6) (lv' := [(2, .int x6), (3, .int x3), (0, .ref h0), (1, .ref h3)]) hx hb dX2_firstFault_54 hl (k := 3) rfl (by rw [e7]; rfl) (by decide) rfl (fun ls hl => ?_)
        refine lv_goto (tgt := 21) hx hb dX2_firstFault_57 (by decide) ?_
        exact ih r5.2.1 r5.2.2.1 r5.2.2.2 x6 _ _ ls hm hP hS (lv_sub hl [2, 3, 0] rfl)
      replace hm := (if_pos hc).symm.trans hm
      refine lv_iload_n hx hb dX2_firstFault_52 rfl (lv_at hl 0 rfl) ?_
      obtain rfl := Option.some.inj hm
      exact hret 53 ls _ _ dX2_firstFault_53 hP hS
  unfold mX2_firstFault at hm
  refine lv_aload_n hx hb dX2_firstFault_0 rfl (lv_at hl 0 rfl) ?_
  refine va_get (D := (dC, dI)) (ci := 2) (v := .ref (a0 0)) (C := RX2) (T := TX2) (N := 4) hx hb hts i2 hown hK hP 0 rfl rfl 0 (by decide) (hts (.fieldLink RX2 12 "TwoMetals$Reader" "world" "LTwoMetals$World;") (List.mem_of_getElem? (i := 1) rfl)) (fun _ h9 => h9) rfl dX2_firstFault_1 ?_
  obtain ⟨r8, hr8, hm⟩ := bn_call hm
  refine ca_vv (wr := (o_X2 cy h0 a0 w0) ++ (o_X0 cy (a0 1) a2 w2) ++ (o_X3 cy h3 a3 w3)) (wn := (o_X2 cy h0 a0 w0) ++ (o_X4 cy (a0 0) a1 r8) ++ (o_X0 cy (a0 1) a2 w2) ++ (o_X3 cy h3 a3 w3)) ⟨hx, hb, hml, hown, hts⟩ hK hA (hDa _ _ _ _) hP hS [2, 3, 4, 5, 6, 7, 8, 9, 10, 11] [0, 1, 12, 13, 14, 15, 16, 17] [0, 1, 8, 9, 10, 11, 12, 13, 14, 15, 16, 17, 2, 3, 4, 5, 6, 7] (fun sz => kcX4_clear l dC dI cy fu (a0 0) a1 w1 sz r8 hr8) rfl rfl (by decide) (by decide) (by decide) rfl (cwV 0 hts gX2_firstFault_X4_clear rfl rfl rfl ⟨rfl, ydX4_clear⟩ ⟨Nat.le_of_ble_eq_true rfl, Nat.le_of_ble_eq_true rfl⟩) 4 0 rfl rfl rfl rfl hl.1 rfl (Nat.le_of_ble_eq_true rfl) dX2_firstFault_4 ⟨Nat.zero_le _, Nat.zero_le _⟩ (fun H locs hP hS => ?_)
  refine lv_aload_n hx hb dX2_firstFault_7 rfl (lv_at hl 0 rfl) ?_
  refine va_get (D := (dC, dI)) (ci := 2) (v := .ref (a0 1)) (C := RX2) (T := TX2) (N := 4) hx hb hts i2 hown hK hP 0 rfl rfl 1 (by decide) (hts (.fieldLink RX2 21 "TwoMetals$Reader" "mines" "LTwoMetals$Mines;") (List.mem_of_getElem? (i := 2) rfl)) (fun _ h9 => h9) rfl dX2_firstFault_8 ?_
  obtain ⟨r9, hr9, hm⟩ := bn_call hm
  refine ca_vv (wr := (o_X2 cy h0 a0 w0) ++ (o_X4 cy (a0 0) a1 r8) ++ (o_X3 cy h3 a3 w3)) (wn := (o_X2 cy h0 a0 w0) ++ (o_X4 cy (a0 0) a1 r8) ++ (o_X0 cy (a0 1) a2 r9) ++ (o_X3 cy h3 a3 w3)) ⟨hx, hb, hml, hown, hts⟩ hK hA (hDa _ _ _ _) hP hS [12, 13, 14, 15] [0, 1, 2, 3, 4, 5, 6, 7, 8, 9, 10, 11, 16, 17] [0, 1, 2, 3, 4, 5, 6, 7, 8, 9, 10, 11, 14, 15, 16, 17, 12, 13] (fun sz => kcX0_clear l dC dI cy fu (a0 1) a2 w2 sz r9 hr9) rfl rfl (by decide) (by decide) (by decide) rfl (cwV 0 hts gX2_firstFault_X0_clear rfl rfl rfl ⟨rfl, ydX0_clear⟩ ⟨Nat.le_of_ble_eq_true rfl, Nat.le_of_ble_eq_true rfl⟩) 0 0 rfl rfl rfl rfl hl.1 rfl (Nat.le_of_ble_eq_true rfl) dX2_firstFault_11 ⟨Nat.zero_le _, Nat.zero_le _⟩ (fun H locs hP hS => ?_)
  refine lv_aload_n hx hb dX2_firstFault_14 rfl (lv_at hl 0 rfl) ?_
  refine lv_iconst (v := (0 : Int32)) hx hb dX2_firstFault_15 (by decide) ?_
  refine va_put (D := (dC, dI)) (ci := 2) (v := .int (0 : Int32)) (ty := .int) (C := RX2) (T := TX2) (N := 4) hx hb hts i2 tyX2 tyX2_ok nmX2 hown hK hP (hDa _ _ _ _) hS 0 rfl rfl 3 (by decide) (hts (.fieldLink RX2 29 "TwoMetals$Reader" "at" "I") (List.mem_of_getElem? (i := 3) rfl)) (fun _ h9 => h9) rfl (tyX2_ok 3 (by decide)) rfl rfl (Nat.le_of_ble_eq_true rfl) dX2_firstFault_16 (fun H locs hP _ hS => ?_)
  have hP : va_P (dC, dI) vwCl ((o_X2 cy h0 a0 (ob_I w0 3 (fun _ => (0 : Int32)))) ++ (o_X4 cy (a0 0) a1 r8) ++ (o_X0 cy (a0 1) a2 r9) ++ (o_X3 cy h3 a3 w3)) H := hP
  obtain ⟨u10, hP, hm⟩ := bn_ob (P := fun zz => va_P (dC, dI) vwCl ((o_X2 cy h0 a0 zz) ++ (o_X4 cy (a0 0) a1 r8) ++ (o_X0 cy (a0 1) a2 r9) ++ (o_X3 cy h3 a3 w3)) H) hm hP
  refine lv_iconst (v := (0 : Int32)) hx hb dX2_firstFault_19 (by decide) ?_
  refine lv_istore_n (lv' := [(2, .int (0 : Int32)), (0, .ref h0), (1, .ref h3)]) hx hb dX2_firstFault_20 rfl hl (by decide) rfl (fun ls hl => ?_)
  exact hB21 fu u10 r8 r9 (0 : Int32) _ _ ls hm hP hS (lv_sub hl [1, 2, 0] rfl)
