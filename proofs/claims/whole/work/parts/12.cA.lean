set_option maxHeartbeats 4000000 in
set_option maxRecDepth 100000 in
theorem kcJ6_bitCount_0f7a4 (l : Launch) (dC : Nat → ClassId) (dI : Nat → Nat → Nat) (cy : Nat → ClassId) (fu : Nat) (p1 : Int32) (sz : Nat) (R : Int32) (hm : mJ6_bitCount_0f7a4 fu p1 = some R) : Met l yJ6_bitCount_0f7a4 wsJ6_bitCount_0f7a4 (rmN 0 0) (va_Pc [.int p1] (cPre dC dI cy (([] : va_W)) sz)) (va_Qi (fun (r : Int32) (_ : Unit) => r = R) (fun _ => cPost dC dI cy (([] : va_W)) (([] : va_W)) sz) (va_A (([] : va_W)) sz)) 0 0 (va_A (([] : va_W)) sz) := by
  refine mt_i (cc := cJ6_bitCount_0f7a4) (maxL := 1) (by decide) rfl (Nat.le_of_ble_eq_true rfl) rfl ?_
  intro p e s m below meth c Q A hx hb hml hown hts hK hA hD hP hret ls hl
  have hown : s.vm.findClass RJ6 = some m.cls := hown
  have hl : lv_has ls 1 [(0, .int p1)] := hl
  have hS : va_S A s.heap s.heap [] := va_S.rf
  unfold mJ6_bitCount_0f7a4 at hm
  refine lv_iload_n hx hb dJ6_bitCount_0f7a4_0 rfl (lv_at hl 0 rfl) ?_
  refine lv_iload_n hx hb dJ6_bitCount_0f7a4_1 rfl (lv_at hl 0 rfl) ?_
  refine lv_iconst (v := (1 : Int32)) hx hb dJ6_bitCount_0f7a4_2 (by decide) ?_
  refine lv_iushr (v := (p1.toUInt32 >>> ((1 : Int32).toUInt32 &&& Int32.toUInt32 31)).toInt32) hx hb dJ6_bitCount_0f7a4_3 rfl ?_
  refine lv_ldcw (v := (1431655765 : Int32)) hx hb hown (hts (.constant RJ6 265 (1431655765)) (List.mem_of_getElem? (i := 1) rfl)) dJ6_bitCount_0f7a4_4 ?_
  refine lv_iand hx hb dJ6_bitCount_0f7a4_7 ?_
  refine lv_isub hx hb dJ6_bitCount_0f7a4_8 ?_
  refine lv_topi (fun x1 e2 => ?_)
  replace hm := bn_at e2 hm
  refine lv_istore_n (lv' := [(0, .int x1)]) hx hb dJ6_bitCount_0f7a4_9 rfl hl (by decide) rfl (fun ls hl => ?_)
  refine lv_iload_n hx hb dJ6_bitCount_0f7a4_10 rfl (lv_at hl 0 rfl) ?_
  refine lv_ldcw (v := (858993459 : Int32)) hx hb hown (hts (.constant RJ6 266 (858993459)) (List.mem_of_getElem? (i := 2) rfl)) dJ6_bitCount_0f7a4_11 ?_
  refine lv_iand hx hb dJ6_bitCount_0f7a4_14 ?_
  refine lv_iload_n hx hb dJ6_bitCount_0f7a4_15 rfl (lv_at hl 0 rfl) ?_
  refine lv_iconst (v := (2 : Int32)) hx hb dJ6_bitCount_0f7a4_16 (by decide) ?_
  refine lv_iushr (v := (x1.toUInt32 >>> ((2 : Int32).toUInt32 &&& Int32.toUInt32 31)).toInt32) hx hb dJ6_bitCount_0f7a4_17 rfl ?_
  refine lv_ldcw (v := (858993459 : Int32)) hx hb hown (hts (.constant RJ6 266 (858993459)) (List.mem_of_getElem? (i := 2) rfl)) dJ6_bitCount_0f7a4_18 ?_
  refine lv_iand hx hb dJ6_bitCount_0f7a4_21 ?_
  refine lv_iadd hx hb dJ6_bitCount_0f7a4_22 ?_
  refine lv_topi (fun x3 e4 => ?_)
  replace hm := bn_at e4 hm
  refine lv_istore_n (lv' := [(0, .int x3)]) hx hb dJ6_bitCount_0f7a4_23 rfl hl (by decide) rfl (fun ls hl => ?_)
  refine lv_iload_n hx hb dJ6_bitCount_0f7a4_24 rfl (lv_at hl 0 rfl) ?_
  refine lv_iload_n hx hb dJ6_bitCount_0f7a4_25 rfl (lv_at hl 0 rfl) ?_
  refine lv_iconst (v := (4 : Int32)) hx hb dJ6_bitCount_0f7a4_26 (by decide) ?_
  refine lv_iushr (v := (x3.toUInt32 >>> ((4 : Int32).toUInt32 &&& Int32.toUInt32 31)).toInt32) hx hb dJ6_bitCount_0f7a4_27 rfl ?_
  refine lv_iadd hx hb dJ6_bitCount_0f7a4_28 ?_
  refine lv_ldcw (v := (252645135 : Int32)) hx hb hown (hts (.constant RJ6 267 (252645135)) (List.mem_of_getElem? (i := 3) rfl)) dJ6_bitCount_0f7a4_29 ?_
  refine lv_iand hx hb dJ6_bitCount_0f7a4_32 ?_
  refine lv_topi (fun x5 e6 => ?_)
  replace hm := bn_at e6 hm
  refine lv_istore_n (lv' := [(0, .int x5)]) hx hb dJ6_bitCount_0f7a4_33 rfl hl (by decide) rfl (fun ls hl => ?_)
  refine lv_iload_n hx hb dJ6_bitCount_0f7a4_34 rfl (lv_at hl 0 rfl) ?_
  refine lv_iload_n hx hb dJ6_bitCount_0f7a4_35 rfl (lv_at hl 0 rfl) ?_
  refine lv_bipush (v := (8 : Int32)) hx hb dJ6_bitCount_0f7a4_36 (by decide) ?_
  refine lv_iushr (v := (x5.toUInt32 >>> ((8 : Int32).toUInt32 &&& Int32.toUInt32 31)).toInt32) hx hb dJ6_bitCount_0f7a4_38 rfl ?_
  refine lv_iadd hx hb dJ6_bitCount_0f7a4_39 ?_
  refine lv_topi (fun x7 e8 => ?_)
  replace hm := bn_at e8 hm
  refine lv_istore_n (lv' := [(0, .int x7)]) hx hb dJ6_bitCount_0f7a4_40 rfl hl (by decide) rfl (fun ls hl => ?_)
  refine lv_iload_n hx hb dJ6_bitCount_0f7a4_41 rfl (lv_at hl 0 rfl) ?_
  refine lv_iload_n hx hb dJ6_bitCount_0f7a4_42 rfl (lv_at hl 0 rfl) ?_
  refine lv_bipush (v := (16 : Int32)) hx hb dJ6_bitCount_0f7a4_43 (by decide) ?_
  refine lv_iushr (v := (x7.toUInt32 >>> ((16 : Int32).toUInt32 &&& Int32.toUInt32 31)).toInt32) hx hb dJ6_bitCount_0f7a4_45 rfl ?_
  refine lv_iadd hx hb dJ6_bitCount_0f7a4_46 ?_
  refine lv_topi (fun x9 e10 => ?_)
  replace hm := bn_at e10 hm
  refine lv_istore_n (lv' := [(0, .int x9)]) hx hb dJ6_bitCount_0f7a4_47 rfl hl (by decide) rfl (fun ls hl => ?_)
  refine lv_iload_n hx hb dJ6_bitCount_0f7a4_48 rfl (lv_at hl 0 rfl) ?_
  refine lv_bipush (v := (63 : Int32)) hx hb dJ6_bitCount_0f7a4_49 (by decide) ?_
  refine lv_iand hx hb dJ6_bitCount_0f7a4_51 ?_
  obtain rfl := Option.some.inj hm
  exact hret 52 ls _ _ dJ6_bitCount_0f7a4_52 hP hS
set_option maxHeartbeats 4000000 in
set_option maxRecDepth 100000 in
theorem kcJ7_fill_53178 (l : Launch) (dC : Nat → ClassId) (dI : Nat → Nat → Nat) (cy : Nat → ClassId) (fu : Nat) (n : Nat) (h0 : Nat) (w0 : ob_T) (p1 : Int32) (sz : Nat) (R : ob_T) (hm : mJ7_fill_53178 fu n w0 p1 = some R) : Met l yJ7_fill_53178 wsJ7_fill_53178 (rmN 0 0) (va_Pc [.ref h0, .int p1] (cPre dC dI cy ((o_X7 cy n h0 w0)) sz)) (va_Qv (fun (_ : Unit) => True) (fun _ => cPost dC dI cy ((o_X7 cy n h0 w0)) ((o_X7 cy n h0 R)) sz) (va_A ((o_X7 cy n h0 w0)) sz)) 0 0 (va_A ((o_X7 cy n h0 w0)) sz) := by
  refine mt_v (cc := cJ7_fill_53178) (maxL := 4) (by decide) rfl (Nat.le_of_ble_eq_true rfl) rfl ?_
  intro p e s m below meth c Q A hx hb hml hown hts hK hA hD hP hret ls hl
  have hown : s.vm.findClass RJ7 = some m.cls := hown
  have hl : lv_has ls 4 [(0, .ref h0), (1, .int p1)] := hl
  have hDa : ∀ v0 : ob_T, va_D A ((o_X7 cy n h0 v0)) := fun _ => va_D_adr hD rfl
  have hS : va_S A s.heap s.heap [] := va_S.rf
  have hB5 : ∀ (nn : Nat) (w0 : ob_T) (l1 : Int32) (l2 : Int32) (l3 : Int32) (H : Heap) (locs : List Loc) (ls : Array Slot), bJ7_fill_53178_5 fu n nn w0 l1 l2 l3 = some R → va_P (dC, dI) vwCl ((o_X7 cy n h0 w0)) H → va_S A s.heap H locs → lv_has ls 4 [(0, .ref h0), (1, .int l1), (2, .int l2), (3, .int l3)] → W p l e (rmN 0 0) s m ([.ref h0, .int p1] : List Value).toArray below meth c H locs 0 0 Q (F0 m 5 ls []) := by
    intro nn
    induction nn with
    | zero => intro w0 l1 l2 l3 H locs ls hm; exact no_some ((bJ7_fill_53178_5_0 fu n w0 l1 l2 l3).symm.trans hm)
    | succ nn ih =>
      intro w0 l1 l2 l3 H locs ls hm hP hS hl
      replace hm := (bJ7_fill_53178_5_s fu n nn w0 l1 l2 l3).symm.trans hm
      refine lv_iload_n hx hb dJ7_fill_53178_5 rfl (lv_at hl 2 rfl) ?_
      refine lv_iload_n hx hb dJ7_fill_53178_6 rfl (lv_at hl 3 rfl) ?_
      refine lv_icmp_ge (tgt := 20) hx hb dJ7_fill_53178_7 (by decide) (fun hc => ?_) (fun hc => ?_)
      · replace hm := (if_pos hc).symm.trans hm
        obtain rfl := Option.some.inj hm
        exact hret 20 ls _ _ dJ7_fill_53178_20 hP hS
      replace hm := (if_neg hc).symm.trans hm
      refine lv_aload_n hx hb dJ7_fill_53178_10 rfl (lv_at hl 0 rfl) ?_
      refine lv_iload_n hx hb dJ7_fill_53178_11 rfl (lv_at hl 2 rfl) ?_
      refine lv_iload_n hx hb dJ7_fill_53178_12 rfl (lv_at hl 1 rfl) ?_
      obtain ⟨hi1, hm⟩ := ck_in hm
      refine va_iast hx hb hK hP (hDa _) hS 0 0 rfl rfl hi1 dJ7_fill_53178_13 (fun H locs hP _ hS => ?_)
      have hP : va_P (dC, dI) vwCl ((o_X7 cy n h0 (ob_I w0 0 (upd (w0.1 0) l2.toNatClampNeg l1)))) H := hP
      obtain ⟨u2, hP, hm⟩ := bn_ob (P := fun zz => va_P (dC, dI) vwCl ((o_X7 cy n h0 zz)) H) hm hP
      obtain ⟨x3, e4⟩ : ∃ y : Int32, y = l2 + (1 : Int32) := ⟨_, rfl⟩
      replace hm := bn_at e4 hm
      refine lv_iinc (v := x3) (lv' := [(2, .int x3), (0, .ref h0), (1, .int l1), (3, .int l3)]) hx hb dJ7_fill_53178_14 hl (k := 2) rfl (by rw [e4]; rfl) (by decide) rfl (fun ls hl => ?_)
      refine lv_goto (tgt := 5) hx hb dJ7_fill_53178_17 (by decide) ?_
      exact ih u2 l1 x3 l3 _ _ ls hm hP hS (lv_sub hl [1, 2, 0, 3] rfl)
  unfold mJ7_fill_53178 at hm
  refine lv_iconst (v := (0 : Int32)) hx hb dJ7_fill_53178_0 (by decide) ?_
  refine lv_istore_n (lv' := [(2, .int (0 : Int32)), (0, .ref h0), (1, .int p1)]) hx hb dJ7_fill_53178_1 rfl hl (by decide) rfl (fun ls hl => ?_)
  refine lv_aload_n hx hb dJ7_fill_53178_2 rfl (lv_at hl 1 rfl) ?_
  refine va_alen hx hb hK hP 0 0 rfl rfl rfl dJ7_fill_53178_3 ?_
  refine lv_topi (fun x5 e6 => ?_)
  replace hm := bn_at e6 hm
  refine lv_istore_n (lv' := [(3, .int x5), (2, .int (0 : Int32)), (0, .ref h0), (1, .int p1)]) hx hb dJ7_fill_53178_4 rfl hl (by decide) rfl (fun ls hl => ?_)
  exact hB5 fu w0 p1 (0 : Int32) x5 _ _ ls hm hP hS (lv_sub hl [2, 3, 1, 0] rfl)
set_option maxHeartbeats 4000000 in
set_option maxRecDepth 100000 in
theorem kcX4_weigh (l : Launch) (dC : Nat → ClassId) (dI : Nat → Nat → Nat) (cy : Nat → ClassId) (fu : Nat) (h0 : Nat) (a0 : Nat → Nat) (w0 : ob_T) (sz : Nat) (R : ob_T) (hm : mX4_weigh fu w0 = some R) : Met l yX4_weigh wsX4_weigh (rmN 1 30) (va_Pc [.ref h0] (cPre dC dI cy ((o_X4 cy h0 a0 w0)) sz)) (va_Qv (fun (_ : Unit) => True) (fun _ => cPost dC dI cy ((o_X4 cy h0 a0 w0)) ((o_X4 cy h0 a0 R)) sz) (va_A ((o_X4 cy h0 a0 w0)) sz)) 0 0 (va_A ((o_X4 cy h0 a0 w0)) sz) := by
  refine mt_v (cc := cX4_weigh) (maxL := 1) (by decide) rfl (Nat.le_of_ble_eq_true rfl) rfl ?_
  intro p e s m below meth c Q A hx hb hml hown hts hK hA hD hP hret ls hl
  have hown : s.vm.findClass RX4 = some m.cls := hown
  have hl : lv_has ls 1 [(0, .ref h0)] := hl
  have hDa : ∀ v0 : ob_T, va_D A ((o_X4 cy h0 a0 v0)) := fun _ => va_D_adr hD rfl
  have i4 : ∀ w ∈ wsX40, w ∈ wsX4_weigh := fun _ h => List.mem_cons_of_mem _ (List.mem_append_right _ h)
  have hS : va_S A s.heap s.heap [] := va_S.rf
  unfold mX4_weigh at hm
  refine lv_aload_n hx hb dX4_weigh_0 rfl (lv_at hl 0 rfl) ?_
  refine va_get (D := (dC, dI)) (ci := 4) (v := .long (w0.2 12 0)) (C := RX4) (T := TX4) (N := 17) hx hb hts i4 hown hK hP 0 rfl rfl 12 (by decide) (hts (.fieldLink RX4 50 "TwoMetals$World" "marketGold" "J") (List.mem_of_getElem? (i := 1) rfl)) (fun _ h9 => h9) rfl dX4_weigh_1 ?_
  refine lv_lconst (v := (0 : Int64)) hx hb dX4_weigh_4 (by decide) ?_
  refine W.lcmp hx hb dX4_weigh_5 ?_
  refine lv_if_gt (tgt := 16) hx hb dX4_weigh_6 (by decide) (fun hc => ?_) (fun hc => ?_)
  · replace hm := (if_pos hc).symm.trans hm
    refine lv_aload_n hx hb dX4_weigh_16 rfl (lv_at hl 0 rfl) ?_
    refine lv_aload_n hx hb dX4_weigh_17 rfl (lv_at hl 0 rfl) ?_
    refine va_get (D := (dC, dI)) (ci := 4) (v := .int (w0.1 14 0)) (C := RX4) (T := TX4) (N := 17) hx hb hts i4 hown hK hP 0 rfl rfl 14 (by decide) (hts (.fieldLink RX4 57 "TwoMetals$World" "scarcity" "I") (List.mem_of_getElem? (i := 4) rfl)) (fun _ h9 => h9) rfl dX4_weigh_18 ?_
    refine lv_i2l (v := (w0.1 14 0).toInt64) hx hb dX4_weigh_21 rfl ?_
    refine lv_aload_n hx hb dX4_weigh_22 rfl (lv_at hl 0 rfl) ?_
    refine va_get (D := (dC, dI)) (ci := 4) (v := .long (w0.2 13 0)) (C := RX4) (T := TX4) (N := 17) hx hb hts i4 hown hK hP 0 rfl rfl 13 (by decide) (hts (.fieldLink RX4 54 "TwoMetals$World" "marketSilver" "J") (List.mem_of_getElem? (i := 5) rfl)) (fun _ h9 => h9) rfl dX4_weigh_23 ?_
    refine lv_lmul hx hb dX4_weigh_26 ?_
    refine lv_ldc2 (v := (1000 : Int64)) hx hb hown (hts (.constantLong RX4 73 (1000)) (List.mem_of_getElem? (i := 6) rfl)) dX4_weigh_27 ?_
    refine lv_aload_n hx hb dX4_weigh_30 rfl (lv_at hl 0 rfl) ?_
    refine va_get (D := (dC, dI)) (ci := 4) (v := .long (w0.2 12 0)) (C := RX4) (T := TX4) (N := 17) hx hb hts i4 hown hK hP 0 rfl rfl 12 (by decide) (hts (.fieldLink RX4 50 "TwoMetals$World" "marketGold" "J") (List.mem_of_getElem? (i := 1) rfl)) (fun _ h9 => h9) rfl dX4_weigh_31 ?_
    refine lv_lmul hx hb dX4_weigh_34 ?_
    obtain ⟨hz1, hm⟩ := ck_dv hm
    refine lv_ldiv hx hb dX4_weigh_35 hz1 ?_
    refine lv_ldc2 (v := (1000000 : Int64)) hx hb hown (hts (.constantLong RX4 81 (1000000)) (List.mem_of_getElem? (i := 7) rfl)) dX4_weigh_36 ?_
    refine va_mmin_long hx hb (hml.trans hl.1.symm) hown (hts (.methodLink RX4 83 Lib.MathLoose.min_long.x) (List.mem_of_getElem? (i := 8) rfl)) (hts (.static Lib.MathLoose.min_long.x) (List.mem_of_getElem? (i := 9) rfl)) (hts (.initialized "java/lang/Math") (List.mem_of_getElem? (i := 10) rfl)) (hts (.code Lib.MathLoose.min_long.x Lib.MathLoose.min_long.code 4 (some .long)) (List.mem_of_getElem? (i := 11) rfl)) (Nat.le_of_ble_eq_true rfl) (Nat.le_of_ble_eq_true rfl) (Nat.zero_le _) (Nat.zero_le _) dX4_weigh_39 ?_
    refine lv_l2i (v := (if (1000000 : Int64) < ((((w0.1 14 0).toInt64) * (w0.2 13 0)) / ((1000 : Int64) * (w0.2 12 0))) then (1000000 : Int64) else ((((w0.1 14 0).toInt64) * (w0.2 13 0)) / ((1000 : Int64) * (w0.2 12 0)))).toInt32) hx hb dX4_weigh_42 rfl ?_
    refine va_put (D := (dC, dI)) (ci := 4) (v := .int ((if (1000000 : Int64) < ((((w0.1 14 0).toInt64) * (w0.2 13 0)) / ((1000 : Int64) * (w0.2 12 0))) then (1000000 : Int64) else ((((w0.1 14 0).toInt64) * (w0.2 13 0)) / ((1000 : Int64) * (w0.2 12 0)))).toInt32)) (ty := .int) (C := RX4) (T := TX4) (N := 17) hx hb hts i4 tyX4 tyX4_ok nmX4 hown hK hP (hDa _) hS 0 rfl rfl 15 (by decide) (hts (.fieldLink RX4 61 "TwoMetals$World" "price" "I") (List.mem_of_getElem? (i := 3) rfl)) (fun _ h9 => h9) rfl (tyX4_ok 15 (by decide)) rfl rfl (Nat.le_of_ble_eq_true rfl) dX4_weigh_43 (fun H locs hP _ hS => ?_)
    have hP : va_P (dC, dI) vwCl ((o_X4 cy h0 a0 (ob_I w0 15 (fun _ => (if (1000000 : Int64) < ((((w0.1 14 0).toInt64) * (w0.2 13 0)) / ((1000 : Int64) * (w0.2 12 0))) then (1000000 : Int64) else ((((w0.1 14 0).toInt64) * (w0.2 13 0)) / ((1000 : Int64) * (w0.2 12 0)))).toInt32)))) H := hP
    obtain ⟨u2, hP, hm⟩ := bn_ob (P := fun zz => va_P (dC, dI) vwCl ((o_X4 cy h0 a0 zz)) H) hm hP
    obtain rfl := Option.some.inj hm
    exact hret 46 ls _ _ dX4_weigh_46 hP hS
  replace hm := (if_neg hc).symm.trans hm
  refine lv_aload_n hx hb dX4_weigh_9 rfl (lv_at hl 0 rfl) ?_
  refine lv_ldc (v := (1000000 : Int32)) hx hb hown (hts (.constant RX4 60 (1000000)) (List.mem_of_getElem? (i := 2) rfl)) dX4_weigh_10 ?_
  refine va_put (D := (dC, dI)) (ci := 4) (v := .int (1000000 : Int32)) (ty := .int) (C := RX4) (T := TX4) (N := 17) hx hb hts i4 tyX4 tyX4_ok nmX4 hown hK hP (hDa _) hS 0 rfl rfl 15 (by decide) (hts (.fieldLink RX4 61 "TwoMetals$World" "price" "I") (List.mem_of_getElem? (i := 3) rfl)) (fun _ h9 => h9) rfl (tyX4_ok 15 (by decide)) rfl rfl (Nat.le_of_ble_eq_true rfl) dX4_weigh_12 (fun H locs hP _ hS => ?_)
  have hP : va_P (dC, dI) vwCl ((o_X4 cy h0 a0 (ob_I w0 15 (fun _ => (1000000 : Int32))))) H := hP
  obtain ⟨u3, hP, hm⟩ := bn_ob (P := fun zz => va_P (dC, dI) vwCl ((o_X4 cy h0 a0 zz)) H) hm hP
  obtain rfl := Option.some.inj hm
  exact hret 15 ls _ _ dX4_weigh_15 hP hS
set_option maxHeartbeats 4000000 in
set_option maxRecDepth 100000 in
theorem kcX4_mints (l : Launch) (dC : Nat → ClassId) (dI : Nat → Nat → Nat) (cy : Nat → ClassId) (fu : Nat) (h0 : Nat) (a0 : Nat → Nat) (w0 : ob_T) (p1 : Int32) (sz : Nat) (R : Int32) (hm : mX4_mints fu w0 p1 = some R) : Met l yX4_mints wsX4_mints (rmN 0 0) (va_Pc [.ref h0, .int p1] (cPre dC dI cy ((o_X4 cy h0 a0 w0)) sz)) (va_Qi (fun (r : Int32) (_ : Unit) => r = R) (fun _ => cPost dC dI cy ((o_X4 cy h0 a0 w0)) ((o_X4 cy h0 a0 w0)) sz) (va_A ((o_X4 cy h0 a0 w0)) sz)) 0 0 (va_A ((o_X4 cy h0 a0 w0)) sz) := by
  refine mt_z (cc := cX4_mints) (maxL := 2) (by decide) rfl (Nat.le_of_ble_eq_true rfl) rfl ?_
  intro p e s m below meth c Q A hx hb hml hown hts hK hA hD hP hret ls hl
  have hown : s.vm.findClass RX4 = some m.cls := hown
  have hl : lv_has ls 2 [(0, .ref h0), (1, .int p1)] := hl
  have hDa : ∀ v0 : ob_T, va_D A ((o_X4 cy h0 a0 v0)) := fun _ => va_D_adr hD rfl
  have i4 : ∀ w ∈ wsX40, w ∈ wsX4_mints := fun _ h => List.mem_cons_of_mem _ (List.mem_append_right _ h)
  have hS : va_S A s.heap s.heap [] := va_S.rf
  unfold mX4_mints at hm
  refine lv_aload_n hx hb dX4_mints_0 rfl (lv_at hl 0 rfl) ?_
  refine va_get (D := (dC, dI)) (ci := 4) (v := .int (w0.1 10 0)) (C := RX4) (T := TX4) (N := 17) hx hb hts i4 hown hK hP 0 rfl rfl 10 (by decide) (hts (.fieldLink RX4 44 "TwoMetals$World" "minting" "I") (List.mem_of_getElem? (i := 1) rfl)) (fun _ h9 => h9) rfl dX4_mints_1 ?_
  refine lv_iload_n hx hb dX4_mints_4 rfl (lv_at hl 1 rfl) ?_
  refine lv_ishr hx hb dX4_mints_5 ?_
  refine lv_iconst (v := (1 : Int32)) hx hb dX4_mints_6 (by decide) ?_
  refine lv_iand hx hb dX4_mints_7 ?_
  refine lv_iconst (v := (1 : Int32)) hx hb dX4_mints_8 (by decide) ?_
  refine lv_icmp_ne (tgt := 16) hx hb dX4_mints_9 (by decide) (fun hc => ?_) (fun hc => ?_)
  · replace hm := (if_neg hc).symm.trans hm
    refine lv_iconst (v := (0 : Int32)) hx hb dX4_mints_16 (by decide) ?_
    obtain rfl := Option.some.inj hm
    exact hret 17 ls _ _ dX4_mints_17 nar_0 hP hS
  replace hm := (if_pos hc).symm.trans hm
  refine lv_iconst (v := (1 : Int32)) hx hb dX4_mints_12 (by decide) ?_
  refine lv_goto (tgt := 17) hx hb dX4_mints_13 (by decide) ?_
  obtain rfl := Option.some.inj hm
  exact hret 17 ls _ _ dX4_mints_17 nar_1 hP hS
set_option maxHeartbeats 4000000 in
set_option maxRecDepth 100000 in
theorem kcX4_limps (l : Launch) (dC : Nat → ClassId) (dI : Nat → Nat → Nat) (cy : Nat → ClassId) (fu : Nat) (h0 : Nat) (a0 : Nat → Nat) (w0 : ob_T) (p1 : Int32) (sz : Nat) (R : Int32) (hm : mX4_limps fu w0 p1 = some R) : Met l yX4_limps wsX4_limps (rmN 0 0) (va_Pc [.ref h0, .int p1] (cPre dC dI cy ((o_X4 cy h0 a0 w0)) sz)) (va_Qi (fun (r : Int32) (_ : Unit) => r = R) (fun _ => cPost dC dI cy ((o_X4 cy h0 a0 w0)) ((o_X4 cy h0 a0 w0)) sz) (va_A ((o_X4 cy h0 a0 w0)) sz)) 0 0 (va_A ((o_X4 cy h0 a0 w0)) sz) := by
  refine mt_z (cc := cX4_limps) (maxL := 2) (by decide) rfl (Nat.le_of_ble_eq_true rfl) rfl ?_
  intro p e s m below meth c Q A hx hb hml hown hts hK hA hD hP hret ls hl
  have hown : s.vm.findClass RX4 = some m.cls := hown
  have hl : lv_has ls 2 [(0, .ref h0), (1, .int p1)] := hl
  have hDa : ∀ v0 : ob_T, va_D A ((o_X4 cy h0 a0 v0)) := fun _ => va_D_adr hD rfl
  have i4 : ∀ w ∈ wsX40, w ∈ wsX4_limps := fun _ h => List.mem_cons_of_mem _ (List.mem_append_right _ h)
  have hS : va_S A s.heap s.heap [] := va_S.rf
  unfold mX4_limps at hm
  refine lv_aload_n hx hb dX4_limps_0 rfl (lv_at hl 0 rfl) ?_
  refine va_get (D := (dC, dI)) (ci := 4) (v := .int (w0.1 11 0)) (C := RX4) (T := TX4) (N := 17) hx hb hts i4 hown hK hP 0 rfl rfl 11 (by decide) (hts (.fieldLink RX4 47 "TwoMetals$World" "limping" "I") (List.mem_of_getElem? (i := 1) rfl)) (fun _ h9 => h9) rfl dX4_limps_1 ?_
  refine lv_iload_n hx hb dX4_limps_4 rfl (lv_at hl 1 rfl) ?_
  refine lv_ishr hx hb dX4_limps_5 ?_
  refine lv_iconst (v := (1 : Int32)) hx hb dX4_limps_6 (by decide) ?_
  refine lv_iand hx hb dX4_limps_7 ?_
  refine lv_iconst (v := (1 : Int32)) hx hb dX4_limps_8 (by decide) ?_
  refine lv_icmp_ne (tgt := 16) hx hb dX4_limps_9 (by decide) (fun hc => ?_) (fun hc => ?_)
  · replace hm := (if_neg hc).symm.trans hm
    refine lv_iconst (v := (0 : Int32)) hx hb dX4_limps_16 (by decide) ?_
    obtain rfl := Option.some.inj hm
    exact hret 17 ls _ _ dX4_limps_17 nar_0 hP hS
  replace hm := (if_pos hc).symm.trans hm
  refine lv_iconst (v := (1 : Int32)) hx hb dX4_limps_12 (by decide) ?_
  refine lv_goto (tgt := 17) hx hb dX4_limps_13 (by decide) ?_
  obtain rfl := Option.some.inj hm
  exact hret 17 ls _ _ dX4_limps_17 nar_1 hP hS
set_option maxHeartbeats 4000000 in
set_option maxRecDepth 100000 in
theorem kcX4_hasGold (l : Launch) (dC : Nat → ClassId) (dI : Nat → Nat → Nat) (cy : Nat → ClassId) (fu : Nat) (h0 : Nat) (a0 : Nat → Nat) (w0 : ob_T) (p1 : Int32) (sz : Nat) (R : Int32) (hm : mX4_hasGold fu w0 p1 = some R) : Met l yX4_hasGold wsX4_hasGold (rmN 0 0) (va_Pc [.ref h0, .int p1] (cPre dC dI cy ((o_X4 cy h0 a0 w0)) sz)) (va_Qi (fun (r : Int32) (_ : Unit) => r = R) (fun _ => cPost dC dI cy ((o_X4 cy h0 a0 w0)) ((o_X4 cy h0 a0 w0)) sz) (va_A ((o_X4 cy h0 a0 w0)) sz)) 0 0 (va_A ((o_X4 cy h0 a0 w0)) sz) := by
  refine mt_z (cc := cX4_hasGold) (maxL := 2) (by decide) rfl (Nat.le_of_ble_eq_true rfl) rfl ?_
  intro p e s m below meth c Q A hx hb hml hown hts hK hA hD hP hret ls hl
  have hown : s.vm.findClass RX4 = some m.cls := hown
  have hl : lv_has ls 2 [(0, .ref h0), (1, .int p1)] := hl
  have hDa : ∀ v0 : ob_T, va_D A ((o_X4 cy h0 a0 v0)) := fun _ => va_D_adr hD rfl
  have i4 : ∀ w ∈ wsX40, w ∈ wsX4_hasGold := fun _ h => List.mem_cons_of_mem _ (List.mem_append_right _ h)
  have hS : va_S A s.heap s.heap [] := va_S.rf
  unfold mX4_hasGold at hm
  refine lv_aload_n hx hb dX4_hasGold_0 rfl (lv_at hl 0 rfl) ?_
  refine va_get (D := (dC, dI)) (ci := 4) (v := .ref (a0 7)) (C := RX4) (T := TX4) (N := 17) hx hb hts i4 hown hK hP 0 rfl rfl 7 (by decide) (hts (.fieldLink RX4 33 "TwoMetals$World" "gold" "[J") (List.mem_of_getElem? (i := 1) rfl)) (fun _ h9 => h9) rfl dX4_hasGold_1 ?_
  refine lv_iload_n hx hb dX4_hasGold_4 rfl (lv_at hl 1 rfl) ?_
  obtain ⟨hi1, hm⟩ := ck_in hm
  refine va_lald hx hb hK hP 8 1 rfl rfl hi1 dX4_hasGold_5 ?_
  refine lv_lconst (v := (0 : Int64)) hx hb dX4_hasGold_6 (by decide) ?_
  refine W.lcmp hx hb dX4_hasGold_7 ?_
  refine lv_if_le (tgt := 15) hx hb dX4_hasGold_8 (by decide) (fun hc => ?_) (fun hc => ?_)
  · replace hm := (if_pos hc).symm.trans hm
    refine lv_iconst (v := (0 : Int32)) hx hb dX4_hasGold_15 (by decide) ?_
    obtain rfl := Option.some.inj hm
    exact hret 16 ls _ _ dX4_hasGold_16 nar_0 hP hS
  replace hm := (if_neg hc).symm.trans hm
  refine lv_iconst (v := (1 : Int32)) hx hb dX4_hasGold_11 (by decide) ?_
  refine lv_goto (tgt := 16) hx hb dX4_hasGold_12 (by decide) ?_
  obtain rfl := Option.some.inj hm
  exact hret 16 ls _ _ dX4_hasGold_16 nar_1 hP hS
set_option maxHeartbeats 4000000 in
set_option maxRecDepth 100000 in
theorem kcX4_hasSilver (l : Launch) (dC : Nat → ClassId) (dI : Nat → Nat → Nat) (cy : Nat → ClassId) (fu : Nat) (h0 : Nat) (a0 : Nat → Nat) (w0 : ob_T) (p1 : Int32) (sz : Nat) (R : Int32) (hm : mX4_hasSilver fu w0 p1 = some R) : Met l yX4_hasSilver wsX4_hasSilver (rmN 0 0) (va_Pc [.ref h0, .int p1] (cPre dC dI cy ((o_X4 cy h0 a0 w0)) sz)) (va_Qi (fun (r : Int32) (_ : Unit) => r = R) (fun _ => cPost dC dI cy ((o_X4 cy h0 a0 w0)) ((o_X4 cy h0 a0 w0)) sz) (va_A ((o_X4 cy h0 a0 w0)) sz)) 0 0 (va_A ((o_X4 cy h0 a0 w0)) sz) := by
  refine mt_z (cc := cX4_hasSilver) (maxL := 2) (by decide) rfl (Nat.le_of_ble_eq_true rfl) rfl ?_
  intro p e s m below meth c Q A hx hb hml hown hts hK hA hD hP hret ls hl
  have hown : s.vm.findClass RX4 = some m.cls := hown
  have hl : lv_has ls 2 [(0, .ref h0), (1, .int p1)] := hl
  have hDa : ∀ v0 : ob_T, va_D A ((o_X4 cy h0 a0 v0)) := fun _ => va_D_adr hD rfl
  have i4 : ∀ w ∈ wsX40, w ∈ wsX4_hasSilver := fun _ h => List.mem_cons_of_mem _ (List.mem_append_right _ h)
  have hS : va_S A s.heap s.heap [] := va_S.rf
  unfold mX4_hasSilver at hm
  refine lv_aload_n hx hb dX4_hasSilver_0 rfl (lv_at hl 0 rfl) ?_
  refine va_get (D := (dC, dI)) (ci := 4) (v := .ref (a0 8)) (C := RX4) (T := TX4) (N := 17) hx hb hts i4 hown hK hP 0 rfl rfl 8 (by decide) (hts (.fieldLink RX4 37 "TwoMetals$World" "silver" "[J") (List.mem_of_getElem? (i := 1) rfl)) (fun _ h9 => h9) rfl dX4_hasSilver_1 ?_
  refine lv_iload_n hx hb dX4_hasSilver_4 rfl (lv_at hl 1 rfl) ?_
  obtain ⟨hi1, hm⟩ := ck_in hm
  refine va_lald hx hb hK hP 9 1 rfl rfl hi1 dX4_hasSilver_5 ?_
  refine lv_aload_n hx hb dX4_hasSilver_6 rfl (lv_at hl 0 rfl) ?_
  refine va_get (D := (dC, dI)) (ci := 4) (v := .ref (a0 0)) (C := RX4) (T := TX4) (N := 17) hx hb hts i4 hown hK hP 0 rfl rfl 0 (by decide) (hts (.fieldLink RX4 9 "TwoMetals$World" "law" "[I") (List.mem_of_getElem? (i := 2) rfl)) (fun _ h9 => h9) rfl dX4_hasSilver_7 ?_
  refine lv_iload_n hx hb dX4_hasSilver_10 rfl (lv_at hl 1 rfl) ?_
  refine va_iald hx hb hK hP 1 0 rfl rfl hi1 dX4_hasSilver_11 ?_
  refine lv_i2l (v := (w0.1 0 p1.toNatClampNeg).toInt64) hx hb dX4_hasSilver_12 rfl ?_
  refine W.lcmp hx hb dX4_hasSilver_13 ?_
  refine lv_if_lt (tgt := 21) hx hb dX4_hasSilver_14 (by decide) (fun hc => ?_) (fun hc => ?_)
  · replace hm := (if_pos hc).symm.trans hm
    refine lv_iconst (v := (0 : Int32)) hx hb dX4_hasSilver_21 (by decide) ?_
    obtain rfl := Option.some.inj hm
    exact hret 22 ls _ _ dX4_hasSilver_22 nar_0 hP hS
  replace hm := (if_neg hc).symm.trans hm
  refine lv_iconst (v := (1 : Int32)) hx hb dX4_hasSilver_17 (by decide) ?_
  refine lv_goto (tgt := 22) hx hb dX4_hasSilver_18 (by decide) ?_
  obtain rfl := Option.some.inj hm
  exact hret 22 ls _ _ dX4_hasSilver_22 nar_1 hP hS
set_option maxHeartbeats 4000000 in
set_option maxRecDepth 100000 in
theorem kcX4_heading (l : Launch) (dC : Nat → ClassId) (dI : Nat → Nat → Nat) (cy : Nat → ClassId) (fu : Nat) (h0 : Nat) (a0 : Nat → Nat) (w0 : ob_T) (p1 : Int32) (sz : Nat) (R : Int32) (hm : mX4_heading fu w0 p1 = some R) : Met l yX4_heading wsX4_heading (rmN 1 21) (va_Pc [.ref h0, .int p1] (cPre dC dI cy ((o_X4 cy h0 a0 w0)) sz)) (va_Qi (fun (r : Int32) (_ : Unit) => r = R) (fun _ => cPost dC dI cy ((o_X4 cy h0 a0 w0)) ((o_X4 cy h0 a0 w0)) sz) (va_A ((o_X4 cy h0 a0 w0)) sz)) 0 0 (va_A ((o_X4 cy h0 a0 w0)) sz) := by
  refine mt_i (cc := cX4_heading) (maxL := 3) (by decide) rfl (Nat.le_of_ble_eq_true rfl) rfl ?_
  intro p e s m below meth c Q A hx hb hml hown hts hK hA hD hP hret ls hl
  have hown : s.vm.findClass RX4 = some m.cls := hown
  have hl : lv_has ls 3 [(0, .ref h0), (1, .int p1)] := hl
  have hDa : ∀ v0 : ob_T, va_D A ((o_X4 cy h0 a0 v0)) := fun _ => va_D_adr hD rfl
  have i4 : ∀ w ∈ wsX40, w ∈ wsX4_heading := fun _ h => List.mem_cons_of_mem _ (List.mem_append_right _ h)
  have hS : va_S A s.heap s.heap [] := va_S.rf
  have hB105 : ∀ (s0 : Int32) (H : Heap) (locs : List Loc) (ls : Array Slot), bX4_heading_105 fu w0 s0 = some R → va_P (dC, dI) vwCl ((o_X4 cy h0 a0 w0)) H → va_S A s.heap H locs → lv_has ls 3 [] → W p l e (rmN 1 21) s m ([.ref h0, .int p1] : List Value).toArray below meth c H locs 0 0 Q (F0 m 105 ls [.int s0]) := by
    intro s0 H locs ls hm hP hS hl
    unfold bX4_heading_105 at hm
    refine lv_istore_n (lv' := [(2, .int s0)]) hx hb dX4_heading_105 rfl hl (by decide) rfl (fun ls hl => ?_)
    refine lv_iload_n hx hb dX4_heading_106 rfl (lv_at hl 0 rfl) ?_
    refine lv_if_eq (tgt := 114) hx hb dX4_heading_107 (by decide) (fun hc => ?_) (fun hc => ?_)
    · replace hm := (if_pos hc).symm.trans hm
      refine lv_iconst (v := (0 : Int32)) hx hb dX4_heading_114 (by decide) ?_
      obtain rfl := Option.some.inj hm
      exact hret 115 ls _ _ dX4_heading_115 hP hS
    replace hm := (if_neg hc).symm.trans hm
    refine lv_iconst (v := (2 : Int32)) hx hb dX4_heading_110 (by decide) ?_
    refine lv_goto (tgt := 115) hx hb dX4_heading_111 (by decide) ?_
    obtain rfl := Option.some.inj hm
    exact hret 115 ls _ _ dX4_heading_115 hP hS
  have hB59 : ∀ (s0 : Int32) (H : Heap) (locs : List Loc) (ls : Array Slot), bX4_heading_59 fu w0 s0 = some R → va_P (dC, dI) vwCl ((o_X4 cy h0 a0 w0)) H → va_S A s.heap H locs → lv_has ls 3 [] → W p l e (rmN 1 21) s m ([.ref h0, .int p1] : List Value).toArray below meth c H locs 0 0 Q (F0 m 59 ls [.int s0]) := by
    intro s0 H locs ls hm hP hS hl
    unfold bX4_heading_59 at hm
    refine lv_istore_n (lv' := [(2, .int s0)]) hx hb dX4_heading_59 rfl hl (by decide) rfl (fun ls hl => ?_)
    refine lv_iload_n hx hb dX4_heading_60 rfl (lv_at hl 0 rfl) ?_
    refine lv_if_eq (tgt := 68) hx hb dX4_heading_61 (by decide) (fun hc => ?_) (fun hc => ?_)
    · replace hm := (if_pos hc).symm.trans hm
      refine lv_iconst (v := (0 : Int32)) hx hb dX4_heading_68 (by decide) ?_
      obtain rfl := Option.some.inj hm
      exact hret 69 ls _ _ dX4_heading_69 hP hS
    replace hm := (if_neg hc).symm.trans hm
    refine lv_iconst (v := (1 : Int32)) hx hb dX4_heading_64 (by decide) ?_
    refine lv_goto (tgt := 69) hx hb dX4_heading_65 (by decide) ?_
    obtain rfl := Option.some.inj hm
    exact hret 69 ls _ _ dX4_heading_69 hP hS
  unfold mX4_heading at hm
  refine lv_aload_n hx hb dX4_heading_0 rfl (lv_at hl 0 rfl) ?_
  refine lv_iload_n hx hb dX4_heading_1 rfl (lv_at hl 1 rfl) ?_
  obtain ⟨r1, hr1, hm⟩ := bn_call hm
  refine ca_vi (wr := []) (wn := (o_X4 cy h0 a0 w0)) ⟨hx, hb, hml, hown, hts⟩ hK hA (hDa _) hP hS [0, 1, 2, 3, 4, 5, 6, 7, 8, 9] [] [0, 1, 2, 3, 4, 5, 6, 7, 8, 9] (fun sz => kcX4_mints l dC dI cy fu h0 a0 w0 p1 sz r1 hr1) rfl rfl (by decide) (by decide) (by decide) rfl (cwV 1 hts gX4_heading_X4_mints rfl rfl rfl ⟨rfl, ydX4_mints⟩ ⟨Nat.le_of_ble_eq_true rfl, Nat.le_of_ble_eq_true rfl⟩) 4 0 rfl rfl rfl rfl hl.1 rfl (Nat.le_of_ble_eq_true rfl) dX4_heading_2 ⟨Nat.zero_le _, Nat.zero_le _⟩ (fun H locs hP hS => ?_)
  refine lv_if_ne (tgt := 10) hx hb dX4_heading_5 (by decide) (fun hc => ?_) (fun hc => ?_)
  · replace hm := (if_neg hc).symm.trans hm
    refine lv_aload_n hx hb dX4_heading_10 rfl (lv_at hl 0 rfl) ?_
    refine va_get (D := (dC, dI)) (ci := 4) (v := .int (w0.1 15 0)) (C := RX4) (T := TX4) (N := 17) hx hb hts i4 hown hK hP 0 rfl rfl 15 (by decide) (hts (.fieldLink RX4 61 "TwoMetals$World" "price" "I") (List.mem_of_getElem? (i := 1) rfl)) (fun _ h9 => h9) rfl dX4_heading_11 ?_
    refine lv_aload_n hx hb dX4_heading_14 rfl (lv_at hl 0 rfl) ?_
    refine va_get (D := (dC, dI)) (ci := 4) (v := .ref (a0 6)) (C := RX4) (T := TX4) (N := 17) hx hb hts i4 hown hK hP 0 rfl rfl 6 (by decide) (hts (.fieldLink RX4 30 "TwoMetals$World" "high" "[I") (List.mem_of_getElem? (i := 2) rfl)) (fun _ h9 => h9) rfl dX4_heading_15 ?_
    refine lv_iload_n hx hb dX4_heading_18 rfl (lv_at hl 1 rfl) ?_
    obtain ⟨hi2, hm⟩ := ck_in hm
    refine va_iald hx hb hK hP 7 0 rfl rfl hi2 dX4_heading_19 ?_
    refine lv_icmp_le (tgt := 70) hx hb dX4_heading_20 (by decide) (fun hc => ?_) (fun hc => ?_)
    · replace hm := (if_pos hc).symm.trans hm
      refine lv_aload_n hx hb dX4_heading_70 rfl (lv_at hl 0 rfl) ?_
      refine va_get (D := (dC, dI)) (ci := 4) (v := .int (w0.1 15 0)) (C := RX4) (T := TX4) (N := 17) hx hb hts i4 hown hK hP 0 rfl rfl 15 (by decide) (hts (.fieldLink RX4 61 "TwoMetals$World" "price" "I") (List.mem_of_getElem? (i := 1) rfl)) (fun _ h9 => h9) rfl dX4_heading_71 ?_
      refine lv_aload_n hx hb dX4_heading_74 rfl (lv_at hl 0 rfl) ?_
      refine va_get (D := (dC, dI)) (ci := 4) (v := .ref (a0 5)) (C := RX4) (T := TX4) (N := 17) hx hb hts i4 hown hK hP 0 rfl rfl 5 (by decide) (hts (.fieldLink RX4 27 "TwoMetals$World" "low" "[I") (List.mem_of_getElem? (i := 5) rfl)) (fun _ h9 => h9) rfl dX4_heading_75 ?_
      refine lv_iload_n hx hb dX4_heading_78 rfl (lv_at hl 1 rfl) ?_
      refine va_iald hx hb hK hP 6 0 rfl rfl hi2 dX4_heading_79 ?_
      refine lv_icmp_ge (tgt := 116) hx hb dX4_heading_80 (by decide) (fun hc => ?_) (fun hc => ?_)
      · replace hm := (if_pos hc).symm.trans hm
        refine lv_iconst (v := (0 : Int32)) hx hb dX4_heading_116 (by decide) ?_
        obtain rfl := Option.some.inj hm
        exact hret 117 ls _ _ dX4_heading_117 hP hS
      replace hm := (if_neg hc).symm.trans hm
      refine lv_aload_n hx hb dX4_heading_83 rfl (lv_at hl 0 rfl) ?_
      refine va_get (D := (dC, dI)) (ci := 4) (v := .long (w0.2 12 0)) (C := RX4) (T := TX4) (N := 17) hx hb hts i4 hown hK hP 0 rfl rfl 12 (by decide) (hts (.fieldLink RX4 50 "TwoMetals$World" "marketGold" "J") (List.mem_of_getElem? (i := 6) rfl)) (fun _ h9 => h9) rfl dX4_heading_84 ?_
      refine lv_lconst (v := (0 : Int64)) hx hb dX4_heading_87 (by decide) ?_
      refine W.lcmp hx hb dX4_heading_88 ?_
      refine lv_if_le (tgt := 104) hx hb dX4_heading_89 (by decide) (fun hc => ?_) (fun hc => ?_)
      · replace hm := (if_pos hc).symm.trans hm
        refine lv_iconst (v := (0 : Int32)) hx hb dX4_heading_104 (by decide) ?_
        exact hB105 (0 : Int32) _ _ ls hm hP hS (lv_sub hl [] rfl)
      replace hm := (if_neg hc).symm.trans hm
      refine lv_aload_n hx hb dX4_heading_92 rfl (lv_at hl 0 rfl) ?_
      refine lv_iload_n hx hb dX4_heading_93 rfl (lv_at hl 1 rfl) ?_
      obtain ⟨r3, hr3, hm⟩ := bn_call hm
      refine ca_vi (wr := []) (wn := (o_X4 cy h0 a0 w0)) ⟨hx, hb, hml, hown, hts⟩ hK hA (hDa _) hP hS [0, 1, 2, 3, 4, 5, 6, 7, 8, 9] [] [0, 1, 2, 3, 4, 5, 6, 7, 8, 9] (fun sz => kcX4_hasSilver l dC dI cy fu h0 a0 w0 p1 sz r3 hr3) rfl rfl (by decide) (by decide) (by decide) rfl (cwV 1 hts gX4_heading_X4_hasSilver rfl rfl rfl ⟨rfl, ydX4_hasSilver⟩ ⟨Nat.le_of_ble_eq_true rfl, Nat.le_of_ble_eq_true rfl⟩) 4 0 rfl rfl rfl rfl hl.1 rfl (Nat.le_of_ble_eq_true rfl) dX4_heading_94 ⟨Nat.zero_le _, Nat.zero_le _⟩ (fun H locs hP hS => ?_)
      refine lv_if_eq (tgt := 104) hx hb dX4_heading_97 (by decide) (fun hc => ?_) (fun hc => ?_)
      · replace hm := (if_pos hc).symm.trans hm
        refine lv_iconst (v := (0 : Int32)) hx hb dX4_heading_104 (by decide) ?_
        exact hB105 (0 : Int32) _ _ ls hm hP hS (lv_sub hl [] rfl)
      replace hm := (if_neg hc).symm.trans hm
      refine lv_iconst (v := (1 : Int32)) hx hb dX4_heading_100 (by decide) ?_
      refine lv_goto (tgt := 105) hx hb dX4_heading_101 (by decide) ?_
      exact hB105 (1 : Int32) _ _ ls hm hP hS (lv_sub hl [] rfl)
    replace hm := (if_neg hc).symm.trans hm
    refine lv_aload_n hx hb dX4_heading_23 rfl (lv_at hl 0 rfl) ?_
    refine lv_iload_n hx hb dX4_heading_24 rfl (lv_at hl 1 rfl) ?_
    obtain ⟨r4, hr4, hm⟩ := bn_call hm
    refine ca_vi (wr := []) (wn := (o_X4 cy h0 a0 w0)) ⟨hx, hb, hml, hown, hts⟩ hK hA (hDa _) hP hS [0, 1, 2, 3, 4, 5, 6, 7, 8, 9] [] [0, 1, 2, 3, 4, 5, 6, 7, 8, 9] (fun sz => kcX4_limps l dC dI cy fu h0 a0 w0 p1 sz r4 hr4) rfl rfl (by decide) (by decide) (by decide) rfl (cwV 1 hts gX4_heading_X4_limps rfl rfl rfl ⟨rfl, ydX4_limps⟩ ⟨Nat.le_of_ble_eq_true rfl, Nat.le_of_ble_eq_true rfl⟩) 4 0 rfl rfl rfl rfl hl.1 rfl (Nat.le_of_ble_eq_true rfl) dX4_heading_25 ⟨Nat.zero_le _, Nat.zero_le _⟩ (fun H locs hP hS => ?_)
    refine lv_if_ne (tgt := 58) hx hb dX4_heading_28 (by decide) (fun hc => ?_) (fun hc => ?_)
    · replace hm := (if_neg hc).symm.trans hm
      refine lv_iconst (v := (0 : Int32)) hx hb dX4_heading_58 (by decide) ?_
      exact hB59 (0 : Int32) _ _ ls hm hP hS (lv_sub hl [] rfl)
    replace hm := (if_pos hc).symm.trans hm
    refine lv_aload_n hx hb dX4_heading_31 rfl (lv_at hl 0 rfl) ?_
    refine lv_iload_n hx hb dX4_heading_32 rfl (lv_at hl 1 rfl) ?_
    obtain ⟨r5, hr5, hm⟩ := bn_call hm
    refine ca_vi (wr := []) (wn := (o_X4 cy h0 a0 w0)) ⟨hx, hb, hml, hown, hts⟩ hK hA (hDa _) hP hS [0, 1, 2, 3, 4, 5, 6, 7, 8, 9] [] [0, 1, 2, 3, 4, 5, 6, 7, 8, 9] (fun sz => kcX4_hasGold l dC dI cy fu h0 a0 w0 p1 sz r5 hr5) rfl rfl (by decide) (by decide) (by decide) rfl (cwV 1 hts gX4_heading_X4_hasGold rfl rfl rfl ⟨rfl, ydX4_hasGold⟩ ⟨Nat.le_of_ble_eq_true rfl, Nat.le_of_ble_eq_true rfl⟩) 4 0 rfl rfl rfl rfl hl.1 rfl (Nat.le_of_ble_eq_true rfl) dX4_heading_33 ⟨Nat.zero_le _, Nat.zero_le _⟩ (fun H locs hP hS => ?_)
    refine lv_if_eq (tgt := 58) hx hb dX4_heading_36 (by decide) (fun hc => ?_) (fun hc => ?_)
    · replace hm := (if_pos hc).symm.trans hm
      refine lv_iconst (v := (0 : Int32)) hx hb dX4_heading_58 (by decide) ?_
      exact hB59 (0 : Int32) _ _ ls hm hP hS (lv_sub hl [] rfl)
    replace hm := (if_neg hc).symm.trans hm
    refine lv_aload_n hx hb dX4_heading_39 rfl (lv_at hl 0 rfl) ?_
    refine va_get (D := (dC, dI)) (ci := 4) (v := .long (w0.2 13 0)) (C := RX4) (T := TX4) (N := 17) hx hb hts i4 hown hK hP 0 rfl rfl 13 (by decide) (hts (.fieldLink RX4 54 "TwoMetals$World" "marketSilver" "J") (List.mem_of_getElem? (i := 3) rfl)) (fun _ h9 => h9) rfl dX4_heading_40 ?_
    refine lv_aload_n hx hb dX4_heading_43 rfl (lv_at hl 0 rfl) ?_
    refine va_get (D := (dC, dI)) (ci := 4) (v := .ref (a0 0)) (C := RX4) (T := TX4) (N := 17) hx hb hts i4 hown hK hP 0 rfl rfl 0 (by decide) (hts (.fieldLink RX4 9 "TwoMetals$World" "law" "[I") (List.mem_of_getElem? (i := 4) rfl)) (fun _ h9 => h9) rfl dX4_heading_44 ?_
    refine lv_iload_n hx hb dX4_heading_47 rfl (lv_at hl 1 rfl) ?_
    refine va_iald hx hb hK hP 1 0 rfl rfl hi2 dX4_heading_48 ?_
    refine lv_i2l (v := (w0.1 0 p1.toNatClampNeg).toInt64) hx hb dX4_heading_49 rfl ?_
    refine W.lcmp hx hb dX4_heading_50 ?_
    refine lv_if_lt (tgt := 58) hx hb dX4_heading_51 (by decide) (fun hc => ?_) (fun hc => ?_)
    · replace hm := (if_pos hc).symm.trans hm
      refine lv_iconst (v := (0 : Int32)) hx hb dX4_heading_58 (by decide) ?_
      exact hB59 (0 : Int32) _ _ ls hm hP hS (lv_sub hl [] rfl)
    replace hm := (if_neg hc).symm.trans hm
    refine lv_iconst (v := (1 : Int32)) hx hb dX4_heading_54 (by decide) ?_
    refine lv_goto (tgt := 59) hx hb dX4_heading_55 (by decide) ?_
    exact hB59 (1 : Int32) _ _ ls hm hP hS (lv_sub hl [] rfl)
  replace hm := (if_pos hc).symm.trans hm
  refine lv_iconst (v := (0 : Int32)) hx hb dX4_heading_8 (by decide) ?_
  obtain rfl := Option.some.inj hm
  exact hret 9 ls _ _ dX4_heading_9 hP hS
set_option maxHeartbeats 4000000 in
set_option maxRecDepth 100000 in
theorem kcX4_carry (l : Launch) (dC : Nat → ClassId) (dI : Nat → Nat → Nat) (cy : Nat → ClassId) (fu : Nat) (h0 : Nat) (a0 : Nat → Nat) (w0 : ob_T) (p1 : Int32) (p2 : Int32) (sz : Nat) (R : ob_T) (hm : mX4_carry fu w0 p1 p2 = some R) : Met l yX4_carry wsX4_carry (rmN 2 50) (va_Pc [.ref h0, .int p1, .int p2] (cPre dC dI cy ((o_X4 cy h0 a0 w0)) sz)) (va_Qv (fun (_ : Unit) => True) (fun _ => cPost dC dI cy ((o_X4 cy h0 a0 w0)) ((o_X4 cy h0 a0 R)) sz) (va_A ((o_X4 cy h0 a0 w0)) sz)) 0 0 (va_A ((o_X4 cy h0 a0 w0)) sz) := by
  refine mt_v (cc := cX4_carry) (maxL := 4) (by decide) rfl (Nat.le_of_ble_eq_true rfl) rfl ?_
  intro p e s m below meth c Q A hx hb hml hown hts hK hA hD hP hret ls hl
  have hown : s.vm.findClass RX4 = some m.cls := hown
  have hl : lv_has ls 4 [(0, .ref h0), (1, .int p1), (2, .int p2)] := hl
  have hDa : ∀ v0 : ob_T, va_D A ((o_X4 cy h0 a0 v0)) := fun _ => va_D_adr hD rfl
  have i4 : ∀ w ∈ wsX40, w ∈ wsX4_carry := fun _ h => List.mem_cons_of_mem _ (List.mem_append_right _ h)
  have hS : va_S A s.heap s.heap [] := va_S.rf
  have hB10 : ∀ (w0 : ob_T) (l1 : Int32) (s0 : Int32) (H : Heap) (locs : List Loc) (ls : Array Slot), bX4_carry_10 fu w0 l1 s0 = some R → va_P (dC, dI) vwCl ((o_X4 cy h0 a0 w0)) H → va_S A s.heap H locs → lv_has ls 4 [(0, .ref h0), (1, .int l1)] → W p l e (rmN 2 50) s m ([.ref h0, .int p1, .int p2] : List Value).toArray below meth c H locs 0 0 Q (F0 m 10 ls [.int s0]) := by
    intro w0 l1 s0 H locs ls hm hP hS hl
    unfold bX4_carry_10 at hm
    refine lv_istore_n (lv' := [(3, .int s0), (0, .ref h0), (1, .int l1)]) hx hb dX4_carry_10 rfl hl (by decide) rfl (fun ls hl => ?_)
    refine lv_aload_n hx hb dX4_carry_11 rfl (lv_at hl 1 rfl) ?_
    refine va_get (D := (dC, dI)) (ci := 4) (v := .ref (a0 7)) (C := RX4) (T := TX4) (N := 17) hx hb hts i4 hown hK hP 0 rfl rfl 7 (by decide) (hts (.fieldLink RX4 33 "TwoMetals$World" "gold" "[J") (List.mem_of_getElem? (i := 1) rfl)) (fun _ h9 => h9) rfl dX4_carry_12 ?_
    refine lv_iload_n hx hb dX4_carry_15 rfl (lv_at hl 2 rfl) ?_
    refine lv_dup2_11 hx hb dX4_carry_16 rfl rfl ?_
    obtain ⟨hi1, hm⟩ := ck_in hm
    refine va_lald hx hb hK hP 8 1 rfl rfl hi1 dX4_carry_17 ?_
    refine lv_iload_n hx hb dX4_carry_18 rfl (lv_at hl 0 rfl) ?_
    refine lv_i2l (v := s0.toInt64) hx hb dX4_carry_19 rfl ?_
    refine lv_lsub hx hb dX4_carry_20 ?_
    refine va_last hx hb hK hP (hDa _) hS 8 1 rfl rfl hi1 dX4_carry_21 (fun H locs hP _ hS => ?_)
    have hP : va_P (dC, dI) vwCl ((o_X4 cy h0 a0 (ob_L w0 7 (vp_updL (w0.2 7) l1.toNatClampNeg ((w0.2 7 l1.toNatClampNeg) - s0.toInt64))))) H := hP
    obtain ⟨u2, hP, hm⟩ := bn_ob (P := fun zz => va_P (dC, dI) vwCl ((o_X4 cy h0 a0 zz)) H) hm hP
    refine lv_aload_n hx hb dX4_carry_22 rfl (lv_at hl 1 rfl) ?_
    refine lv_dup hx hb dX4_carry_23 rfl ?_
    refine va_get (D := (dC, dI)) (ci := 4) (v := .long (u2.2 12 0)) (C := RX4) (T := TX4) (N := 17) hx hb hts i4 hown hK hP 0 rfl rfl 12 (by decide) (hts (.fieldLink RX4 50 "TwoMetals$World" "marketGold" "J") (List.mem_of_getElem? (i := 2) rfl)) (fun _ h9 => h9) rfl dX4_carry_24 ?_
    refine lv_iload_n hx hb dX4_carry_27 rfl (lv_at hl 0 rfl) ?_
    refine lv_i2l (v := s0.toInt64) hx hb dX4_carry_28 rfl ?_
    refine lv_ladd hx hb dX4_carry_29 ?_
    refine va_put (D := (dC, dI)) (ci := 4) (v := .long ((u2.2 12 0) + s0.toInt64)) (ty := .long) (C := RX4) (T := TX4) (N := 17) hx hb hts i4 tyX4 tyX4_ok nmX4 hown hK hP (hDa _) hS 0 rfl rfl 12 (by decide) (hts (.fieldLink RX4 50 "TwoMetals$World" "marketGold" "J") (List.mem_of_getElem? (i := 2) rfl)) (fun _ h9 => h9) rfl (tyX4_ok 12 (by decide)) rfl rfl (Nat.le_of_ble_eq_true rfl) dX4_carry_30 (fun H locs hP _ hS => ?_)
    have hP : va_P (dC, dI) vwCl ((o_X4 cy h0 a0 (ob_L u2 12 (fun _ => (u2.2 12 0) + s0.toInt64)))) H := hP
    obtain ⟨u3, hP, hm⟩ := bn_ob (P := fun zz => va_P (dC, dI) vwCl ((o_X4 cy h0 a0 zz)) H) hm hP
    refine lv_aload_n hx hb dX4_carry_33 rfl (lv_at hl 1 rfl) ?_
    refine va_get (D := (dC, dI)) (ci := 4) (v := .ref (a0 8)) (C := RX4) (T := TX4) (N := 17) hx hb hts i4 hown hK hP 0 rfl rfl 8 (by decide) (hts (.fieldLink RX4 37 "TwoMetals$World" "silver" "[J") (List.mem_of_getElem? (i := 3) rfl)) (fun _ h9 => h9) rfl dX4_carry_34 ?_
    refine lv_iload_n hx hb dX4_carry_37 rfl (lv_at hl 2 rfl) ?_
    refine lv_dup2_11 hx hb dX4_carry_38 rfl rfl ?_
    refine va_lald hx hb hK hP 9 1 rfl rfl hi1 dX4_carry_39 ?_
    refine lv_iload_n hx hb dX4_carry_40 rfl (lv_at hl 0 rfl) ?_
    refine lv_aload_n hx hb dX4_carry_41 rfl (lv_at hl 1 rfl) ?_
    refine va_get (D := (dC, dI)) (ci := 4) (v := .ref (a0 0)) (C := RX4) (T := TX4) (N := 17) hx hb hts i4 hown hK hP 0 rfl rfl 0 (by decide) (hts (.fieldLink RX4 9 "TwoMetals$World" "law" "[I") (List.mem_of_getElem? (i := 4) rfl)) (fun _ h9 => h9) rfl dX4_carry_42 ?_
    refine lv_iload_n hx hb dX4_carry_45 rfl (lv_at hl 2 rfl) ?_
    refine va_iald hx hb hK hP 1 0 rfl rfl hi1 dX4_carry_46 ?_
    refine lv_imul hx hb dX4_carry_47 ?_
    refine lv_i2l (v := (s0 * (u3.1 0 l1.toNatClampNeg)).toInt64) hx hb dX4_carry_48 rfl ?_
    refine lv_ladd hx hb dX4_carry_49 ?_
    refine va_last hx hb hK hP (hDa _) hS 9 1 rfl rfl hi1 dX4_carry_50 (fun H locs hP _ hS => ?_)
    have hP : va_P (dC, dI) vwCl ((o_X4 cy h0 a0 (ob_L u3 8 (vp_updL (u3.2 8) l1.toNatClampNeg ((u3.2 8 l1.toNatClampNeg) + ((s0 * (u3.1 0 l1.toNatClampNeg)).toInt64)))))) H := hP
    obtain ⟨u4, hP, hm⟩ := bn_ob (P := fun zz => va_P (dC, dI) vwCl ((o_X4 cy h0 a0 zz)) H) hm hP
    refine lv_aload_n hx hb dX4_carry_51 rfl (lv_at hl 1 rfl) ?_
    refine lv_dup hx hb dX4_carry_52 rfl ?_
    refine va_get (D := (dC, dI)) (ci := 4) (v := .long (u4.2 13 0)) (C := RX4) (T := TX4) (N := 17) hx hb hts i4 hown hK hP 0 rfl rfl 13 (by decide) (hts (.fieldLink RX4 54 "TwoMetals$World" "marketSilver" "J") (List.mem_of_getElem? (i := 5) rfl)) (fun _ h9 => h9) rfl dX4_carry_53 ?_
    refine lv_iload_n hx hb dX4_carry_56 rfl (lv_at hl 0 rfl) ?_
    refine lv_aload_n hx hb dX4_carry_57 rfl (lv_at hl 1 rfl) ?_
    refine va_get (D := (dC, dI)) (ci := 4) (v := .ref (a0 0)) (C := RX4) (T := TX4) (N := 17) hx hb hts i4 hown hK hP 0 rfl rfl 0 (by decide) (hts (.fieldLink RX4 9 "TwoMetals$World" "law" "[I") (List.mem_of_getElem? (i := 4) rfl)) (fun _ h9 => h9) rfl dX4_carry_58 ?_
    refine lv_iload_n hx hb dX4_carry_61 rfl (lv_at hl 2 rfl) ?_
    refine va_iald hx hb hK hP 1 0 rfl rfl hi1 dX4_carry_62 ?_
    refine lv_imul hx hb dX4_carry_63 ?_
    refine lv_i2l (v := (s0 * (u4.1 0 l1.toNatClampNeg)).toInt64) hx hb dX4_carry_64 rfl ?_
    refine lv_lsub hx hb dX4_carry_65 ?_
    refine va_put (D := (dC, dI)) (ci := 4) (v := .long ((u4.2 13 0) - ((s0 * (u4.1 0 l1.toNatClampNeg)).toInt64))) (ty := .long) (C := RX4) (T := TX4) (N := 17) hx hb hts i4 tyX4 tyX4_ok nmX4 hown hK hP (hDa _) hS 0 rfl rfl 13 (by decide) (hts (.fieldLink RX4 54 "TwoMetals$World" "marketSilver" "J") (List.mem_of_getElem? (i := 5) rfl)) (fun _ h9 => h9) rfl (tyX4_ok 13 (by decide)) rfl rfl (Nat.le_of_ble_eq_true rfl) dX4_carry_66 (fun H locs hP _ hS => ?_)
    have hP : va_P (dC, dI) vwCl ((o_X4 cy h0 a0 (ob_L u4 13 (fun _ => (u4.2 13 0) - ((s0 * (u4.1 0 l1.toNatClampNeg)).toInt64))))) H := hP
    obtain ⟨u5, hP, hm⟩ := bn_ob (P := fun zz => va_P (dC, dI) vwCl ((o_X4 cy h0 a0 zz)) H) hm hP
    refine lv_aload_n hx hb dX4_carry_69 rfl (lv_at hl 1 rfl) ?_
    obtain ⟨r6, hr6, hm⟩ := bn_call hm
    refine ca_vv (wr := []) (wn := (o_X4 cy h0 a0 r6)) ⟨hx, hb, hml, hown, hts⟩ hK hA (hDa _) hP hS [0, 1, 2, 3, 4, 5, 6, 7, 8, 9] [] [0, 1, 2, 3, 4, 5, 6, 7, 8, 9] (fun sz => kcX4_weigh l dC dI cy fu h0 a0 u5 sz r6 hr6) rfl rfl (by decide) (by decide) (by decide) rfl (cwV 0 hts gX4_carry_X4_weigh rfl rfl rfl ⟨rfl, ydX4_weigh⟩ ⟨Nat.le_of_ble_eq_true rfl, Nat.le_of_ble_eq_true rfl⟩) 4 0 rfl rfl rfl rfl hl.1 rfl (Nat.le_of_ble_eq_true rfl) dX4_carry_70 ⟨Nat.zero_le _, Nat.zero_le _⟩ (fun H locs hP hS => ?_)
    obtain rfl := Option.some.inj hm
    exact hret 73 ls _ _ dX4_carry_73 hP hS
  unfold mX4_carry at hm
  refine lv_iload_n hx hb dX4_carry_0 rfl (lv_at hl 2 rfl) ?_
  refine lv_iconst (v := (1 : Int32)) hx hb dX4_carry_1 (by decide) ?_
  refine lv_icmp_ne (tgt := 9) hx hb dX4_carry_2 (by decide) (fun hc => ?_) (fun hc => ?_)
  · replace hm := (if_neg hc).symm.trans hm
    refine lv_iconst (v := (-1 : Int32)) hx hb dX4_carry_9 (by decide) ?_
    exact hB10 w0 p1 (-1 : Int32) _ _ ls hm hP hS (lv_sub hl [0, 1] rfl)
  replace hm := (if_pos hc).symm.trans hm
  refine lv_iconst (v := (1 : Int32)) hx hb dX4_carry_5 (by decide) ?_
  refine lv_goto (tgt := 10) hx hb dX4_carry_6 (by decide) ?_
  exact hB10 w0 p1 (1 : Int32) _ _ ls hm hP hS (lv_sub hl [0, 1] rfl)
set_option maxHeartbeats 4000000 in
set_option maxRecDepth 100000 in
theorem kcX4_stopThoseThatRanLow (l : Launch) (dC : Nat → ClassId) (dI : Nat → Nat → Nat) (cy : Nat → ClassId) (fu : Nat) (h0 : Nat) (a0 : Nat → Nat) (w0 : ob_T) (sz : Nat) (R : ob_T) (hm : mX4_stopThoseThatRanLow fu w0 = some R) : Met l yX4_stopThoseThatRanLow wsX4_stopThoseThatRanLow (rmN 1 21) (va_Pc [.ref h0] (cPre dC dI cy ((o_X4 cy h0 a0 w0)) sz)) (va_Qv (fun (_ : Unit) => True) (fun _ => cPost dC dI cy ((o_X4 cy h0 a0 w0)) ((o_X4 cy h0 a0 R)) sz) (va_A ((o_X4 cy h0 a0 w0)) sz)) 0 0 (va_A ((o_X4 cy h0 a0 w0)) sz) := by
  refine mt_v (cc := cX4_stopThoseThatRanLow) (maxL := 2) (by decide) rfl (Nat.le_of_ble_eq_true rfl) rfl ?_
  intro p e s m below meth c Q A hx hb hml hown hts hK hA hD hP hret ls hl
  have hown : s.vm.findClass RX4 = some m.cls := hown
  have hl : lv_has ls 2 [(0, .ref h0)] := hl
  have hDa : ∀ v0 : ob_T, va_D A ((o_X4 cy h0 a0 v0)) := fun _ => va_D_adr hD rfl
  have i4 : ∀ w ∈ wsX40, w ∈ wsX4_stopThoseThatRanLow := fun _ h => List.mem_cons_of_mem _ (List.mem_append_right _ h)
  have hS : va_S A s.heap s.heap [] := va_S.rf
  have hB47 : ∀ (k2 : ob_T → Int32 → Option (ob_T)) (_ : ∀ (w0 : ob_T) (l1 : Int32) (H : Heap) (locs : List Loc) (ls : Array Slot), k2 w0 l1 = some R → va_P (dC, dI) vwCl ((o_X4 cy h0 a0 w0)) H → va_S A s.heap H locs → lv_has ls 2 [(0, .ref h0), (1, .int l1)] → W p l e (rmN 1 21) s m ([.ref h0] : List Value).toArray below meth c H locs 0 0 Q (F0 m 2 ls [])) (w0 : ob_T) (l1 : Int32) (H : Heap) (locs : List Loc) (ls : Array Slot), bX4_stopThoseThatRanLow_47 fu k2 w0 l1 = some R → va_P (dC, dI) vwCl ((o_X4 cy h0 a0 w0)) H → va_S A s.heap H locs → lv_has ls 2 [(0, .ref h0), (1, .int l1)] → W p l e (rmN 1 21) s m ([.ref h0] : List Value).toArray below meth c H locs 0 0 Q (F0 m 47 ls []) := by
    intro k2 hk2 w0 l1 H locs ls hm hP hS hl
    unfold bX4_stopThoseThatRanLow_47 at hm
    obtain ⟨x1, e2⟩ : ∃ y : Int32, y = l1 + (1 : Int32) := ⟨_, rfl⟩
    replace hm := bn_at e2 hm
    refine lv_iinc (v := x1) (lv' := [(1, .int x1), (0, .ref h0)]) hx hb dX4_stopThoseThatRanLow_47 hl (k := 1) rfl (by rw [e2]; rfl) (by decide) rfl (fun ls hl => ?_)
    refine lv_goto (tgt := 2) hx hb dX4_stopThoseThatRanLow_50 (by decide) ?_
    exact hk2 w0 x1 _ _ ls hm hP hS (lv_sub hl [1, 0] rfl)
  have hB2 : ∀ (nn : Nat) (w0 : ob_T) (l1 : Int32) (H : Heap) (locs : List Loc) (ls : Array Slot), bX4_stopThoseThatRanLow_2 fu nn w0 l1 = some R → va_P (dC, dI) vwCl ((o_X4 cy h0 a0 w0)) H → va_S A s.heap H locs → lv_has ls 2 [(0, .ref h0), (1, .int l1)] → W p l e (rmN 1 21) s m ([.ref h0] : List Value).toArray below meth c H locs 0 0 Q (F0 m 2 ls []) := by
    intro nn
    induction nn with
    | zero => intro w0 l1 H locs ls hm; exact no_some ((bX4_stopThoseThatRanLow_2_0 fu w0 l1).symm.trans hm)
    | succ nn ih =>
      intro w0 l1 H locs ls hm hP hS hl
      replace hm := (bX4_stopThoseThatRanLow_2_s fu nn w0 l1).symm.trans hm
      refine lv_iload_n hx hb dX4_stopThoseThatRanLow_2 rfl (lv_at hl 1 rfl) ?_
      refine lv_bipush (v := (8 : Int32)) hx hb dX4_stopThoseThatRanLow_3 (by decide) ?_
      refine lv_icmp_ge (tgt := 53) hx hb dX4_stopThoseThatRanLow_5 (by decide) (fun hc => ?_) (fun hc => ?_)
      · replace hm := (if_pos hc).symm.trans hm
        obtain rfl := Option.some.inj hm
        exact hret 53 ls _ _ dX4_stopThoseThatRanLow_53 hP hS
      replace hm := (if_neg hc).symm.trans hm
      refine lv_aload_n hx hb dX4_stopThoseThatRanLow_8 rfl (lv_at hl 0 rfl) ?_
      refine lv_iload_n hx hb dX4_stopThoseThatRanLow_9 rfl (lv_at hl 1 rfl) ?_
      obtain ⟨r3, hr3, hm⟩ := bn_call hm
      refine ca_vi (wr := []) (wn := (o_X4 cy h0 a0 w0)) ⟨hx, hb, hml, hown, hts⟩ hK hA (hDa _) hP hS [0, 1, 2, 3, 4, 5, 6, 7, 8, 9] [] [0, 1, 2, 3, 4, 5, 6, 7, 8, 9] (fun sz => kcX4_mints l dC dI cy fu h0 a0 w0 l1 sz r3 hr3) rfl rfl (by decide) (by decide) (by decide) rfl (cwV 1 hts gX4_stopThoseThatRanLow_X4_mints rfl rfl rfl ⟨rfl, ydX4_mints⟩ ⟨Nat.le_of_ble_eq_true rfl, Nat.le_of_ble_eq_true rfl⟩) 4 0 rfl rfl rfl rfl hl.1 rfl (Nat.le_of_ble_eq_true rfl) dX4_stopThoseThatRanLow_10 ⟨Nat.zero_le _, Nat.zero_le _⟩ (fun H locs hP hS => ?_)
      refine lv_if_eq (tgt := 47) hx hb dX4_stopThoseThatRanLow_13 (by decide) (fun hc => ?_) (fun hc => ?_)
      · replace hm := (if_pos hc).symm.trans hm
        exact hB47 (bX4_stopThoseThatRanLow_2 fu nn) ih w0 l1 _ _ ls hm hP hS (lv_sub hl [0, 1] rfl)
      replace hm := (if_neg hc).symm.trans hm
      refine lv_aload_n hx hb dX4_stopThoseThatRanLow_16 rfl (lv_at hl 0 rfl) ?_
      refine va_get (D := (dC, dI)) (ci := 4) (v := .ref (a0 7)) (C := RX4) (T := TX4) (N := 17) hx hb hts i4 hown hK hP 0 rfl rfl 7 (by decide) (hts (.fieldLink RX4 33 "TwoMetals$World" "gold" "[J") (List.mem_of_getElem? (i := 1) rfl)) (fun _ h9 => h9) rfl dX4_stopThoseThatRanLow_17 ?_
      refine lv_iload_n hx hb dX4_stopThoseThatRanLow_20 rfl (lv_at hl 1 rfl) ?_
      obtain ⟨hi4, hm⟩ := ck_in hm
      refine va_lald hx hb hK hP 8 1 rfl rfl hi4 dX4_stopThoseThatRanLow_21 ?_
      refine lv_aload_n hx hb dX4_stopThoseThatRanLow_22 rfl (lv_at hl 0 rfl) ?_
      refine va_get (D := (dC, dI)) (ci := 4) (v := .ref (a0 4)) (C := RX4) (T := TX4) (N := 17) hx hb hts i4 hown hK hP 0 rfl rfl 4 (by decide) (hts (.fieldLink RX4 24 "TwoMetals$World" "stopAt" "[I") (List.mem_of_getElem? (i := 2) rfl)) (fun _ h9 => h9) rfl dX4_stopThoseThatRanLow_23 ?_
      refine lv_iload_n hx hb dX4_stopThoseThatRanLow_26 rfl (lv_at hl 1 rfl) ?_
      refine va_iald hx hb hK hP 5 0 rfl rfl hi4 dX4_stopThoseThatRanLow_27 ?_
      refine lv_i2l (v := (w0.1 4 l1.toNatClampNeg).toInt64) hx hb dX4_stopThoseThatRanLow_28 rfl ?_
      refine W.lcmp hx hb dX4_stopThoseThatRanLow_29 ?_
      refine lv_if_gt (tgt := 47) hx hb dX4_stopThoseThatRanLow_30 (by decide) (fun hc => ?_) (fun hc => ?_)
      · replace hm := (if_pos hc).symm.trans hm
        exact hB47 (bX4_stopThoseThatRanLow_2 fu nn) ih w0 l1 _ _ ls hm hP hS (lv_sub hl [0, 1] rfl)
      replace hm := (if_neg hc).symm.trans hm
      refine lv_aload_n hx hb dX4_stopThoseThatRanLow_33 rfl (lv_at hl 0 rfl) ?_
      refine lv_dup hx hb dX4_stopThoseThatRanLow_34 rfl ?_
      refine va_get (D := (dC, dI)) (ci := 4) (v := .int (w0.1 10 0)) (C := RX4) (T := TX4) (N := 17) hx hb hts i4 hown hK hP 0 rfl rfl 10 (by decide) (hts (.fieldLink RX4 44 "TwoMetals$World" "minting" "I") (List.mem_of_getElem? (i := 3) rfl)) (fun _ h9 => h9) rfl dX4_stopThoseThatRanLow_35 ?_
      refine lv_iconst (v := (1 : Int32)) hx hb dX4_stopThoseThatRanLow_38 (by decide) ?_
      refine lv_iload_n hx hb dX4_stopThoseThatRanLow_39 rfl (lv_at hl 1 rfl) ?_
      refine lv_ishl hx hb dX4_stopThoseThatRanLow_40 ?_
      refine lv_iconst (v := (-1 : Int32)) hx hb dX4_stopThoseThatRanLow_41 (by decide) ?_
      refine lv_ixor hx hb dX4_stopThoseThatRanLow_42 ?_
      refine lv_iand hx hb dX4_stopThoseThatRanLow_43 ?_
      refine va_put (D := (dC, dI)) (ci := 4) (v := .int ((w0.1 10 0) &&& (((1 : Int32) <<< (l1 &&& 31)) ^^^ (-1 : Int32)))) (ty := .int) (C := RX4) (T := TX4) (N := 17) hx hb hts i4 tyX4 tyX4_ok nmX4 hown hK hP (hDa _) hS 0 rfl rfl 10 (by decide) (hts (.fieldLink RX4 44 "TwoMetals$World" "minting" "I") (List.mem_of_getElem? (i := 3) rfl)) (fun _ h9 => h9) rfl (tyX4_ok 10 (by decide)) rfl rfl (Nat.le_of_ble_eq_true rfl) dX4_stopThoseThatRanLow_44 (fun H locs hP _ hS => ?_)
      have hP : va_P (dC, dI) vwCl ((o_X4 cy h0 a0 (ob_I w0 10 (fun _ => (w0.1 10 0) &&& (((1 : Int32) <<< (l1 &&& 31)) ^^^ (-1 : Int32)))))) H := hP
      obtain ⟨u5, hP, hm⟩ := bn_ob (P := fun zz => va_P (dC, dI) vwCl ((o_X4 cy h0 a0 zz)) H) hm hP
      exact hB47 (bX4_stopThoseThatRanLow_2 fu nn) ih u5 l1 _ _ ls hm hP hS (lv_sub hl [0, 1] rfl)
  unfold mX4_stopThoseThatRanLow at hm
  refine lv_iconst (v := (0 : Int32)) hx hb dX4_stopThoseThatRanLow_0 (by decide) ?_
  refine lv_istore_n (lv' := [(1, .int (0 : Int32)), (0, .ref h0)]) hx hb dX4_stopThoseThatRanLow_1 rfl hl (by decide) rfl (fun ls hl => ?_)
  exact hB2 fu w0 (0 : Int32) _ _ ls hm hP hS (lv_sub hl [1, 0] rfl)
set_option maxHeartbeats 4000000 in
set_option maxRecDepth 100000 in
theorem kcX4_clear (l : Launch) (dC : Nat → ClassId) (dI : Nat → Nat → Nat) (cy : Nat → ClassId) (fu : Nat) (h0 : Nat) (a0 : Nat → Nat) (w0 : ob_T) (sz : Nat) (R : ob_T) (hm : mX4_clear fu w0 = some R) : Met l yX4_clear wsX4_clear (rmN 0 0) (va_Pc [.ref h0] (cPre dC dI cy ((o_X4 cy h0 a0 w0)) sz)) (va_Qv (fun (_ : Unit) => True) (fun _ => cPost dC dI cy ((o_X4 cy h0 a0 w0)) ((o_X4 cy h0 a0 R)) sz) (va_A ((o_X4 cy h0 a0 w0)) sz)) 0 0 (va_A ((o_X4 cy h0 a0 w0)) sz) := by
  refine mt_v (cc := cX4_clear) (maxL := 1) (by decide) rfl (Nat.le_of_ble_eq_true rfl) rfl ?_
  intro p e s m below meth c Q A hx hb hml hown hts hK hA hD hP hret ls hl
  have hown : s.vm.findClass RX4 = some m.cls := hown
  have hl : lv_has ls 1 [(0, .ref h0)] := hl
  have hDa : ∀ v0 : ob_T, va_D A ((o_X4 cy h0 a0 v0)) := fun _ => va_D_adr hD rfl
  have i4 : ∀ w ∈ wsX40, w ∈ wsX4_clear := fun _ h => List.mem_cons_of_mem _ (List.mem_append_right _ h)
  have hS : va_S A s.heap s.heap [] := va_S.rf
  unfold mX4_clear at hm
  refine lv_aload_n hx hb dX4_clear_0 rfl (lv_at hl 0 rfl) ?_
  refine lv_iconst (v := (0 : Int32)) hx hb dX4_clear_1 (by decide) ?_
  refine va_put (D := (dC, dI)) (ci := 4) (v := .int (0 : Int32)) (ty := .int) (C := RX4) (T := TX4) (N := 17) hx hb hts i4 tyX4 tyX4_ok nmX4 hown hK hP (hDa _) hS 0 rfl rfl 9 (by decide) (hts (.fieldLink RX4 40 "TwoMetals$World" "told" "I") (List.mem_of_getElem? (i := 1) rfl)) (fun _ h9 => h9) rfl (tyX4_ok 9 (by decide)) rfl rfl (Nat.le_of_ble_eq_true rfl) dX4_clear_2 (fun H locs hP _ hS => ?_)
  have hP : va_P (dC, dI) vwCl ((o_X4 cy h0 a0 (ob_I w0 9 (fun _ => (0 : Int32))))) H := hP
  obtain ⟨u1, hP, hm⟩ := bn_ob (P := fun zz => va_P (dC, dI) vwCl ((o_X4 cy h0 a0 zz)) H) hm hP
  refine lv_aload_n hx hb dX4_clear_5 rfl (lv_at hl 0 rfl) ?_
  refine lv_iconst (v := (0 : Int32)) hx hb dX4_clear_6 (by decide) ?_
  refine va_put (D := (dC, dI)) (ci := 4) (v := .int (0 : Int32)) (ty := .int) (C := RX4) (T := TX4) (N := 17) hx hb hts i4 tyX4 tyX4_ok nmX4 hown hK hP (hDa _) hS 0 rfl rfl 10 (by decide) (hts (.fieldLink RX4 44 "TwoMetals$World" "minting" "I") (List.mem_of_getElem? (i := 2) rfl)) (fun _ h9 => h9) rfl (tyX4_ok 10 (by decide)) rfl rfl (Nat.le_of_ble_eq_true rfl) dX4_clear_7 (fun H locs hP _ hS => ?_)
  have hP : va_P (dC, dI) vwCl ((o_X4 cy h0 a0 (ob_I u1 10 (fun _ => (0 : Int32))))) H := hP
  obtain ⟨u2, hP, hm⟩ := bn_ob (P := fun zz => va_P (dC, dI) vwCl ((o_X4 cy h0 a0 zz)) H) hm hP
  refine lv_aload_n hx hb dX4_clear_10 rfl (lv_at hl 0 rfl) ?_
  refine lv_iconst (v := (0 : Int32)) hx hb dX4_clear_11 (by decide) ?_
  refine va_put (D := (dC, dI)) (ci := 4) (v := .int (0 : Int32)) (ty := .int) (C := RX4) (T := TX4) (N := 17) hx hb hts i4 tyX4 tyX4_ok nmX4 hown hK hP (hDa _) hS 0 rfl rfl 11 (by decide) (hts (.fieldLink RX4 47 "TwoMetals$World" "limping" "I") (List.mem_of_getElem? (i := 3) rfl)) (fun _ h9 => h9) rfl (tyX4_ok 11 (by decide)) rfl rfl (Nat.le_of_ble_eq_true rfl) dX4_clear_12 (fun H locs hP _ hS => ?_)
  have hP : va_P (dC, dI) vwCl ((o_X4 cy h0 a0 (ob_I u2 11 (fun _ => (0 : Int32))))) H := hP
  obtain ⟨u3, hP, hm⟩ := bn_ob (P := fun zz => va_P (dC, dI) vwCl ((o_X4 cy h0 a0 zz)) H) hm hP
  refine lv_aload_n hx hb dX4_clear_15 rfl (lv_at hl 0 rfl) ?_
  refine lv_lconst (v := (0 : Int64)) hx hb dX4_clear_16 (by decide) ?_
  refine va_put (D := (dC, dI)) (ci := 4) (v := .long (0 : Int64)) (ty := .long) (C := RX4) (T := TX4) (N := 17) hx hb hts i4 tyX4 tyX4_ok nmX4 hown hK hP (hDa _) hS 0 rfl rfl 12 (by decide) (hts (.fieldLink RX4 50 "TwoMetals$World" "marketGold" "J") (List.mem_of_getElem? (i := 4) rfl)) (fun _ h9 => h9) rfl (tyX4_ok 12 (by decide)) rfl rfl (Nat.le_of_ble_eq_true rfl) dX4_clear_17 (fun H locs hP _ hS => ?_)
  have hP : va_P (dC, dI) vwCl ((o_X4 cy h0 a0 (ob_L u3 12 (fun _ => (0 : Int64))))) H := hP
  obtain ⟨u4, hP, hm⟩ := bn_ob (P := fun zz => va_P (dC, dI) vwCl ((o_X4 cy h0 a0 zz)) H) hm hP
  refine lv_aload_n hx hb dX4_clear_20 rfl (lv_at hl 0 rfl) ?_
  refine lv_lconst (v := (0 : Int64)) hx hb dX4_clear_21 (by decide) ?_
  refine va_put (D := (dC, dI)) (ci := 4) (v := .long (0 : Int64)) (ty := .long) (C := RX4) (T := TX4) (N := 17) hx hb hts i4 tyX4 tyX4_ok nmX4 hown hK hP (hDa _) hS 0 rfl rfl 13 (by decide) (hts (.fieldLink RX4 54 "TwoMetals$World" "marketSilver" "J") (List.mem_of_getElem? (i := 5) rfl)) (fun _ h9 => h9) rfl (tyX4_ok 13 (by decide)) rfl rfl (Nat.le_of_ble_eq_true rfl) dX4_clear_22 (fun H locs hP _ hS => ?_)
  have hP : va_P (dC, dI) vwCl ((o_X4 cy h0 a0 (ob_L u4 13 (fun _ => (0 : Int64))))) H := hP
  obtain ⟨u5, hP, hm⟩ := bn_ob (P := fun zz => va_P (dC, dI) vwCl ((o_X4 cy h0 a0 zz)) H) hm hP
  refine lv_aload_n hx hb dX4_clear_25 rfl (lv_at hl 0 rfl) ?_
  refine lv_sipush (v := (1000 : Int32)) hx hb dX4_clear_26 (by decide) ?_
  refine va_put (D := (dC, dI)) (ci := 4) (v := .int (1000 : Int32)) (ty := .int) (C := RX4) (T := TX4) (N := 17) hx hb hts i4 tyX4 tyX4_ok nmX4 hown hK hP (hDa _) hS 0 rfl rfl 14 (by decide) (hts (.fieldLink RX4 57 "TwoMetals$World" "scarcity" "I") (List.mem_of_getElem? (i := 6) rfl)) (fun _ h9 => h9) rfl (tyX4_ok 14 (by decide)) rfl rfl (Nat.le_of_ble_eq_true rfl) dX4_clear_29 (fun H locs hP _ hS => ?_)
  have hP : va_P (dC, dI) vwCl ((o_X4 cy h0 a0 (ob_I u5 14 (fun _ => (1000 : Int32))))) H := hP
  obtain ⟨u6, hP, hm⟩ := bn_ob (P := fun zz => va_P (dC, dI) vwCl ((o_X4 cy h0 a0 zz)) H) hm hP
  refine lv_aload_n hx hb dX4_clear_32 rfl (lv_at hl 0 rfl) ?_
  refine lv_ldc (v := (1000000 : Int32)) hx hb hown (hts (.constant RX4 60 (1000000)) (List.mem_of_getElem? (i := 7) rfl)) dX4_clear_33 ?_
  refine va_put (D := (dC, dI)) (ci := 4) (v := .int (1000000 : Int32)) (ty := .int) (C := RX4) (T := TX4) (N := 17) hx hb hts i4 tyX4 tyX4_ok nmX4 hown hK hP (hDa _) hS 0 rfl rfl 15 (by decide) (hts (.fieldLink RX4 61 "TwoMetals$World" "price" "I") (List.mem_of_getElem? (i := 8) rfl)) (fun _ h9 => h9) rfl (tyX4_ok 15 (by decide)) rfl rfl (Nat.le_of_ble_eq_true rfl) dX4_clear_35 (fun H locs hP _ hS => ?_)
  have hP : va_P (dC, dI) vwCl ((o_X4 cy h0 a0 (ob_I u6 15 (fun _ => (1000000 : Int32))))) H := hP
  obtain ⟨u7, hP, hm⟩ := bn_ob (P := fun zz => va_P (dC, dI) vwCl ((o_X4 cy h0 a0 zz)) H) hm hP
  refine lv_aload_n hx hb dX4_clear_38 rfl (lv_at hl 0 rfl) ?_
  refine lv_iconst (v := (0 : Int32)) hx hb dX4_clear_39 (by decide) ?_
  refine va_put (D := (dC, dI)) (ci := 4) (v := .int (0 : Int32)) (ty := .int) (C := RX4) (T := TX4) (N := 17) hx hb hts i4 tyX4 tyX4_ok nmX4 hown hK hP (hDa _) hS 0 rfl rfl 16 (by decide) (hts (.fieldLink RX4 64 "TwoMetals$World" "age" "I") (List.mem_of_getElem? (i := 9) rfl)) (fun _ h9 => h9) rfl (tyX4_ok 16 (by decide)) rfl rfl (Nat.le_of_ble_eq_true rfl) dX4_clear_40 (fun H locs hP _ hS => ?_)
  have hP : va_P (dC, dI) vwCl ((o_X4 cy h0 a0 (ob_I u7 16 (fun _ => (0 : Int32))))) H := hP
  obtain ⟨u8, hP, hm⟩ := bn_ob (P := fun zz => va_P (dC, dI) vwCl ((o_X4 cy h0 a0 zz)) H) hm hP
  obtain rfl := Option.some.inj hm
  exact hret 43 ls _ _ dX4_clear_43 hP hS
set_option maxHeartbeats 4000000 in
set_option maxRecDepth 100000 in
theorem kcX4_has (l : Launch) (dC : Nat → ClassId) (dI : Nat → Nat → Nat) (cy : Nat → ClassId) (fu : Nat) (h0 : Nat) (a0 : Nat → Nat) (w0 : ob_T) (p1 : Int32) (sz : Nat) (R : Int32) (hm : mX4_has fu w0 p1 = some R) : Met l yX4_has wsX4_has (rmN 0 0) (va_Pc [.ref h0, .int p1] (cPre dC dI cy ((o_X4 cy h0 a0 w0)) sz)) (va_Qi (fun (r : Int32) (_ : Unit) => r = R) (fun _ => cPost dC dI cy ((o_X4 cy h0 a0 w0)) ((o_X4 cy h0 a0 w0)) sz) (va_A ((o_X4 cy h0 a0 w0)) sz)) 0 0 (va_A ((o_X4 cy h0 a0 w0)) sz) := by
  refine mt_z (cc := cX4_has) (maxL := 2) (by decide) rfl (Nat.le_of_ble_eq_true rfl) rfl ?_
  intro p e s m below meth c Q A hx hb hml hown hts hK hA hD hP hret ls hl
  have hown : s.vm.findClass RX4 = some m.cls := hown
  have hl : lv_has ls 2 [(0, .ref h0), (1, .int p1)] := hl
  have hDa : ∀ v0 : ob_T, va_D A ((o_X4 cy h0 a0 v0)) := fun _ => va_D_adr hD rfl
  have i4 : ∀ w ∈ wsX40, w ∈ wsX4_has := fun _ h => List.mem_cons_of_mem _ (List.mem_append_right _ h)
  have hS : va_S A s.heap s.heap [] := va_S.rf
  unfold mX4_has at hm
  refine lv_iload_n hx hb dX4_has_0 rfl (lv_at hl 1 rfl) ?_
  refine lv_if_lt (tgt := 26) hx hb dX4_has_1 (by decide) (fun hc => ?_) (fun hc => ?_)
  · replace hm := (if_pos hc).symm.trans hm
    refine lv_iconst (v := (0 : Int32)) hx hb dX4_has_26 (by decide) ?_
    obtain rfl := Option.some.inj hm
    exact hret 27 ls _ _ dX4_has_27 nar_0 hP hS
  replace hm := (if_neg hc).symm.trans hm
  refine lv_iload_n hx hb dX4_has_4 rfl (lv_at hl 1 rfl) ?_
  refine lv_bipush (v := (8 : Int32)) hx hb dX4_has_5 (by decide) ?_
  refine lv_icmp_ge (tgt := 26) hx hb dX4_has_7 (by decide) (fun hc => ?_) (fun hc => ?_)
  · replace hm := (if_pos hc).symm.trans hm
    refine lv_iconst (v := (0 : Int32)) hx hb dX4_has_26 (by decide) ?_
    obtain rfl := Option.some.inj hm
    exact hret 27 ls _ _ dX4_has_27 nar_0 hP hS
  replace hm := (if_neg hc).symm.trans hm
  refine lv_aload_n hx hb dX4_has_10 rfl (lv_at hl 0 rfl) ?_
  refine va_get (D := (dC, dI)) (ci := 4) (v := .int (w0.1 9 0)) (C := RX4) (T := TX4) (N := 17) hx hb hts i4 hown hK hP 0 rfl rfl 9 (by decide) (hts (.fieldLink RX4 40 "TwoMetals$World" "told" "I") (List.mem_of_getElem? (i := 1) rfl)) (fun _ h9 => h9) rfl dX4_has_11 ?_
  refine lv_iload_n hx hb dX4_has_14 rfl (lv_at hl 1 rfl) ?_
  refine lv_ishr hx hb dX4_has_15 ?_
  refine lv_iconst (v := (1 : Int32)) hx hb dX4_has_16 (by decide) ?_
  refine lv_iand hx hb dX4_has_17 ?_
  refine lv_iconst (v := (1 : Int32)) hx hb dX4_has_18 (by decide) ?_
  refine lv_icmp_ne (tgt := 26) hx hb dX4_has_19 (by decide) (fun hc => ?_) (fun hc => ?_)
  · replace hm := (if_neg hc).symm.trans hm
    refine lv_iconst (v := (0 : Int32)) hx hb dX4_has_26 (by decide) ?_
    obtain rfl := Option.some.inj hm
    exact hret 27 ls _ _ dX4_has_27 nar_0 hP hS
  replace hm := (if_pos hc).symm.trans hm
  refine lv_iconst (v := (1 : Int32)) hx hb dX4_has_22 (by decide) ?_
  refine lv_goto (tgt := 27) hx hb dX4_has_23 (by decide) ?_
  obtain rfl := Option.some.inj hm
  exact hret 27 ls _ _ dX4_has_27 nar_1 hP hS
set_option maxHeartbeats 4000000 in
set_option maxRecDepth 100000 in
theorem kcX4_setLaw (l : Launch) (dC : Nat → ClassId) (dI : Nat → Nat → Nat) (cy : Nat → ClassId) (fu : Nat) (h0 : Nat) (a0 : Nat → Nat) (w0 : ob_T) (p1 : Int32) (p2 : Int32) (sz : Nat) (R : ob_T) (hm : mX4_setLaw fu w0 p1 p2 = some R) : Met l yX4_setLaw wsX4_setLaw (rmN 1 30) (va_Pc [.ref h0, .int p1, .int p2] (cPre dC dI cy ((o_X4 cy h0 a0 w0)) sz)) (va_Qv (fun (_ : Unit) => True) (fun _ => cPost dC dI cy ((o_X4 cy h0 a0 w0)) ((o_X4 cy h0 a0 R)) sz) (va_A ((o_X4 cy h0 a0 w0)) sz)) 0 0 (va_A ((o_X4 cy h0 a0 w0)) sz) := by
  refine mt_v (cc := cX4_setLaw) (maxL := 8) (by decide) rfl (Nat.le_of_ble_eq_true rfl) rfl ?_
  intro p e s m below meth c Q A hx hb hml hown hts hK hA hD hP hret ls hl
  have hown : s.vm.findClass RX4 = some m.cls := hown
  have hl : lv_has ls 8 [(0, .ref h0), (1, .int p1), (2, .int p2)] := hl
  have hDa : ∀ v0 : ob_T, va_D A ((o_X4 cy h0 a0 v0)) := fun _ => va_D_adr hD rfl
  have i4 : ∀ w ∈ wsX40, w ∈ wsX4_setLaw := fun _ h => List.mem_cons_of_mem _ (List.mem_append_right _ h)
  have hS : va_S A s.heap s.heap [] := va_S.rf
  unfold mX4_setLaw at hm
  refine lv_aload_n hx hb dX4_setLaw_0 rfl (lv_at hl 0 rfl) ?_
  refine va_get (D := (dC, dI)) (ci := 4) (v := .ref (a0 0)) (C := RX4) (T := TX4) (N := 17) hx hb hts i4 hown hK hP 0 rfl rfl 0 (by decide) (hts (.fieldLink RX4 9 "TwoMetals$World" "law" "[I") (List.mem_of_getElem? (i := 1) rfl)) (fun _ h9 => h9) rfl dX4_setLaw_1 ?_
  refine lv_iload_n hx hb dX4_setLaw_4 rfl (lv_at hl 1 rfl) ?_
  refine lv_iload_n hx hb dX4_setLaw_5 rfl (lv_at hl 2 rfl) ?_
  obtain ⟨hi1, hm⟩ := ck_in hm
  refine va_iast hx hb hK hP (hDa _) hS 1 0 rfl rfl hi1 dX4_setLaw_6 (fun H locs hP _ hS => ?_)
  have hP : va_P (dC, dI) vwCl ((o_X4 cy h0 a0 (ob_I w0 0 (upd (w0.1 0) p1.toNatClampNeg p2)))) H := hP
  obtain ⟨u2, hP, hm⟩ := bn_ob (P := fun zz => va_P (dC, dI) vwCl ((o_X4 cy h0 a0 zz)) H) hm hP
  refine lv_sipush (v := (1000 : Int32)) hx hb dX4_setLaw_7 (by decide) ?_
  refine lv_aload_n hx hb dX4_setLaw_10 rfl (lv_at hl 0 rfl) ?_
  refine va_get (D := (dC, dI)) (ci := 4) (v := .ref (a0 2)) (C := RX4) (T := TX4) (N := 17) hx hb hts i4 hown hK hP 0 rfl rfl 2 (by decide) (hts (.fieldLink RX4 18 "TwoMetals$World" "way" "[I") (List.mem_of_getElem? (i := 2) rfl)) (fun _ h9 => h9) rfl dX4_setLaw_11 ?_
  refine lv_iload_n hx hb dX4_setLaw_14 rfl (lv_at hl 1 rfl) ?_
  refine va_iald hx hb hK hP 3 0 rfl rfl hi1 dX4_setLaw_15 ?_
  refine lv_iadd hx hb dX4_setLaw_16 ?_
  refine lv_topi (fun x3 e4 => ?_)
  replace hm := bn_at e4 hm
  refine lv_istore_n (lv' := [(3, .int x3), (0, .ref h0), (1, .int p1), (2, .int p2)]) hx hb dX4_setLaw_17 rfl hl (by decide) rfl (fun ls hl => ?_)
  refine lv_ldc2 (v := (1000 : Int64)) hx hb hown (hts (.constantLong RX4 73 (1000)) (List.mem_of_getElem? (i := 3) rfl)) dX4_setLaw_18 ?_
  refine lv_iconst (v := (0 : Int32)) hx hb dX4_setLaw_21 (by decide) ?_
  refine lv_iload_n hx hb dX4_setLaw_22 rfl (lv_at hl 3 rfl) ?_
  refine lv_aload_n hx hb dX4_setLaw_23 rfl (lv_at hl 1 rfl) ?_
  refine va_get (D := (dC, dI)) (ci := 4) (v := .ref (a0 1)) (C := RX4) (T := TX4) (N := 17) hx hb hts i4 hown hK hP 0 rfl rfl 1 (by decide) (hts (.fieldLink RX4 15 "TwoMetals$World" "cut" "[I") (List.mem_of_getElem? (i := 4) rfl)) (fun _ h9 => h9) rfl dX4_setLaw_24 ?_
  refine lv_iload_n hx hb dX4_setLaw_27 rfl (lv_at hl 2 rfl) ?_
  refine va_iald hx hb hK hP 2 0 rfl rfl hi1 dX4_setLaw_28 ?_
  refine lv_isub hx hb dX4_setLaw_29 ?_
  refine va_mmax hx hb (hml.trans hl.1.symm) hown (hts (.methodLink RX4 75 Lib.Math.max.name) (List.mem_of_getElem? (i := 5) rfl)) (hts (.static Lib.Math.max.name) (List.mem_of_getElem? (i := 6) rfl)) (hts (.initialized "java/lang/Math") (List.mem_of_getElem? (i := 7) rfl)) (hts (.code Lib.Math.max.name Lib.Math.max.code 2 (some .int)) (List.mem_of_getElem? (i := 8) rfl)) (Nat.le_of_ble_eq_true rfl) (Nat.le_of_ble_eq_true rfl) (Nat.zero_le _) (Nat.zero_le _) dX4_setLaw_30 ?_
  refine lv_i2l (v := (if (0 : Int32) < (p2 - (u2.1 1 p1.toNatClampNeg)) then (p2 - (u2.1 1 p1.toNatClampNeg)) else (0 : Int32)).toInt64) hx hb dX4_setLaw_33 rfl ?_
  refine lv_lmul hx hb dX4_setLaw_34 ?_
  refine lv_topl (fun x5 e6 => ?_)
  replace hm := bn_at e6 hm
  refine lv_lstore (lv' := [(4, .long x5), (3, .int x3), (0, .ref h0), (1, .int p1), (2, .int p2)]) hx hb dX4_setLaw_35 hl (by decide) rfl (fun ls hl => ?_)
  refine lv_aload_n hx hb dX4_setLaw_37 rfl (lv_at hl 2 rfl) ?_
  refine va_get (D := (dC, dI)) (ci := 4) (v := .ref (a0 5)) (C := RX4) (T := TX4) (N := 17) hx hb hts i4 hown hK hP 0 rfl rfl 5 (by decide) (hts (.fieldLink RX4 27 "TwoMetals$World" "low" "[I") (List.mem_of_getElem? (i := 9) rfl)) (fun _ h9 => h9) rfl dX4_setLaw_38 ?_
  refine lv_iload_n hx hb dX4_setLaw_41 rfl (lv_at hl 3 rfl) ?_
  refine lv_lload hx hb dX4_setLaw_42 (lv_at hl 0 rfl) ?_
  refine lv_iload_n hx hb dX4_setLaw_44 rfl (lv_at hl 1 rfl) ?_
  refine lv_i2l (v := x3.toInt64) hx hb dX4_setLaw_45 rfl ?_
  refine lv_ladd hx hb dX4_setLaw_46 ?_
  refine lv_lconst (v := (1 : Int64)) hx hb dX4_setLaw_47 (by decide) ?_
  refine lv_lsub hx hb dX4_setLaw_48 ?_
  refine lv_iconst (v := (1 : Int32)) hx hb dX4_setLaw_49 (by decide) ?_
  refine lv_iload_n hx hb dX4_setLaw_50 rfl (lv_at hl 1 rfl) ?_
  refine va_mmax hx hb (hml.trans hl.1.symm) hown (hts (.methodLink RX4 75 Lib.Math.max.name) (List.mem_of_getElem? (i := 5) rfl)) (hts (.static Lib.Math.max.name) (List.mem_of_getElem? (i := 6) rfl)) (hts (.initialized "java/lang/Math") (List.mem_of_getElem? (i := 7) rfl)) (hts (.code Lib.Math.max.name Lib.Math.max.code 2 (some .int)) (List.mem_of_getElem? (i := 8) rfl)) (Nat.le_of_ble_eq_true rfl) (Nat.le_of_ble_eq_true rfl) (Nat.zero_le _) (Nat.zero_le _) dX4_setLaw_51 ?_
  refine lv_i2l (v := (if (1 : Int32) < x3 then x3 else (1 : Int32)).toInt64) hx hb dX4_setLaw_54 rfl ?_
  obtain ⟨hz7, hm⟩ := ck_dv hm
  refine lv_ldiv hx hb dX4_setLaw_55 hz7 ?_
  refine lv_l2i (v := (((x5 + x3.toInt64) - (1 : Int64)) / ((if (1 : Int32) < x3 then x3 else (1 : Int32)).toInt64)).toInt32) hx hb dX4_setLaw_56 rfl ?_
  refine va_iast hx hb hK hP (hDa _) hS 6 0 rfl rfl hi1 dX4_setLaw_57 (fun H locs hP _ hS => ?_)
  have hP : va_P (dC, dI) vwCl ((o_X4 cy h0 a0 (ob_I u2 5 (upd (u2.1 5) p1.toNatClampNeg ((((x5 + x3.toInt64) - (1 : Int64)) / ((if (1 : Int32) < x3 then x3 else (1 : Int32)).toInt64)).toInt32))))) H := hP
  obtain ⟨u8, hP, hm⟩ := bn_ob (P := fun zz => va_P (dC, dI) vwCl ((o_X4 cy h0 a0 zz)) H) hm hP
  refine lv_ldc2 (v := (1000 : Int64)) hx hb hown (hts (.constantLong RX4 73 (1000)) (List.mem_of_getElem? (i := 3) rfl)) dX4_setLaw_58 ?_
  refine lv_iload_n hx hb dX4_setLaw_61 rfl (lv_at hl 4 rfl) ?_
  refine lv_aload_n hx hb dX4_setLaw_62 rfl (lv_at hl 2 rfl) ?_
  refine va_get (D := (dC, dI)) (ci := 4) (v := .ref (a0 1)) (C := RX4) (T := TX4) (N := 17) hx hb hts i4 hown hK hP 0 rfl rfl 1 (by decide) (hts (.fieldLink RX4 15 "TwoMetals$World" "cut" "[I") (List.mem_of_getElem? (i := 4) rfl)) (fun _ h9 => h9) rfl dX4_setLaw_63 ?_
  refine lv_iload_n hx hb dX4_setLaw_66 rfl (lv_at hl 3 rfl) ?_
  refine va_iald hx hb hK hP 2 0 rfl rfl hi1 dX4_setLaw_67 ?_
  refine lv_iadd hx hb dX4_setLaw_68 ?_
  refine lv_i2l (v := (p2 + (u8.1 1 p1.toNatClampNeg)).toInt64) hx hb dX4_setLaw_69 rfl ?_
  refine lv_lmul hx hb dX4_setLaw_70 ?_
  refine lv_iconst (v := (1 : Int32)) hx hb dX4_setLaw_71 (by decide) ?_
  refine lv_sipush (v := (1000 : Int32)) hx hb dX4_setLaw_72 (by decide) ?_
  refine lv_aload_n hx hb dX4_setLaw_75 rfl (lv_at hl 2 rfl) ?_
  refine va_get (D := (dC, dI)) (ci := 4) (v := .ref (a0 2)) (C := RX4) (T := TX4) (N := 17) hx hb hts i4 hown hK hP 0 rfl rfl 2 (by decide) (hts (.fieldLink RX4 18 "TwoMetals$World" "way" "[I") (List.mem_of_getElem? (i := 2) rfl)) (fun _ h9 => h9) rfl dX4_setLaw_76 ?_
  refine lv_iload_n hx hb dX4_setLaw_79 rfl (lv_at hl 3 rfl) ?_
  refine va_iald hx hb hK hP 3 0 rfl rfl hi1 dX4_setLaw_80 ?_
  refine lv_isub hx hb dX4_setLaw_81 ?_
  refine va_mmax hx hb (hml.trans hl.1.symm) hown (hts (.methodLink RX4 75 Lib.Math.max.name) (List.mem_of_getElem? (i := 5) rfl)) (hts (.static Lib.Math.max.name) (List.mem_of_getElem? (i := 6) rfl)) (hts (.initialized "java/lang/Math") (List.mem_of_getElem? (i := 7) rfl)) (hts (.code Lib.Math.max.name Lib.Math.max.code 2 (some .int)) (List.mem_of_getElem? (i := 8) rfl)) (Nat.le_of_ble_eq_true rfl) (Nat.le_of_ble_eq_true rfl) (Nat.zero_le _) (Nat.zero_le _) dX4_setLaw_82 ?_
  refine lv_i2l (v := (if (1 : Int32) < ((1000 : Int32) - (u8.1 2 p1.toNatClampNeg)) then ((1000 : Int32) - (u8.1 2 p1.toNatClampNeg)) else (1 : Int32)).toInt64) hx hb dX4_setLaw_85 rfl ?_
  obtain ⟨hz9, hm⟩ := ck_dv hm
  refine lv_ldiv hx hb dX4_setLaw_86 hz9 ?_
  refine lv_topl (fun x10 e11 => ?_)
  replace hm := bn_at e11 hm
  refine lv_lstore (lv' := [(6, .long x10), (4, .long x5), (3, .int x3), (0, .ref h0), (1, .int p1), (2, .int p2)]) hx hb dX4_setLaw_87 hl (by decide) rfl (fun ls hl => ?_)
  refine lv_aload_n hx hb dX4_setLaw_89 rfl (lv_at hl 3 rfl) ?_
  refine va_get (D := (dC, dI)) (ci := 4) (v := .ref (a0 6)) (C := RX4) (T := TX4) (N := 17) hx hb hts i4 hown hK hP 0 rfl rfl 6 (by decide) (hts (.fieldLink RX4 30 "TwoMetals$World" "high" "[I") (List.mem_of_getElem? (i := 10) rfl)) (fun _ h9 => h9) rfl dX4_setLaw_90 ?_
  refine lv_iload_n hx hb dX4_setLaw_93 rfl (lv_at hl 4 rfl) ?_
  refine lv_lload hx hb dX4_setLaw_94 (lv_at hl 0 rfl) ?_
  refine lv_ldc2 (v := (1000000 : Int64)) hx hb hown (hts (.constantLong RX4 81 (1000000)) (List.mem_of_getElem? (i := 11) rfl)) dX4_setLaw_96 ?_
  refine va_mmin_long hx hb (hml.trans hl.1.symm) hown (hts (.methodLink RX4 83 Lib.MathLoose.min_long.x) (List.mem_of_getElem? (i := 12) rfl)) (hts (.static Lib.MathLoose.min_long.x) (List.mem_of_getElem? (i := 13) rfl)) (hts (.initialized "java/lang/Math") (List.mem_of_getElem? (i := 7) rfl)) (hts (.code Lib.MathLoose.min_long.x Lib.MathLoose.min_long.code 4 (some .long)) (List.mem_of_getElem? (i := 14) rfl)) (Nat.le_of_ble_eq_true rfl) (Nat.le_of_ble_eq_true rfl) (Nat.zero_le _) (Nat.zero_le _) dX4_setLaw_99 ?_
  refine lv_l2i (v := (if (1000000 : Int64) < x10 then (1000000 : Int64) else x10).toInt32) hx hb dX4_setLaw_102 rfl ?_
  refine va_iast hx hb hK hP (hDa _) hS 7 0 rfl rfl hi1 dX4_setLaw_103 (fun H locs hP _ hS => ?_)
  have hP : va_P (dC, dI) vwCl ((o_X4 cy h0 a0 (ob_I u8 6 (upd (u8.1 6) p1.toNatClampNeg ((if (1000000 : Int64) < x10 then (1000000 : Int64) else x10).toInt32))))) H := hP
  obtain ⟨u12, hP, hm⟩ := bn_ob (P := fun zz => va_P (dC, dI) vwCl ((o_X4 cy h0 a0 zz)) H) hm hP
  obtain rfl := Option.some.inj hm
  exact hret 104 ls _ _ dX4_setLaw_104 hP hS
set_option maxHeartbeats 4000000 in
set_option maxRecDepth 100000 in
theorem kcX4_copyFrom (l : Launch) (dC : Nat → ClassId) (dI : Nat → Nat → Nat) (cy : Nat → ClassId) (fu : Nat) (h0 : Nat) (a0 : Nat → Nat) (w0 : ob_T) (h1 : Nat) (a1 : Nat → Nat) (w1 : ob_T) (sz : Nat) (R : ob_T) (hm : mX4_copyFrom fu w0 w1 = some R) : Met l yX4_copyFrom wsX4_copyFrom (rmN 1 30) (va_Pc [.ref h0, .ref h1] (cPre dC dI cy ((o_X4 cy h0 a0 w0) ++ (o_X4 cy h1 a1 w1)) sz)) (va_Qv (fun (_ : Unit) => True) (fun _ => cPost dC dI cy ((o_X4 cy h0 a0 w0) ++ (o_X4 cy h1 a1 w1)) ((o_X4 cy h0 a0 R) ++ (o_X4 cy h1 a1 w1)) sz) (va_A ((o_X4 cy h0 a0 w0) ++ (o_X4 cy h1 a1 w1)) sz)) 0 0 (va_A ((o_X4 cy h0 a0 w0) ++ (o_X4 cy h1 a1 w1)) sz) := by
  refine mt_v (cc := cX4_copyFrom) (maxL := 2) (by decide) rfl (Nat.le_of_ble_eq_true rfl) rfl ?_
  intro p e s m below meth c Q A hx hb hml hown hts hK hA hD hP hret ls hl
  have hown : s.vm.findClass RX4 = some m.cls := hown
  have hl : lv_has ls 2 [(0, .ref h0), (1, .ref h1)] := hl
  have hDa : ∀ v0 v1 : ob_T, va_D A ((o_X4 cy h0 a0 v0) ++ (o_X4 cy h1 a1 v1)) := fun _ _ => va_D_adr hD rfl
  have i4 : ∀ w ∈ wsX40, w ∈ wsX4_copyFrom := fun _ h => List.mem_cons_of_mem _ (List.mem_append_right _ h)
  have hS : va_S A s.heap s.heap [] := va_S.rf
  unfold mX4_copyFrom at hm
  refine lv_aload_n hx hb dX4_copyFrom_0 rfl (lv_at hl 1 rfl) ?_
  refine va_get (D := (dC, dI)) (ci := 4) (v := .ref (a1 0)) (C := RX4) (T := TX4) (N := 17) hx hb hts i4 hown hK hP 10 rfl rfl 0 (by decide) (hts (.fieldLink RX4 9 "TwoMetals$World" "law" "[I") (List.mem_of_getElem? (i := 1) rfl)) (fun _ h9 => h9) rfl dX4_copyFrom_1 ?_
  refine lv_iconst (v := (0 : Int32)) hx hb dX4_copyFrom_4 (by decide) ?_
  refine lv_aload_n hx hb dX4_copyFrom_5 rfl (lv_at hl 0 rfl) ?_
  refine va_get (D := (dC, dI)) (ci := 4) (v := .ref (a0 0)) (C := RX4) (T := TX4) (N := 17) hx hb hts i4 hown hK hP 0 rfl rfl 0 (by decide) (hts (.fieldLink RX4 9 "TwoMetals$World" "law" "[I") (List.mem_of_getElem? (i := 1) rfl)) (fun _ h9 => h9) rfl dX4_copyFrom_6 ?_
  refine lv_iconst (v := (0 : Int32)) hx hb dX4_copyFrom_9 (by decide) ?_
  refine lv_bipush (v := (8 : Int32)) hx hb dX4_copyFrom_10 (by decide) ?_
  refine va_copyi hx hb (hml.trans hl.1.symm) hown (hts (.methodLink RX4 67 arraycopyName) (List.mem_of_getElem? (i := 2) rfl)) (hts (.native arraycopyName) (List.mem_of_getElem? (i := 3) rfl)) (hts (.static arraycopyName) (List.mem_of_getElem? (i := 4) rfl)) (hts (.initialized "java/lang/System") (List.mem_of_getElem? (i := 5) rfl)) hK hP (hDa _ _) hS 11 1 0 0 rfl rfl rfl rfl rfl (by decide) (by decide) (by decide) (by decide) (by decide) (fun _ _ => rfl) (Nat.le_of_ble_eq_true rfl) (Nat.le_of_ble_eq_true rfl) dX4_copyFrom_12 (fun H locs hP _ hS => ?_)
  have hP : va_P (dC, dI) vwCl ((o_X4 cy h0 a0 (ob_I w0 0 (va_cpy (w1.1 0) (w0.1 0) (0 : Int32).toNatClampNeg (0 : Int32).toNatClampNeg (8 : Int32).toNatClampNeg))) ++ (o_X4 cy h1 a1 w1)) H := hP
  obtain ⟨u1, hP, hm⟩ := bn_ob (P := fun zz => va_P (dC, dI) vwCl ((o_X4 cy h0 a0 zz) ++ (o_X4 cy h1 a1 w1)) H) hm hP
  refine lv_aload_n hx hb dX4_copyFrom_15 rfl (lv_at hl 1 rfl) ?_
  refine va_get (D := (dC, dI)) (ci := 4) (v := .ref (a1 1)) (C := RX4) (T := TX4) (N := 17) hx hb hts i4 hown hK hP 10 rfl rfl 1 (by decide) (hts (.fieldLink RX4 15 "TwoMetals$World" "cut" "[I") (List.mem_of_getElem? (i := 6) rfl)) (fun _ h9 => h9) rfl dX4_copyFrom_16 ?_
  refine lv_iconst (v := (0 : Int32)) hx hb dX4_copyFrom_19 (by decide) ?_
  refine lv_aload_n hx hb dX4_copyFrom_20 rfl (lv_at hl 0 rfl) ?_
  refine va_get (D := (dC, dI)) (ci := 4) (v := .ref (a0 1)) (C := RX4) (T := TX4) (N := 17) hx hb hts i4 hown hK hP 0 rfl rfl 1 (by decide) (hts (.fieldLink RX4 15 "TwoMetals$World" "cut" "[I") (List.mem_of_getElem? (i := 6) rfl)) (fun _ h9 => h9) rfl dX4_copyFrom_21 ?_
  refine lv_iconst (v := (0 : Int32)) hx hb dX4_copyFrom_24 (by decide) ?_
  refine lv_bipush (v := (8 : Int32)) hx hb dX4_copyFrom_25 (by decide) ?_
  refine va_copyi hx hb (hml.trans hl.1.symm) hown (hts (.methodLink RX4 67 arraycopyName) (List.mem_of_getElem? (i := 2) rfl)) (hts (.native arraycopyName) (List.mem_of_getElem? (i := 3) rfl)) (hts (.static arraycopyName) (List.mem_of_getElem? (i := 4) rfl)) (hts (.initialized "java/lang/System") (List.mem_of_getElem? (i := 5) rfl)) hK hP (hDa _ _) hS 12 2 0 0 rfl rfl rfl rfl rfl (by decide) (by decide) (by decide) (by decide) (by decide) (fun _ _ => rfl) (Nat.le_of_ble_eq_true rfl) (Nat.le_of_ble_eq_true rfl) dX4_copyFrom_27 (fun H locs hP _ hS => ?_)
  have hP : va_P (dC, dI) vwCl ((o_X4 cy h0 a0 (ob_I u1 1 (va_cpy (w1.1 1) (u1.1 1) (0 : Int32).toNatClampNeg (0 : Int32).toNatClampNeg (8 : Int32).toNatClampNeg))) ++ (o_X4 cy h1 a1 w1)) H := hP
  obtain ⟨u2, hP, hm⟩ := bn_ob (P := fun zz => va_P (dC, dI) vwCl ((o_X4 cy h0 a0 zz) ++ (o_X4 cy h1 a1 w1)) H) hm hP
  refine lv_aload_n hx hb dX4_copyFrom_30 rfl (lv_at hl 1 rfl) ?_
  refine va_get (D := (dC, dI)) (ci := 4) (v := .ref (a1 2)) (C := RX4) (T := TX4) (N := 17) hx hb hts i4 hown hK hP 10 rfl rfl 2 (by decide) (hts (.fieldLink RX4 18 "TwoMetals$World" "way" "[I") (List.mem_of_getElem? (i := 7) rfl)) (fun _ h9 => h9) rfl dX4_copyFrom_31 ?_
  refine lv_iconst (v := (0 : Int32)) hx hb dX4_copyFrom_34 (by decide) ?_
  refine lv_aload_n hx hb dX4_copyFrom_35 rfl (lv_at hl 0 rfl) ?_
  refine va_get (D := (dC, dI)) (ci := 4) (v := .ref (a0 2)) (C := RX4) (T := TX4) (N := 17) hx hb hts i4 hown hK hP 0 rfl rfl 2 (by decide) (hts (.fieldLink RX4 18 "TwoMetals$World" "way" "[I") (List.mem_of_getElem? (i := 7) rfl)) (fun _ h9 => h9) rfl dX4_copyFrom_36 ?_
  refine lv_iconst (v := (0 : Int32)) hx hb dX4_copyFrom_39 (by decide) ?_
  refine lv_bipush (v := (8 : Int32)) hx hb dX4_copyFrom_40 (by decide) ?_
  refine va_copyi hx hb (hml.trans hl.1.symm) hown (hts (.methodLink RX4 67 arraycopyName) (List.mem_of_getElem? (i := 2) rfl)) (hts (.native arraycopyName) (List.mem_of_getElem? (i := 3) rfl)) (hts (.static arraycopyName) (List.mem_of_getElem? (i := 4) rfl)) (hts (.initialized "java/lang/System") (List.mem_of_getElem? (i := 5) rfl)) hK hP (hDa _ _) hS 13 3 0 0 rfl rfl rfl rfl rfl (by decide) (by decide) (by decide) (by decide) (by decide) (fun _ _ => rfl) (Nat.le_of_ble_eq_true rfl) (Nat.le_of_ble_eq_true rfl) dX4_copyFrom_42 (fun H locs hP _ hS => ?_)
  have hP : va_P (dC, dI) vwCl ((o_X4 cy h0 a0 (ob_I u2 2 (va_cpy (w1.1 2) (u2.1 2) (0 : Int32).toNatClampNeg (0 : Int32).toNatClampNeg (8 : Int32).toNatClampNeg))) ++ (o_X4 cy h1 a1 w1)) H := hP
  obtain ⟨u3, hP, hm⟩ := bn_ob (P := fun zz => va_P (dC, dI) vwCl ((o_X4 cy h0 a0 zz) ++ (o_X4 cy h1 a1 w1)) H) hm hP
  refine lv_aload_n hx hb dX4_copyFrom_45 rfl (lv_at hl 1 rfl) ?_
  refine va_get (D := (dC, dI)) (ci := 4) (v := .ref (a1 3)) (C := RX4) (T := TX4) (N := 17) hx hb hts i4 hown hK hP 10 rfl rfl 3 (by decide) (hts (.fieldLink RX4 21 "TwoMetals$World" "yearly" "[I") (List.mem_of_getElem? (i := 8) rfl)) (fun _ h9 => h9) rfl dX4_copyFrom_46 ?_
  refine lv_iconst (v := (0 : Int32)) hx hb dX4_copyFrom_49 (by decide) ?_
  refine lv_aload_n hx hb dX4_copyFrom_50 rfl (lv_at hl 0 rfl) ?_
  refine va_get (D := (dC, dI)) (ci := 4) (v := .ref (a0 3)) (C := RX4) (T := TX4) (N := 17) hx hb hts i4 hown hK hP 0 rfl rfl 3 (by decide) (hts (.fieldLink RX4 21 "TwoMetals$World" "yearly" "[I") (List.mem_of_getElem? (i := 8) rfl)) (fun _ h9 => h9) rfl dX4_copyFrom_51 ?_
  refine lv_iconst (v := (0 : Int32)) hx hb dX4_copyFrom_54 (by decide) ?_
  refine lv_bipush (v := (8 : Int32)) hx hb dX4_copyFrom_55 (by decide) ?_
  refine va_copyi hx hb (hml.trans hl.1.symm) hown (hts (.methodLink RX4 67 arraycopyName) (List.mem_of_getElem? (i := 2) rfl)) (hts (.native arraycopyName) (List.mem_of_getElem? (i := 3) rfl)) (hts (.static arraycopyName) (List.mem_of_getElem? (i := 4) rfl)) (hts (.initialized "java/lang/System") (List.mem_of_getElem? (i := 5) rfl)) hK hP (hDa _ _) hS 14 4 0 0 rfl rfl rfl rfl rfl (by decide) (by decide) (by decide) (by decide) (by decide) (fun _ _ => rfl) (Nat.le_of_ble_eq_true rfl) (Nat.le_of_ble_eq_true rfl) dX4_copyFrom_57 (fun H locs hP _ hS => ?_)
  have hP : va_P (dC, dI) vwCl ((o_X4 cy h0 a0 (ob_I u3 3 (va_cpy (w1.1 3) (u3.1 3) (0 : Int32).toNatClampNeg (0 : Int32).toNatClampNeg (8 : Int32).toNatClampNeg))) ++ (o_X4 cy h1 a1 w1)) H := hP
  obtain ⟨u4, hP, hm⟩ := bn_ob (P := fun zz => va_P (dC, dI) vwCl ((o_X4 cy h0 a0 zz) ++ (o_X4 cy h1 a1 w1)) H) hm hP
  refine lv_aload_n hx hb dX4_copyFrom_60 rfl (lv_at hl 1 rfl) ?_
  refine va_get (D := (dC, dI)) (ci := 4) (v := .ref (a1 4)) (C := RX4) (T := TX4) (N := 17) hx hb hts i4 hown hK hP 10 rfl rfl 4 (by decide) (hts (.fieldLink RX4 24 "TwoMetals$World" "stopAt" "[I") (List.mem_of_getElem? (i := 9) rfl)) (fun _ h9 => h9) rfl dX4_copyFrom_61 ?_
  refine lv_iconst (v := (0 : Int32)) hx hb dX4_copyFrom_64 (by decide) ?_
  refine lv_aload_n hx hb dX4_copyFrom_65 rfl (lv_at hl 0 rfl) ?_
  refine va_get (D := (dC, dI)) (ci := 4) (v := .ref (a0 4)) (C := RX4) (T := TX4) (N := 17) hx hb hts i4 hown hK hP 0 rfl rfl 4 (by decide) (hts (.fieldLink RX4 24 "TwoMetals$World" "stopAt" "[I") (List.mem_of_getElem? (i := 9) rfl)) (fun _ h9 => h9) rfl dX4_copyFrom_66 ?_
  refine lv_iconst (v := (0 : Int32)) hx hb dX4_copyFrom_69 (by decide) ?_
  refine lv_bipush (v := (8 : Int32)) hx hb dX4_copyFrom_70 (by decide) ?_
  refine va_copyi hx hb (hml.trans hl.1.symm) hown (hts (.methodLink RX4 67 arraycopyName) (List.mem_of_getElem? (i := 2) rfl)) (hts (.native arraycopyName) (List.mem_of_getElem? (i := 3) rfl)) (hts (.static arraycopyName) (List.mem_of_getElem? (i := 4) rfl)) (hts (.initialized "java/lang/System") (List.mem_of_getElem? (i := 5) rfl)) hK hP (hDa _ _) hS 15 5 0 0 rfl rfl rfl rfl rfl (by decide) (by decide) (by decide) (by decide) (by decide) (fun _ _ => rfl) (Nat.le_of_ble_eq_true rfl) (Nat.le_of_ble_eq_true rfl) dX4_copyFrom_72 (fun H locs hP _ hS => ?_)
  have hP : va_P (dC, dI) vwCl ((o_X4 cy h0 a0 (ob_I u4 4 (va_cpy (w1.1 4) (u4.1 4) (0 : Int32).toNatClampNeg (0 : Int32).toNatClampNeg (8 : Int32).toNatClampNeg))) ++ (o_X4 cy h1 a1 w1)) H := hP
  obtain ⟨u5, hP, hm⟩ := bn_ob (P := fun zz => va_P (dC, dI) vwCl ((o_X4 cy h0 a0 zz) ++ (o_X4 cy h1 a1 w1)) H) hm hP
  refine lv_aload_n hx hb dX4_copyFrom_75 rfl (lv_at hl 1 rfl) ?_
  refine va_get (D := (dC, dI)) (ci := 4) (v := .ref (a1 5)) (C := RX4) (T := TX4) (N := 17) hx hb hts i4 hown hK hP 10 rfl rfl 5 (by decide) (hts (.fieldLink RX4 27 "TwoMetals$World" "low" "[I") (List.mem_of_getElem? (i := 10) rfl)) (fun _ h9 => h9) rfl dX4_copyFrom_76 ?_
  refine lv_iconst (v := (0 : Int32)) hx hb dX4_copyFrom_79 (by decide) ?_
  refine lv_aload_n hx hb dX4_copyFrom_80 rfl (lv_at hl 0 rfl) ?_
  refine va_get (D := (dC, dI)) (ci := 4) (v := .ref (a0 5)) (C := RX4) (T := TX4) (N := 17) hx hb hts i4 hown hK hP 0 rfl rfl 5 (by decide) (hts (.fieldLink RX4 27 "TwoMetals$World" "low" "[I") (List.mem_of_getElem? (i := 10) rfl)) (fun _ h9 => h9) rfl dX4_copyFrom_81 ?_
  refine lv_iconst (v := (0 : Int32)) hx hb dX4_copyFrom_84 (by decide) ?_
  refine lv_bipush (v := (8 : Int32)) hx hb dX4_copyFrom_85 (by decide) ?_
  refine va_copyi hx hb (hml.trans hl.1.symm) hown (hts (.methodLink RX4 67 arraycopyName) (List.mem_of_getElem? (i := 2) rfl)) (hts (.native arraycopyName) (List.mem_of_getElem? (i := 3) rfl)) (hts (.static arraycopyName) (List.mem_of_getElem? (i := 4) rfl)) (hts (.initialized "java/lang/System") (List.mem_of_getElem? (i := 5) rfl)) hK hP (hDa _ _) hS 16 6 0 0 rfl rfl rfl rfl rfl (by decide) (by decide) (by decide) (by decide) (by decide) (fun _ _ => rfl) (Nat.le_of_ble_eq_true rfl) (Nat.le_of_ble_eq_true rfl) dX4_copyFrom_87 (fun H locs hP _ hS => ?_)
  have hP : va_P (dC, dI) vwCl ((o_X4 cy h0 a0 (ob_I u5 5 (va_cpy (w1.1 5) (u5.1 5) (0 : Int32).toNatClampNeg (0 : Int32).toNatClampNeg (8 : Int32).toNatClampNeg))) ++ (o_X4 cy h1 a1 w1)) H := hP
  obtain ⟨u6, hP, hm⟩ := bn_ob (P := fun zz => va_P (dC, dI) vwCl ((o_X4 cy h0 a0 zz) ++ (o_X4 cy h1 a1 w1)) H) hm hP
  refine lv_aload_n hx hb dX4_copyFrom_90 rfl (lv_at hl 1 rfl) ?_
  refine va_get (D := (dC, dI)) (ci := 4) (v := .ref (a1 6)) (C := RX4) (T := TX4) (N := 17) hx hb hts i4 hown hK hP 10 rfl rfl 6 (by decide) (hts (.fieldLink RX4 30 "TwoMetals$World" "high" "[I") (List.mem_of_getElem? (i := 11) rfl)) (fun _ h9 => h9) rfl dX4_copyFrom_91 ?_
  refine lv_iconst (v := (0 : Int32)) hx hb dX4_copyFrom_94 (by decide) ?_
  refine lv_aload_n hx hb dX4_copyFrom_95 rfl (lv_at hl 0 rfl) ?_
  refine va_get (D := (dC, dI)) (ci := 4) (v := .ref (a0 6)) (C := RX4) (T := TX4) (N := 17) hx hb hts i4 hown hK hP 0 rfl rfl 6 (by decide) (hts (.fieldLink RX4 30 "TwoMetals$World" "high" "[I") (List.mem_of_getElem? (i := 11) rfl)) (fun _ h9 => h9) rfl dX4_copyFrom_96 ?_
  refine lv_iconst (v := (0 : Int32)) hx hb dX4_copyFrom_99 (by decide) ?_
  refine lv_bipush (v := (8 : Int32)) hx hb dX4_copyFrom_100 (by decide) ?_
  refine va_copyi hx hb (hml.trans hl.1.symm) hown (hts (.methodLink RX4 67 arraycopyName) (List.mem_of_getElem? (i := 2) rfl)) (hts (.native arraycopyName) (List.mem_of_getElem? (i := 3) rfl)) (hts (.static arraycopyName) (List.mem_of_getElem? (i := 4) rfl)) (hts (.initialized "java/lang/System") (List.mem_of_getElem? (i := 5) rfl)) hK hP (hDa _ _) hS 17 7 0 0 rfl rfl rfl rfl rfl (by decide) (by decide) (by decide) (by decide) (by decide) (fun _ _ => rfl) (Nat.le_of_ble_eq_true rfl) (Nat.le_of_ble_eq_true rfl) dX4_copyFrom_102 (fun H locs hP _ hS => ?_)
  have hP : va_P (dC, dI) vwCl ((o_X4 cy h0 a0 (ob_I u6 6 (va_cpy (w1.1 6) (u6.1 6) (0 : Int32).toNatClampNeg (0 : Int32).toNatClampNeg (8 : Int32).toNatClampNeg))) ++ (o_X4 cy h1 a1 w1)) H := hP
  obtain ⟨u7, hP, hm⟩ := bn_ob (P := fun zz => va_P (dC, dI) vwCl ((o_X4 cy h0 a0 zz) ++ (o_X4 cy h1 a1 w1)) H) hm hP
  refine lv_aload_n hx hb dX4_copyFrom_105 rfl (lv_at hl 1 rfl) ?_
  refine va_get (D := (dC, dI)) (ci := 4) (v := .ref (a1 7)) (C := RX4) (T := TX4) (N := 17) hx hb hts i4 hown hK hP 10 rfl rfl 7 (by decide) (hts (.fieldLink RX4 33 "TwoMetals$World" "gold" "[J") (List.mem_of_getElem? (i := 12) rfl)) (fun _ h9 => h9) rfl dX4_copyFrom_106 ?_
  refine lv_iconst (v := (0 : Int32)) hx hb dX4_copyFrom_109 (by decide) ?_
  refine lv_aload_n hx hb dX4_copyFrom_110 rfl (lv_at hl 0 rfl) ?_
  refine va_get (D := (dC, dI)) (ci := 4) (v := .ref (a0 7)) (C := RX4) (T := TX4) (N := 17) hx hb hts i4 hown hK hP 0 rfl rfl 7 (by decide) (hts (.fieldLink RX4 33 "TwoMetals$World" "gold" "[J") (List.mem_of_getElem? (i := 12) rfl)) (fun _ h9 => h9) rfl dX4_copyFrom_111 ?_
  refine lv_iconst (v := (0 : Int32)) hx hb dX4_copyFrom_114 (by decide) ?_
  refine lv_bipush (v := (8 : Int32)) hx hb dX4_copyFrom_115 (by decide) ?_
  refine va_copyl hx hb (hml.trans hl.1.symm) hown (hts (.methodLink RX4 67 arraycopyName) (List.mem_of_getElem? (i := 2) rfl)) (hts (.native arraycopyName) (List.mem_of_getElem? (i := 3) rfl)) (hts (.static arraycopyName) (List.mem_of_getElem? (i := 4) rfl)) (hts (.initialized "java/lang/System") (List.mem_of_getElem? (i := 5) rfl)) hK hP (hDa _ _) hS 18 8 1 1 rfl rfl rfl rfl rfl (by decide) (by decide) (by decide) (by decide) (by decide) (fun _ _ => rfl) (Nat.le_of_ble_eq_true rfl) (Nat.le_of_ble_eq_true rfl) dX4_copyFrom_117 (fun H locs hP _ hS => ?_)
  have hP : va_P (dC, dI) vwCl ((o_X4 cy h0 a0 (ob_L u7 7 (va_cpy (w1.2 7) (u7.2 7) (0 : Int32).toNatClampNeg (0 : Int32).toNatClampNeg (8 : Int32).toNatClampNeg))) ++ (o_X4 cy h1 a1 w1)) H := hP
  obtain ⟨u8, hP, hm⟩ := bn_ob (P := fun zz => va_P (dC, dI) vwCl ((o_X4 cy h0 a0 zz) ++ (o_X4 cy h1 a1 w1)) H) hm hP
  refine lv_aload_n hx hb dX4_copyFrom_120 rfl (lv_at hl 1 rfl) ?_
  refine va_get (D := (dC, dI)) (ci := 4) (v := .ref (a1 8)) (C := RX4) (T := TX4) (N := 17) hx hb hts i4 hown hK hP 10 rfl rfl 8 (by decide) (hts (.fieldLink RX4 37 "TwoMetals$World" "silver" "[J") (List.mem_of_getElem? (i := 13) rfl)) (fun _ h9 => h9) rfl dX4_copyFrom_121 ?_
  refine lv_iconst (v := (0 : Int32)) hx hb dX4_copyFrom_124 (by decide) ?_
  refine lv_aload_n hx hb dX4_copyFrom_125 rfl (lv_at hl 0 rfl) ?_
  refine va_get (D := (dC, dI)) (ci := 4) (v := .ref (a0 8)) (C := RX4) (T := TX4) (N := 17) hx hb hts i4 hown hK hP 0 rfl rfl 8 (by decide) (hts (.fieldLink RX4 37 "TwoMetals$World" "silver" "[J") (List.mem_of_getElem? (i := 13) rfl)) (fun _ h9 => h9) rfl dX4_copyFrom_126 ?_
  refine lv_iconst (v := (0 : Int32)) hx hb dX4_copyFrom_129 (by decide) ?_
  refine lv_bipush (v := (8 : Int32)) hx hb dX4_copyFrom_130 (by decide) ?_
  refine va_copyl hx hb (hml.trans hl.1.symm) hown (hts (.methodLink RX4 67 arraycopyName) (List.mem_of_getElem? (i := 2) rfl)) (hts (.native arraycopyName) (List.mem_of_getElem? (i := 3) rfl)) (hts (.static arraycopyName) (List.mem_of_getElem? (i := 4) rfl)) (hts (.initialized "java/lang/System") (List.mem_of_getElem? (i := 5) rfl)) hK hP (hDa _ _) hS 19 9 1 1 rfl rfl rfl rfl rfl (by decide) (by decide) (by decide) (by decide) (by decide) (fun _ _ => rfl) (Nat.le_of_ble_eq_true rfl) (Nat.le_of_ble_eq_true rfl) dX4_copyFrom_132 (fun H locs hP _ hS => ?_)
  have hP : va_P (dC, dI) vwCl ((o_X4 cy h0 a0 (ob_L u8 8 (va_cpy (w1.2 8) (u8.2 8) (0 : Int32).toNatClampNeg (0 : Int32).toNatClampNeg (8 : Int32).toNatClampNeg))) ++ (o_X4 cy h1 a1 w1)) H := hP
  obtain ⟨u9, hP, hm⟩ := bn_ob (P := fun zz => va_P (dC, dI) vwCl ((o_X4 cy h0 a0 zz) ++ (o_X4 cy h1 a1 w1)) H) hm hP
  refine lv_aload_n hx hb dX4_copyFrom_135 rfl (lv_at hl 0 rfl) ?_
  refine lv_aload_n hx hb dX4_copyFrom_136 rfl (lv_at hl 1 rfl) ?_
  refine va_get (D := (dC, dI)) (ci := 4) (v := .int (w1.1 9 0)) (C := RX4) (T := TX4) (N := 17) hx hb hts i4 hown hK hP 10 rfl rfl 9 (by decide) (hts (.fieldLink RX4 40 "TwoMetals$World" "told" "I") (List.mem_of_getElem? (i := 14) rfl)) (fun _ h9 => h9) rfl dX4_copyFrom_137 ?_
  refine va_put (D := (dC, dI)) (ci := 4) (v := .int (w1.1 9 0)) (ty := .int) (C := RX4) (T := TX4) (N := 17) hx hb hts i4 tyX4 tyX4_ok nmX4 hown hK hP (hDa _ _) hS 0 rfl rfl 9 (by decide) (hts (.fieldLink RX4 40 "TwoMetals$World" "told" "I") (List.mem_of_getElem? (i := 14) rfl)) (fun _ h9 => h9) rfl (tyX4_ok 9 (by decide)) rfl rfl (Nat.le_of_ble_eq_true rfl) dX4_copyFrom_140 (fun H locs hP _ hS => ?_)
  have hP : va_P (dC, dI) vwCl ((o_X4 cy h0 a0 (ob_I u9 9 (fun _ => w1.1 9 0))) ++ (o_X4 cy h1 a1 w1)) H := hP
  obtain ⟨u10, hP, hm⟩ := bn_ob (P := fun zz => va_P (dC, dI) vwCl ((o_X4 cy h0 a0 zz) ++ (o_X4 cy h1 a1 w1)) H) hm hP
  refine lv_aload_n hx hb dX4_copyFrom_143 rfl (lv_at hl 0 rfl) ?_
  refine lv_aload_n hx hb dX4_copyFrom_144 rfl (lv_at hl 1 rfl) ?_
  refine va_get (D := (dC, dI)) (ci := 4) (v := .int (w1.1 10 0)) (C := RX4) (T := TX4) (N := 17) hx hb hts i4 hown hK hP 10 rfl rfl 10 (by decide) (hts (.fieldLink RX4 44 "TwoMetals$World" "minting" "I") (List.mem_of_getElem? (i := 15) rfl)) (fun _ h9 => h9) rfl dX4_copyFrom_145 ?_
  refine va_put (D := (dC, dI)) (ci := 4) (v := .int (w1.1 10 0)) (ty := .int) (C := RX4) (T := TX4) (N := 17) hx hb hts i4 tyX4 tyX4_ok nmX4 hown hK hP (hDa _ _) hS 0 rfl rfl 10 (by decide) (hts (.fieldLink RX4 44 "TwoMetals$World" "minting" "I") (List.mem_of_getElem? (i := 15) rfl)) (fun _ h9 => h9) rfl (tyX4_ok 10 (by decide)) rfl rfl (Nat.le_of_ble_eq_true rfl) dX4_copyFrom_148 (fun H locs hP _ hS => ?_)
  have hP : va_P (dC, dI) vwCl ((o_X4 cy h0 a0 (ob_I u10 10 (fun _ => w1.1 10 0))) ++ (o_X4 cy h1 a1 w1)) H := hP
  obtain ⟨u11, hP, hm⟩ := bn_ob (P := fun zz => va_P (dC, dI) vwCl ((o_X4 cy h0 a0 zz) ++ (o_X4 cy h1 a1 w1)) H) hm hP
  refine lv_aload_n hx hb dX4_copyFrom_151 rfl (lv_at hl 0 rfl) ?_
  refine lv_aload_n hx hb dX4_copyFrom_152 rfl (lv_at hl 1 rfl) ?_
  refine va_get (D := (dC, dI)) (ci := 4) (v := .int (w1.1 11 0)) (C := RX4) (T := TX4) (N := 17) hx hb hts i4 hown hK hP 10 rfl rfl 11 (by decide) (hts (.fieldLink RX4 47 "TwoMetals$World" "limping" "I") (List.mem_of_getElem? (i := 16) rfl)) (fun _ h9 => h9) rfl dX4_copyFrom_153 ?_
  refine va_put (D := (dC, dI)) (ci := 4) (v := .int (w1.1 11 0)) (ty := .int) (C := RX4) (T := TX4) (N := 17) hx hb hts i4 tyX4 tyX4_ok nmX4 hown hK hP (hDa _ _) hS 0 rfl rfl 11 (by decide) (hts (.fieldLink RX4 47 "TwoMetals$World" "limping" "I") (List.mem_of_getElem? (i := 16) rfl)) (fun _ h9 => h9) rfl (tyX4_ok 11 (by decide)) rfl rfl (Nat.le_of_ble_eq_true rfl) dX4_copyFrom_156 (fun H locs hP _ hS => ?_)
  have hP : va_P (dC, dI) vwCl ((o_X4 cy h0 a0 (ob_I u11 11 (fun _ => w1.1 11 0))) ++ (o_X4 cy h1 a1 w1)) H := hP
  obtain ⟨u12, hP, hm⟩ := bn_ob (P := fun zz => va_P (dC, dI) vwCl ((o_X4 cy h0 a0 zz) ++ (o_X4 cy h1 a1 w1)) H) hm hP
  refine lv_aload_n hx hb dX4_copyFrom_159 rfl (lv_at hl 0 rfl) ?_
  refine lv_aload_n hx hb dX4_copyFrom_160 rfl (lv_at hl 1 rfl) ?_
  refine va_get (D := (dC, dI)) (ci := 4) (v := .long (w1.2 12 0)) (C := RX4) (T := TX4) (N := 17) hx hb hts i4 hown hK hP 10 rfl rfl 12 (by decide) (hts (.fieldLink RX4 50 "TwoMetals$World" "marketGold" "J") (List.mem_of_getElem? (i := 17) rfl)) (fun _ h9 => h9) rfl dX4_copyFrom_161 ?_
  refine va_put (D := (dC, dI)) (ci := 4) (v := .long (w1.2 12 0)) (ty := .long) (C := RX4) (T := TX4) (N := 17) hx hb hts i4 tyX4 tyX4_ok nmX4 hown hK hP (hDa _ _) hS 0 rfl rfl 12 (by decide) (hts (.fieldLink RX4 50 "TwoMetals$World" "marketGold" "J") (List.mem_of_getElem? (i := 17) rfl)) (fun _ h9 => h9) rfl (tyX4_ok 12 (by decide)) rfl rfl (Nat.le_of_ble_eq_true rfl) dX4_copyFrom_164 (fun H locs hP _ hS => ?_)
  have hP : va_P (dC, dI) vwCl ((o_X4 cy h0 a0 (ob_L u12 12 (fun _ => w1.2 12 0))) ++ (o_X4 cy h1 a1 w1)) H := hP
  obtain ⟨u13, hP, hm⟩ := bn_ob (P := fun zz => va_P (dC, dI) vwCl ((o_X4 cy h0 a0 zz) ++ (o_X4 cy h1 a1 w1)) H) hm hP
  refine lv_aload_n hx hb dX4_copyFrom_167 rfl (lv_at hl 0 rfl) ?_
  refine lv_aload_n hx hb dX4_copyFrom_168 rfl (lv_at hl 1 rfl) ?_
  refine va_get (D := (dC, dI)) (ci := 4) (v := .long (w1.2 13 0)) (C := RX4) (T := TX4) (N := 17) hx hb hts i4 hown hK hP 10 rfl rfl 13 (by decide) (hts (.fieldLink RX4 54 "TwoMetals$World" "marketSilver" "J") (List.mem_of_getElem? (i := 18) rfl)) (fun _ h9 => h9) rfl dX4_copyFrom_169 ?_
  refine va_put (D := (dC, dI)) (ci := 4) (v := .long (w1.2 13 0)) (ty := .long) (C := RX4) (T := TX4) (N := 17) hx hb hts i4 tyX4 tyX4_ok nmX4 hown hK hP (hDa _ _) hS 0 rfl rfl 13 (by decide) (hts (.fieldLink RX4 54 "TwoMetals$World" "marketSilver" "J") (List.mem_of_getElem? (i := 18) rfl)) (fun _ h9 => h9) rfl (tyX4_ok 13 (by decide)) rfl rfl (Nat.le_of_ble_eq_true rfl) dX4_copyFrom_172 (fun H locs hP _ hS => ?_)
  have hP : va_P (dC, dI) vwCl ((o_X4 cy h0 a0 (ob_L u13 13 (fun _ => w1.2 13 0))) ++ (o_X4 cy h1 a1 w1)) H := hP
  obtain ⟨u14, hP, hm⟩ := bn_ob (P := fun zz => va_P (dC, dI) vwCl ((o_X4 cy h0 a0 zz) ++ (o_X4 cy h1 a1 w1)) H) hm hP
  refine lv_aload_n hx hb dX4_copyFrom_175 rfl (lv_at hl 0 rfl) ?_
  refine lv_aload_n hx hb dX4_copyFrom_176 rfl (lv_at hl 1 rfl) ?_
  refine va_get (D := (dC, dI)) (ci := 4) (v := .int (w1.1 14 0)) (C := RX4) (T := TX4) (N := 17) hx hb hts i4 hown hK hP 10 rfl rfl 14 (by decide) (hts (.fieldLink RX4 57 "TwoMetals$World" "scarcity" "I") (List.mem_of_getElem? (i := 19) rfl)) (fun _ h9 => h9) rfl dX4_copyFrom_177 ?_
  refine va_put (D := (dC, dI)) (ci := 4) (v := .int (w1.1 14 0)) (ty := .int) (C := RX4) (T := TX4) (N := 17) hx hb hts i4 tyX4 tyX4_ok nmX4 hown hK hP (hDa _ _) hS 0 rfl rfl 14 (by decide) (hts (.fieldLink RX4 57 "TwoMetals$World" "scarcity" "I") (List.mem_of_getElem? (i := 19) rfl)) (fun _ h9 => h9) rfl (tyX4_ok 14 (by decide)) rfl rfl (Nat.le_of_ble_eq_true rfl) dX4_copyFrom_180 (fun H locs hP _ hS => ?_)
  have hP : va_P (dC, dI) vwCl ((o_X4 cy h0 a0 (ob_I u14 14 (fun _ => w1.1 14 0))) ++ (o_X4 cy h1 a1 w1)) H := hP
  obtain ⟨u15, hP, hm⟩ := bn_ob (P := fun zz => va_P (dC, dI) vwCl ((o_X4 cy h0 a0 zz) ++ (o_X4 cy h1 a1 w1)) H) hm hP
  refine lv_aload_n hx hb dX4_copyFrom_183 rfl (lv_at hl 0 rfl) ?_
  refine lv_aload_n hx hb dX4_copyFrom_184 rfl (lv_at hl 1 rfl) ?_
  refine va_get (D := (dC, dI)) (ci := 4) (v := .int (w1.1 15 0)) (C := RX4) (T := TX4) (N := 17) hx hb hts i4 hown hK hP 10 rfl rfl 15 (by decide) (hts (.fieldLink RX4 61 "TwoMetals$World" "price" "I") (List.mem_of_getElem? (i := 20) rfl)) (fun _ h9 => h9) rfl dX4_copyFrom_185 ?_
  refine va_put (D := (dC, dI)) (ci := 4) (v := .int (w1.1 15 0)) (ty := .int) (C := RX4) (T := TX4) (N := 17) hx hb hts i4 tyX4 tyX4_ok nmX4 hown hK hP (hDa _ _) hS 0 rfl rfl 15 (by decide) (hts (.fieldLink RX4 61 "TwoMetals$World" "price" "I") (List.mem_of_getElem? (i := 20) rfl)) (fun _ h9 => h9) rfl (tyX4_ok 15 (by decide)) rfl rfl (Nat.le_of_ble_eq_true rfl) dX4_copyFrom_188 (fun H locs hP _ hS => ?_)
  have hP : va_P (dC, dI) vwCl ((o_X4 cy h0 a0 (ob_I u15 15 (fun _ => w1.1 15 0))) ++ (o_X4 cy h1 a1 w1)) H := hP
  obtain ⟨u16, hP, hm⟩ := bn_ob (P := fun zz => va_P (dC, dI) vwCl ((o_X4 cy h0 a0 zz) ++ (o_X4 cy h1 a1 w1)) H) hm hP
  refine lv_aload_n hx hb dX4_copyFrom_191 rfl (lv_at hl 0 rfl) ?_
  refine lv_aload_n hx hb dX4_copyFrom_192 rfl (lv_at hl 1 rfl) ?_
  refine va_get (D := (dC, dI)) (ci := 4) (v := .int (w1.1 16 0)) (C := RX4) (T := TX4) (N := 17) hx hb hts i4 hown hK hP 10 rfl rfl 16 (by decide) (hts (.fieldLink RX4 64 "TwoMetals$World" "age" "I") (List.mem_of_getElem? (i := 21) rfl)) (fun _ h9 => h9) rfl dX4_copyFrom_193 ?_
  refine va_put (D := (dC, dI)) (ci := 4) (v := .int (w1.1 16 0)) (ty := .int) (C := RX4) (T := TX4) (N := 17) hx hb hts i4 tyX4 tyX4_ok nmX4 hown hK hP (hDa _ _) hS 0 rfl rfl 16 (by decide) (hts (.fieldLink RX4 64 "TwoMetals$World" "age" "I") (List.mem_of_getElem? (i := 21) rfl)) (fun _ h9 => h9) rfl (tyX4_ok 16 (by decide)) rfl rfl (Nat.le_of_ble_eq_true rfl) dX4_copyFrom_196 (fun H locs hP _ hS => ?_)
  have hP : va_P (dC, dI) vwCl ((o_X4 cy h0 a0 (ob_I u16 16 (fun _ => w1.1 16 0))) ++ (o_X4 cy h1 a1 w1)) H := hP
  obtain ⟨u17, hP, hm⟩ := bn_ob (P := fun zz => va_P (dC, dI) vwCl ((o_X4 cy h0 a0 zz) ++ (o_X4 cy h1 a1 w1)) H) hm hP
  obtain rfl := Option.some.inj hm
  exact hret 199 ls _ _ dX4_copyFrom_199 hP hS
set_option maxHeartbeats 4000000 in
set_option maxRecDepth 100000 in
theorem kcX4_holders (l : Launch) (dC : Nat → ClassId) (dI : Nat → Nat → Nat) (cy : Nat → ClassId) (fu : Nat) (h0 : Nat) (a0 : Nat → Nat) (w0 : ob_T) (sz : Nat) (R : Int32) (hm : mX4_holders fu w0 = some R) : Met l yX4_holders wsX4_holders (rmN 1 21) (va_Pc [.ref h0] (cPre dC dI cy ((o_X4 cy h0 a0 w0)) sz)) (va_Qi (fun (r : Int32) (_ : Unit) => r = R) (fun _ => cPost dC dI cy ((o_X4 cy h0 a0 w0)) ((o_X4 cy h0 a0 w0)) sz) (va_A ((o_X4 cy h0 a0 w0)) sz)) 0 0 (va_A ((o_X4 cy h0 a0 w0)) sz) := by
  refine mt_i (cc := cX4_holders) (maxL := 4) (by decide) rfl (Nat.le_of_ble_eq_true rfl) rfl ?_
  intro p e s m below meth c Q A hx hb hml hown hts hK hA hD hP hret ls hl
  have hown : s.vm.findClass RX4 = some m.cls := hown
  have hl : lv_has ls 4 [(0, .ref h0)] := hl
  have hDa : ∀ v0 : ob_T, va_D A ((o_X4 cy h0 a0 v0)) := fun _ => va_D_adr hD rfl
  have i4 : ∀ w ∈ wsX40, w ∈ wsX4_holders := fun _ h => List.mem_cons_of_mem _ (List.mem_append_right _ h)
  have hS : va_S A s.heap s.heap [] := va_S.rf
  have hB76 : ∀ (k4 : Int32 → Int32 → Option (Int32)) (_ : ∀ (l1 : Int32) (l2 : Int32) (H : Heap) (locs : List Loc) (ls : Array Slot), k4 l1 l2 = some R → va_P (dC, dI) vwCl ((o_X4 cy h0 a0 w0)) H → va_S A s.heap H locs → lv_has ls 4 [(0, .ref h0), (1, .int l1), (2, .int l2)] → W p l e (rmN 1 21) s m ([.ref h0] : List Value).toArray below meth c H locs 0 0 Q (F0 m 4 ls [])) (l1 : Int32) (l2 : Int32) (H : Heap) (locs : List Loc) (ls : Array Slot), bX4_holders_76 fu w0 k4 l1 l2 = some R → va_P (dC, dI) vwCl ((o_X4 cy h0 a0 w0)) H → va_S A s.heap H locs → lv_has ls 4 [(0, .ref h0), (1, .int l1), (2, .int l2)] → W p l e (rmN 1 21) s m ([.ref h0] : List Value).toArray below meth c H locs 0 0 Q (F0 m 76 ls []) := by
    intro k4 hk4 l1 l2 H locs ls hm hP hS hl
    unfold bX4_holders_76 at hm
    obtain ⟨x1, e2⟩ : ∃ y : Int32, y = l2 + (1 : Int32) := ⟨_, rfl⟩
    replace hm := bn_at e2 hm
    refine lv_iinc (v := x1) (lv' := [(2, .int x1), (0, .ref h0), (1, .int l1)]) hx hb dX4_holders_76 hl (k := 2) rfl (by rw [e2]; rfl) (by decide) rfl (fun ls hl => ?_)
    refine lv_goto (tgt := 4) hx hb dX4_holders_79 (by decide) ?_
    exact hk4 l1 x1 _ _ ls hm hP hS (lv_sub hl [1, 2, 0] rfl)
  have hB41 : ∀ (k4 : Int32 → Int32 → Option (Int32)) (_ : ∀ (l1 : Int32) (l2 : Int32) (H : Heap) (locs : List Loc) (ls : Array Slot), k4 l1 l2 = some R → va_P (dC, dI) vwCl ((o_X4 cy h0 a0 w0)) H → va_S A s.heap H locs → lv_has ls 4 [(0, .ref h0), (1, .int l1), (2, .int l2)] → W p l e (rmN 1 21) s m ([.ref h0] : List Value).toArray below meth c H locs 0 0 Q (F0 m 4 ls [])) (l1 : Int32) (l2 : Int32) (s0 : Int32) (H : Heap) (locs : List Loc) (ls : Array Slot), bX4_holders_41 fu w0 k4 l1 l2 s0 = some R → va_P (dC, dI) vwCl ((o_X4 cy h0 a0 w0)) H → va_S A s.heap H locs → lv_has ls 4 [(0, .ref h0), (1, .int l1), (2, .int l2)] → W p l e (rmN 1 21) s m ([.ref h0] : List Value).toArray below meth c H locs 0 0 Q (F0 m 41 ls [.int s0]) := by
    intro k4 hk4 l1 l2 s0 H locs ls hm hP hS hl
    unfold bX4_holders_41 at hm
    refine lv_istore_n (lv' := [(3, .int s0), (0, .ref h0), (1, .int l1), (2, .int l2)]) hx hb dX4_holders_41 rfl hl (by decide) rfl (fun ls hl => ?_)
    refine lv_aload_n hx hb dX4_holders_42 rfl (lv_at hl 1 rfl) ?_
    refine lv_iload_n hx hb dX4_holders_43 rfl (lv_at hl 3 rfl) ?_
    obtain ⟨r3, hr3, hm⟩ := bn_call hm
    refine ca_vi (wr := []) (wn := (o_X4 cy h0 a0 w0)) ⟨hx, hb, hml, hown, hts⟩ hK hA (hDa _) hP hS [0, 1, 2, 3, 4, 5, 6, 7, 8, 9] [] [0, 1, 2, 3, 4, 5, 6, 7, 8, 9] (fun sz => kcX4_mints l dC dI cy fu h0 a0 w0 l2 sz r3 hr3) rfl rfl (by decide) (by decide) (by decide) rfl (cwV 1 hts gX4_holders_X4_mints rfl rfl rfl ⟨rfl, ydX4_mints⟩ ⟨Nat.le_of_ble_eq_true rfl, Nat.le_of_ble_eq_true rfl⟩) 4 0 rfl rfl rfl rfl hl.1 rfl (Nat.le_of_ble_eq_true rfl) dX4_holders_44 ⟨Nat.zero_le _, Nat.zero_le _⟩ (fun H locs hP hS => ?_)
    refine lv_if_eq (tgt := 76) hx hb dX4_holders_47 (by decide) (fun hc => ?_) (fun hc => ?_)
    · replace hm := (if_pos hc).symm.trans hm
      exact hB76 (k4) hk4 l1 l2 _ _ ls hm hP hS (lv_sub hl [1, 2, 3] rfl)
    replace hm := (if_neg hc).symm.trans hm
    refine lv_iload_n hx hb dX4_holders_50 rfl (lv_at hl 0 rfl) ?_
    refine lv_if_eq (tgt := 76) hx hb dX4_holders_51 (by decide) (fun hc => ?_) (fun hc => ?_)
    · replace hm := (if_pos hc).symm.trans hm
      exact hB76 (k4) hk4 l1 l2 _ _ ls hm hP hS (lv_sub hl [1, 2, 3] rfl)
    replace hm := (if_neg hc).symm.trans hm
    refine lv_aload_n hx hb dX4_holders_54 rfl (lv_at hl 1 rfl) ?_
    refine lv_iload_n hx hb dX4_holders_55 rfl (lv_at hl 3 rfl) ?_
    obtain ⟨r4, hr4, hm⟩ := bn_call hm
    refine ca_vi (wr := []) (wn := (o_X4 cy h0 a0 w0)) ⟨hx, hb, hml, hown, hts⟩ hK hA (hDa _) hP hS [0, 1, 2, 3, 4, 5, 6, 7, 8, 9] [] [0, 1, 2, 3, 4, 5, 6, 7, 8, 9] (fun sz => kcX4_hasGold l dC dI cy fu h0 a0 w0 l2 sz r4 hr4) rfl rfl (by decide) (by decide) (by decide) rfl (cwV 1 hts gX4_holders_X4_hasGold rfl rfl rfl ⟨rfl, ydX4_hasGold⟩ ⟨Nat.le_of_ble_eq_true rfl, Nat.le_of_ble_eq_true rfl⟩) 4 0 rfl rfl rfl rfl hl.1 rfl (Nat.le_of_ble_eq_true rfl) dX4_holders_56 ⟨Nat.zero_le _, Nat.zero_le _⟩ (fun H locs hP hS => ?_)
    refine lv_if_eq (tgt := 76) hx hb dX4_holders_59 (by decide) (fun hc => ?_) (fun hc => ?_)
    · replace hm := (if_pos hc).symm.trans hm
      exact hB76 (k4) hk4 l1 l2 _ _ ls hm hP hS (lv_sub hl [1, 2, 3] rfl)
    replace hm := (if_neg hc).symm.trans hm
    refine lv_aload_n hx hb dX4_holders_62 rfl (lv_at hl 1 rfl) ?_
    refine lv_iload_n hx hb dX4_holders_63 rfl (lv_at hl 3 rfl) ?_
    obtain ⟨r5, hr5, hm⟩ := bn_call hm
    refine ca_vi (wr := []) (wn := (o_X4 cy h0 a0 w0)) ⟨hx, hb, hml, hown, hts⟩ hK hA (hDa _) hP hS [0, 1, 2, 3, 4, 5, 6, 7, 8, 9] [] [0, 1, 2, 3, 4, 5, 6, 7, 8, 9] (fun sz => kcX4_hasSilver l dC dI cy fu h0 a0 w0 l2 sz r5 hr5) rfl rfl (by decide) (by decide) (by decide) rfl (cwV 1 hts gX4_holders_X4_hasSilver rfl rfl rfl ⟨rfl, ydX4_hasSilver⟩ ⟨Nat.le_of_ble_eq_true rfl, Nat.le_of_ble_eq_true rfl⟩) 4 0 rfl rfl rfl rfl hl.1 rfl (Nat.le_of_ble_eq_true rfl) dX4_holders_64 ⟨Nat.zero_le _, Nat.zero_le _⟩ (fun H locs hP hS => ?_)
    refine lv_if_eq (tgt := 76) hx hb dX4_holders_67 (by decide) (fun hc => ?_) (fun hc => ?_)
    · replace hm := (if_pos hc).symm.trans hm
      exact hB76 (k4) hk4 l1 l2 _ _ ls hm hP hS (lv_sub hl [1, 2, 3] rfl)
    replace hm := (if_neg hc).symm.trans hm
    refine lv_iload_n hx hb dX4_holders_70 rfl (lv_at hl 2 rfl) ?_
    refine lv_iconst (v := (1 : Int32)) hx hb dX4_holders_71 (by decide) ?_
    refine lv_iload_n hx hb dX4_holders_72 rfl (lv_at hl 3 rfl) ?_
    refine lv_ishl hx hb dX4_holders_73 ?_
    refine lv_ior hx hb dX4_holders_74 ?_
    refine lv_topi (fun x6 e7 => ?_)
    replace hm := bn_at e7 hm
    refine lv_istore_n (lv' := [(1, .int x6), (3, .int s0), (0, .ref h0), (2, .int l2)]) hx hb dX4_holders_75 rfl hl (by decide) rfl (fun ls hl => ?_)
    exact hB76 (k4) hk4 x6 l2 _ _ ls hm hP hS (lv_sub hl [2, 0, 3] rfl)
  have hB4 : ∀ (nn : Nat) (l1 : Int32) (l2 : Int32) (H : Heap) (locs : List Loc) (ls : Array Slot), bX4_holders_4 fu w0 nn l1 l2 = some R → va_P (dC, dI) vwCl ((o_X4 cy h0 a0 w0)) H → va_S A s.heap H locs → lv_has ls 4 [(0, .ref h0), (1, .int l1), (2, .int l2)] → W p l e (rmN 1 21) s m ([.ref h0] : List Value).toArray below meth c H locs 0 0 Q (F0 m 4 ls []) := by
    intro nn
    induction nn with
    | zero => intro l1 l2 H locs ls hm; exact no_some ((bX4_holders_4_0 fu w0 l1 l2).symm.trans hm)
    | succ nn ih =>
      intro l1 l2 H locs ls hm hP hS hl
      replace hm := (bX4_holders_4_s fu w0 nn l1 l2).symm.trans hm
      refine lv_iload_n hx hb dX4_holders_4 rfl (lv_at hl 2 rfl) ?_
      refine lv_bipush (v := (8 : Int32)) hx hb dX4_holders_5 (by decide) ?_
      refine lv_icmp_ge (tgt := 82) hx hb dX4_holders_7 (by decide) (fun hc => ?_) (fun hc => ?_)
      · replace hm := (if_pos hc).symm.trans hm
        refine lv_iload_n hx hb dX4_holders_82 rfl (lv_at hl 1 rfl) ?_
        obtain rfl := Option.some.inj hm
        exact hret 83 ls _ _ dX4_holders_83 hP hS
      replace hm := (if_neg hc).symm.trans hm
      refine lv_aload_n hx hb dX4_holders_10 rfl (lv_at hl 0 rfl) ?_
      refine va_get (D := (dC, dI)) (ci := 4) (v := .int (w0.1 15 0)) (C := RX4) (T := TX4) (N := 17) hx hb hts i4 hown hK hP 0 rfl rfl 15 (by decide) (hts (.fieldLink RX4 61 "TwoMetals$World" "price" "I") (List.mem_of_getElem? (i := 1) rfl)) (fun _ h9 => h9) rfl dX4_holders_11 ?_
      refine lv_aload_n hx hb dX4_holders_14 rfl (lv_at hl 0 rfl) ?_
      refine va_get (D := (dC, dI)) (ci := 4) (v := .ref (a0 5)) (C := RX4) (T := TX4) (N := 17) hx hb hts i4 hown hK hP 0 rfl rfl 5 (by decide) (hts (.fieldLink RX4 27 "TwoMetals$World" "low" "[I") (List.mem_of_getElem? (i := 2) rfl)) (fun _ h9 => h9) rfl dX4_holders_15 ?_
      refine lv_iload_n hx hb dX4_holders_18 rfl (lv_at hl 2 rfl) ?_
      obtain ⟨hi8, hm⟩ := ck_in hm
      refine va_iald hx hb hK hP 6 0 rfl rfl hi8 dX4_holders_19 ?_
      refine lv_icmp_lt (tgt := 40) hx hb dX4_holders_20 (by decide) (fun hc => ?_) (fun hc => ?_)
      · replace hm := (if_pos hc).symm.trans hm
        refine lv_iconst (v := (0 : Int32)) hx hb dX4_holders_40 (by decide) ?_
        exact hB41 (bX4_holders_4 fu w0 nn) ih l1 l2 (0 : Int32) _ _ ls hm hP hS (lv_sub hl [0, 1, 2] rfl)
      replace hm := (if_neg hc).symm.trans hm
      refine lv_aload_n hx hb dX4_holders_23 rfl (lv_at hl 0 rfl) ?_
      refine va_get (D := (dC, dI)) (ci := 4) (v := .int (w0.1 15 0)) (C := RX4) (T := TX4) (N := 17) hx hb hts i4 hown hK hP 0 rfl rfl 15 (by decide) (hts (.fieldLink RX4 61 "TwoMetals$World" "price" "I") (List.mem_of_getElem? (i := 1) rfl)) (fun _ h9 => h9) rfl dX4_holders_24 ?_
      refine lv_aload_n hx hb dX4_holders_27 rfl (lv_at hl 0 rfl) ?_
      refine va_get (D := (dC, dI)) (ci := 4) (v := .ref (a0 6)) (C := RX4) (T := TX4) (N := 17) hx hb hts i4 hown hK hP 0 rfl rfl 6 (by decide) (hts (.fieldLink RX4 30 "TwoMetals$World" "high" "[I") (List.mem_of_getElem? (i := 3) rfl)) (fun _ h9 => h9) rfl dX4_holders_28 ?_
      refine lv_iload_n hx hb dX4_holders_31 rfl (lv_at hl 2 rfl) ?_
      refine va_iald hx hb hK hP 7 0 rfl rfl hi8 dX4_holders_32 ?_
      refine lv_icmp_gt (tgt := 40) hx hb dX4_holders_33 (by decide) (fun hc => ?_) (fun hc => ?_)
      · replace hm := (if_pos hc).symm.trans hm
        refine lv_iconst (v := (0 : Int32)) hx hb dX4_holders_40 (by decide) ?_
        exact hB41 (bX4_holders_4 fu w0 nn) ih l1 l2 (0 : Int32) _ _ ls hm hP hS (lv_sub hl [0, 1, 2] rfl)
      replace hm := (if_neg hc).symm.trans hm
      refine lv_iconst (v := (1 : Int32)) hx hb dX4_holders_36 (by decide) ?_
      refine lv_goto (tgt := 41) hx hb dX4_holders_37 (by decide) ?_
      exact hB41 (bX4_holders_4 fu w0 nn) ih l1 l2 (1 : Int32) _ _ ls hm hP hS (lv_sub hl [0, 1, 2] rfl)
  unfold mX4_holders at hm
  refine lv_iconst (v := (0 : Int32)) hx hb dX4_holders_0 (by decide) ?_
  refine lv_istore_n (lv' := [(1, .int (0 : Int32)), (0, .ref h0)]) hx hb dX4_holders_1 rfl hl (by decide) rfl (fun ls hl => ?_)
  refine lv_iconst (v := (0 : Int32)) hx hb dX4_holders_2 (by decide) ?_
  refine lv_istore_n (lv' := [(2, .int (0 : Int32)), (1, .int (0 : Int32)), (0, .ref h0)]) hx hb dX4_holders_3 rfl hl (by decide) rfl (fun ls hl => ?_)
  exact hB4 fu (0 : Int32) (0 : Int32) _ _ ls hm hP hS (lv_sub hl [2, 1, 0] rfl)
set_option maxHeartbeats 4000000 in
set_option maxRecDepth 100000 in
theorem kcX4_goldInAll (l : Launch) (dC : Nat → ClassId) (dI : Nat → Nat → Nat) (cy : Nat → ClassId) (fu : Nat) (h0 : Nat) (a0 : Nat → Nat) (w0 : ob_T) (sz : Nat) (R : Int64) (hm : mX4_goldInAll fu w0 = some R) : Met l yX4_goldInAll wsX4_goldInAll (rmN 1 21) (va_Pc [.ref h0] (cPre dC dI cy ((o_X4 cy h0 a0 w0)) sz)) (va_Ql (fun (r : Int64) (_ : Unit) => r = R) (fun _ => cPost dC dI cy ((o_X4 cy h0 a0 w0)) ((o_X4 cy h0 a0 w0)) sz) (va_A ((o_X4 cy h0 a0 w0)) sz)) 0 0 (va_A ((o_X4 cy h0 a0 w0)) sz) := by
  refine mt_l (cc := cX4_goldInAll) (maxL := 4) (by decide) rfl (Nat.le_of_ble_eq_true rfl) rfl ?_
  intro p e s m below meth c Q A hx hb hml hown hts hK hA hD hP hret ls hl
  have hown : s.vm.findClass RX4 = some m.cls := hown
  have hl : lv_has ls 4 [(0, .ref h0)] := hl
  have hDa : ∀ v0 : ob_T, va_D A ((o_X4 cy h0 a0 v0)) := fun _ => va_D_adr hD rfl
  have i4 : ∀ w ∈ wsX40, w ∈ wsX4_goldInAll := fun _ h => List.mem_cons_of_mem _ (List.mem_append_right _ h)
  have hS : va_S A s.heap s.heap [] := va_S.rf
  have hB32 : ∀ (k7 : Int64 → Int32 → Option (Int64)) (_ : ∀ (l1 : Int64) (l3 : Int32) (H : Heap) (locs : List Loc) (ls : Array Slot), k7 l1 l3 = some R → va_P (dC, dI) vwCl ((o_X4 cy h0 a0 w0)) H → va_S A s.heap H locs → lv_has ls 4 [(0, .ref h0), (1, .long l1), (3, .int l3)] → W p l e (rmN 1 21) s m ([.ref h0] : List Value).toArray below meth c H locs 0 0 Q (F0 m 7 ls [])) (l3 : Int32) (s0 : Int64) (s1 : Int64) (H : Heap) (locs : List Loc) (ls : Array Slot), bX4_goldInAll_32 fu w0 k7 l3 s0 s1 = some R → va_P (dC, dI) vwCl ((o_X4 cy h0 a0 w0)) H → va_S A s.heap H locs → lv_has ls 4 [(0, .ref h0), (3, .int l3)] → W p l e (rmN 1 21) s m ([.ref h0] : List Value).toArray below meth c H locs 0 0 Q (F0 m 32 ls [.long s0, .long s1]) := by
    intro k7 hk7 l3 s0 s1 H locs ls hm hP hS hl
    unfold bX4_goldInAll_32 at hm
    refine lv_ladd hx hb dX4_goldInAll_32 ?_
    refine lv_topl (fun x1 e2 => ?_)
    replace hm := bn_at e2 hm
    refine lv_lstore_n (lv' := [(1, .long x1), (0, .ref h0), (3, .int l3)]) hx hb dX4_goldInAll_33 rfl hl (by decide) rfl (fun ls hl => ?_)
    obtain ⟨x3, e4⟩ : ∃ y : Int32, y = l3 + (1 : Int32) := ⟨_, rfl⟩
    replace hm := bn_at e4 hm
    refine lv_iinc (v := x3) (lv' := [(3, .int x3), (1, .long x1), (0, .ref h0)]) hx hb dX4_goldInAll_34 hl (k := 2) rfl (by rw [e4]; rfl) (by decide) rfl (fun ls hl => ?_)
    refine lv_goto (tgt := 7) hx hb dX4_goldInAll_37 (by decide) ?_
    exact hk7 x1 x3 _ _ ls hm hP hS (lv_sub hl [2, 1, 0] rfl)
  have hB7 : ∀ (nn : Nat) (l1 : Int64) (l3 : Int32) (H : Heap) (locs : List Loc) (ls : Array Slot), bX4_goldInAll_7 fu w0 nn l1 l3 = some R → va_P (dC, dI) vwCl ((o_X4 cy h0 a0 w0)) H → va_S A s.heap H locs → lv_has ls 4 [(0, .ref h0), (1, .long l1), (3, .int l3)] → W p l e (rmN 1 21) s m ([.ref h0] : List Value).toArray below meth c H locs 0 0 Q (F0 m 7 ls []) := by
    intro nn
    induction nn with
    | zero => intro l1 l3 H locs ls hm; exact no_some ((bX4_goldInAll_7_0 fu w0 l1 l3).symm.trans hm)
    | succ nn ih =>
      intro l1 l3 H locs ls hm hP hS hl
      replace hm := (bX4_goldInAll_7_s fu w0 nn l1 l3).symm.trans hm
      refine lv_iload_n hx hb dX4_goldInAll_7 rfl (lv_at hl 2 rfl) ?_
      refine lv_bipush (v := (8 : Int32)) hx hb dX4_goldInAll_8 (by decide) ?_
      refine lv_icmp_ge (tgt := 40) hx hb dX4_goldInAll_10 (by decide) (fun hc => ?_) (fun hc => ?_)
      · replace hm := (if_pos hc).symm.trans hm
        refine lv_lload_n hx hb dX4_goldInAll_40 rfl (lv_at hl 1 rfl) ?_
        obtain rfl := Option.some.inj hm
        exact hret 41 ls _ _ dX4_goldInAll_41 hP hS
      replace hm := (if_neg hc).symm.trans hm
      refine lv_lload_n hx hb dX4_goldInAll_13 rfl (lv_at hl 1 rfl) ?_
      refine lv_aload_n hx hb dX4_goldInAll_14 rfl (lv_at hl 0 rfl) ?_
      refine lv_iload_n hx hb dX4_goldInAll_15 rfl (lv_at hl 2 rfl) ?_
      obtain ⟨r5, hr5, hm⟩ := bn_call hm
      refine ca_vi (wr := []) (wn := (o_X4 cy h0 a0 w0)) ⟨hx, hb, hml, hown, hts⟩ hK hA (hDa _) hP hS [0, 1, 2, 3, 4, 5, 6, 7, 8, 9] [] [0, 1, 2, 3, 4, 5, 6, 7, 8, 9] (fun sz => kcX4_has l dC dI cy fu h0 a0 w0 l3 sz r5 hr5) rfl rfl (by decide) (by decide) (by decide) rfl (cwV 1 hts gX4_goldInAll_X4_has rfl rfl rfl ⟨rfl, ydX4_has⟩ ⟨Nat.le_of_ble_eq_true rfl, Nat.le_of_ble_eq_true rfl⟩) 4 0 rfl rfl rfl rfl hl.1 rfl (Nat.le_of_ble_eq_true rfl) dX4_goldInAll_16 ⟨Nat.zero_le _, Nat.zero_le _⟩ (fun H locs hP hS => ?_)
      refine lv_if_eq (tgt := 31) hx hb dX4_goldInAll_19 (by decide) (fun hc => ?_) (fun hc => ?_)
      · replace hm := (if_pos hc).symm.trans hm
        refine lv_lconst (v := (0 : Int64)) hx hb dX4_goldInAll_31 (by decide) ?_
        exact hB32 (bX4_goldInAll_7 fu w0 nn) ih l3 (0 : Int64) l1 _ _ ls hm hP hS (lv_sub hl [0, 2] rfl)
      replace hm := (if_neg hc).symm.trans hm
      refine lv_aload_n hx hb dX4_goldInAll_22 rfl (lv_at hl 0 rfl) ?_
      refine va_get (D := (dC, dI)) (ci := 4) (v := .ref (a0 7)) (C := RX4) (T := TX4) (N := 17) hx hb hts i4 hown hK hP 0 rfl rfl 7 (by decide) (hts (.fieldLink RX4 33 "TwoMetals$World" "gold" "[J") (List.mem_of_getElem? (i := 2) rfl)) (fun _ h9 => h9) rfl dX4_goldInAll_23 ?_
      refine lv_iload_n hx hb dX4_goldInAll_26 rfl (lv_at hl 2 rfl) ?_
      obtain ⟨hi6, hm⟩ := ck_in hm
      refine va_lald hx hb hK hP 8 1 rfl rfl hi6 dX4_goldInAll_27 ?_
      refine lv_goto (tgt := 32) hx hb dX4_goldInAll_28 (by decide) ?_
      exact hB32 (bX4_goldInAll_7 fu w0 nn) ih l3 (w0.2 7 l3.toNatClampNeg) l1 _ _ ls hm hP hS (lv_sub hl [0, 2] rfl)
  unfold mX4_goldInAll at hm
  refine lv_aload_n hx hb dX4_goldInAll_0 rfl (lv_at hl 0 rfl) ?_
  refine va_get (D := (dC, dI)) (ci := 4) (v := .long (w0.2 12 0)) (C := RX4) (T := TX4) (N := 17) hx hb hts i4 hown hK hP 0 rfl rfl 12 (by decide) (hts (.fieldLink RX4 50 "TwoMetals$World" "marketGold" "J") (List.mem_of_getElem? (i := 1) rfl)) (fun _ h9 => h9) rfl dX4_goldInAll_1 ?_
  refine lv_topl (fun x7 e8 => ?_)
  replace hm := bn_at e8 hm
  refine lv_lstore_n (lv' := [(1, .long x7), (0, .ref h0)]) hx hb dX4_goldInAll_4 rfl hl (by decide) rfl (fun ls hl => ?_)
  refine lv_iconst (v := (0 : Int32)) hx hb dX4_goldInAll_5 (by decide) ?_
  refine lv_istore_n (lv' := [(3, .int (0 : Int32)), (1, .long x7), (0, .ref h0)]) hx hb dX4_goldInAll_6 rfl hl (by decide) rfl (fun ls hl => ?_)
  exact hB7 fu x7 (0 : Int32) _ _ ls hm hP hS (lv_sub hl [2, 1, 0] rfl)
