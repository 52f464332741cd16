theorem ydX4_weigh : yX4_weigh.cls ≠ "java/lang/invoke/MethodHandle" ∧ yX4_weigh.cls ≠ "java/lang/invoke/VarHandle" ∧ (parseMethodDescriptor yX4_weigh.desc).map (fun d => d.parameters.length) = some 0 := by decide +kernel
def mX4_weigh (fu : Nat) (w0 : ob_T) : Option (ob_T) := (if 0 < (lg_cmp (w0.2 12 0) (0 : Int64)) then (if ((1000 : Int64) * (w0.2 12 0)) = 0 then none else (bnd (ob_I w0 15 (fun _ => (if (1000000 : Int64) < ((((w0.1 14 0).toInt64) * (w0.2 13 0)) / ((1000 : Int64) * (w0.2 12 0))) then (1000000 : Int64) else ((((w0.1 14 0).toInt64) * (w0.2 13 0)) / ((1000 : Int64) * (w0.2 12 0)))).toInt32)) (fun (w2 : ob_T) => some w2))) else (bnd (ob_I w0 15 (fun _ => (1000000 : Int32))) (fun (w3 : ob_T) => some w3)))
set_option maxHeartbeats 4000000 in
set_option maxRecDepth 100000 in
theorem kcX4_weigh (l : Launch) (dC : Nat → ClassId) (dI : Nat → Nat → Nat) (cy : Nat → ClassId) (fu : Nat) (h0 : Nat) (a0 : Nat → Nat) (w0 : ob_T) (sz : Nat) (R : ob_T) (hm : mX4_weigh fu w0 = some R) : Met l yX4_weigh wsX4_weigh (rmN 1 30) (va_Pc [.ref h0] (cPre dC dI cy ((o_X4 cy h0 a0 w0)) sz)) (va_Qv (fun (_ : Unit) => True) (fun _ => cPost dC dI cy ((o_X4 cy h0 a0 w0)) ((o_X4 cy h0 a0 R)) sz) (va_A ((o_X4 cy h0 a0 w0)) sz)) 0 0 (va_A ((o_X4 cy h0 a0 w0)) sz) := by
  refine mt_v (cc := cX4_weigh) (maxL := 1) (by decide) rfl (Nat.le_of_ble_eq_true rfl) rfl ?_
  intro p e s m below meth c Q A hx hb hml hown hts hK hA hD hP hret ls hl
  have hown : s.vm.findClass RX4 = some m.cls := hown
  have hl : lv_has ls 1 [(0, .ref h0)] := hl
  have hDa : ∀ v0 : ob_T, va_D A ((o_X4 cy h0 a0 v0)) := fun _ => va_D_adr hD rfl
  have i4 : ∀ w ∈ wsX40, w ∈ wsX4_weigh := fun _ h => List.mem_cons_of_mem _ (List.mem_append_right _ h)
  have hS : va_S A s.heap s.heap [] := va_S.rf
  unfold mX4_weigh at hm
  refine lv_aload_n hx hb dX4_weigh_0 rfl (lv_at hl 0 rfl) ?_
  refine va_get (D := (dC, dI)) (ci := 4) (v := .long (w0.2 12 0)) (C := RX4) (T := TX4) (N := 17) hx hb hts i4 hown hK hP 0 rfl rfl 12 (by decide) (hts (.fieldLink RX4 50 "TwoMetals$World" "marketGold" "J") (List.mem_of_getElem? (i := 1) rfl)) (fun _ h9 => h9) rfl dX4_weigh_1 ?_
  refine lv_lconst (v := (0 : Int64)) hx hb dX4_weigh_4 (by decide) ?_
  refine W.lcmp hx hb dX4_weigh_5 ?_
  refine lv_if_gt (tgt := 16) hx hb dX4_weigh_6 (by decide) (fun hc => ?_) (fun hc => ?_)
  · replace hm := (if_pos hc).symm.trans hm
    refine lv_aload_n hx hb dX4_weigh_16 rfl (lv_at hl 0 rfl) ?_
    refine lv_aload_n hx hb dX4_weigh_17 rfl (lv_at hl 0 rfl) ?_
    refine va_get (D := (dC, dI)) (ci := 4) (v := .int (w0.1 14 0)) (C := RX4) (T := TX4) (N := 17) hx hb hts i4 hown hK hP 0 rfl rfl 14 (by decide) (hts (.fieldLink RX4 57 "TwoMetals$World" "scarcity" "I") (List.mem_of_getElem? (i := 4) rfl)) (fun _ h9 => h9) rfl dX4_weigh_18 ?_
    refine lv_i2l (v := (w0.1 14 0).toInt64) hx hb dX4_weigh_21 rfl ?_
    refine lv_aload_n hx hb dX4_weigh_22 rfl (lv_at hl 0 rfl) ?_
    refine va_get (D := (dC, dI)) (ci := 4) (v := .long (w0.2 13 0)) (C := RX4) (T := TX4) (N := 17) hx hb hts i4 hown hK hP 0 rfl rfl 13 (by decide) (hts (.fieldLink RX4 54 "TwoMetals$World" "marketSilver" "J") (List.mem_of_getElem? (i := 5) rfl)) (fun _ h9 => h9) rfl dX4_weigh_23 ?_
    refine lv_lmul hx hb dX4_weigh_26 ?_
    refine lv_ldc2 (v := (1000 : Int64)) hx hb hown (hts (.constantLong RX4 73 (1000)) (List.mem_of_getElem? (i := 6) rfl)) dX4_weigh_27 ?_
    refine lv_aload_n hx hb dX4_weigh_30 rfl (lv_at hl 0 rfl) ?_
    refine va_get (D := (dC, dI)) (ci := 4) (v := .long (w0.2 12 0)) (C := RX4) (T := TX4) (N := 17) hx hb hts i4 hown hK hP 0 rfl rfl 12 (by decide) (hts (.fieldLink RX4 50 "TwoMetals$World" "marketGold" "J") (List.mem_of_getElem? (i := 1) rfl)) (fun _ h9 => h9) rfl dX4_weigh_31 ?_
    refine lv_lmul hx hb dX4_weigh_34 ?_
    obtain ⟨hz1, hm⟩ := ck_dv hm
    refine lv_ldiv hx hb dX4_weigh_35 hz1 ?_
    refine lv_ldc2 (v := (1000000 : Int64)) hx hb hown (hts (.constantLong RX4 81 (1000000)) (List.mem_of_getElem? (i := 7) rfl)) dX4_weigh_36 ?_
    refine va_mmin_long hx hb (hml.trans hl.1.symm) hown (hts (.methodLink RX4 83 Lib.MathLoose.min_long.x) (List.mem_of_getElem? (i := 8) rfl)) (hts (.static Lib.MathLoose.min_long.x) (List.mem_of_getElem? (i := 9) rfl)) (hts (.initialized "java/lang/Math") (List.mem_of_getElem? (i := 10) rfl)) (hts (.code Lib.MathLoose.min_long.x Lib.MathLoose.min_long.code 4 (some .long)) (List.mem_of_getElem? (i := 11) rfl)) (Nat.le_of_ble_eq_true rfl) (Nat.le_of_ble_eq_true rfl) (Nat.zero_le _) (Nat.zero_le _) dX4_weigh_39 ?_
    refine lv_l2i (v := (if (1000000 : Int64) < ((((w0.1 14 0).toInt64) * (w0.2 13 0)) / ((1000 : Int64) * (w0.2 12 0))) then (1000000 : Int64) else ((((w0.1 14 0).toInt64) * (w0.2 13 0)) / ((1000 : Int64) * (w0.2 12 0)))).toInt32) hx hb dX4_weigh_42 rfl ?_
    refine va_put (D := (dC, dI)) (ci := 4) (v := .int ((if (1000000 : Int64) < ((((w0.1 14 0).toInt64) * (w0.2 13 0)) / ((1000 : Int64) * (w0.2 12 0))) then (1000000 : Int64) else ((((w0.1 14 0).toInt64) * (w0.2 13 0)) / ((1000 : Int64) * (w0.2 12 0)))).toInt32)) (ty := .int) (C := RX4) (T := TX4) (N := 17) hx hb hts i4 tyX4 tyX4_ok nmX4 hown hK hP (hDa _) hS 0 rfl rfl 15 (by decide) (hts (.fieldLink RX4 61 "TwoMetals$World" "price" "I") (List.mem_of_getElem? (i := 3) rfl)) (fun _ h9 => h9) rfl (tyX4_ok 15 (by decide)) rfl rfl (Nat.le_of_ble_eq_true rfl) dX4_weigh_43 (fun H locs hP _ hS => ?_)
    have hP : va_P (dC, dI) vwCl ((o_X4 cy h0 a0 (ob_I w0 15 (fun _ => (if (1000000 : Int64) < ((((w0.1 14 0).toInt64) * (w0.2 13 0)) / ((1000 : Int64) * (w0.2 12 0))) then (1000000 : Int64) else ((((w0.1 14 0).toInt64) * (w0.2 13 0)) / ((1000 : Int64) * (w0.2 12 0)))).toInt32)))) H := hP
    obtain ⟨w2, hP, hm⟩ := bn_ob (P := fun zz => va_P (dC, dI) vwCl ((o_X4 cy h0 a0 zz)) H) hm hP
    obtain rfl := Option.some.inj hm
    exact hret 46 ls _ _ dX4_weigh_46 hP hS
  replace hm := (if_neg hc).symm.trans hm
  refine lv_aload_n hx hb dX4_weigh_9 rfl (lv_at hl 0 rfl) ?_
  refine lv_ldc (v := (1000000 : Int32)) hx hb hown (hts (.constant RX4 60 (1000000)) (List.mem_of_getElem? (i := 2) rfl)) dX4_weigh_10 ?_
  refine va_put (D := (dC, dI)) (ci := 4) (v := .int (1000000 : Int32)) (ty := .int) (C := RX4) (T := TX4) (N := 17) hx hb hts i4 tyX4 tyX4_ok nmX4 hown hK hP (hDa _) hS 0 rfl rfl 15 (by decide) (hts (.fieldLink RX4 61 "TwoMetals$World" "price" "I") (List.mem_of_getElem? (i := 3) rfl)) (fun _ h9 => h9) rfl (tyX4_ok 15 (by decide)) rfl rfl (Nat.le_of_ble_eq_true rfl) dX4_weigh_12 (fun H locs hP _ hS => ?_)
  have hP : va_P (dC, dI) vwCl ((o_X4 cy h0 a0 (ob_I w0 15 (fun _ => (1000000 : Int32))))) H := hP
  obtain ⟨w3, hP, hm⟩ := bn_ob (P := fun zz => va_P (dC, dI) vwCl ((o_X4 cy h0 a0 zz)) H) hm hP
  obtain rfl := Option.some.inj hm
  exact hret 15 ls _ _ dX4_weigh_15 hP hS
