set_option maxHeartbeats 4000000 in
set_option maxRecDepth 100000 in
theorem kcX0_clear (l : Launch) (dC : Nat → ClassId) (dI : Nat → Nat → Nat) (cy : Nat → ClassId) (fu : Nat) (h0 : Nat) (a0 : Nat → Nat) (w0 : ob_T) (sz : Nat) (R : ob_T) (hm : mX0_clear fu w0 = some R) : Met l yX0_clear wsX0_clear (rmN 1 23) (va_Pc [.ref h0] (cPre dC dI cy ((o_X0 cy h0 a0 w0)) sz)) (va_Qv (fun (_ : Unit) => True) (fun _ => cPost dC dI cy ((o_X0 cy h0 a0 w0)) ((o_X0 cy h0 a0 R)) sz) (va_A ((o_X0 cy h0 a0 w0)) sz)) 0 0 (va_A ((o_X0 cy h0 a0 w0)) sz) := by
  refine mt_v (cc := cX0_clear) (maxL := 1) (by decide) rfl (Nat.le_of_ble_eq_true rfl) rfl ?_
  intro p e s m below meth c Q A hx hb hml hown hts hK hA hD hP hret ls hl
  have hown : s.vm.findClass RX0 = some m.cls := hown
  have hl : lv_has ls 1 [(0, .ref h0)] := hl
  have hDa : ∀ v0 : ob_T, va_D A ((o_X0 cy h0 a0 v0)) := fun _ => va_D_adr hD rfl
  have i0 : ∀ w ∈ wsX00, w ∈ wsX0_clear := fun _ h => List.mem_cons_of_mem _ (List.mem_append_right _ h)
  have hS : va_S A s.heap s.heap [] := va_S.rf
  unfold mX0_clear at hm
  refine lv_aload_n hx hb dX0_clear_0 rfl (lv_at hl 0 rfl) ?_
  refine va_get (D := (dC, dI)) (ci := 0) (v := .ref (a0 0)) (C := RX0) (T := TX0) (N := 3) hx hb hts i0 hown hK hP 0 rfl rfl 0 (by decide) (hts (.fieldLink RX0 11 "TwoMetals$Mines" "told" "[I") (List.mem_of_getElem? (i := 1) rfl)) (fun _ h9 => h9) rfl dX0_clear_1 ?_
  refine lv_iconst (v := (0 : Int32)) hx hb dX0_clear_4 (by decide) ?_
  obtain ⟨r1, hr1, hm⟩ := bn_call hm
  refine ca_sv (wr := ([(h0, .inr (0, [.ref (a0 0), .ref (a0 1), .ref (a0 2)])), (a0 1, .inl (cy 0, 100, .inl (w0.1 1))), (a0 2, .inl (cy 0, 100, .inl (w0.1 2)))] : va_W)) (wn := (o_X0 cy h0 a0 (ob_I w0 0 (r1.1 0)))) ⟨hx, hb, hml, hown, hts⟩ hK hA (hDa _) hP hS [1] [0, 2, 3] [0, 3, 1, 2] (fun sz => kcJ7_fill_53178 l dC dI cy fu 100 (a0 0) (fun _ => w0.1 0, fun _ _ => 0) (0 : Int32) sz r1 hr1) rfl rfl (by decide) (by decide) (by decide) rfl (va_cwS 2 hts gX0_clear_J7_fill_53178 rfl rfl rfl ydJ7_fill_53178 ⟨Nat.le_of_ble_eq_true rfl, Nat.le_of_ble_eq_true rfl⟩) rfl hl.1 rfl (Nat.le_of_ble_eq_true rfl) dX0_clear_5 ⟨Nat.zero_le _, Nat.zero_le _⟩ (fun H locs hP hS => ?_)
  refine lv_aload_n hx hb dX0_clear_8 rfl (lv_at hl 0 rfl) ?_
  refine va_get (D := (dC, dI)) (ci := 0) (v := .ref (a0 1)) (C := RX0) (T := TX0) (N := 3) hx hb hts i0 hown hK hP 0 rfl rfl 1 (by decide) (hts (.fieldLink RX0 15 "TwoMetals$Mines" "gold" "[I") (List.mem_of_getElem? (i := 2) rfl)) (fun _ h9 => h9) rfl dX0_clear_9 ?_
  refine lv_iconst (v := (0 : Int32)) hx hb dX0_clear_12 (by decide) ?_
  obtain ⟨r2, hr2, hm⟩ := bn_call hm
  refine ca_sv (wr := ([(h0, .inr (0, [.ref (a0 0), .ref (a0 1), .ref (a0 2)])), (a0 0, .inl (cy 0, 100, .inl ((ob_I w0 0 (r1.1 0)).1 0))), (a0 2, .inl (cy 0, 100, .inl ((ob_I w0 0 (r1.1 0)).1 2)))] : va_W)) (wn := (o_X0 cy h0 a0 (ob_I (ob_I w0 0 (r1.1 0)) 1 (r2.1 0)))) ⟨hx, hb, hml, hown, hts⟩ hK hA (hDa _) hP hS [2] [0, 1, 3] [0, 1, 3, 2] (fun sz => kcJ7_fill_53178 l dC dI cy fu 100 (a0 1) (fun _ => (ob_I w0 0 (r1.1 0)).1 1, fun _ _ => 0) (0 : Int32) sz r2 hr2) rfl rfl (by decide) (by decide) (by decide) rfl (va_cwS 2 hts gX0_clear_J7_fill_53178 rfl rfl rfl ydJ7_fill_53178 ⟨Nat.le_of_ble_eq_true rfl, Nat.le_of_ble_eq_true rfl⟩) rfl hl.1 rfl (Nat.le_of_ble_eq_true rfl) dX0_clear_13 ⟨Nat.zero_le _, Nat.zero_le _⟩ (fun H locs hP hS => ?_)
  refine lv_aload_n hx hb dX0_clear_16 rfl (lv_at hl 0 rfl) ?_
  refine va_get (D := (dC, dI)) (ci := 0) (v := .ref (a0 2)) (C := RX0) (T := TX0) (N := 3) hx hb hts i0 hown hK hP 0 rfl rfl 2 (by decide) (hts (.fieldLink RX0 18 "TwoMetals$Mines" "silver" "[I") (List.mem_of_getElem? (i := 3) rfl)) (fun _ h9 => h9) rfl dX0_clear_17 ?_
  refine lv_iconst (v := (0 : Int32)) hx hb dX0_clear_20 (by decide) ?_
  obtain ⟨r3, hr3, hm⟩ := bn_call hm
  refine ca_sv (wr := ([(h0, .inr (0, [.ref (a0 0), .ref (a0 1), .ref (a0 2)])), (a0 0, .inl (cy 0, 100, .inl ((ob_I (ob_I w0 0 (r1.1 0)) 1 (r2.1 0)).1 0))), (a0 1, .inl (cy 0, 100, .inl ((ob_I (ob_I w0 0 (r1.1 0)) 1 (r2.1 0)).1 1)))] : va_W)) (wn := (o_X0 cy h0 a0 (ob_I (ob_I (ob_I w0 0 (r1.1 0)) 1 (r2.1 0)) 2 (r3.1 0)))) ⟨hx, hb, hml, hown, hts⟩ hK hA (hDa _) hP hS [3] [0, 1, 2] [0, 1, 2, 3] (fun sz => kcJ7_fill_53178 l dC dI cy fu 100 (a0 2) (fun _ => (ob_I (ob_I w0 0 (r1.1 0)) 1 (r2.1 0)).1 2, fun _ _ => 0) (0 : Int32) sz r3 hr3) rfl rfl (by decide) (by decide) (by decide) rfl (va_cwS 2 hts gX0_clear_J7_fill_53178 rfl rfl rfl ydJ7_fill_53178 ⟨Nat.le_of_ble_eq_true rfl, Nat.le_of_ble_eq_true rfl⟩) rfl hl.1 rfl (Nat.le_of_ble_eq_true rfl) dX0_clear_21 ⟨Nat.zero_le _, Nat.zero_le _⟩ (fun H locs hP hS => ?_)
  obtain rfl := Option.some.inj hm
  exact hret 24 ls _ _ dX0_clear_24 hP hS
set_option maxHeartbeats 4000000 in
set_option maxRecDepth 100000 in
theorem kcX0_copyFrom (l : Launch) (dC : Nat → ClassId) (dI : Nat → Nat → Nat) (cy : Nat → ClassId) (fu : Nat) (h0 : Nat) (a0 : Nat → Nat) (w0 : ob_T) (h1 : Nat) (a1 : Nat → Nat) (w1 : ob_T) (sz : Nat) (R : ob_T) (hm : mX0_copyFrom fu w0 w1 = some R) : Met l yX0_copyFrom wsX0_copyFrom (rmN 1 30) (va_Pc [.ref h0, .ref h1] (cPre dC dI cy ((o_X0 cy h0 a0 w0) ++ (o_X0 cy h1 a1 w1)) sz)) (va_Qv (fun (_ : Unit) => True) (fun _ => cPost dC dI cy ((o_X0 cy h0 a0 w0) ++ (o_X0 cy h1 a1 w1)) ((o_X0 cy h0 a0 R) ++ (o_X0 cy h1 a1 w1)) sz) (va_A ((o_X0 cy h0 a0 w0) ++ (o_X0 cy h1 a1 w1)) sz)) 0 0 (va_A ((o_X0 cy h0 a0 w0) ++ (o_X0 cy h1 a1 w1)) sz) := by
  refine mt_v (cc := cX0_copyFrom) (maxL := 2) (by decide) rfl (Nat.le_of_ble_eq_true rfl) rfl ?_
  intro p e s m below meth c Q A hx hb hml hown hts hK hA hD hP hret ls hl
  have hown : s.vm.findClass RX0 = some m.cls := hown
  have hl : lv_has ls 2 [(0, .ref h0), (1, .ref h1)] := hl
  have hDa : ∀ v0 v1 : ob_T, va_D A ((o_X0 cy h0 a0 v0) ++ (o_X0 cy h1 a1 v1)) := fun _ _ => va_D_adr hD rfl
  have i0 : ∀ w ∈ wsX00, w ∈ wsX0_copyFrom := fun _ h => List.mem_cons_of_mem _ (List.mem_append_right _ h)
  have hS : va_S A s.heap s.heap [] := va_S.rf
  unfold mX0_copyFrom at hm
  refine lv_aload_n hx hb dX0_copyFrom_0 rfl (lv_at hl 1 rfl) ?_
  refine va_get (D := (dC, dI)) (ci := 0) (v := .ref (a1 0)) (C := RX0) (T := TX0) (N := 3) hx hb hts i0 hown hK hP 4 rfl rfl 0 (by decide) (hts (.fieldLink RX0 11 "TwoMetals$Mines" "told" "[I") (List.mem_of_getElem? (i := 1) rfl)) (fun _ h9 => h9) rfl dX0_copyFrom_1 ?_
  refine lv_iconst (v := (0 : Int32)) hx hb dX0_copyFrom_4 (by decide) ?_
  refine lv_aload_n hx hb dX0_copyFrom_5 rfl (lv_at hl 0 rfl) ?_
  refine va_get (D := (dC, dI)) (ci := 0) (v := .ref (a0 0)) (C := RX0) (T := TX0) (N := 3) hx hb hts i0 hown hK hP 0 rfl rfl 0 (by decide) (hts (.fieldLink RX0 11 "TwoMetals$Mines" "told" "[I") (List.mem_of_getElem? (i := 1) rfl)) (fun _ h9 => h9) rfl dX0_copyFrom_6 ?_
  refine lv_iconst (v := (0 : Int32)) hx hb dX0_copyFrom_9 (by decide) ?_
  refine lv_bipush (v := (100 : Int32)) hx hb dX0_copyFrom_10 (by decide) ?_
  refine va_copyi hx hb (hml.trans hl.1.symm) hown (hts (.methodLink RX0 27 arraycopyName) (List.mem_of_getElem? (i := 2) rfl)) (hts (.native arraycopyName) (List.mem_of_getElem? (i := 3) rfl)) (hts (.static arraycopyName) (List.mem_of_getElem? (i := 4) rfl)) (hts (.initialized "java/lang/System") (List.mem_of_getElem? (i := 5) rfl)) hK hP (hDa _ _) hS 5 1 0 0 rfl rfl rfl rfl rfl (by decide) (by decide) (by decide) (by decide) (by decide) (fun _ _ => rfl) (Nat.le_of_ble_eq_true rfl) (Nat.le_of_ble_eq_true rfl) dX0_copyFrom_12 (fun H locs hP _ hS => ?_)
  have hP : va_P (dC, dI) vwCl ((o_X0 cy h0 a0 (ob_I w0 0 (va_cpy (w1.1 0) (w0.1 0) (0 : Int32).toNatClampNeg (0 : Int32).toNatClampNeg (100 : Int32).toNatClampNeg))) ++ (o_X0 cy h1 a1 w1)) H := hP
  obtain ⟨u1, hP, hm⟩ := bn_ob (P := fun zz => va_P (dC, dI) vwCl ((o_X0 cy h0 a0 zz) ++ (o_X0 cy h1 a1 w1)) H) hm hP
  refine lv_aload_n hx hb dX0_copyFrom_15 rfl (lv_at hl 1 rfl) ?_
  refine va_get (D := (dC, dI)) (ci := 0) (v := .ref (a1 1)) (C := RX0) (T := TX0) (N := 3) hx hb hts i0 hown hK hP 4 rfl rfl 1 (by decide) (hts (.fieldLink RX0 15 "TwoMetals$Mines" "gold" "[I") (List.mem_of_getElem? (i := 6) rfl)) (fun _ h9 => h9) rfl dX0_copyFrom_16 ?_
  refine lv_iconst (v := (0 : Int32)) hx hb dX0_copyFrom_19 (by decide) ?_
  refine lv_aload_n hx hb dX0_copyFrom_20 rfl (lv_at hl 0 rfl) ?_
  refine va_get (D := (dC, dI)) (ci := 0) (v := .ref (a0 1)) (C := RX0) (T := TX0) (N := 3) hx hb hts i0 hown hK hP 0 rfl rfl 1 (by decide) (hts (.fieldLink RX0 15 "TwoMetals$Mines" "gold" "[I") (List.mem_of_getElem? (i := 6) rfl)) (fun _ h9 => h9) rfl dX0_copyFrom_21 ?_
  refine lv_iconst (v := (0 : Int32)) hx hb dX0_copyFrom_24 (by decide) ?_
  refine lv_bipush (v := (100 : Int32)) hx hb dX0_copyFrom_25 (by decide) ?_
  refine va_copyi hx hb (hml.trans hl.1.symm) hown (hts (.methodLink RX0 27 arraycopyName) (List.mem_of_getElem? (i := 2) rfl)) (hts (.native arraycopyName) (List.mem_of_getElem? (i := 3) rfl)) (hts (.static arraycopyName) (List.mem_of_getElem? (i := 4) rfl)) (hts (.initialized "java/lang/System") (List.mem_of_getElem? (i := 5) rfl)) hK hP (hDa _ _) hS 6 2 0 0 rfl rfl rfl rfl rfl (by decide) (by decide) (by decide) (by decide) (by decide) (fun _ _ => rfl) (Nat.le_of_ble_eq_true rfl) (Nat.le_of_ble_eq_true rfl) dX0_copyFrom_27 (fun H locs hP _ hS => ?_)
  have hP : va_P (dC, dI) vwCl ((o_X0 cy h0 a0 (ob_I u1 1 (va_cpy (w1.1 1) (u1.1 1) (0 : Int32).toNatClampNeg (0 : Int32).toNatClampNeg (100 : Int32).toNatClampNeg))) ++ (o_X0 cy h1 a1 w1)) H := hP
  obtain ⟨u2, hP, hm⟩ := bn_ob (P := fun zz => va_P (dC, dI) vwCl ((o_X0 cy h0 a0 zz) ++ (o_X0 cy h1 a1 w1)) H) hm hP
  refine lv_aload_n hx hb dX0_copyFrom_30 rfl (lv_at hl 1 rfl) ?_
  refine va_get (D := (dC, dI)) (ci := 0) (v := .ref (a1 2)) (C := RX0) (T := TX0) (N := 3) hx hb hts i0 hown hK hP 4 rfl rfl 2 (by decide) (hts (.fieldLink RX0 18 "TwoMetals$Mines" "silver" "[I") (List.mem_of_getElem? (i := 7) rfl)) (fun _ h9 => h9) rfl dX0_copyFrom_31 ?_
  refine lv_iconst (v := (0 : Int32)) hx hb dX0_copyFrom_34 (by decide) ?_
  refine lv_aload_n hx hb dX0_copyFrom_35 rfl (lv_at hl 0 rfl) ?_
  refine va_get (D := (dC, dI)) (ci := 0) (v := .ref (a0 2)) (C := RX0) (T := TX0) (N := 3) hx hb hts i0 hown hK hP 0 rfl rfl 2 (by decide) (hts (.fieldLink RX0 18 "TwoMetals$Mines" "silver" "[I") (List.mem_of_getElem? (i := 7) rfl)) (fun _ h9 => h9) rfl dX0_copyFrom_36 ?_
  refine lv_iconst (v := (0 : Int32)) hx hb dX0_copyFrom_39 (by decide) ?_
  refine lv_bipush (v := (100 : Int32)) hx hb dX0_copyFrom_40 (by decide) ?_
  refine va_copyi hx hb (hml.trans hl.1.symm) hown (hts (.methodLink RX0 27 arraycopyName) (List.mem_of_getElem? (i := 2) rfl)) (hts (.native arraycopyName) (List.mem_of_getElem? (i := 3) rfl)) (hts (.static arraycopyName) (List.mem_of_getElem? (i := 4) rfl)) (hts (.initialized "java/lang/System") (List.mem_of_getElem? (i := 5) rfl)) hK hP (hDa _ _) hS 7 3 0 0 rfl rfl rfl rfl rfl (by decide) (by decide) (by decide) (by decide) (by decide) (fun _ _ => rfl) (Nat.le_of_ble_eq_true rfl) (Nat.le_of_ble_eq_true rfl) dX0_copyFrom_42 (fun H locs hP _ hS => ?_)
  have hP : va_P (dC, dI) vwCl ((o_X0 cy h0 a0 (ob_I u2 2 (va_cpy (w1.1 2) (u2.1 2) (0 : Int32).toNatClampNeg (0 : Int32).toNatClampNeg (100 : Int32).toNatClampNeg))) ++ (o_X0 cy h1 a1 w1)) H := hP
  obtain ⟨u3, hP, hm⟩ := bn_ob (P := fun zz => va_P (dC, dI) vwCl ((o_X0 cy h0 a0 zz) ++ (o_X0 cy h1 a1 w1)) H) hm hP
  obtain rfl := Option.some.inj hm
  exact hret 45 ls _ _ dX0_copyFrom_45 hP hS
set_option maxHeartbeats 4000000 in
set_option maxRecDepth 100000 in
theorem kcX0_tell (l : Launch) (dC : Nat → ClassId) (dI : Nat → Nat → Nat) (cy : Nat → ClassId) (fu : Nat) (h0 : Nat) (a0 : Nat → Nat) (w0 : ob_T) (p1 : Int32) (p2 : Int32) (p3 : Int32) (sz : Nat) (R : ob_T) (hm : mX0_tell fu w0 p1 p2 p3 = some R) : Met l yX0_tell wsX0_tell (rmN 0 0) (va_Pc [.ref h0, .int p1, .int p2, .int p3] (cPre dC dI cy ((o_X0 cy h0 a0 w0)) sz)) (va_Qv (fun (_ : Unit) => True) (fun _ => cPost dC dI cy ((o_X0 cy h0 a0 w0)) ((o_X0 cy h0 a0 R)) sz) (va_A ((o_X0 cy h0 a0 w0)) sz)) 0 0 (va_A ((o_X0 cy h0 a0 w0)) sz) := by
  refine mt_v (cc := cX0_tell) (maxL := 4) (by decide) rfl (Nat.le_of_ble_eq_true rfl) rfl ?_
  intro p e s m below meth c Q A hx hb hml hown hts hK hA hD hP hret ls hl
  have hown : s.vm.findClass RX0 = some m.cls := hown
  have hl : lv_has ls 4 [(0, .ref h0), (1, .int p1), (2, .int p2), (3, .int p3)] := hl
  have hDa : ∀ v0 : ob_T, va_D A ((o_X0 cy h0 a0 v0)) := fun _ => va_D_adr hD rfl
  have i0 : ∀ w ∈ wsX00, w ∈ wsX0_tell := fun _ h => List.mem_cons_of_mem _ (List.mem_append_right _ h)
  have hS : va_S A s.heap s.heap [] := va_S.rf
  unfold mX0_tell at hm
  refine lv_aload_n hx hb dX0_tell_0 rfl (lv_at hl 0 rfl) ?_
  refine va_get (D := (dC, dI)) (ci := 0) (v := .ref (a0 0)) (C := RX0) (T := TX0) (N := 3) hx hb hts i0 hown hK hP 0 rfl rfl 0 (by decide) (hts (.fieldLink RX0 11 "TwoMetals$Mines" "told" "[I") (List.mem_of_getElem? (i := 1) rfl)) (fun _ h9 => h9) rfl dX0_tell_1 ?_
  refine lv_iload_n hx hb dX0_tell_4 rfl (lv_at hl 1 rfl) ?_
  refine lv_iconst (v := (1 : Int32)) hx hb dX0_tell_5 (by decide) ?_
  obtain ⟨hi1, hm⟩ := ck_in hm
  refine va_iast hx hb hK hP (hDa _) hS 1 0 rfl rfl hi1 dX0_tell_6 (fun H locs hP _ hS => ?_)
  have hP : va_P (dC, dI) vwCl ((o_X0 cy h0 a0 (ob_I w0 0 (upd (w0.1 0) p1.toNatClampNeg (1 : Int32))))) H := hP
  obtain ⟨u2, hP, hm⟩ := bn_ob (P := fun zz => va_P (dC, dI) vwCl ((o_X0 cy h0 a0 zz)) H) hm hP
  refine lv_aload_n hx hb dX0_tell_7 rfl (lv_at hl 0 rfl) ?_
  refine va_get (D := (dC, dI)) (ci := 0) (v := .ref (a0 1)) (C := RX0) (T := TX0) (N := 3) hx hb hts i0 hown hK hP 0 rfl rfl 1 (by decide) (hts (.fieldLink RX0 15 "TwoMetals$Mines" "gold" "[I") (List.mem_of_getElem? (i := 2) rfl)) (fun _ h9 => h9) rfl dX0_tell_8 ?_
  refine lv_iload_n hx hb dX0_tell_11 rfl (lv_at hl 1 rfl) ?_
  refine lv_iload_n hx hb dX0_tell_12 rfl (lv_at hl 2 rfl) ?_
  refine va_iast hx hb hK hP (hDa _) hS 2 0 rfl rfl hi1 dX0_tell_13 (fun H locs hP _ hS => ?_)
  have hP : va_P (dC, dI) vwCl ((o_X0 cy h0 a0 (ob_I u2 1 (upd (u2.1 1) p1.toNatClampNeg p2)))) H := hP
  obtain ⟨u3, hP, hm⟩ := bn_ob (P := fun zz => va_P (dC, dI) vwCl ((o_X0 cy h0 a0 zz)) H) hm hP
  refine lv_aload_n hx hb dX0_tell_14 rfl (lv_at hl 0 rfl) ?_
  refine va_get (D := (dC, dI)) (ci := 0) (v := .ref (a0 2)) (C := RX0) (T := TX0) (N := 3) hx hb hts i0 hown hK hP 0 rfl rfl 2 (by decide) (hts (.fieldLink RX0 18 "TwoMetals$Mines" "silver" "[I") (List.mem_of_getElem? (i := 3) rfl)) (fun _ h9 => h9) rfl dX0_tell_15 ?_
  refine lv_iload_n hx hb dX0_tell_18 rfl (lv_at hl 1 rfl) ?_
  refine lv_iload_n hx hb dX0_tell_19 rfl (lv_at hl 3 rfl) ?_
  refine va_iast hx hb hK hP (hDa _) hS 3 0 rfl rfl hi1 dX0_tell_20 (fun H locs hP _ hS => ?_)
  have hP : va_P (dC, dI) vwCl ((o_X0 cy h0 a0 (ob_I u3 2 (upd (u3.1 2) p1.toNatClampNeg p3)))) H := hP
  obtain ⟨u4, hP, hm⟩ := bn_ob (P := fun zz => va_P (dC, dI) vwCl ((o_X0 cy h0 a0 zz)) H) hm hP
  obtain rfl := Option.some.inj hm
  exact hret 21 ls _ _ dX0_tell_21 hP hS
set_option maxHeartbeats 4000000 in
set_option maxRecDepth 100000 in
theorem kcX0_fillGaps (l : Launch) (dC : Nat → ClassId) (dI : Nat → Nat → Nat) (cy : Nat → ClassId) (fu : Nat) (h0 : Nat) (a0 : Nat → Nat) (w0 : ob_T) (sz : Nat) (R : ob_T) (hm : mX0_fillGaps fu w0 = some R) : Met l yX0_fillGaps wsX0_fillGaps (rmN 0 0) (va_Pc [.ref h0] (cPre dC dI cy ((o_X0 cy h0 a0 w0)) sz)) (va_Qv (fun (_ : Unit) => True) (fun _ => cPost dC dI cy ((o_X0 cy h0 a0 w0)) ((o_X0 cy h0 a0 R)) sz) (va_A ((o_X0 cy h0 a0 w0)) sz)) 0 0 (va_A ((o_X0 cy h0 a0 w0)) sz) := by
  refine mt_v (cc := cX0_fillGaps) (maxL := 2) (by decide) rfl (Nat.le_of_ble_eq_true rfl) rfl ?_
  intro p e s m below meth c Q A hx hb hml hown hts hK hA hD hP hret ls hl
  have hown : s.vm.findClass RX0 = some m.cls := hown
  have hl : lv_has ls 2 [(0, .ref h0)] := hl
  have hDa : ∀ v0 : ob_T, va_D A ((o_X0 cy h0 a0 v0)) := fun _ => va_D_adr hD rfl
  have i0 : ∀ w ∈ wsX00, w ∈ wsX0_fillGaps := fun _ h => List.mem_cons_of_mem _ (List.mem_append_right _ h)
  have hS : va_S A s.heap s.heap [] := va_S.rf
  have hB45 : ∀ (k2 : ob_T → Int32 → Option (ob_T)) (_ : ∀ (w0 : ob_T) (l1 : Int32) (H : Heap) (locs : List Loc) (ls : Array Slot), k2 w0 l1 = some R → va_P (dC, dI) vwCl ((o_X0 cy h0 a0 w0)) H → va_S A s.heap H locs → lv_has ls 2 [(0, .ref h0), (1, .int l1)] → W p l e (rmN 0 0) s m ([.ref h0] : List Value).toArray below meth c H locs 0 0 Q (F0 m 2 ls [])) (w0 : ob_T) (l1 : Int32) (H : Heap) (locs : List Loc) (ls : Array Slot), bX0_fillGaps_45 fu k2 w0 l1 = some R → va_P (dC, dI) vwCl ((o_X0 cy h0 a0 w0)) H → va_S A s.heap H locs → lv_has ls 2 [(0, .ref h0), (1, .int l1)] → W p l e (rmN 0 0) s m ([.ref h0] : List Value).toArray below meth c H locs 0 0 Q (F0 m 45 ls []) := by
    intro k2 hk2 w0 l1 H locs ls hm hP hS hl
    unfold bX0_fillGaps_45 at hm
    obtain ⟨x1, e2⟩ : ∃ y : Int32, y = l1 + (1 : Int32) := ⟨_, rfl⟩
    replace hm := bn_at e2 hm
    refine lv_iinc (v := x1) (lv' := [(1, .int x1), (0, .ref h0)]) hx hb dX0_fillGaps_45 hl (k := 1) rfl (by rw [e2]; rfl) (by decide) rfl (fun ls hl => ?_)
    refine lv_goto (tgt := 2) hx hb dX0_fillGaps_48 (by decide) ?_
    exact hk2 w0 x1 _ _ ls hm hP hS (lv_sub hl [1, 0] rfl)
  have hB2 : ∀ (nn : Nat) (w0 : ob_T) (l1 : Int32) (H : Heap) (locs : List Loc) (ls : Array Slot), bX0_fillGaps_2 fu nn w0 l1 = some R → va_P (dC, dI) vwCl ((o_X0 cy h0 a0 w0)) H → va_S A s.heap H locs → lv_has ls 2 [(0, .ref h0), (1, .int l1)] → W p l e (rmN 0 0) s m ([.ref h0] : List Value).toArray below meth c H locs 0 0 Q (F0 m 2 ls []) := by
    intro nn
    induction nn with
    | zero => intro w0 l1 H locs ls hm; exact no_some ((bX0_fillGaps_2_0 fu w0 l1).symm.trans hm)
    | succ nn ih =>
      intro w0 l1 H locs ls hm hP hS hl
      replace hm := (bX0_fillGaps_2_s fu nn w0 l1).symm.trans hm
      refine lv_iload_n hx hb dX0_fillGaps_2 rfl (lv_at hl 1 rfl) ?_
      refine lv_bipush (v := (100 : Int32)) hx hb dX0_fillGaps_3 (by decide) ?_
      refine lv_icmp_ge (tgt := 51) hx hb dX0_fillGaps_5 (by decide) (fun hc => ?_) (fun hc => ?_)
      · replace hm := (if_pos hc).symm.trans hm
        obtain rfl := Option.some.inj hm
        exact hret 51 ls _ _ dX0_fillGaps_51 hP hS
      replace hm := (if_neg hc).symm.trans hm
      refine lv_aload_n hx hb dX0_fillGaps_8 rfl (lv_at hl 0 rfl) ?_
      refine va_get (D := (dC, dI)) (ci := 0) (v := .ref (a0 0)) (C := RX0) (T := TX0) (N := 3) hx hb hts i0 hown hK hP 0 rfl rfl 0 (by decide) (hts (.fieldLink RX0 11 "TwoMetals$Mines" "told" "[I") (List.mem_of_getElem? (i := 1) rfl)) (fun _ h9 => h9) rfl dX0_fillGaps_9 ?_
      refine lv_iload_n hx hb dX0_fillGaps_12 rfl (lv_at hl 1 rfl) ?_
      obtain ⟨hi3, hm⟩ := ck_in hm
      refine va_iald hx hb hK hP 1 0 rfl rfl hi3 dX0_fillGaps_13 ?_
      refine lv_if_ne (tgt := 45) hx hb dX0_fillGaps_14 (by decide) (fun hc => ?_) (fun hc => ?_)
      · replace hm := (if_neg hc).symm.trans hm
        exact hB45 (bX0_fillGaps_2 fu nn) ih w0 l1 _ _ ls hm hP hS (lv_sub hl [0, 1] rfl)
      replace hm := (if_pos hc).symm.trans hm
      refine lv_aload_n hx hb dX0_fillGaps_17 rfl (lv_at hl 0 rfl) ?_
      refine va_get (D := (dC, dI)) (ci := 0) (v := .ref (a0 1)) (C := RX0) (T := TX0) (N := 3) hx hb hts i0 hown hK hP 0 rfl rfl 1 (by decide) (hts (.fieldLink RX0 15 "TwoMetals$Mines" "gold" "[I") (List.mem_of_getElem? (i := 2) rfl)) (fun _ h9 => h9) rfl dX0_fillGaps_18 ?_
      refine lv_iload_n hx hb dX0_fillGaps_21 rfl (lv_at hl 1 rfl) ?_
      refine lv_aload_n hx hb dX0_fillGaps_22 rfl (lv_at hl 0 rfl) ?_
      refine va_get (D := (dC, dI)) (ci := 0) (v := .ref (a0 1)) (C := RX0) (T := TX0) (N := 3) hx hb hts i0 hown hK hP 0 rfl rfl 1 (by decide) (hts (.fieldLink RX0 15 "TwoMetals$Mines" "gold" "[I") (List.mem_of_getElem? (i := 2) rfl)) (fun _ h9 => h9) rfl dX0_fillGaps_23 ?_
      refine lv_iload_n hx hb dX0_fillGaps_26 rfl (lv_at hl 1 rfl) ?_
      refine lv_iconst (v := (1 : Int32)) hx hb dX0_fillGaps_27 (by decide) ?_
      refine lv_isub hx hb dX0_fillGaps_28 ?_
      obtain ⟨hi4, hm⟩ := ck_in hm
      refine va_iald hx hb hK hP 2 0 rfl rfl hi4 dX0_fillGaps_29 ?_
      refine va_iast hx hb hK hP (hDa _) hS 2 0 rfl rfl hi3 dX0_fillGaps_30 (fun H locs hP _ hS => ?_)
      have hP : va_P (dC, dI) vwCl ((o_X0 cy h0 a0 (ob_I w0 1 (upd (w0.1 1) l1.toNatClampNeg (w0.1 1 (l1 - (1 : Int32)).toNatClampNeg))))) H := hP
      obtain ⟨u5, hP, hm⟩ := bn_ob (P := fun zz => va_P (dC, dI) vwCl ((o_X0 cy h0 a0 zz)) H) hm hP
      refine lv_aload_n hx hb dX0_fillGaps_31 rfl (lv_at hl 0 rfl) ?_
      refine va_get (D := (dC, dI)) (ci := 0) (v := .ref (a0 2)) (C := RX0) (T := TX0) (N := 3) hx hb hts i0 hown hK hP 0 rfl rfl 2 (by decide) (hts (.fieldLink RX0 18 "TwoMetals$Mines" "silver" "[I") (List.mem_of_getElem? (i := 3) rfl)) (fun _ h9 => h9) rfl dX0_fillGaps_32 ?_
      refine lv_iload_n hx hb dX0_fillGaps_35 rfl (lv_at hl 1 rfl) ?_
      refine lv_aload_n hx hb dX0_fillGaps_36 rfl (lv_at hl 0 rfl) ?_
      refine va_get (D := (dC, dI)) (ci := 0) (v := .ref (a0 2)) (C := RX0) (T := TX0) (N := 3) hx hb hts i0 hown hK hP 0 rfl rfl 2 (by decide) (hts (.fieldLink RX0 18 "TwoMetals$Mines" "silver" "[I") (List.mem_of_getElem? (i := 3) rfl)) (fun _ h9 => h9) rfl dX0_fillGaps_37 ?_
      refine lv_iload_n hx hb dX0_fillGaps_40 rfl (lv_at hl 1 rfl) ?_
      refine lv_iconst (v := (1 : Int32)) hx hb dX0_fillGaps_41 (by decide) ?_
      refine lv_isub hx hb dX0_fillGaps_42 ?_
      refine va_iald hx hb hK hP 3 0 rfl rfl hi4 dX0_fillGaps_43 ?_
      refine va_iast hx hb hK hP (hDa _) hS 3 0 rfl rfl hi3 dX0_fillGaps_44 (fun H locs hP _ hS => ?_)
      have hP : va_P (dC, dI) vwCl ((o_X0 cy h0 a0 (ob_I u5 2 (upd (u5.1 2) l1.toNatClampNeg (u5.1 2 (l1 - (1 : Int32)).toNatClampNeg))))) H := hP
      obtain ⟨u6, hP, hm⟩ := bn_ob (P := fun zz => va_P (dC, dI) vwCl ((o_X0 cy h0 a0 zz)) H) hm hP
      exact hB45 (bX0_fillGaps_2 fu nn) ih u6 l1 _ _ ls hm hP hS (lv_sub hl [0, 1] rfl)
  unfold mX0_fillGaps at hm
  refine lv_iconst (v := (1 : Int32)) hx hb dX0_fillGaps_0 (by decide) ?_
  refine lv_istore_n (lv' := [(1, .int (1 : Int32)), (0, .ref h0)]) hx hb dX0_fillGaps_1 rfl hl (by decide) rfl (fun ls hl => ?_)
  exact hB2 fu w0 (1 : Int32) _ _ ls hm hP hS (lv_sub hl [1, 0] rfl)
set_option maxHeartbeats 4000000 in
set_option maxRecDepth 100000 in
theorem kcX0_bringTo (l : Launch) (dC : Nat → ClassId) (dI : Nat → Nat → Nat) (cy : Nat → ClassId) (fu : Nat) (h0 : Nat) (a0 : Nat → Nat) (w0 : ob_T) (h1 : Nat) (a1 : Nat → Nat) (w1 : ob_T) (sz : Nat) (R : ob_T) (hm : mX0_bringTo fu w0 w1 = some R) : Met l yX0_bringTo wsX0_bringTo (rmN 2 50) (va_Pc [.ref h0, .ref h1] (cPre dC dI cy ((o_X0 cy h0 a0 w0) ++ (o_X4 cy h1 a1 w1)) sz)) (va_Qv (fun (_ : Unit) => True) (fun _ => cPost dC dI cy ((o_X0 cy h0 a0 w0) ++ (o_X4 cy h1 a1 w1)) ((o_X0 cy h0 a0 w0) ++ (o_X4 cy h1 a1 R)) sz) (va_A ((o_X0 cy h0 a0 w0) ++ (o_X4 cy h1 a1 w1)) sz)) 0 0 (va_A ((o_X0 cy h0 a0 w0) ++ (o_X4 cy h1 a1 w1)) sz) := by
  refine mt_v (cc := cX0_bringTo) (maxL := 3) (by decide) rfl (Nat.le_of_ble_eq_true rfl) rfl ?_
  intro p e s m below meth c Q A hx hb hml hown hts hK hA hD hP hret ls hl
  have hown : s.vm.findClass RX0 = some m.cls := hown
  have hl : lv_has ls 3 [(0, .ref h0), (1, .ref h1)] := hl
  have hDa : ∀ v0 v1 : ob_T, va_D A ((o_X0 cy h0 a0 v0) ++ (o_X4 cy h1 a1 v1)) := fun _ _ => va_D_adr hD rfl
  have i0 : ∀ w ∈ wsX00, w ∈ wsX0_bringTo := fun _ h => List.mem_cons_of_mem _ (List.mem_append_right _ h)
  have i4 : ∀ w ∈ wsX40, w ∈ wsX0_bringTo := fun _ h => List.mem_cons_of_mem _ (List.mem_append_left _ (List.mem_append_right _ h))
  have hS : va_S A s.heap s.heap [] := va_S.rf
  unfold mX0_bringTo at hm
  refine lv_iconst (v := (0 : Int32)) hx hb dX0_bringTo_0 (by decide) ?_
  refine lv_aload_n hx hb dX0_bringTo_1 rfl (lv_at hl 1 rfl) ?_
  refine va_get (D := (dC, dI)) (ci := 4) (v := .int (w1.1 16 0)) (C := RX4) (T := TX4) (N := 17) hx hb hts i4 hown hK hP 4 rfl rfl 16 (by decide) (hts (.fieldLink RX0 33 "TwoMetals$World" "age" "I") (List.mem_of_getElem? (i := 1) rfl)) (fun _ h9 => h9) rfl dX0_bringTo_2 ?_
  refine lv_bipush (v := (99 : Int32)) hx hb dX0_bringTo_5 (by decide) ?_
  refine va_mmin hx hb (hml.trans hl.1.symm) hown (hts (.methodLink RX0 39 Lib.Math.min.name) (List.mem_of_getElem? (i := 2) rfl)) (hts (.static Lib.Math.min.name) (List.mem_of_getElem? (i := 3) rfl)) (hts (.initialized "java/lang/Math") (List.mem_of_getElem? (i := 4) rfl)) (hts (.code Lib.Math.min.name Lib.Math.min.code 2 (some .int)) (List.mem_of_getElem? (i := 5) rfl)) (Nat.le_of_ble_eq_true rfl) (Nat.le_of_ble_eq_true rfl) (Nat.zero_le _) (Nat.zero_le _) dX0_bringTo_7 ?_
  refine va_mmax hx hb (hml.trans hl.1.symm) hown (hts (.methodLink RX0 45 Lib.Math.max.name) (List.mem_of_getElem? (i := 6) rfl)) (hts (.static Lib.Math.max.name) (List.mem_of_getElem? (i := 7) rfl)) (hts (.initialized "java/lang/Math") (List.mem_of_getElem? (i := 4) rfl)) (hts (.code Lib.Math.max.name Lib.Math.max.code 2 (some .int)) (List.mem_of_getElem? (i := 8) rfl)) (Nat.le_of_ble_eq_true rfl) (Nat.le_of_ble_eq_true rfl) (Nat.zero_le _) (Nat.zero_le _) dX0_bringTo_10 ?_
  refine lv_topi (fun x1 e2 => ?_)
  replace hm := bn_at e2 hm
  refine lv_istore_n (lv' := [(2, .int x1), (0, .ref h0), (1, .ref h1)]) hx hb dX0_bringTo_13 rfl hl (by decide) rfl (fun ls hl => ?_)
  refine lv_aload_n hx hb dX0_bringTo_14 rfl (lv_at hl 2 rfl) ?_
  refine lv_dup hx hb dX0_bringTo_15 rfl ?_
  refine va_get (D := (dC, dI)) (ci := 4) (v := .long (w1.2 12 0)) (C := RX4) (T := TX4) (N := 17) hx hb hts i4 hown hK hP 4 rfl rfl 12 (by decide) (hts (.fieldLink RX0 48 "TwoMetals$World" "marketGold" "J") (List.mem_of_getElem? (i := 9) rfl)) (fun _ h9 => h9) rfl dX0_bringTo_16 ?_
  refine lv_aload_n hx hb dX0_bringTo_19 rfl (lv_at hl 1 rfl) ?_
  refine va_get (D := (dC, dI)) (ci := 0) (v := .ref (a0 1)) (C := RX0) (T := TX0) (N := 3) hx hb hts i0 hown hK hP 0 rfl rfl 1 (by decide) (hts (.fieldLink RX0 15 "TwoMetals$Mines" "gold" "[I") (List.mem_of_getElem? (i := 10) rfl)) (fun _ h9 => h9) rfl dX0_bringTo_20 ?_
  refine lv_iload_n hx hb dX0_bringTo_23 rfl (lv_at hl 0 rfl) ?_
  obtain ⟨hi3, hm⟩ := ck_in hm
  refine va_iald hx hb hK hP 2 0 rfl rfl hi3 dX0_bringTo_24 ?_
  refine lv_i2l (v := (w0.1 1 x1.toNatClampNeg).toInt64) hx hb dX0_bringTo_25 rfl ?_
  refine lv_ladd hx hb dX0_bringTo_26 ?_
  refine va_put (D := (dC, dI)) (ci := 4) (v := .long ((w1.2 12 0) + ((w0.1 1 x1.toNatClampNeg).toInt64))) (ty := .long) (C := RX4) (T := TX4) (N := 17) hx hb hts i4 tyX4 tyX4_ok nmX4 hown hK hP (hDa _ _) hS 4 rfl rfl 12 (by decide) (hts (.fieldLink RX0 48 "TwoMetals$World" "marketGold" "J") (List.mem_of_getElem? (i := 9) rfl)) (fun _ h9 => h9) rfl (tyX4_ok 12 (by decide)) rfl rfl (Nat.le_of_ble_eq_true rfl) dX0_bringTo_27 (fun H locs hP _ hS => ?_)
  have hP : va_P (dC, dI) vwCl ((o_X0 cy h0 a0 w0) ++ (o_X4 cy h1 a1 (ob_L w1 12 (fun _ => (w1.2 12 0) + ((w0.1 1 x1.toNatClampNeg).toInt64))))) H := hP
  obtain ⟨u4, hP, hm⟩ := bn_ob (P := fun zz => va_P (dC, dI) vwCl ((o_X0 cy h0 a0 w0) ++ (o_X4 cy h1 a1 zz)) H) hm hP
  refine lv_aload_n hx hb dX0_bringTo_30 rfl (lv_at hl 2 rfl) ?_
  refine lv_dup hx hb dX0_bringTo_31 rfl ?_
  refine va_get (D := (dC, dI)) (ci := 4) (v := .long (u4.2 13 0)) (C := RX4) (T := TX4) (N := 17) hx hb hts i4 hown hK hP 4 rfl rfl 13 (by decide) (hts (.fieldLink RX0 52 "TwoMetals$World" "marketSilver" "J") (List.mem_of_getElem? (i := 11) rfl)) (fun _ h9 => h9) rfl dX0_bringTo_32 ?_
  refine lv_ldc2 (v := (1000 : Int64)) hx hb hown (hts (.constantLong RX0 55 (1000)) (List.mem_of_getElem? (i := 12) rfl)) dX0_bringTo_35 ?_
  refine lv_aload_n hx hb dX0_bringTo_38 rfl (lv_at hl 1 rfl) ?_
  refine va_get (D := (dC, dI)) (ci := 0) (v := .ref (a0 2)) (C := RX0) (T := TX0) (N := 3) hx hb hts i0 hown hK hP 0 rfl rfl 2 (by decide) (hts (.fieldLink RX0 18 "TwoMetals$Mines" "silver" "[I") (List.mem_of_getElem? (i := 13) rfl)) (fun _ h9 => h9) rfl dX0_bringTo_39 ?_
  refine lv_iload_n hx hb dX0_bringTo_42 rfl (lv_at hl 0 rfl) ?_
  refine va_iald hx hb hK hP 3 0 rfl rfl hi3 dX0_bringTo_43 ?_
  refine lv_i2l (v := (w0.1 2 x1.toNatClampNeg).toInt64) hx hb dX0_bringTo_44 rfl ?_
  refine lv_lmul hx hb dX0_bringTo_45 ?_
  refine lv_ladd hx hb dX0_bringTo_46 ?_
  refine va_put (D := (dC, dI)) (ci := 4) (v := .long ((u4.2 13 0) + ((1000 : Int64) * ((w0.1 2 x1.toNatClampNeg).toInt64)))) (ty := .long) (C := RX4) (T := TX4) (N := 17) hx hb hts i4 tyX4 tyX4_ok nmX4 hown hK hP (hDa _ _) hS 4 rfl rfl 13 (by decide) (hts (.fieldLink RX0 52 "TwoMetals$World" "marketSilver" "J") (List.mem_of_getElem? (i := 11) rfl)) (fun _ h9 => h9) rfl (tyX4_ok 13 (by decide)) rfl rfl (Nat.le_of_ble_eq_true rfl) dX0_bringTo_47 (fun H locs hP _ hS => ?_)
  have hP : va_P (dC, dI) vwCl ((o_X0 cy h0 a0 w0) ++ (o_X4 cy h1 a1 (ob_L u4 13 (fun _ => (u4.2 13 0) + ((1000 : Int64) * ((w0.1 2 x1.toNatClampNeg).toInt64)))))) H := hP
  obtain ⟨u5, hP, hm⟩ := bn_ob (P := fun zz => va_P (dC, dI) vwCl ((o_X0 cy h0 a0 w0) ++ (o_X4 cy h1 a1 zz)) H) hm hP
  refine lv_aload_n hx hb dX0_bringTo_50 rfl (lv_at hl 2 rfl) ?_
  obtain ⟨r6, hr6, hm⟩ := bn_call hm
  refine ca_vv (wr := (o_X0 cy h0 a0 w0)) (wn := (o_X0 cy h0 a0 w0) ++ (o_X4 cy h1 a1 r6)) ⟨hx, hb, hml, hown, hts⟩ hK hA (hDa _ _) hP hS [4, 5, 6, 7, 8, 9, 10, 11, 12, 13] [0, 1, 2, 3] [0, 1, 2, 3, 4, 5, 6, 7, 8, 9, 10, 11, 12, 13] (fun sz => kcX4_weigh l dC dI cy fu h1 a1 u5 sz r6 hr6) rfl rfl (by decide) (by decide) (by decide) rfl (cwV 0 hts gX0_bringTo_X4_weigh rfl rfl rfl ⟨rfl, ydX4_weigh⟩ ⟨Nat.le_of_ble_eq_true rfl, Nat.le_of_ble_eq_true rfl⟩) 4 0 rfl rfl rfl rfl hl.1 rfl (Nat.le_of_ble_eq_true rfl) dX0_bringTo_51 ⟨Nat.zero_le _, Nat.zero_le _⟩ (fun H locs hP hS => ?_)
  obtain rfl := Option.some.inj hm
  exact hret 54 ls _ _ dX0_bringTo_54 hP hS
set_option maxHeartbeats 4000000 in
set_option maxRecDepth 100000 in
theorem kcX1_goRound (l : Launch) (dC : Nat → ClassId) (dI : Nat → Nat → Nat) (cy : Nat → ClassId) (fu : Nat) (h0 : Nat) (a0 : Nat → Nat) (w0 : ob_T) (h1 : Nat) (a1 : Nat → Nat) (w1 : ob_T) (sz : Nat) (R : Int32 × ob_T × ob_T) (hm : mX1_goRound fu w0 w1 = some R) : Met l yX1_goRound wsX1_goRound (rmN 3 73) (va_Pc [.ref h0, .ref h1] (cPre dC dI cy ((o_X1 cy h0 a0 w0) ++ (o_X4 cy h1 a1 w1)) sz)) (va_Qi (fun (r : Int32) (_ : Unit) => r = R.1) (fun _ => cPost dC dI cy ((o_X1 cy h0 a0 w0) ++ (o_X4 cy h1 a1 w1)) ((o_X1 cy h0 a0 R.2.1) ++ (o_X4 cy h1 a1 R.2.2)) sz) (va_A ((o_X1 cy h0 a0 w0) ++ (o_X4 cy h1 a1 w1)) sz)) 0 0 (va_A ((o_X1 cy h0 a0 w0) ++ (o_X4 cy h1 a1 w1)) sz) := by
  refine mt_i (cc := cX1_goRound) (maxL := 5) (by decide) rfl (Nat.le_of_ble_eq_true rfl) rfl ?_
  intro p e s m below meth c Q A hx hb hml hown hts hK hA hD hP hret ls hl
  have hown : s.vm.findClass RX1 = some m.cls := hown
  have hl : lv_has ls 5 [(0, .ref h0), (1, .ref h1)] := hl
  have hDa : ∀ v0 v1 : ob_T, va_D A ((o_X1 cy h0 a0 v0) ++ (o_X4 cy h1 a1 v1)) := fun _ _ => va_D_adr hD rfl
  have i1 : ∀ w ∈ wsX10, w ∈ wsX1_goRound := fun _ h => List.mem_cons_of_mem _ (List.mem_append_left _ (List.mem_append_right _ h))
  have hS : va_S A s.heap s.heap [] := va_S.rf
  have hB55 : ∀ (k4 : ob_T → ob_T → Int32 → Int32 → Option (Int32 × ob_T × ob_T)) (_ : ∀ (w0 : ob_T) (w1 : ob_T) (l2 : Int32) (l3 : Int32) (H : Heap) (locs : List Loc) (ls : Array Slot), k4 w0 w1 l2 l3 = some R → va_P (dC, dI) vwCl ((o_X1 cy h0 a0 w0) ++ (o_X4 cy h1 a1 w1)) H → va_S A s.heap H locs → lv_has ls 5 [(0, .ref h0), (1, .ref h1), (2, .int l2), (3, .int l3)] → W p l e (rmN 3 73) s m ([.ref h0, .ref h1] : List Value).toArray below meth c H locs 0 0 Q (F0 m 4 ls [])) (w0 : ob_T) (w1 : ob_T) (l2 : Int32) (l3 : Int32) (H : Heap) (locs : List Loc) (ls : Array Slot), bX1_goRound_55 fu k4 w0 w1 l2 l3 = some R → va_P (dC, dI) vwCl ((o_X1 cy h0 a0 w0) ++ (o_X4 cy h1 a1 w1)) H → va_S A s.heap H locs → lv_has ls 5 [(0, .ref h0), (1, .ref h1), (2, .int l2), (3, .int l3)] → W p l e (rmN 3 73) s m ([.ref h0, .ref h1] : List Value).toArray below meth c H locs 0 0 Q (F0 m 55 ls []) := by
    intro k4 hk4 w0 w1 l2 l3 H locs ls hm hP hS hl
    unfold bX1_goRound_55 at hm
    obtain ⟨x1, e2⟩ : ∃ y : Int32, y = l3 + (1 : Int32) := ⟨_, rfl⟩
    replace hm := bn_at e2 hm
    refine lv_iinc (v := x1) (lv' := [(3, .int x1), (0, .ref h0), (1, .ref h1), (2, .int l2)]) hx hb dX1_goRound_55 hl (k := 3) rfl (by rw [e2]; rfl) (by decide) rfl (fun ls hl => ?_)
    refine lv_goto (tgt := 4) hx hb dX1_goRound_58 (by decide) ?_
    exact hk4 w0 w1 l2 x1 _ _ ls hm hP hS (lv_sub hl [1, 2, 3, 0] rfl)
  have hB28 : ∀ (k4 : ob_T → ob_T → Int32 → Int32 → Option (Int32 × ob_T × ob_T)) (_ : ∀ (w0 : ob_T) (w1 : ob_T) (l2 : Int32) (l3 : Int32) (H : Heap) (locs : List Loc) (ls : Array Slot), k4 w0 w1 l2 l3 = some R → va_P (dC, dI) vwCl ((o_X1 cy h0 a0 w0) ++ (o_X4 cy h1 a1 w1)) H → va_S A s.heap H locs → lv_has ls 5 [(0, .ref h0), (1, .ref h1), (2, .int l2), (3, .int l3)] → W p l e (rmN 3 73) s m ([.ref h0, .ref h1] : List Value).toArray below meth c H locs 0 0 Q (F0 m 4 ls [])) (w0 : ob_T) (w1 : ob_T) (l2 : Int32) (l3 : Int32) (s0 : Int32) (H : Heap) (locs : List Loc) (ls : Array Slot), bX1_goRound_28 fu k4 w0 w1 l2 l3 s0 = some R → va_P (dC, dI) vwCl ((o_X1 cy h0 a0 w0) ++ (o_X4 cy h1 a1 w1)) H → va_S A s.heap H locs → lv_has ls 5 [(0, .ref h0), (1, .ref h1), (2, .int l2), (3, .int l3)] → W p l e (rmN 3 73) s m ([.ref h0, .ref h1] : List Value).toArray below meth c H locs 0 0 Q (F0 m 28 ls [.int s0]) := by
    intro k4 hk4 w0 w1 l2 l3 s0 H locs ls hm hP hS hl
    unfold bX1_goRound_28 at hm
    refine lv_istore (lv' := [(4, .int s0), (0, .ref h0), (1, .ref h1), (2, .int l2), (3, .int l3)]) hx hb dX1_goRound_28 hl (by decide) rfl (fun ls hl => ?_)
    refine lv_iload hx hb dX1_goRound_30 (lv_at hl 0 rfl) ?_
    refine lv_if_eq (tgt := 55) hx hb dX1_goRound_32 (by decide) (fun hc => ?_) (fun hc => ?_)
    · replace hm := (if_pos hc).symm.trans hm
      exact hB55 (k4) hk4 w0 w1 l2 l3 _ _ ls hm hP hS (lv_sub hl [1, 2, 3, 4] rfl)
    replace hm := (if_neg hc).symm.trans hm
    refine lv_aload_n hx hb dX1_goRound_35 rfl (lv_at hl 2 rfl) ?_
    refine lv_iload_n hx hb dX1_goRound_36 rfl (lv_at hl 4 rfl) ?_
    refine lv_iload hx hb dX1_goRound_37 (lv_at hl 0 rfl) ?_
    obtain ⟨r3, hr3, hm⟩ := bn_call hm
    refine ca_vv (wr := (o_X1 cy h0 a0 w0)) (wn := (o_X1 cy h0 a0 w0) ++ (o_X4 cy h1 a1 r3)) ⟨hx, hb, hml, hown, hts⟩ hK hA (hDa _ _) hP hS [3, 4, 5, 6, 7, 8, 9, 10, 11, 12] [0, 1, 2] [0, 1, 2, 3, 4, 5, 6, 7, 8, 9, 10, 11, 12] (fun sz => kcX4_carry l dC dI cy fu h1 a1 w1 l3 s0 sz r3 hr3) rfl rfl (by decide) (by decide) (by decide) rfl (cwV 2 hts gX1_goRound_X4_carry rfl rfl rfl ⟨rfl, ydX4_carry⟩ ⟨Nat.le_of_ble_eq_true rfl, Nat.le_of_ble_eq_true rfl⟩) 4 0 rfl rfl rfl rfl hl.1 rfl (Nat.le_of_ble_eq_true rfl) dX1_goRound_39 ⟨Nat.zero_le _, Nat.zero_le _⟩ (fun H locs hP hS => ?_)
    refine lv_aload_n hx hb dX1_goRound_42 rfl (lv_at hl 1 rfl) ?_
    refine va_get (D := (dC, dI)) (ci := 1) (v := .ref (a0 0)) (C := RX1) (T := TX1) (N := 2) hx hb hts i1 hown hK hP 0 rfl rfl 0 (by decide) (hts (.fieldLink RX1 11 "TwoMetals$Mover" "left" "[I") (List.mem_of_getElem? (i := 1) rfl)) (fun _ h9 => h9) rfl dX1_goRound_43 ?_
    refine lv_iload_n hx hb dX1_goRound_46 rfl (lv_at hl 4 rfl) ?_
    refine lv_dup2_11 hx hb dX1_goRound_47 rfl rfl ?_
    obtain ⟨hi4, hm⟩ := ck_in hm
    refine va_iald hx hb hK hP 1 0 rfl rfl hi4 dX1_goRound_48 ?_
    refine lv_iconst (v := (1 : Int32)) hx hb dX1_goRound_49 (by decide) ?_
    refine lv_isub hx hb dX1_goRound_50 ?_
    refine va_iast hx hb hK hP (hDa _ _) hS 1 0 rfl rfl hi4 dX1_goRound_51 (fun H locs hP _ hS => ?_)
    have hP : va_P (dC, dI) vwCl ((o_X1 cy h0 a0 (ob_I w0 0 (upd (w0.1 0) l3.toNatClampNeg ((w0.1 0 l3.toNatClampNeg) - (1 : Int32))))) ++ (o_X4 cy h1 a1 r3)) H := hP
    obtain ⟨u5, hP, hm⟩ := bn_ob (P := fun zz => va_P (dC, dI) vwCl ((o_X1 cy h0 a0 zz) ++ (o_X4 cy h1 a1 r3)) H) hm hP
    obtain ⟨x6, e7⟩ : ∃ y : Int32, y = l2 + (1 : Int32) := ⟨_, rfl⟩
    replace hm := bn_at e7 hm
    refine lv_iinc (v := x6) (lv' := [(2, .int x6), (4, .int s0), (0, .ref h0), (1, .ref h1), (3, .int l3)]) hx hb dX1_goRound_52 hl (k := 3) rfl (by rw [e7]; rfl) (by decide) rfl (fun ls hl => ?_)
    exact hB55 (k4) hk4 u5 r3 x6 l3 _ _ ls hm hP hS (lv_sub hl [2, 3, 0, 4] rfl)
  have hB4 : ∀ (nn : Nat) (w0 : ob_T) (w1 : ob_T) (l2 : Int32) (l3 : Int32) (H : Heap) (locs : List Loc) (ls : Array Slot), bX1_goRound_4 fu nn w0 w1 l2 l3 = some R → va_P (dC, dI) vwCl ((o_X1 cy h0 a0 w0) ++ (o_X4 cy h1 a1 w1)) H → va_S A s.heap H locs → lv_has ls 5 [(0, .ref h0), (1, .ref h1), (2, .int l2), (3, .int l3)] → W p l e (rmN 3 73) s m ([.ref h0, .ref h1] : List Value).toArray below meth c H locs 0 0 Q (F0 m 4 ls []) := by
    intro nn
    induction nn with
    | zero => intro w0 w1 l2 l3 H locs ls hm; exact no_some ((bX1_goRound_4_0 fu w0 w1 l2 l3).symm.trans hm)
    | succ nn ih =>
      intro w0 w1 l2 l3 H locs ls hm hP hS hl
      replace hm := (bX1_goRound_4_s fu nn w0 w1 l2 l3).symm.trans hm
      refine lv_iload_n hx hb dX1_goRound_4 rfl (lv_at hl 3 rfl) ?_
      refine lv_bipush (v := (8 : Int32)) hx hb dX1_goRound_5 (by decide) ?_
      refine lv_icmp_ge (tgt := 61) hx hb dX1_goRound_7 (by decide) (fun hc => ?_) (fun hc => ?_)
      · replace hm := (if_pos hc).symm.trans hm
        refine lv_iload_n hx hb dX1_goRound_61 rfl (lv_at hl 2 rfl) ?_
        obtain rfl := Option.some.inj hm
        exact hret 62 ls _ _ dX1_goRound_62 hP hS
      replace hm := (if_neg hc).symm.trans hm
      refine lv_aload_n hx hb dX1_goRound_10 rfl (lv_at hl 0 rfl) ?_
      refine va_get (D := (dC, dI)) (ci := 1) (v := .ref (a0 0)) (C := RX1) (T := TX1) (N := 2) hx hb hts i1 hown hK hP 0 rfl rfl 0 (by decide) (hts (.fieldLink RX1 11 "TwoMetals$Mover" "left" "[I") (List.mem_of_getElem? (i := 1) rfl)) (fun _ h9 => h9) rfl dX1_goRound_11 ?_
      refine lv_iload_n hx hb dX1_goRound_14 rfl (lv_at hl 3 rfl) ?_
      obtain ⟨hi8, hm⟩ := ck_in hm
      refine va_iald hx hb hK hP 1 0 rfl rfl hi8 dX1_goRound_15 ?_
      refine lv_if_le (tgt := 27) hx hb dX1_goRound_16 (by decide) (fun hc => ?_) (fun hc => ?_)
      · replace hm := (if_pos hc).symm.trans hm
        refine lv_iconst (v := (0 : Int32)) hx hb dX1_goRound_27 (by decide) ?_
        exact hB28 (bX1_goRound_4 fu nn) ih w0 w1 l2 l3 (0 : Int32) _ _ ls hm hP hS (lv_sub hl [0, 1, 2, 3] rfl)
      replace hm := (if_neg hc).symm.trans hm
      refine lv_aload_n hx hb dX1_goRound_19 rfl (lv_at hl 1 rfl) ?_
      refine lv_iload_n hx hb dX1_goRound_20 rfl (lv_at hl 3 rfl) ?_
      obtain ⟨r9, hr9, hm⟩ := bn_call hm
      refine ca_vi (wr := (o_X1 cy h0 a0 w0)) (wn := (o_X1 cy h0 a0 w0) ++ (o_X4 cy h1 a1 w1)) ⟨hx, hb, hml, hown, hts⟩ hK hA (hDa _ _) hP hS [3, 4, 5, 6, 7, 8, 9, 10, 11, 12] [0, 1, 2] [0, 1, 2, 3, 4, 5, 6, 7, 8, 9, 10, 11, 12] (fun sz => kcX4_heading l dC dI cy fu h1 a1 w1 l3 sz r9 hr9) rfl rfl (by decide) (by decide) (by decide) rfl (cwV 1 hts gX1_goRound_X4_heading rfl rfl rfl ⟨rfl, ydX4_heading⟩ ⟨Nat.le_of_ble_eq_true rfl, Nat.le_of_ble_eq_true rfl⟩) 4 0 rfl rfl rfl rfl hl.1 rfl (Nat.le_of_ble_eq_true rfl) dX1_goRound_21 ⟨Nat.zero_le _, Nat.zero_le _⟩ (fun H locs hP hS => ?_)
      refine lv_goto (tgt := 28) hx hb dX1_goRound_24 (by decide) ?_
      exact hB28 (bX1_goRound_4 fu nn) ih w0 w1 l2 l3 r9 _ _ ls hm hP hS (lv_sub hl [0, 1, 2, 3] rfl)
  unfold mX1_goRound at hm
  refine lv_iconst (v := (0 : Int32)) hx hb dX1_goRound_0 (by decide) ?_
  refine lv_istore_n (lv' := [(2, .int (0 : Int32)), (0, .ref h0), (1, .ref h1)]) hx hb dX1_goRound_1 rfl hl (by decide) rfl (fun ls hl => ?_)
  refine lv_iconst (v := (0 : Int32)) hx hb dX1_goRound_2 (by decide) ?_
  refine lv_istore_n (lv' := [(3, .int (0 : Int32)), (2, .int (0 : Int32)), (0, .ref h0), (1, .ref h1)]) hx hb dX1_goRound_3 rfl hl (by decide) rfl (fun ls hl => ?_)
  exact hB4 fu w0 w1 (0 : Int32) (0 : Int32) _ _ ls hm hP hS (lv_sub hl [2, 3, 1, 0] rfl)
set_option maxHeartbeats 4000000 in
set_option maxRecDepth 100000 in
theorem kcX1_passYear (l : Launch) (dC : Nat → ClassId) (dI : Nat → Nat → Nat) (cy : Nat → ClassId) (fu : Nat) (h0 : Nat) (a0 : Nat → Nat) (w0 : ob_T) (h1 : Nat) (a1 : Nat → Nat) (w1 : ob_T) (h2 : Nat) (a2 : Nat → Nat) (w2 : ob_T) (sz : Nat) (R : Int32 × ob_T × ob_T) (hm : mX1_passYear fu w0 w1 w2 = some R) : Met l yX1_passYear wsX1_passYear (rmN 4 97) (va_Pc [.ref h0, .ref h1, .ref h2] (cPre dC dI cy ((o_X1 cy h0 a0 w0) ++ (o_X4 cy h1 a1 w1) ++ (o_X0 cy h2 a2 w2)) sz)) (va_Qi (fun (r : Int32) (_ : Unit) => r = R.1) (fun _ => cPost dC dI cy ((o_X1 cy h0 a0 w0) ++ (o_X4 cy h1 a1 w1) ++ (o_X0 cy h2 a2 w2)) ((o_X1 cy h0 a0 R.2.1) ++ (o_X4 cy h1 a1 R.2.2) ++ (o_X0 cy h2 a2 w2)) sz) (va_A ((o_X1 cy h0 a0 w0) ++ (o_X4 cy h1 a1 w1) ++ (o_X0 cy h2 a2 w2)) sz)) 0 0 (va_A ((o_X1 cy h0 a0 w0) ++ (o_X4 cy h1 a1 w1) ++ (o_X0 cy h2 a2 w2)) sz) := by
  refine mt_i (cc := cX1_passYear) (maxL := 6) (by decide) rfl (Nat.le_of_ble_eq_true rfl) rfl ?_
  intro p e s m below meth c Q A hx hb hml hown hts hK hA hD hP hret ls hl
  have hown : s.vm.findClass RX1 = some m.cls := hown
  have hl : lv_has ls 6 [(0, .ref h0), (1, .ref h1), (2, .ref h2)] := hl
  have hDa : ∀ v0 v1 v2 : ob_T, va_D A ((o_X1 cy h0 a0 v0) ++ (o_X4 cy h1 a1 v1) ++ (o_X0 cy h2 a2 v2)) := fun _ _ _ => va_D_adr hD rfl
  have i1 : ∀ w ∈ wsX10, w ∈ wsX1_passYear := fun _ h => List.mem_cons_of_mem _ (List.mem_append_left _ (List.mem_append_right _ h))
  have i4 : ∀ w ∈ wsX40, w ∈ wsX1_passYear := fun _ h => List.mem_cons_of_mem _ (List.mem_append_left _ (List.mem_append_left _ (List.mem_append_right _ h)))
  have hS : va_S A s.heap s.heap [] := va_S.rf
  have hB59 : ∀ (w0 : ob_T) (w1 : ob_T) (l3 : Int32) (H : Heap) (locs : List Loc) (ls : Array Slot), bX1_passYear_59 fu w2 w0 w1 l3 = some R → va_P (dC, dI) vwCl ((o_X1 cy h0 a0 w0) ++ (o_X4 cy h1 a1 w1) ++ (o_X0 cy h2 a2 w2)) H → va_S A s.heap H locs → lv_has ls 6 [(1, .ref h1), (3, .int l3)] → W p l e (rmN 4 97) s m ([.ref h0, .ref h1, .ref h2] : List Value).toArray below meth c H locs 0 0 Q (F0 m 59 ls []) := by
    intro w0 w1 l3 H locs ls hm hP hS hl
    unfold bX1_passYear_59 at hm
    refine lv_aload_n hx hb dX1_passYear_59 rfl (lv_at hl 0 rfl) ?_
    obtain ⟨r1, hr1, hm⟩ := bn_call hm
    refine ca_vv (wr := (o_X1 cy h0 a0 w0) ++ (o_X0 cy h2 a2 w2)) (wn := (o_X1 cy h0 a0 w0) ++ (o_X4 cy h1 a1 r1) ++ (o_X0 cy h2 a2 w2)) ⟨hx, hb, hml, hown, hts⟩ hK hA (hDa _ _ _) hP hS [3, 4, 5, 6, 7, 8, 9, 10, 11, 12] [0, 1, 2, 13, 14, 15, 16] [0, 1, 2, 7, 8, 9, 10, 11, 12, 13, 14, 15, 16, 3, 4, 5, 6] (fun sz => kcX4_stopThoseThatRanLow l dC dI cy fu h1 a1 w1 sz r1 hr1) rfl rfl (by decide) (by decide) (by decide) rfl (cwV 0 hts gX1_passYear_X4_stopThoseThatRanLow rfl rfl rfl ⟨rfl, ydX4_stopThoseThatRanLow⟩ ⟨Nat.le_of_ble_eq_true rfl, Nat.le_of_ble_eq_true rfl⟩) 4 0 rfl rfl rfl rfl hl.1 rfl (Nat.le_of_ble_eq_true rfl) dX1_passYear_60 ⟨Nat.zero_le _, Nat.zero_le _⟩ (fun H locs hP hS => ?_)
    refine lv_aload_n hx hb dX1_passYear_63 rfl (lv_at hl 0 rfl) ?_
    refine lv_dup hx hb dX1_passYear_64 rfl ?_
    refine va_get (D := (dC, dI)) (ci := 4) (v := .int (r1.1 16 0)) (C := RX4) (T := TX4) (N := 17) hx hb hts i4 hown hK hP 3 rfl rfl 16 (by decide) (hts (.fieldLink RX1 43 "TwoMetals$World" "age" "I") (List.mem_of_getElem? (i := 7) rfl)) (fun _ h9 => h9) rfl dX1_passYear_65 ?_
    refine lv_iconst (v := (1 : Int32)) hx hb dX1_passYear_68 (by decide) ?_
    refine lv_iadd hx hb dX1_passYear_69 ?_
    refine va_put (D := (dC, dI)) (ci := 4) (v := .int ((r1.1 16 0) + (1 : Int32))) (ty := .int) (C := RX4) (T := TX4) (N := 17) hx hb hts i4 tyX4 tyX4_ok nmX4 hown hK hP (hDa _ _ _) hS 3 rfl rfl 16 (by decide) (hts (.fieldLink RX1 43 "TwoMetals$World" "age" "I") (List.mem_of_getElem? (i := 7) rfl)) (fun _ h9 => h9) rfl (tyX4_ok 16 (by decide)) rfl rfl (Nat.le_of_ble_eq_true rfl) dX1_passYear_70 (fun H locs hP _ hS => ?_)
    have hP : va_P (dC, dI) vwCl ((o_X1 cy h0 a0 w0) ++ (o_X4 cy h1 a1 (ob_I r1 16 (fun _ => (r1.1 16 0) + (1 : Int32)))) ++ (o_X0 cy h2 a2 w2)) H := hP
    obtain ⟨u2, hP, hm⟩ := bn_ob (P := fun zz => va_P (dC, dI) vwCl ((o_X1 cy h0 a0 w0) ++ (o_X4 cy h1 a1 zz) ++ (o_X0 cy h2 a2 w2)) H) hm hP
    refine lv_iload_n hx hb dX1_passYear_73 rfl (lv_at hl 1 rfl) ?_
    obtain rfl := Option.some.inj hm
    exact hret 74 ls _ _ dX1_passYear_74 hP hS
  have hB25 : ∀ (nn : Nat) (w0 : ob_T) (w1 : ob_T) (l3 : Int32) (l4 : Int32) (H : Heap) (locs : List Loc) (ls : Array Slot), bX1_passYear_25 fu w2 nn w0 w1 l3 l4 = some R → va_P (dC, dI) vwCl ((o_X1 cy h0 a0 w0) ++ (o_X4 cy h1 a1 w1) ++ (o_X0 cy h2 a2 w2)) H → va_S A s.heap H locs → lv_has ls 6 [(0, .ref h0), (1, .ref h1), (3, .int l3), (4, .int l4)] → W p l e (rmN 4 97) s m ([.ref h0, .ref h1, .ref h2] : List Value).toArray below meth c H locs 0 0 Q (F0 m 25 ls []) := by
    intro nn
    induction nn with
    | zero => intro w0 w1 l3 l4 H locs ls hm; exact no_some ((bX1_passYear_25_0 fu w2 w0 w1 l3 l4).symm.trans hm)
    | succ nn ih =>
      intro w0 w1 l3 l4 H locs ls hm hP hS hl
      replace hm := (bX1_passYear_25_s fu w2 nn w0 w1 l3 l4).symm.trans hm
      refine lv_iload hx hb dX1_passYear_25 (lv_at hl 3 rfl) ?_
      refine lv_sipush (v := (7993 : Int32)) hx hb dX1_passYear_27 (by decide) ?_
      refine lv_icmp_ge (tgt := 59) hx hb dX1_passYear_30 (by decide) (fun hc => ?_) (fun hc => ?_)
      · replace hm := (if_pos hc).symm.trans hm
        exact hB59 w0 w1 l3 _ _ ls hm hP hS (lv_sub hl [1, 2] rfl)
      replace hm := (if_neg hc).symm.trans hm
      refine lv_aload_n hx hb dX1_passYear_33 rfl (lv_at hl 0 rfl) ?_
      refine lv_aload_n hx hb dX1_passYear_34 rfl (lv_at hl 1 rfl) ?_
      obtain ⟨r3, hr3, hm⟩ := bn_call hm
      refine ca_vi (wr := (o_X0 cy h2 a2 w2)) (wn := (o_X1 cy h0 a0 r3.2.1) ++ (o_X4 cy h1 a1 r3.2.2) ++ (o_X0 cy h2 a2 w2)) ⟨hx, hb, hml, hown, hts⟩ hK hA (hDa _ _ _) hP hS [0, 1, 2, 3, 4, 5, 6, 7, 8, 9, 10, 11, 12] [13, 14, 15, 16] [4, 5, 6, 7, 8, 9, 10, 11, 12, 13, 14, 15, 16, 0, 1, 2, 3] (fun sz => kcX1_goRound l dC dI cy fu h0 a0 w0 h1 a1 w1 sz r3 hr3) rfl rfl (by decide) (by decide) (by decide) rfl (cwV 1 hts gX1_passYear_X1_goRound rfl rfl rfl ⟨rfl, ydX1_goRound⟩ ⟨Nat.le_of_ble_eq_true rfl, Nat.le_of_ble_eq_true rfl⟩) 1 0 rfl rfl rfl rfl hl.1 rfl (Nat.le_of_ble_eq_true rfl) dX1_passYear_35 ⟨Nat.zero_le _, Nat.zero_le _⟩ (fun H locs hP hS => ?_)
      refine lv_istore (lv' := [(5, .int r3.1), (0, .ref h0), (1, .ref h1), (3, .int l3), (4, .int l4)]) hx hb dX1_passYear_38 hl (by decide) rfl (fun ls hl => ?_)
      refine lv_iload hx hb dX1_passYear_40 (lv_at hl 0 rfl) ?_
      refine lv_if_ne (tgt := 48) hx hb dX1_passYear_42 (by decide) (fun hc => ?_) (fun hc => ?_)
      · replace hm := (if_neg hc).symm.trans hm
        refine lv_iload_n hx hb dX1_passYear_48 rfl (lv_at hl 3 rfl) ?_
        refine lv_iload hx hb dX1_passYear_49 (lv_at hl 0 rfl) ?_
        refine lv_iadd hx hb dX1_passYear_51 ?_
        refine lv_topi (fun x4 e5 => ?_)
        replace hm := bn_at e5 hm
        refine lv_istore_n (lv' := [(3, .int x4), (5, .int r3.1), (0, .ref h0), (1, .ref h1), (4, .int l4)]) hx hb dX1_passYear_52 rfl hl (by decide) rfl (fun ls hl => ?_)
        obtain ⟨x6, e7⟩ : ∃ y : Int32, y = l4 + (1 : Int32) := ⟨_, rfl⟩
        replace hm := bn_at e7 hm
        refine lv_iinc (v := x6) (lv' := [(4, .int x6), (3, .int x4), (5, .int r3.1), (0, .ref h0), (1, .ref h1)]) hx hb dX1_passYear_53 hl (k := 4) rfl (by rw [e7]; rfl) (by decide) rfl (fun ls hl => ?_)
        refine lv_goto (tgt := 25) hx hb dX1_passYear_56 (by decide) ?_
        exact ih r3.2.1 r3.2.2 x4 x6 _ _ ls hm hP hS (lv_sub hl [3, 4, 1, 0] rfl)
      replace hm := (if_pos hc).symm.trans hm
      refine lv_goto (tgt := 59) hx hb dX1_passYear_45 (by decide) ?_
      exact hB59 r3.2.1 r3.2.2 l3 _ _ ls hm hP hS (lv_sub hl [2, 3] rfl)
  unfold mX1_passYear at hm
  refine lv_aload_n hx hb dX1_passYear_0 rfl (lv_at hl 2 rfl) ?_
  refine lv_aload_n hx hb dX1_passYear_1 rfl (lv_at hl 1 rfl) ?_
  obtain ⟨r8, hr8, hm⟩ := bn_call hm
  refine ca_vv (wr := (o_X1 cy h0 a0 w0)) (wn := (o_X1 cy h0 a0 w0) ++ (o_X4 cy h1 a1 r8) ++ (o_X0 cy h2 a2 w2)) ⟨hx, hb, hml, hown, hts⟩ hK hA (hDa _ _ _) hP hS [13, 14, 15, 16, 3, 4, 5, 6, 7, 8, 9, 10, 11, 12] [0, 1, 2] [0, 1, 2, 7, 8, 9, 10, 11, 12, 13, 14, 15, 16, 3, 4, 5, 6] (fun sz => kcX0_bringTo l dC dI cy fu h2 a2 w2 h1 a1 w1 sz r8 hr8) rfl rfl (by decide) (by decide) (by decide) rfl (cwV 1 hts gX1_passYear_X0_bringTo rfl rfl rfl ⟨rfl, ydX0_bringTo⟩ ⟨Nat.le_of_ble_eq_true rfl, Nat.le_of_ble_eq_true rfl⟩) 0 0 rfl rfl rfl rfl hl.1 rfl (Nat.le_of_ble_eq_true rfl) dX1_passYear_2 ⟨Nat.zero_le _, Nat.zero_le _⟩ (fun H locs hP hS => ?_)
  refine lv_aload_n hx hb dX1_passYear_5 rfl (lv_at hl 1 rfl) ?_
  refine va_get (D := (dC, dI)) (ci := 4) (v := .ref (a1 3)) (C := RX4) (T := TX4) (N := 17) hx hb hts i4 hown hK hP 3 rfl rfl 3 (by decide) (hts (.fieldLink RX1 25 "TwoMetals$World" "yearly" "[I") (List.mem_of_getElem? (i := 1) rfl)) (fun _ h9 => h9) rfl dX1_passYear_6 ?_
  refine lv_iconst (v := (0 : Int32)) hx hb dX1_passYear_9 (by decide) ?_
  refine lv_aload_n hx hb dX1_passYear_10 rfl (lv_at hl 0 rfl) ?_
  refine va_get (D := (dC, dI)) (ci := 1) (v := .ref (a0 0)) (C := RX1) (T := TX1) (N := 2) hx hb hts i1 hown hK hP 0 rfl rfl 0 (by decide) (hts (.fieldLink RX1 11 "TwoMetals$Mover" "left" "[I") (List.mem_of_getElem? (i := 2) rfl)) (fun _ h9 => h9) rfl dX1_passYear_11 ?_
  refine lv_iconst (v := (0 : Int32)) hx hb dX1_passYear_14 (by decide) ?_
  refine lv_bipush (v := (8 : Int32)) hx hb dX1_passYear_15 (by decide) ?_
  refine va_copyi hx hb (hml.trans hl.1.symm) hown (hts (.methodLink RX1 30 arraycopyName) (List.mem_of_getElem? (i := 3) rfl)) (hts (.native arraycopyName) (List.mem_of_getElem? (i := 4) rfl)) (hts (.static arraycopyName) (List.mem_of_getElem? (i := 5) rfl)) (hts (.initialized "java/lang/System") (List.mem_of_getElem? (i := 6) rfl)) hK hP (hDa _ _ _) hS 7 1 0 0 rfl rfl rfl rfl rfl (by decide) (by decide) (by decide) (by decide) (by decide) (fun _ _ => rfl) (Nat.le_of_ble_eq_true rfl) (Nat.le_of_ble_eq_true rfl) dX1_passYear_17 (fun H locs hP _ hS => ?_)
  have hP : va_P (dC, dI) vwCl ((o_X1 cy h0 a0 (ob_I w0 0 (va_cpy (r8.1 3) (w0.1 0) (0 : Int32).toNatClampNeg (0 : Int32).toNatClampNeg (8 : Int32).toNatClampNeg))) ++ (o_X4 cy h1 a1 r8) ++ (o_X0 cy h2 a2 w2)) H := hP
  obtain ⟨u9, hP, hm⟩ := bn_ob (P := fun zz => va_P (dC, dI) vwCl ((o_X1 cy h0 a0 zz) ++ (o_X4 cy h1 a1 r8) ++ (o_X0 cy h2 a2 w2)) H) hm hP
  refine lv_iconst (v := (0 : Int32)) hx hb dX1_passYear_20 (by decide) ?_
  refine lv_istore_n (lv' := [(3, .int (0 : Int32)), (0, .ref h0), (1, .ref h1), (2, .ref h2)]) hx hb dX1_passYear_21 rfl hl (by decide) rfl (fun ls hl => ?_)
  refine lv_iconst (v := (0 : Int32)) hx hb dX1_passYear_22 (by decide) ?_
  refine lv_istore (lv' := [(4, .int (0 : Int32)), (3, .int (0 : Int32)), (0, .ref h0), (1, .ref h1), (2, .ref h2)]) hx hb dX1_passYear_23 hl (by decide) rfl (fun ls hl => ?_)
  exact hB25 fu u9 r8 (0 : Int32) (0 : Int32) _ _ ls hm hP hS (lv_sub hl [2, 3, 1, 0] rfl)
set_option maxHeartbeats 4000000 in
set_option maxRecDepth 100000 in
theorem kcX1_mark (l : Launch) (dC : Nat → ClassId) (dI : Nat → Nat → Nat) (cy : Nat → ClassId) (fu : Nat) (h0 : Nat) (a0 : Nat → Nat) (w0 : ob_T) (h1 : Nat) (a1 : Nat → Nat) (w1 : ob_T) (sz : Nat) (R : ob_T) (hm : mX1_mark fu w0 w1 = some R) : Met l yX1_mark wsX1_mark (rmN 1 30) (va_Pc [.ref h0, .ref h1] (cPre dC dI cy ((o_X1 cy h0 a0 w0) ++ (o_X4 cy h1 a1 w1)) sz)) (va_Qv (fun (_ : Unit) => True) (fun _ => cPost dC dI cy ((o_X1 cy h0 a0 w0) ++ (o_X4 cy h1 a1 w1)) ((o_X1 cy h0 a0 R) ++ (o_X4 cy h1 a1 w1)) sz) (va_A ((o_X1 cy h0 a0 w0) ++ (o_X4 cy h1 a1 w1)) sz)) 0 0 (va_A ((o_X1 cy h0 a0 w0) ++ (o_X4 cy h1 a1 w1)) sz) := by
  refine mt_v (cc := cX1_mark) (maxL := 2) (by decide) rfl (Nat.le_of_ble_eq_true rfl) rfl ?_
  intro p e s m below meth c Q A hx hb hml hown hts hK hA hD hP hret ls hl
  have hown : s.vm.findClass RX1 = some m.cls := hown
  have hl : lv_has ls 2 [(0, .ref h0), (1, .ref h1)] := hl
  have hDa : ∀ v0 v1 : ob_T, va_D A ((o_X1 cy h0 a0 v0) ++ (o_X4 cy h1 a1 v1)) := fun _ _ => va_D_adr hD rfl
  have i1 : ∀ w ∈ wsX10, w ∈ wsX1_mark := fun _ h => List.mem_cons_of_mem _ (List.mem_append_right _ h)
  have i4 : ∀ w ∈ wsX40, w ∈ wsX1_mark := fun _ h => List.mem_cons_of_mem _ (List.mem_append_left _ (List.mem_append_right _ h))
  have hS : va_S A s.heap s.heap [] := va_S.rf
  unfold mX1_mark at hm
  refine lv_aload_n hx hb dX1_mark_0 rfl (lv_at hl 1 rfl) ?_
  refine va_get (D := (dC, dI)) (ci := 4) (v := .ref (a1 7)) (C := RX4) (T := TX4) (N := 17) hx hb hts i4 hown hK hP 3 rfl rfl 7 (by decide) (hts (.fieldLink RX1 75 "TwoMetals$World" "gold" "[J") (List.mem_of_getElem? (i := 1) rfl)) (fun _ h9 => h9) rfl dX1_mark_1 ?_
  refine lv_iconst (v := (0 : Int32)) hx hb dX1_mark_4 (by decide) ?_
  refine lv_aload_n hx hb dX1_mark_5 rfl (lv_at hl 0 rfl) ?_
  refine va_get (D := (dC, dI)) (ci := 1) (v := .ref (a0 1)) (C := RX1) (T := TX1) (N := 2) hx hb hts i1 hown hK hP 0 rfl rfl 1 (by decide) (hts (.fieldLink RX1 15 "TwoMetals$Mover" "marked" "[J") (List.mem_of_getElem? (i := 2) rfl)) (fun _ h9 => h9) rfl dX1_mark_6 ?_
  refine lv_iconst (v := (0 : Int32)) hx hb dX1_mark_9 (by decide) ?_
  refine lv_bipush (v := (8 : Int32)) hx hb dX1_mark_10 (by decide) ?_
  refine va_copyl hx hb (hml.trans hl.1.symm) hown (hts (.methodLink RX1 30 arraycopyName) (List.mem_of_getElem? (i := 3) rfl)) (hts (.native arraycopyName) (List.mem_of_getElem? (i := 4) rfl)) (hts (.static arraycopyName) (List.mem_of_getElem? (i := 5) rfl)) (hts (.initialized "java/lang/System") (List.mem_of_getElem? (i := 6) rfl)) hK hP (hDa _ _) hS 11 2 1 1 rfl rfl rfl rfl rfl (by decide) (by decide) (by decide) (by decide) (by decide) (fun _ _ => rfl) (Nat.le_of_ble_eq_true rfl) (Nat.le_of_ble_eq_true rfl) dX1_mark_12 (fun H locs hP _ hS => ?_)
  have hP : va_P (dC, dI) vwCl ((o_X1 cy h0 a0 (ob_L w0 1 (va_cpy (w1.2 7) (w0.2 1) (0 : Int32).toNatClampNeg (0 : Int32).toNatClampNeg (8 : Int32).toNatClampNeg))) ++ (o_X4 cy h1 a1 w1)) H := hP
  obtain ⟨u1, hP, hm⟩ := bn_ob (P := fun zz => va_P (dC, dI) vwCl ((o_X1 cy h0 a0 zz) ++ (o_X4 cy h1 a1 w1)) H) hm hP
  obtain rfl := Option.some.inj hm
  exact hret 15 ls _ _ dX1_mark_15 hP hS
set_option maxHeartbeats 4000000 in
set_option maxRecDepth 100000 in
theorem kcX1_isMarked (l : Launch) (dC : Nat → ClassId) (dI : Nat → Nat → Nat) (cy : Nat → ClassId) (fu : Nat) (h0 : Nat) (a0 : Nat → Nat) (w0 : ob_T) (h1 : Nat) (a1 : Nat → Nat) (w1 : ob_T) (sz : Nat) (R : Int32) (hm : mX1_isMarked fu w0 w1 = some R) : Met l yX1_isMarked wsX1_isMarked (rmN 0 0) (va_Pc [.ref h0, .ref h1] (cPre dC dI cy ((o_X1 cy h0 a0 w0) ++ (o_X4 cy h1 a1 w1)) sz)) (va_Qi (fun (r : Int32) (_ : Unit) => r = R) (fun _ => cPost dC dI cy ((o_X1 cy h0 a0 w0) ++ (o_X4 cy h1 a1 w1)) ((o_X1 cy h0 a0 w0) ++ (o_X4 cy h1 a1 w1)) sz) (va_A ((o_X1 cy h0 a0 w0) ++ (o_X4 cy h1 a1 w1)) sz)) 0 0 (va_A ((o_X1 cy h0 a0 w0) ++ (o_X4 cy h1 a1 w1)) sz) := by
  refine mt_z (cc := cX1_isMarked) (maxL := 3) (by decide) rfl (Nat.le_of_ble_eq_true rfl) rfl ?_
  intro p e s m below meth c Q A hx hb hml hown hts hK hA hD hP hret ls hl
  have hown : s.vm.findClass RX1 = some m.cls := hown
  have hl : lv_has ls 3 [(0, .ref h0), (1, .ref h1)] := hl
  have hDa : ∀ v0 v1 : ob_T, va_D A ((o_X1 cy h0 a0 v0) ++ (o_X4 cy h1 a1 v1)) := fun _ _ => va_D_adr hD rfl
  have i1 : ∀ w ∈ wsX10, w ∈ wsX1_isMarked := fun _ h => List.mem_cons_of_mem _ (List.mem_append_left _ (List.mem_append_right _ h))
  have i4 : ∀ w ∈ wsX40, w ∈ wsX1_isMarked := fun _ h => List.mem_cons_of_mem _ (List.mem_append_right _ h)
  have hS : va_S A s.heap s.heap [] := va_S.rf
  have hB2 : ∀ (nn : Nat) (l2 : Int32) (H : Heap) (locs : List Loc) (ls : Array Slot), bX1_isMarked_2 fu w0 w1 nn l2 = some R → va_P (dC, dI) vwCl ((o_X1 cy h0 a0 w0) ++ (o_X4 cy h1 a1 w1)) H → va_S A s.heap H locs → lv_has ls 3 [(0, .ref h0), (1, .ref h1), (2, .int l2)] → W p l e (rmN 0 0) s m ([.ref h0, .ref h1] : List Value).toArray below meth c H locs 0 0 Q (F0 m 2 ls []) := by
    intro nn
    induction nn with
    | zero => intro l2 H locs ls hm; exact no_some ((bX1_isMarked_2_0 fu w0 w1 l2).symm.trans hm)
    | succ nn ih =>
      intro l2 H locs ls hm hP hS hl
      replace hm := (bX1_isMarked_2_s fu w0 w1 nn l2).symm.trans hm
      refine lv_iload_n hx hb dX1_isMarked_2 rfl (lv_at hl 2 rfl) ?_
      refine lv_bipush (v := (8 : Int32)) hx hb dX1_isMarked_3 (by decide) ?_
      refine lv_icmp_ge (tgt := 32) hx hb dX1_isMarked_5 (by decide) (fun hc => ?_) (fun hc => ?_)
      · replace hm := (if_pos hc).symm.trans hm
        refine lv_iconst (v := (1 : Int32)) hx hb dX1_isMarked_32 (by decide) ?_
        obtain rfl := Option.some.inj hm
        exact hret 33 ls _ _ dX1_isMarked_33 nar_1 hP hS
      replace hm := (if_neg hc).symm.trans hm
      refine lv_aload_n hx hb dX1_isMarked_8 rfl (lv_at hl 0 rfl) ?_
      refine va_get (D := (dC, dI)) (ci := 1) (v := .ref (a0 1)) (C := RX1) (T := TX1) (N := 2) hx hb hts i1 hown hK hP 0 rfl rfl 1 (by decide) (hts (.fieldLink RX1 15 "TwoMetals$Mover" "marked" "[J") (List.mem_of_getElem? (i := 1) rfl)) (fun _ h9 => h9) rfl dX1_isMarked_9 ?_
      refine lv_iload_n hx hb dX1_isMarked_12 rfl (lv_at hl 2 rfl) ?_
      obtain ⟨hi1, hm⟩ := ck_in hm
      refine va_lald hx hb hK hP 2 1 rfl rfl hi1 dX1_isMarked_13 ?_
      refine lv_aload_n hx hb dX1_isMarked_14 rfl (lv_at hl 1 rfl) ?_
      refine va_get (D := (dC, dI)) (ci := 4) (v := .ref (a1 7)) (C := RX4) (T := TX4) (N := 17) hx hb hts i4 hown hK hP 3 rfl rfl 7 (by decide) (hts (.fieldLink RX1 75 "TwoMetals$World" "gold" "[J") (List.mem_of_getElem? (i := 2) rfl)) (fun _ h9 => h9) rfl dX1_isMarked_15 ?_
      refine lv_iload_n hx hb dX1_isMarked_18 rfl (lv_at hl 2 rfl) ?_
      refine va_lald hx hb hK hP 11 1 rfl rfl hi1 dX1_isMarked_19 ?_
      refine W.lcmp hx hb dX1_isMarked_20 ?_
      refine lv_if_eq (tgt := 26) hx hb dX1_isMarked_21 (by decide) (fun hc => ?_) (fun hc => ?_)
      · replace hm := (if_pos hc).symm.trans hm
        obtain ⟨x2, e3⟩ : ∃ y : Int32, y = l2 + (1 : Int32) := ⟨_, rfl⟩
        replace hm := bn_at e3 hm
        refine lv_iinc (v := x2) (lv' := [(2, .int x2), (0, .ref h0), (1, .ref h1)]) hx hb dX1_isMarked_26 hl (k := 2) rfl (by rw [e3]; rfl) (by decide) rfl (fun ls hl => ?_)
        refine lv_goto (tgt := 2) hx hb dX1_isMarked_29 (by decide) ?_
        exact ih x2 _ _ ls hm hP hS (lv_sub hl [1, 2, 0] rfl)
      replace hm := (if_neg hc).symm.trans hm
      refine lv_iconst (v := (0 : Int32)) hx hb dX1_isMarked_24 (by decide) ?_
      obtain rfl := Option.some.inj hm
      exact hret 25 ls _ _ dX1_isMarked_25 nar_0 hP hS
  unfold mX1_isMarked at hm
  refine lv_iconst (v := (0 : Int32)) hx hb dX1_isMarked_0 (by decide) ?_
  refine lv_istore_n (lv' := [(2, .int (0 : Int32)), (0, .ref h0), (1, .ref h1)]) hx hb dX1_isMarked_1 rfl hl (by decide) rfl (fun ls hl => ?_)
  exact hB2 fu (0 : Int32) _ _ ls hm hP hS (lv_sub hl [1, 2, 0] rfl)
set_option maxHeartbeats 4000000 in
set_option maxRecDepth 100000 in
theorem kcX1_settle (l : Launch) (dC : Nat → ClassId) (dI : Nat → Nat → Nat) (cy : Nat → ClassId) (fu : Nat) (h0 : Nat) (a0 : Nat → Nat) (w0 : ob_T) (h1 : Nat) (a1 : Nat → Nat) (w1 : ob_T) (sz : Nat) (R : Int32 × ob_T × ob_T) (hm : mX1_settle fu w0 w1 = some R) : Met l yX1_settle wsX1_settle (rmN 4 97) (va_Pc [.ref h0, .ref h1] (cPre dC dI cy ((o_X1 cy h0 a0 w0) ++ (o_X4 cy h1 a1 w1)) sz)) (va_Qi (fun (r : Int32) (_ : Unit) => r = R.1) (fun _ => cPost dC dI cy ((o_X1 cy h0 a0 w0) ++ (o_X4 cy h1 a1 w1)) ((o_X1 cy h0 a0 R.2.1) ++ (o_X4 cy h1 a1 R.2.2)) sz) (va_A ((o_X1 cy h0 a0 w0) ++ (o_X4 cy h1 a1 w1)) sz)) 0 0 (va_A ((o_X1 cy h0 a0 w0) ++ (o_X4 cy h1 a1 w1)) sz) := by
  refine mt_i (cc := cX1_settle) (maxL := 5) (by decide) rfl (Nat.le_of_ble_eq_true rfl) rfl ?_
  intro p e s m below meth c Q A hx hb hml hown hts hK hA hD hP hret ls hl
  have hown : s.vm.findClass RX1 = some m.cls := hown
  have hl : lv_has ls 5 [(0, .ref h0), (1, .ref h1)] := hl
  have hDa : ∀ v0 v1 : ob_T, va_D A ((o_X1 cy h0 a0 v0) ++ (o_X4 cy h1 a1 v1)) := fun _ _ => va_D_adr hD rfl
  have i1 : ∀ w ∈ wsX10, w ∈ wsX1_settle := fun _ h => List.mem_cons_of_mem _ (List.mem_append_left _ (List.mem_append_right _ h))
  have hS : va_S A s.heap s.heap [] := va_S.rf
  have hB73 : ∀ (k18 : ob_T → ob_T → Int32 → Int32 → Option (Int32 × ob_T × ob_T)) (_ : ∀ (w0 : ob_T) (w1 : ob_T) (l2 : Int32) (l3 : Int32) (H : Heap) (locs : List Loc) (ls : Array Slot), k18 w0 w1 l2 l3 = some R → va_P (dC, dI) vwCl ((o_X1 cy h0 a0 w0) ++ (o_X4 cy h1 a1 w1)) H → va_S A s.heap H locs → lv_has ls 5 [(0, .ref h0), (1, .ref h1), (2, .int l2), (3, .int l3)] → W p l e (rmN 4 97) s m ([.ref h0, .ref h1] : List Value).toArray below meth c H locs 0 0 Q (F0 m 18 ls [])) (w0 : ob_T) (w1 : ob_T) (l2 : Int32) (l3 : Int32) (H : Heap) (locs : List Loc) (ls : Array Slot), bX1_settle_73 fu k18 w0 w1 l2 l3 = some R → va_P (dC, dI) vwCl ((o_X1 cy h0 a0 w0) ++ (o_X4 cy h1 a1 w1)) H → va_S A s.heap H locs → lv_has ls 5 [(0, .ref h0), (1, .ref h1), (2, .int l2), (3, .int l3)] → W p l e (rmN 4 97) s m ([.ref h0, .ref h1] : List Value).toArray below meth c H locs 0 0 Q (F0 m 73 ls []) := by
    intro k18 hk18 w0 w1 l2 l3 H locs ls hm hP hS hl
    unfold bX1_settle_73 at hm
    obtain ⟨x1, e2⟩ : ∃ y : Int32, y = l3 + (1 : Int32) := ⟨_, rfl⟩
    replace hm := bn_at e2 hm
    refine lv_iinc (v := x1) (lv' := [(3, .int x1), (0, .ref h0), (1, .ref h1), (2, .int l2)]) hx hb dX1_settle_73 hl (k := 3) rfl (by rw [e2]; rfl) (by decide) rfl (fun ls hl => ?_)
    refine lv_goto (tgt := 18) hx hb dX1_settle_76 (by decide) ?_
    exact hk18 w0 w1 l2 x1 _ _ ls hm hP hS (lv_sub hl [1, 2, 3, 0] rfl)
  have hB18 : ∀ (nn : Nat) (w0 : ob_T) (w1 : ob_T) (l2 : Int32) (l3 : Int32) (H : Heap) (locs : List Loc) (ls : Array Slot), bX1_settle_18 fu nn w0 w1 l2 l3 = some R → va_P (dC, dI) vwCl ((o_X1 cy h0 a0 w0) ++ (o_X4 cy h1 a1 w1)) H → va_S A s.heap H locs → lv_has ls 5 [(0, .ref h0), (1, .ref h1), (2, .int l2), (3, .int l3)] → W p l e (rmN 4 97) s m ([.ref h0, .ref h1] : List Value).toArray below meth c H locs 0 0 Q (F0 m 18 ls []) := by
    intro nn
    induction nn with
    | zero => intro w0 w1 l2 l3 H locs ls hm; exact no_some ((bX1_settle_18_0 fu w0 w1 l2 l3).symm.trans hm)
    | succ nn ih =>
      intro w0 w1 l2 l3 H locs ls hm hP hS hl
      replace hm := (bX1_settle_18_s fu nn w0 w1 l2 l3).symm.trans hm
      refine lv_iload_n hx hb dX1_settle_18 rfl (lv_at hl 3 rfl) ?_
      refine lv_ldc (v := (200001 : Int32)) hx hb hown (hts (.constant RX1 47 (200001)) (List.mem_of_getElem? (i := 2) rfl)) dX1_settle_19 ?_
      refine lv_icmp_gt (tgt := 79) hx hb dX1_settle_21 (by decide) (fun hc => ?_) (fun hc => ?_)
      · replace hm := (if_pos hc).symm.trans hm
        refine lv_bipush (v := (-5 : Int32)) hx hb dX1_settle_79 (by decide) ?_
        obtain rfl := Option.some.inj hm
        exact hret 81 ls _ _ dX1_settle_81 hP hS
      replace hm := (if_neg hc).symm.trans hm
      refine lv_aload_n hx hb dX1_settle_24 rfl (lv_at hl 0 rfl) ?_
      refine lv_aload_n hx hb dX1_settle_25 rfl (lv_at hl 1 rfl) ?_
      obtain ⟨r3, hr3, hm⟩ := bn_call hm
      refine ca_vi (wr := []) (wn := (o_X1 cy h0 a0 r3.2.1) ++ (o_X4 cy h1 a1 r3.2.2)) ⟨hx, hb, hml, hown, hts⟩ hK hA (hDa _ _) hP hS [0, 1, 2, 3, 4, 5, 6, 7, 8, 9, 10, 11, 12] [] [0, 1, 2, 3, 4, 5, 6, 7, 8, 9, 10, 11, 12] (fun sz => kcX1_goRound l dC dI cy fu h0 a0 w0 h1 a1 w1 sz r3 hr3) rfl rfl (by decide) (by decide) (by decide) rfl (cwV 1 hts gX1_settle_X1_goRound rfl rfl rfl ⟨rfl, ydX1_goRound⟩ ⟨Nat.le_of_ble_eq_true rfl, Nat.le_of_ble_eq_true rfl⟩) 1 0 rfl rfl rfl rfl hl.1 rfl (Nat.le_of_ble_eq_true rfl) dX1_settle_26 ⟨Nat.zero_le _, Nat.zero_le _⟩ (fun H locs hP hS => ?_)
      refine lv_istore (lv' := [(4, .int r3.1), (0, .ref h0), (1, .ref h1), (2, .int l2), (3, .int l3)]) hx hb dX1_settle_29 hl (by decide) rfl (fun ls hl => ?_)
      refine lv_iload hx hb dX1_settle_31 (lv_at hl 0 rfl) ?_
      refine lv_if_ne (tgt := 38) hx hb dX1_settle_33 (by decide) (fun hc => ?_) (fun hc => ?_)
      · replace hm := (if_neg hc).symm.trans hm
        refine lv_iload_n hx hb dX1_settle_38 rfl (lv_at hl 3 rfl) ?_
        refine lv_iload hx hb dX1_settle_39 (lv_at hl 0 rfl) ?_
        refine lv_iadd hx hb dX1_settle_41 ?_
        refine lv_topi (fun x4 e5 => ?_)
        replace hm := bn_at e5 hm
        refine lv_istore_n (lv' := [(2, .int x4), (4, .int r3.1), (0, .ref h0), (1, .ref h1), (3, .int l3)]) hx hb dX1_settle_42 rfl hl (by decide) rfl (fun ls hl => ?_)
        refine lv_iload_n hx hb dX1_settle_43 rfl (lv_at hl 0 rfl) ?_
        refine lv_ldc (v := (200000 : Int32)) hx hb hown (hts (.constant RX1 57 (200000)) (List.mem_of_getElem? (i := 3) rfl)) dX1_settle_44 ?_
        refine lv_icmp_gt (tgt := 57) hx hb dX1_settle_46 (by decide) (fun hc => ?_) (fun hc => ?_)
        · replace hm := (if_pos hc).symm.trans hm
          refine lv_bipush (v := (-5 : Int32)) hx hb dX1_settle_57 (by decide) ?_
          obtain rfl := Option.some.inj hm
          exact hret 59 ls _ _ dX1_settle_59 hP hS
        replace hm := (if_neg hc).symm.trans hm
        refine lv_aload_n hx hb dX1_settle_49 rfl (lv_at hl 2 rfl) ?_
        refine lv_aload_n hx hb dX1_settle_50 rfl (lv_at hl 3 rfl) ?_
        obtain ⟨r6, hr6, hm⟩ := bn_call hm
        refine ca_vi (wr := []) (wn := (o_X1 cy h0 a0 r3.2.1) ++ (o_X4 cy h1 a1 r3.2.2)) ⟨hx, hb, hml, hown, hts⟩ hK hA (hDa _ _) hP hS [0, 1, 2, 3, 4, 5, 6, 7, 8, 9, 10, 11, 12] [] [0, 1, 2, 3, 4, 5, 6, 7, 8, 9, 10, 11, 12] (fun sz => kcX1_isMarked l dC dI cy fu h0 a0 r3.2.1 h1 a1 r3.2.2 sz r6 hr6) rfl rfl (by decide) (by decide) (by decide) rfl (cwV 1 hts gX1_settle_X1_isMarked rfl rfl rfl ⟨rfl, ydX1_isMarked⟩ ⟨Nat.le_of_ble_eq_true rfl, Nat.le_of_ble_eq_true rfl⟩) 1 0 rfl rfl rfl rfl hl.1 rfl (Nat.le_of_ble_eq_true rfl) dX1_settle_51 ⟨Nat.zero_le _, Nat.zero_le _⟩ (fun H locs hP hS => ?_)
        refine lv_if_eq (tgt := 60) hx hb dX1_settle_54 (by decide) (fun hc => ?_) (fun hc => ?_)
        · replace hm := (if_pos hc).symm.trans hm
          refine lv_iload_n hx hb dX1_settle_60 rfl (lv_at hl 4 rfl) ?_
          obtain ⟨r7, hr7, hm⟩ := bn_call hm
          refine ca_si (wr := (o_X1 cy h0 a0 r3.2.1) ++ (o_X4 cy h1 a1 r3.2.2)) (wn := (o_X1 cy h0 a0 r3.2.1) ++ (o_X4 cy h1 a1 r3.2.2)) ⟨hx, hb, hml, hown, hts⟩ hK hA (hDa _ _) hP hS [] [0, 1, 2, 3, 4, 5, 6, 7, 8, 9, 10, 11, 12] [0, 1, 2, 3, 4, 5, 6, 7, 8, 9, 10, 11, 12] (fun sz => kcJ6_bitCount_0f7a4 l dC dI cy fu l3 sz r7 hr7) rfl rfl (by decide) (by decide) (by decide) rfl (va_cwS 1 hts gX1_settle_J6_bitCount_0f7a4 rfl rfl rfl ydJ6_bitCount_0f7a4 ⟨Nat.le_of_ble_eq_true rfl, Nat.le_of_ble_eq_true rfl⟩) rfl hl.1 rfl (Nat.le_of_ble_eq_true rfl) dX1_settle_61 ⟨Nat.zero_le _, Nat.zero_le _⟩ (fun H locs hP hS => ?_)
          refine lv_iconst (v := (1 : Int32)) hx hb dX1_settle_64 (by decide) ?_
          refine lv_icmp_ne (tgt := 73) hx hb dX1_settle_65 (by decide) (fun hc => ?_) (fun hc => ?_)
          · replace hm := (if_neg hc).symm.trans hm
            exact hB73 (bX1_settle_18 fu nn) ih r3.2.1 r3.2.2 x4 l3 _ _ ls hm hP hS (lv_sub hl [2, 3, 0, 4] rfl)
          replace hm := (if_pos hc).symm.trans hm
          refine lv_aload_n hx hb dX1_settle_68 rfl (lv_at hl 2 rfl) ?_
          refine lv_aload_n hx hb dX1_settle_69 rfl (lv_at hl 3 rfl) ?_
          obtain ⟨r8, hr8, hm⟩ := bn_call hm
          refine ca_vv (wr := []) (wn := (o_X1 cy h0 a0 r8) ++ (o_X4 cy h1 a1 r3.2.2)) ⟨hx, hb, hml, hown, hts⟩ hK hA (hDa _ _) hP hS [0, 1, 2, 3, 4, 5, 6, 7, 8, 9, 10, 11, 12] [] [0, 1, 2, 3, 4, 5, 6, 7, 8, 9, 10, 11, 12] (fun sz => kcX1_mark l dC dI cy fu h0 a0 r3.2.1 h1 a1 r3.2.2 sz r8 hr8) rfl rfl (by decide) (by decide) (by decide) rfl (cwV 1 hts gX1_settle_X1_mark rfl rfl rfl ⟨rfl, ydX1_mark⟩ ⟨Nat.le_of_ble_eq_true rfl, Nat.le_of_ble_eq_true rfl⟩) 1 0 rfl rfl rfl rfl hl.1 rfl (Nat.le_of_ble_eq_true rfl) dX1_settle_70 ⟨Nat.zero_le _, Nat.zero_le _⟩ (fun H locs hP hS => ?_)
          exact hB73 (bX1_settle_18 fu nn) ih r8 r3.2.2 x4 l3 _ _ ls hm hP hS (lv_sub hl [2, 3, 0, 4] rfl)
        replace hm := (if_neg hc).symm.trans hm
        refine lv_bipush (v := (-5 : Int32)) hx hb dX1_settle_57 (by decide) ?_
        obtain rfl := Option.some.inj hm
        exact hret 59 ls _ _ dX1_settle_59 hP hS
      replace hm := (if_pos hc).symm.trans hm
      refine lv_iload_n hx hb dX1_settle_36 rfl (lv_at hl 3 rfl) ?_
      obtain rfl := Option.some.inj hm
      exact hret 37 ls _ _ dX1_settle_37 hP hS
  unfold mX1_settle at hm
  refine lv_aload_n hx hb dX1_settle_0 rfl (lv_at hl 0 rfl) ?_
  refine va_get (D := (dC, dI)) (ci := 1) (v := .ref (a0 0)) (C := RX1) (T := TX1) (N := 2) hx hb hts i1 hown hK hP 0 rfl rfl 0 (by decide) (hts (.fieldLink RX1 11 "TwoMetals$Mover" "left" "[I") (List.mem_of_getElem? (i := 1) rfl)) (fun _ h9 => h9) rfl dX1_settle_1 ?_
  refine lv_ldc (v := (200001 : Int32)) hx hb hown (hts (.constant RX1 47 (200001)) (List.mem_of_getElem? (i := 2) rfl)) dX1_settle_4 ?_
  obtain ⟨r9, hr9, hm⟩ := bn_call hm
  refine ca_sv (wr := ([(h0, .inr (1, [.ref (a0 0), .ref (a0 1)])), (a0 1, .inl (cy 1, 8, .inr (.inl (w0.2 1))))] : va_W) ++ (o_X4 cy h1 a1 w1)) (wn := (o_X1 cy h0 a0 (ob_I w0 0 (r9.1 0))) ++ (o_X4 cy h1 a1 w1)) ⟨hx, hb, hml, hown, hts⟩ hK hA (hDa _ _) hP hS [1] [0, 2, 3, 4, 5, 6, 7, 8, 9, 10, 11, 12] [0, 12, 1, 2, 3, 4, 5, 6, 7, 8, 9, 10, 11] (fun sz => kcJ7_fill_53178 l dC dI cy fu 8 (a0 0) (fun _ => w0.1 0, fun _ _ => 0) (200001 : Int32) sz r9 hr9) rfl rfl (by decide) (by decide) (by decide) rfl (va_cwS 2 hts gX1_settle_J7_fill_53178 rfl rfl rfl ydJ7_fill_53178 ⟨Nat.le_of_ble_eq_true rfl, Nat.le_of_ble_eq_true rfl⟩) rfl hl.1 rfl (Nat.le_of_ble_eq_true rfl) dX1_settle_6 ⟨Nat.zero_le _, Nat.zero_le _⟩ (fun H locs hP hS => ?_)
  refine lv_aload_n hx hb dX1_settle_9 rfl (lv_at hl 0 rfl) ?_
  refine lv_aload_n hx hb dX1_settle_10 rfl (lv_at hl 1 rfl) ?_
  obtain ⟨r10, hr10, hm⟩ := bn_call hm
  refine ca_vv (wr := []) (wn := (o_X1 cy h0 a0 r10) ++ (o_X4 cy h1 a1 w1)) ⟨hx, hb, hml, hown, hts⟩ hK hA (hDa _ _) hP hS [0, 1, 2, 3, 4, 5, 6, 7, 8, 9, 10, 11, 12] [] [0, 1, 2, 3, 4, 5, 6, 7, 8, 9, 10, 11, 12] (fun sz => kcX1_mark l dC dI cy fu h0 a0 (ob_I w0 0 (r9.1 0)) h1 a1 w1 sz r10 hr10) rfl rfl (by decide) (by decide) (by decide) rfl (cwV 1 hts gX1_settle_X1_mark rfl rfl rfl ⟨rfl, ydX1_mark⟩ ⟨Nat.le_of_ble_eq_true rfl, Nat.le_of_ble_eq_true rfl⟩) 1 0 rfl rfl rfl rfl hl.1 rfl (Nat.le_of_ble_eq_true rfl) dX1_settle_11 ⟨Nat.zero_le _, Nat.zero_le _⟩ (fun H locs hP hS => ?_)
  refine lv_iconst (v := (0 : Int32)) hx hb dX1_settle_14 (by decide) ?_
  refine lv_istore_n (lv' := [(2, .int (0 : Int32)), (0, .ref h0), (1, .ref h1)]) hx hb dX1_settle_15 rfl hl (by decide) rfl (fun ls hl => ?_)
  refine lv_iconst (v := (1 : Int32)) hx hb dX1_settle_16 (by decide) ?_
  refine lv_istore_n (lv' := [(3, .int (1 : Int32)), (2, .int (0 : Int32)), (0, .ref h0), (1, .ref h1)]) hx hb dX1_settle_17 rfl hl (by decide) rfl (fun ls hl => ?_)
  exact hB18 fu r10 w1 (0 : Int32) (1 : Int32) _ _ ls hm hP hS (lv_sub hl [2, 3, 1, 0] rfl)
set_option maxHeartbeats 4000000 in
set_option maxRecDepth 100000 in
theorem kcX3_hasRoomFor (l : Launch) (dC : Nat → ClassId) (dI : Nat → Nat → Nat) (cy : Nat → ClassId) (fu : Nat) (h0 : Nat) (a0 : Nat → Nat) (w0 : ob_T) (p1 : Int32) (sz : Nat) (R : Int32) (hm : mX3_hasRoomFor fu w0 p1 = some R) : Met l yX3_hasRoomFor wsX3_hasRoomFor (rmN 0 0) (va_Pc [.ref h0, .int p1] (cPre dC dI cy ((o_X3 cy h0 a0 w0)) sz)) (va_Qi (fun (r : Int32) (_ : Unit) => r = R) (fun _ => cPost dC dI cy ((o_X3 cy h0 a0 w0)) ((o_X3 cy h0 a0 w0)) sz) (va_A ((o_X3 cy h0 a0 w0)) sz)) 0 0 (va_A ((o_X3 cy h0 a0 w0)) sz) := by
  refine mt_z (cc := cX3_hasRoomFor) (maxL := 2) (by decide) rfl (Nat.le_of_ble_eq_true rfl) rfl ?_
  intro p e s m below meth c Q A hx hb hml hown hts hK hA hD hP hret ls hl
  have hown : s.vm.findClass RX3 = some m.cls := hown
  have hl : lv_has ls 2 [(0, .ref h0), (1, .int p1)] := hl
  have hDa : ∀ v0 : ob_T, va_D A ((o_X3 cy h0 a0 v0)) := fun _ => va_D_adr hD rfl
  have i3 : ∀ w ∈ wsX30, w ∈ wsX3_hasRoomFor := fun _ h => List.mem_cons_of_mem _ (List.mem_append_right _ h)
  have hS : va_S A s.heap s.heap [] := va_S.rf
  unfold mX3_hasRoomFor at hm
  refine lv_aload_n hx hb dX3_hasRoomFor_0 rfl (lv_at hl 0 rfl) ?_
  refine va_get (D := (dC, dI)) (ci := 3) (v := .int (w0.1 1 0)) (C := RX3) (T := TX3) (N := 2) hx hb hts i3 hown hK hP 0 rfl rfl 1 (by decide) (hts (.fieldLink RX3 13 "TwoMetals$Text" "length" "I") (List.mem_of_getElem? (i := 1) rfl)) (fun _ h9 => h9) rfl dX3_hasRoomFor_1 ?_
  refine lv_iload_n hx hb dX3_hasRoomFor_4 rfl (lv_at hl 1 rfl) ?_
  refine lv_iadd hx hb dX3_hasRoomFor_5 ?_
  refine lv_sipush (v := (400 : Int32)) hx hb dX3_hasRoomFor_6 (by decide) ?_
  refine lv_icmp_gt (tgt := 16) hx hb dX3_hasRoomFor_9 (by decide) (fun hc => ?_) (fun hc => ?_)
  · replace hm := (if_pos hc).symm.trans hm
    refine lv_iconst (v := (0 : Int32)) hx hb dX3_hasRoomFor_16 (by decide) ?_
    obtain rfl := Option.some.inj hm
    exact hret 17 ls _ _ dX3_hasRoomFor_17 nar_0 hP hS
  replace hm := (if_neg hc).symm.trans hm
  refine lv_iconst (v := (1 : Int32)) hx hb dX3_hasRoomFor_12 (by decide) ?_
  refine lv_goto (tgt := 17) hx hb dX3_hasRoomFor_13 (by decide) ?_
  obtain rfl := Option.some.inj hm
  exact hret 17 ls _ _ dX3_hasRoomFor_17 nar_1 hP hS
set_option maxHeartbeats 4000000 in
set_option maxRecDepth 100000 in
theorem kcX3_append (l : Launch) (dC : Nat → ClassId) (dI : Nat → Nat → Nat) (cy : Nat → ClassId) (fu : Nat) (h0 : Nat) (a0 : Nat → Nat) (w0 : ob_T) (p1 : Int32) (p2 : Int64) (sz : Nat) (R : ob_T) (hm : mX3_append fu w0 p1 p2 = some R) : Met l yX3_append wsX3_append (rmN 0 0) (va_Pc [.ref h0, .int p1, .long p2] (cPre dC dI cy ((o_X3 cy h0 a0 w0)) sz)) (va_Qv (fun (_ : Unit) => True) (fun _ => cPost dC dI cy ((o_X3 cy h0 a0 w0)) ((o_X3 cy h0 a0 R)) sz) (va_A ((o_X3 cy h0 a0 w0)) sz)) 0 0 (va_A ((o_X3 cy h0 a0 w0)) sz) := by
  refine mt_v (cc := cX3_append) (maxL := 5) (by decide) rfl (Nat.le_of_ble_eq_true rfl) rfl ?_
  intro p e s m below meth c Q A hx hb hml hown hts hK hA hD hP hret ls hl
  have hown : s.vm.findClass RX3 = some m.cls := hown
  have hl : lv_has ls 5 [(0, .ref h0), (1, .int p1), (2, .long p2)] := hl
  have hDa : ∀ v0 : ob_T, va_D A ((o_X3 cy h0 a0 v0)) := fun _ => va_D_adr hD rfl
  have i3 : ∀ w ∈ wsX30, w ∈ wsX3_append := fun _ h => List.mem_cons_of_mem _ (List.mem_append_right _ h)
  have hS : va_S A s.heap s.heap [] := va_S.rf
  have hB5 : ∀ (nn : Nat) (w0 : ob_T) (l2 : Int64) (l4 : Int32) (H : Heap) (locs : List Loc) (ls : Array Slot), bX3_append_5 fu nn w0 l2 l4 = some R → va_P (dC, dI) vwCl ((o_X3 cy h0 a0 w0)) H → va_S A s.heap H locs → lv_has ls 5 [(0, .ref h0), (2, .long l2), (4, .int l4)] → W p l e (rmN 0 0) s m ([.ref h0, .int p1, .long p2] : List Value).toArray below meth c H locs 0 0 Q (F0 m 5 ls []) := by
    intro nn
    induction nn with
    | zero => intro w0 l2 l4 H locs ls hm; exact no_some ((bX3_append_5_0 fu w0 l2 l4).symm.trans hm)
    | succ nn ih =>
      intro w0 l2 l4 H locs ls hm hP hS hl
      replace hm := (bX3_append_5_s fu nn w0 l2 l4).symm.trans hm
      refine lv_iload hx hb dX3_append_5 (lv_at hl 2 rfl) ?_
      refine lv_if_lt (tgt := 54) hx hb dX3_append_7 (by decide) (fun hc => ?_) (fun hc => ?_)
      · replace hm := (if_pos hc).symm.trans hm
        obtain rfl := Option.some.inj hm
        exact hret 54 ls _ _ dX3_append_54 hP hS
      replace hm := (if_neg hc).symm.trans hm
      refine lv_aload_n hx hb dX3_append_10 rfl (lv_at hl 0 rfl) ?_
      refine va_get (D := (dC, dI)) (ci := 3) (v := .int (w0.1 1 0)) (C := RX3) (T := TX3) (N := 2) hx hb hts i3 hown hK hP 0 rfl rfl 1 (by decide) (hts (.fieldLink RX3 13 "TwoMetals$Text" "length" "I") (List.mem_of_getElem? (i := 1) rfl)) (fun _ h9 => h9) rfl dX3_append_11 ?_
      refine lv_sipush (v := (400 : Int32)) hx hb dX3_append_14 (by decide) ?_
      refine lv_icmp_ge (tgt := 54) hx hb dX3_append_17 (by decide) (fun hc => ?_) (fun hc => ?_)
      · replace hm := (if_pos hc).symm.trans hm
        obtain rfl := Option.some.inj hm
        exact hret 54 ls _ _ dX3_append_54 hP hS
      replace hm := (if_neg hc).symm.trans hm
      refine lv_aload_n hx hb dX3_append_20 rfl (lv_at hl 0 rfl) ?_
      refine va_get (D := (dC, dI)) (ci := 3) (v := .ref (a0 0)) (C := RX3) (T := TX3) (N := 2) hx hb hts i3 hown hK hP 0 rfl rfl 0 (by decide) (hts (.fieldLink RX3 9 "TwoMetals$Text" "bytes" "[B") (List.mem_of_getElem? (i := 2) rfl)) (fun _ h9 => h9) rfl dX3_append_21 ?_
      refine lv_aload_n hx hb dX3_append_24 rfl (lv_at hl 0 rfl) ?_
      refine va_get (D := (dC, dI)) (ci := 3) (v := .int (w0.1 1 0)) (C := RX3) (T := TX3) (N := 2) hx hb hts i3 hown hK hP 0 rfl rfl 1 (by decide) (hts (.fieldLink RX3 13 "TwoMetals$Text" "length" "I") (List.mem_of_getElem? (i := 1) rfl)) (fun _ h9 => h9) rfl dX3_append_25 ?_
      refine lv_lload_n hx hb dX3_append_28 rfl (lv_at hl 1 rfl) ?_
      refine lv_iload hx hb dX3_append_29 (lv_at hl 2 rfl) ?_
      refine lv_bipush (v := (8 : Int32)) hx hb dX3_append_31 (by decide) ?_
      refine lv_imul hx hb dX3_append_33 ?_
      refine lv_lshr (v := l2 >>> ((l4 * (8 : Int32)).toInt64 &&& 63)) hx hb dX3_append_34 rfl ?_
      refine lv_l2i (v := (l2 >>> ((l4 * (8 : Int32)).toInt64 &&& 63)).toInt32) hx hb dX3_append_35 rfl ?_
      refine lv_i2b (v := ((l2 >>> ((l4 * (8 : Int32)).toInt64 &&& 63)).toInt32).toInt8.toInt32) hx hb dX3_append_36 rfl ?_
      obtain ⟨hi1, hm⟩ := ck_in hm
      refine va_bast hx hb hK hP (hDa _) hS 1 2 rfl rfl hi1 dX3_append_37 (fun H locs hP _ hS => ?_)
      have hP : va_P (dC, dI) vwCl ((o_X3 cy h0 a0 (ob_I w0 0 (upd (w0.1 0) (w0.1 1 0).toNatClampNeg (vp_nar .byte (((l2 >>> ((l4 * (8 : Int32)).toInt64 &&& 63)).toInt32).toInt8.toInt32)))))) H := hP
      obtain ⟨u2, hP, hm⟩ := bn_ob (P := fun zz => va_P (dC, dI) vwCl ((o_X3 cy h0 a0 zz)) H) hm hP
      refine lv_aload_n hx hb dX3_append_38 rfl (lv_at hl 0 rfl) ?_
      refine lv_dup hx hb dX3_append_39 rfl ?_
      refine va_get (D := (dC, dI)) (ci := 3) (v := .int (u2.1 1 0)) (C := RX3) (T := TX3) (N := 2) hx hb hts i3 hown hK hP 0 rfl rfl 1 (by decide) (hts (.fieldLink RX3 13 "TwoMetals$Text" "length" "I") (List.mem_of_getElem? (i := 1) rfl)) (fun _ h9 => h9) rfl dX3_append_40 ?_
      refine lv_iconst (v := (1 : Int32)) hx hb dX3_append_43 (by decide) ?_
      refine lv_iadd hx hb dX3_append_44 ?_
      refine va_put (D := (dC, dI)) (ci := 3) (v := .int ((u2.1 1 0) + (1 : Int32))) (ty := .int) (C := RX3) (T := TX3) (N := 2) hx hb hts i3 tyX3 tyX3_ok nmX3 hown hK hP (hDa _) hS 0 rfl rfl 1 (by decide) (hts (.fieldLink RX3 13 "TwoMetals$Text" "length" "I") (List.mem_of_getElem? (i := 1) rfl)) (fun _ h9 => h9) rfl (tyX3_ok 1 (by decide)) rfl rfl (Nat.le_of_ble_eq_true rfl) dX3_append_45 (fun H locs hP _ hS => ?_)
      have hP : va_P (dC, dI) vwCl ((o_X3 cy h0 a0 (ob_I u2 1 (fun _ => (u2.1 1 0) + (1 : Int32))))) H := hP
      obtain ⟨u3, hP, hm⟩ := bn_ob (P := fun zz => va_P (dC, dI) vwCl ((o_X3 cy h0 a0 zz)) H) hm hP
      obtain ⟨x4, e5⟩ : ∃ y : Int32, y = l4 + (-1 : Int32) := ⟨_, rfl⟩
      replace hm := bn_at e5 hm
      refine lv_iinc (v := x4) (lv' := [(4, .int x4), (0, .ref h0), (2, .long l2)]) hx hb dX3_append_48 hl (k := 2) rfl (by rw [e5]; rfl) (by decide) rfl (fun ls hl => ?_)
      refine lv_goto (tgt := 5) hx hb dX3_append_51 (by decide) ?_
      exact ih u3 l2 x4 _ _ ls hm hP hS (lv_sub hl [1, 2, 0] rfl)
  unfold mX3_append at hm
  refine lv_iload_n hx hb dX3_append_0 rfl (lv_at hl 1 rfl) ?_
  refine lv_iconst (v := (1 : Int32)) hx hb dX3_append_1 (by decide) ?_
  refine lv_isub hx hb dX3_append_2 ?_
  refine lv_topi (fun x6 e7 => ?_)
  replace hm := bn_at e7 hm
  refine lv_istore (lv' := [(4, .int x6), (0, .ref h0), (1, .int p1), (2, .long p2)]) hx hb dX3_append_3 hl (by decide) rfl (fun ls hl => ?_)
  exact hB5 fu w0 p2 x6 _ _ ls hm hP hS (lv_sub hl [1, 3, 0] rfl)
