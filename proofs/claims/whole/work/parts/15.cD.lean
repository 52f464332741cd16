set_option maxHeartbeats 4000000 in
set_option maxRecDepth 100000 in
theorem kcX5_write (l : Launch) (dC : Nat → ClassId) (dI : Nat → Nat → Nat) (cy : Nat → ClassId) (fu : Nat) (h0 : Nat) (a0 : Nat → Nat) (w0 : ob_T) (a1 : Nat → Nat) (w1 : ob_T) (p1 : Int32) (p2 : Int64) (sz : Nat) (R : Int32 × ob_T) (hm : mX5_write fu w0 w1 p1 p2 = some R) : Met l yX5_write wsX5_write (rmN 1 24) (va_Pc [.ref h0, .int p1, .long p2] (cPre dC dI cy ((o_X5 cy h0 a0 w0) ++ (o_X3 cy (a0 0) a1 w1)) sz)) (va_Qi (fun (r : Int32) (_ : Unit) => r = R.1) (fun _ => cPost dC dI cy ((o_X5 cy h0 a0 w0) ++ (o_X3 cy (a0 0) a1 w1)) ((o_X5 cy h0 a0 w0) ++ (o_X3 cy (a0 0) a1 R.2)) sz) (va_A ((o_X5 cy h0 a0 w0) ++ (o_X3 cy (a0 0) a1 w1)) sz)) 0 0 (va_A ((o_X5 cy h0 a0 w0) ++ (o_X3 cy (a0 0) a1 w1)) sz) := by
  refine mt_i (cc := cX5_write) (maxL := 4) (by decide) rfl (Nat.le_of_ble_eq_true rfl) rfl ?_
  intro p e s m below meth c Q A hx hb hml hown hts hK hA hD hP hret ls hl
  have hown : s.vm.findClass RX5 = some m.cls := hown
  have hl : lv_has ls 4 [(0, .ref h0), (1, .int p1), (2, .long p2)] := hl
  have hDa : ∀ v0 v1 : ob_T, va_D A ((o_X5 cy h0 a0 v0) ++ (o_X3 cy (a0 0) a1 v1)) := fun _ _ => va_D_adr hD rfl
  have i3 : ∀ w ∈ wsX30, w ∈ wsX5_write := fun _ h => List.mem_cons_of_mem _ (List.mem_append_right _ h)
  have i5 : ∀ w ∈ wsX50, w ∈ wsX5_write := fun _ h => List.mem_cons_of_mem _ (List.mem_append_left _ (List.mem_append_right _ h))
  have hS : va_S A s.heap s.heap [] := va_S.rf
  unfold mX5_write at hm
  refine lv_iload_n hx hb dX5_write_0 rfl (lv_at hl 1 rfl) ?_
  refine lv_iconst (v := (1 : Int32)) hx hb dX5_write_1 (by decide) ?_
  refine lv_icmp_lt (tgt := 11) hx hb dX5_write_2 (by decide) (fun hc => ?_) (fun hc => ?_)
  · replace hm := (if_pos hc).symm.trans hm
    refine lv_iconst (v := (-1 : Int32)) hx hb dX5_write_11 (by decide) ?_
    obtain rfl := Option.some.inj hm
    exact hret 12 ls _ _ dX5_write_12 hP hS
  replace hm := (if_neg hc).symm.trans hm
  refine lv_iload_n hx hb dX5_write_5 rfl (lv_at hl 1 rfl) ?_
  refine lv_bipush (v := (8 : Int32)) hx hb dX5_write_6 (by decide) ?_
  refine lv_icmp_le (tgt := 13) hx hb dX5_write_8 (by decide) (fun hc => ?_) (fun hc => ?_)
  · replace hm := (if_pos hc).symm.trans hm
    refine lv_aload_n hx hb dX5_write_13 rfl (lv_at hl 0 rfl) ?_
    refine va_get (D := (dC, dI)) (ci := 5) (v := .ref (a0 0)) (C := RX5) (T := TX5) (N := 8) hx hb hts i5 hown hK hP 0 rfl rfl 0 (by decide) (hts (.fieldLink RX5 10 "TwoMetals" "text" "LTwoMetals$Text;") (List.mem_of_getElem? (i := 1) rfl)) (fun _ h9 => h9) rfl dX5_write_14 ?_
    refine lv_iload_n hx hb dX5_write_17 rfl (lv_at hl 1 rfl) ?_
    obtain ⟨r1, hr1, hm⟩ := bn_call hm
    refine ca_vi (wr := (o_X5 cy h0 a0 w0)) (wn := (o_X5 cy h0 a0 w0) ++ (o_X3 cy (a0 0) a1 w1)) ⟨hx, hb, hml, hown, hts⟩ hK hA (hDa _ _) hP hS [2, 3] [0, 1] [0, 1, 2, 3] (fun sz => kcX3_hasRoomFor l dC dI cy fu (a0 0) a1 w1 p1 sz r1 hr1) rfl rfl (by decide) (by decide) (by decide) rfl (cwV 1 hts gX5_write_X3_hasRoomFor rfl rfl rfl ⟨rfl, ydX3_hasRoomFor⟩ ⟨Nat.le_of_ble_eq_true rfl, Nat.le_of_ble_eq_true rfl⟩) 3 0 rfl rfl rfl rfl hl.1 rfl (Nat.le_of_ble_eq_true rfl) dX5_write_18 ⟨Nat.zero_le _, Nat.zero_le _⟩ (fun H locs hP hS => ?_)
    refine lv_if_ne (tgt := 27) hx hb dX5_write_21 (by decide) (fun hc => ?_) (fun hc => ?_)
    · replace hm := (if_neg hc).symm.trans hm
      refine lv_aload_n hx hb dX5_write_27 rfl (lv_at hl 0 rfl) ?_
      refine va_get (D := (dC, dI)) (ci := 5) (v := .ref (a0 0)) (C := RX5) (T := TX5) (N := 8) hx hb hts i5 hown hK hP 0 rfl rfl 0 (by decide) (hts (.fieldLink RX5 10 "TwoMetals" "text" "LTwoMetals$Text;") (List.mem_of_getElem? (i := 1) rfl)) (fun _ h9 => h9) rfl dX5_write_28 ?_
      refine lv_iload_n hx hb dX5_write_31 rfl (lv_at hl 1 rfl) ?_
      refine lv_lload_n hx hb dX5_write_32 rfl (lv_at hl 2 rfl) ?_
      obtain ⟨r2, hr2, hm⟩ := bn_call hm
      refine ca_vv (wr := (o_X5 cy h0 a0 w0)) (wn := (o_X5 cy h0 a0 w0) ++ (o_X3 cy (a0 0) a1 r2)) ⟨hx, hb, hml, hown, hts⟩ hK hA (hDa _ _) hP hS [2, 3] [0, 1] [0, 1, 2, 3] (fun sz => kcX3_append l dC dI cy fu (a0 0) a1 w1 p1 p2 sz r2 hr2) rfl rfl (by decide) (by decide) (by decide) rfl (cwV 2 hts gX5_write_X3_append rfl rfl rfl ⟨rfl, ydX3_append⟩ ⟨Nat.le_of_ble_eq_true rfl, Nat.le_of_ble_eq_true rfl⟩) 3 0 rfl rfl rfl rfl hl.1 rfl (Nat.le_of_ble_eq_true rfl) dX5_write_33 ⟨Nat.zero_le _, Nat.zero_le _⟩ (fun H locs hP hS => ?_)
      refine lv_aload_n hx hb dX5_write_36 rfl (lv_at hl 0 rfl) ?_
      refine va_get (D := (dC, dI)) (ci := 5) (v := .ref (a0 0)) (C := RX5) (T := TX5) (N := 8) hx hb hts i5 hown hK hP 0 rfl rfl 0 (by decide) (hts (.fieldLink RX5 10 "TwoMetals" "text" "LTwoMetals$Text;") (List.mem_of_getElem? (i := 1) rfl)) (fun _ h9 => h9) rfl dX5_write_37 ?_
      refine va_get (D := (dC, dI)) (ci := 3) (v := .int (r2.1 1 0)) (C := RX3) (T := TX3) (N := 2) hx hb hts i3 hown hK hP 2 rfl rfl 1 (by decide) (hts (.fieldLink RX5 63 "TwoMetals$Text" "length" "I") (List.mem_of_getElem? (i := 2) rfl)) (fun _ h9 => h9) rfl dX5_write_40 ?_
      obtain rfl := Option.some.inj hm
      exact hret 43 ls _ _ dX5_write_43 hP hS
    replace hm := (if_pos hc).symm.trans hm
    refine lv_bipush (v := (-3 : Int32)) hx hb dX5_write_24 (by decide) ?_
    obtain rfl := Option.some.inj hm
    exact hret 26 ls _ _ dX5_write_26 hP hS
  replace hm := (if_neg hc).symm.trans hm
  refine lv_iconst (v := (-1 : Int32)) hx hb dX5_write_11 (by decide) ?_
  obtain rfl := Option.some.inj hm
  exact hret 12 ls _ _ dX5_write_12 hP hS
set_option maxHeartbeats 4000000 in
set_option maxRecDepth 100000 in
theorem kcX5_wipe (l : Launch) (dC : Nat → ClassId) (dI : Nat → Nat → Nat) (cy : Nat → ClassId) (fu : Nat) (h0 : Nat) (a0 : Nat → Nat) (w0 : ob_T) (a1 : Nat → Nat) (w1 : ob_T) (sz : Nat) (R : Int32 × ob_T) (hm : mX5_wipe fu w0 w1 = some R) : Met l yX5_wipe wsX5_wipe (rmN 0 0) (va_Pc [.ref h0] (cPre dC dI cy ((o_X5 cy h0 a0 w0) ++ (o_X3 cy (a0 0) a1 w1)) sz)) (va_Qi (fun (r : Int32) (_ : Unit) => r = R.1) (fun _ => cPost dC dI cy ((o_X5 cy h0 a0 w0) ++ (o_X3 cy (a0 0) a1 w1)) ((o_X5 cy h0 a0 w0) ++ (o_X3 cy (a0 0) a1 R.2)) sz) (va_A ((o_X5 cy h0 a0 w0) ++ (o_X3 cy (a0 0) a1 w1)) sz)) 0 0 (va_A ((o_X5 cy h0 a0 w0) ++ (o_X3 cy (a0 0) a1 w1)) sz) := by
  refine mt_i (cc := cX5_wipe) (maxL := 2) (by decide) rfl (Nat.le_of_ble_eq_true rfl) rfl ?_
  intro p e s m below meth c Q A hx hb hml hown hts hK hA hD hP hret ls hl
  have hown : s.vm.findClass RX5 = some m.cls := hown
  have hl : lv_has ls 2 [(0, .ref h0)] := hl
  have hDa : ∀ v0 v1 : ob_T, va_D A ((o_X5 cy h0 a0 v0) ++ (o_X3 cy (a0 0) a1 v1)) := fun _ _ => va_D_adr hD rfl
  have i3 : ∀ w ∈ wsX30, w ∈ wsX5_wipe := fun _ h => List.mem_cons_of_mem _ (List.mem_append_right _ h)
  have i5 : ∀ w ∈ wsX50, w ∈ wsX5_wipe := fun _ h => List.mem_cons_of_mem _ (List.mem_append_left _ (List.mem_append_right _ h))
  have hS : va_S A s.heap s.heap [] := va_S.rf
  unfold mX5_wipe at hm
  refine lv_aload_n hx hb dX5_wipe_0 rfl (lv_at hl 0 rfl) ?_
  refine va_get (D := (dC, dI)) (ci := 5) (v := .ref (a0 0)) (C := RX5) (T := TX5) (N := 8) hx hb hts i5 hown hK hP 0 rfl rfl 0 (by decide) (hts (.fieldLink RX5 10 "TwoMetals" "text" "LTwoMetals$Text;") (List.mem_of_getElem? (i := 1) rfl)) (fun _ h9 => h9) rfl dX5_wipe_1 ?_
  refine va_get (D := (dC, dI)) (ci := 3) (v := .int (w1.1 1 0)) (C := RX3) (T := TX3) (N := 2) hx hb hts i3 hown hK hP 2 rfl rfl 1 (by decide) (hts (.fieldLink RX5 63 "TwoMetals$Text" "length" "I") (List.mem_of_getElem? (i := 2) rfl)) (fun _ h9 => h9) rfl dX5_wipe_4 ?_
  refine lv_topi (fun x1 e2 => ?_)
  replace hm := bn_at e2 hm
  refine lv_istore_n (lv' := [(1, .int x1), (0, .ref h0)]) hx hb dX5_wipe_7 rfl hl (by decide) rfl (fun ls hl => ?_)
  refine lv_aload_n hx hb dX5_wipe_8 rfl (lv_at hl 1 rfl) ?_
  refine va_get (D := (dC, dI)) (ci := 5) (v := .ref (a0 0)) (C := RX5) (T := TX5) (N := 8) hx hb hts i5 hown hK hP 0 rfl rfl 0 (by decide) (hts (.fieldLink RX5 10 "TwoMetals" "text" "LTwoMetals$Text;") (List.mem_of_getElem? (i := 1) rfl)) (fun _ h9 => h9) rfl dX5_wipe_9 ?_
  refine lv_iconst (v := (0 : Int32)) hx hb dX5_wipe_12 (by decide) ?_
  refine va_put (D := (dC, dI)) (ci := 3) (v := .int (0 : Int32)) (ty := .int) (C := RX3) (T := TX3) (N := 2) hx hb hts i3 tyX3 tyX3_ok nmX3 hown hK hP (hDa _ _) hS 2 rfl rfl 1 (by decide) (hts (.fieldLink RX5 63 "TwoMetals$Text" "length" "I") (List.mem_of_getElem? (i := 2) rfl)) (fun _ h9 => h9) rfl (tyX3_ok 1 (by decide)) rfl rfl (Nat.le_of_ble_eq_true rfl) dX5_wipe_13 (fun H locs hP _ hS => ?_)
  have hP : va_P (dC, dI) vwCl ((o_X5 cy h0 a0 w0) ++ (o_X3 cy (a0 0) a1 (ob_I w1 1 (fun _ => (0 : Int32))))) H := hP
  obtain ⟨u3, hP, hm⟩ := bn_ob (P := fun zz => va_P (dC, dI) vwCl ((o_X5 cy h0 a0 w0) ++ (o_X3 cy (a0 0) a1 zz)) H) hm hP
  refine lv_iload_n hx hb dX5_wipe_16 rfl (lv_at hl 0 rfl) ?_
  obtain rfl := Option.some.inj hm
  exact hret 17 ls _ _ dX5_wipe_17 hP hS
set_option maxHeartbeats 4000000 in
set_option maxRecDepth 100000 in
theorem kcX5_fault (l : Launch) (dC : Nat → ClassId) (dI : Nat → Nat → Nat) (cy : Nat → ClassId) (fu : Nat) (h0 : Nat) (a0 : Nat → Nat) (w0 : ob_T) (a1 : Nat → Nat) (w1 : ob_T) (a2 : Nat → Nat) (w2 : ob_T) (a3 : Nat → Nat) (w3 : ob_T) (a4 : Nat → Nat) (w4 : ob_T) (sz : Nat) (R : Int32 × ob_T × ob_T × ob_T) (hm : mX5_fault fu w0 w1 w2 w3 w4 = some R) : Met l yX5_fault wsX5_fault (rmN 6 148) (va_Pc [.ref h0] (cPre dC dI cy ((o_X5 cy h0 a0 w0) ++ (o_X3 cy (a0 0) a1 w1) ++ (o_X2 cy (a0 1) a2 w2) ++ (o_X4 cy (a2 0) a3 w3) ++ (o_X0 cy (a2 1) a4 w4)) sz)) (va_Qi (fun (r : Int32) (_ : Unit) => r = R.1) (fun _ => cPost dC dI cy ((o_X5 cy h0 a0 w0) ++ (o_X3 cy (a0 0) a1 w1) ++ (o_X2 cy (a0 1) a2 w2) ++ (o_X4 cy (a2 0) a3 w3) ++ (o_X0 cy (a2 1) a4 w4)) ((o_X5 cy h0 a0 w0) ++ (o_X3 cy (a0 0) a1 w1) ++ (o_X2 cy (a0 1) a2 R.2.1) ++ (o_X4 cy (a2 0) a3 R.2.2.1) ++ (o_X0 cy (a2 1) a4 R.2.2.2)) sz) (va_A ((o_X5 cy h0 a0 w0) ++ (o_X3 cy (a0 0) a1 w1) ++ (o_X2 cy (a0 1) a2 w2) ++ (o_X4 cy (a2 0) a3 w3) ++ (o_X0 cy (a2 1) a4 w4)) sz)) 0 0 (va_A ((o_X5 cy h0 a0 w0) ++ (o_X3 cy (a0 0) a1 w1) ++ (o_X2 cy (a0 1) a2 w2) ++ (o_X4 cy (a2 0) a3 w3) ++ (o_X0 cy (a2 1) a4 w4)) sz) := by
  refine mt_i (cc := cX5_fault) (maxL := 1) (by decide) rfl (Nat.le_of_ble_eq_true rfl) rfl ?_
  intro p e s m below meth c Q A hx hb hml hown hts hK hA hD hP hret ls hl
  have hown : s.vm.findClass RX5 = some m.cls := hown
  have hl : lv_has ls 1 [(0, .ref h0)] := hl
  have hDa : ∀ v0 v1 v2 v3 v4 : ob_T, va_D A ((o_X5 cy h0 a0 v0) ++ (o_X3 cy (a0 0) a1 v1) ++ (o_X2 cy (a0 1) a2 v2) ++ (o_X4 cy (a2 0) a3 v3) ++ (o_X0 cy (a2 1) a4 v4)) := fun _ _ _ _ _ => va_D_adr hD rfl
  have i5 : ∀ w ∈ wsX50, w ∈ wsX5_fault := fun _ h => List.mem_cons_of_mem _ (List.mem_append_left _ (List.mem_append_left _ (List.mem_append_left _ (List.mem_append_left _ (List.mem_append_right _ h)))))
  have hS : va_S A s.heap s.heap [] := va_S.rf
  unfold mX5_fault at hm
  refine lv_aload_n hx hb dX5_fault_0 rfl (lv_at hl 0 rfl) ?_
  refine va_get (D := (dC, dI)) (ci := 5) (v := .ref (a0 1)) (C := RX5) (T := TX5) (N := 8) hx hb hts i5 hown hK hP 0 rfl rfl 1 (by decide) (hts (.fieldLink RX5 19 "TwoMetals" "reader" "LTwoMetals$Reader;") (List.mem_of_getElem? (i := 1) rfl)) (fun _ h9 => h9) rfl dX5_fault_1 ?_
  refine lv_aload_n hx hb dX5_fault_4 rfl (lv_at hl 0 rfl) ?_
  refine va_get (D := (dC, dI)) (ci := 5) (v := .ref (a0 0)) (C := RX5) (T := TX5) (N := 8) hx hb hts i5 hown hK hP 0 rfl rfl 0 (by decide) (hts (.fieldLink RX5 10 "TwoMetals" "text" "LTwoMetals$Text;") (List.mem_of_getElem? (i := 2) rfl)) (fun _ h9 => h9) rfl dX5_fault_5 ?_
  obtain ⟨r1, hr1, hm⟩ := bn_call hm
  refine ca_vi (wr := (o_X5 cy h0 a0 w0)) (wn := (o_X5 cy h0 a0 w0) ++ (o_X3 cy (a0 0) a1 w1) ++ (o_X2 cy (a0 1) a2 r1.2.1) ++ (o_X4 cy (a2 0) a3 r1.2.2.1) ++ (o_X0 cy (a2 1) a4 r1.2.2.2)) ⟨hx, hb, hml, hown, hts⟩ hK hA (hDa _ _ _ _ _) hP hS [4, 5, 6, 7, 8, 9, 10, 11, 12, 13, 14, 15, 16, 17, 18, 19, 2, 3] [0, 1] [0, 1, 18, 19, 2, 3, 4, 5, 6, 7, 8, 9, 10, 11, 12, 13, 14, 15, 16, 17] (fun sz => kcX2_firstFault l dC dI cy fu (a0 1) a2 w2 a3 w3 a4 w4 (a0 0) a1 w1 sz r1 hr1) rfl rfl (by decide) (by decide) (by decide) rfl (cwV 1 hts gX5_fault_X2_firstFault rfl rfl rfl ⟨rfl, ydX2_firstFault⟩ ⟨Nat.le_of_ble_eq_true rfl, Nat.le_of_ble_eq_true rfl⟩) 2 0 rfl rfl rfl rfl hl.1 rfl (Nat.le_of_ble_eq_true rfl) dX5_fault_8 ⟨Nat.zero_le _, Nat.zero_le _⟩ (fun H locs hP hS => ?_)
  obtain rfl := Option.some.inj hm
  exact hret 11 ls _ _ dX5_fault_11 hP hS
set_option maxHeartbeats 4000000 in
set_option maxRecDepth 100000 in
theorem kcX5_lay (l : Launch) (dC : Nat → ClassId) (dI : Nat → Nat → Nat) (cy : Nat → ClassId) (fu : Nat) (h0 : Nat) (a0 : Nat → Nat) (w0 : ob_T) (a1 : Nat → Nat) (w1 : ob_T) (a2 : Nat → Nat) (w2 : ob_T) (a3 : Nat → Nat) (w3 : ob_T) (a4 : Nat → Nat) (w4 : ob_T) (a5 : Nat → Nat) (w5 : ob_T) (a6 : Nat → Nat) (w6 : ob_T) (sz : Nat) (R : Int32 × ob_T × ob_T × ob_T × ob_T × ob_T × ob_T) (hm : mX5_lay fu w0 w1 w2 w3 w4 w5 w6 = some R) : Met l yX5_lay wsX5_lay (rmN 6 148) (va_Pc [.ref h0] (cPre dC dI cy ((o_X5 cy h0 a0 w0) ++ (o_X3 cy (a0 0) a1 w1) ++ (o_X2 cy (a0 1) a2 w2) ++ (o_X4 cy (a2 0) a3 w3) ++ (o_X0 cy (a2 1) a4 w4) ++ (o_X4 cy (a0 4) a5 w5) ++ (o_X0 cy (a0 3) a6 w6)) sz)) (va_Qi (fun (r : Int32) (_ : Unit) => r = R.1) (fun _ => cPost dC dI cy ((o_X5 cy h0 a0 w0) ++ (o_X3 cy (a0 0) a1 w1) ++ (o_X2 cy (a0 1) a2 w2) ++ (o_X4 cy (a2 0) a3 w3) ++ (o_X0 cy (a2 1) a4 w4) ++ (o_X4 cy (a0 4) a5 w5) ++ (o_X0 cy (a0 3) a6 w6)) ((o_X5 cy h0 a0 R.2.1) ++ (o_X3 cy (a0 0) a1 w1) ++ (o_X2 cy (a0 1) a2 R.2.2.1) ++ (o_X4 cy (a2 0) a3 R.2.2.2.1) ++ (o_X0 cy (a2 1) a4 R.2.2.2.2.1) ++ (o_X4 cy (a0 4) a5 R.2.2.2.2.2.1) ++ (o_X0 cy (a0 3) a6 R.2.2.2.2.2.2)) sz) (va_A ((o_X5 cy h0 a0 w0) ++ (o_X3 cy (a0 0) a1 w1) ++ (o_X2 cy (a0 1) a2 w2) ++ (o_X4 cy (a2 0) a3 w3) ++ (o_X0 cy (a2 1) a4 w4) ++ (o_X4 cy (a0 4) a5 w5) ++ (o_X0 cy (a0 3) a6 w6)) sz)) 0 0 (va_A ((o_X5 cy h0 a0 w0) ++ (o_X3 cy (a0 0) a1 w1) ++ (o_X2 cy (a0 1) a2 w2) ++ (o_X4 cy (a2 0) a3 w3) ++ (o_X0 cy (a2 1) a4 w4) ++ (o_X4 cy (a0 4) a5 w5) ++ (o_X0 cy (a0 3) a6 w6)) sz) := by
  refine mt_i (cc := cX5_lay) (maxL := 1) (by decide) rfl (Nat.le_of_ble_eq_true rfl) rfl ?_
  intro p e s m below meth c Q A hx hb hml hown hts hK hA hD hP hret ls hl
  have hown : s.vm.findClass RX5 = some m.cls := hown
  have hl : lv_has ls 1 [(0, .ref h0)] := hl
  have hDa : ∀ v0 v1 v2 v3 v4 v5 v6 : ob_T, va_D A ((o_X5 cy h0 a0 v0) ++ (o_X3 cy (a0 0) a1 v1) ++ (o_X2 cy (a0 1) a2 v2) ++ (o_X4 cy (a2 0) a3 v3) ++ (o_X0 cy (a2 1) a4 v4) ++ (o_X4 cy (a0 4) a5 v5) ++ (o_X0 cy (a0 3) a6 v6)) := fun _ _ _ _ _ _ _ => va_D_adr hD rfl
  have i2 : ∀ w ∈ wsX20, w ∈ wsX5_lay := fun _ h => List.mem_cons_of_mem _ (List.mem_append_left _ (List.mem_append_left _ (List.mem_append_left _ (List.mem_append_right _ h))))
  have i4 : ∀ w ∈ wsX40, w ∈ wsX5_lay := fun _ h => List.mem_cons_of_mem _ (List.mem_append_left _ (List.mem_append_left _ (List.mem_append_right _ h)))
  have i5 : ∀ w ∈ wsX50, w ∈ wsX5_lay := fun _ h => List.mem_cons_of_mem _ (List.mem_append_left _ (List.mem_append_left _ (List.mem_append_left _ (List.mem_append_left _ (List.mem_append_right _ h)))))
  have hS : va_S A s.heap s.heap [] := va_S.rf
  unfold mX5_lay at hm
  refine lv_aload_n hx hb dX5_lay_0 rfl (lv_at hl 0 rfl) ?_
  refine va_get (D := (dC, dI)) (ci := 5) (v := .ref (a0 1)) (C := RX5) (T := TX5) (N := 8) hx hb hts i5 hown hK hP 0 rfl rfl 1 (by decide) (hts (.fieldLink RX5 19 "TwoMetals" "reader" "LTwoMetals$Reader;") (List.mem_of_getElem? (i := 1) rfl)) (fun _ h9 => h9) rfl dX5_lay_1 ?_
  refine lv_aload_n hx hb dX5_lay_4 rfl (lv_at hl 0 rfl) ?_
  refine va_get (D := (dC, dI)) (ci := 5) (v := .ref (a0 0)) (C := RX5) (T := TX5) (N := 8) hx hb hts i5 hown hK hP 0 rfl rfl 0 (by decide) (hts (.fieldLink RX5 10 "TwoMetals" "text" "LTwoMetals$Text;") (List.mem_of_getElem? (i := 2) rfl)) (fun _ h9 => h9) rfl dX5_lay_5 ?_
  obtain ⟨r1, hr1, hm⟩ := bn_call hm
  refine ca_vi (wr := (o_X5 cy h0 a0 w0) ++ (o_X4 cy (a0 4) a5 w5) ++ (o_X0 cy (a0 3) a6 w6)) (wn := (o_X5 cy h0 a0 w0) ++ (o_X3 cy (a0 0) a1 w1) ++ (o_X2 cy (a0 1) a2 r1.2.1) ++ (o_X4 cy (a2 0) a3 r1.2.2.1) ++ (o_X0 cy (a2 1) a4 r1.2.2.2) ++ (o_X4 cy (a0 4) a5 w5) ++ (o_X0 cy (a0 3) a6 w6)) ⟨hx, hb, hml, hown, hts⟩ hK hA (hDa _ _ _ _ _ _ _) hP hS [4, 5, 6, 7, 8, 9, 10, 11, 12, 13, 14, 15, 16, 17, 18, 19, 2, 3] [0, 1, 20, 21, 22, 23, 24, 25, 26, 27, 28, 29, 30, 31, 32, 33] [0, 1, 32, 33, 16, 17, 18, 19, 20, 21, 22, 23, 24, 25, 26, 27, 28, 29, 30, 31, 2, 3, 4, 5, 6, 7, 8, 9, 10, 11, 12, 13, 14, 15] (fun sz => kcX2_firstFault l dC dI cy fu (a0 1) a2 w2 a3 w3 a4 w4 (a0 0) a1 w1 sz r1 hr1) rfl rfl (by decide) (by decide) (by decide) rfl (cwV 1 hts gX5_lay_X2_firstFault rfl rfl rfl ⟨rfl, ydX2_firstFault⟩ ⟨Nat.le_of_ble_eq_true rfl, Nat.le_of_ble_eq_true rfl⟩) 2 0 rfl rfl rfl rfl hl.1 rfl (Nat.le_of_ble_eq_true rfl) dX5_lay_8 ⟨Nat.zero_le _, Nat.zero_le _⟩ (fun H locs hP hS => ?_)
  refine lv_bipush (v := (-4 : Int32)) hx hb dX5_lay_11 (by decide) ?_
  refine lv_icmp_eq (tgt := 19) hx hb dX5_lay_13 (by decide) (fun hc => ?_) (fun hc => ?_)
  · replace hm := (if_pos hc).symm.trans hm
    refine lv_aload_n hx hb dX5_lay_19 rfl (lv_at hl 0 rfl) ?_
    refine va_get (D := (dC, dI)) (ci := 5) (v := .ref (a0 4)) (C := RX5) (T := TX5) (N := 8) hx hb hts i5 hown hK hP 0 rfl rfl 4 (by decide) (hts (.fieldLink RX5 40 "TwoMetals" "now" "LTwoMetals$World;") (List.mem_of_getElem? (i := 3) rfl)) (fun _ h9 => h9) rfl dX5_lay_20 ?_
    refine lv_aload_n hx hb dX5_lay_23 rfl (lv_at hl 0 rfl) ?_
    refine va_get (D := (dC, dI)) (ci := 5) (v := .ref (a0 1)) (C := RX5) (T := TX5) (N := 8) hx hb hts i5 hown hK hP 0 rfl rfl 1 (by decide) (hts (.fieldLink RX5 19 "TwoMetals" "reader" "LTwoMetals$Reader;") (List.mem_of_getElem? (i := 1) rfl)) (fun _ h9 => h9) rfl dX5_lay_24 ?_
    refine va_get (D := (dC, dI)) (ci := 2) (v := .ref (a2 0)) (C := RX2) (T := TX2) (N := 4) hx hb hts i2 hown hK hP 4 rfl rfl 0 (by decide) (hts (.fieldLink RX5 70 "TwoMetals$Reader" "world" "LTwoMetals$World;") (List.mem_of_getElem? (i := 4) rfl)) (fun _ h9 => h9) rfl dX5_lay_27 ?_
    obtain ⟨r2, hr2, hm⟩ := bn_call hm
    refine ca_vv (wr := (o_X5 cy h0 a0 w0) ++ (o_X3 cy (a0 0) a1 w1) ++ (o_X2 cy (a0 1) a2 r1.2.1) ++ (o_X0 cy (a2 1) a4 r1.2.2.2) ++ (o_X0 cy (a0 3) a6 w6)) (wn := (o_X5 cy h0 a0 w0) ++ (o_X3 cy (a0 0) a1 w1) ++ (o_X2 cy (a0 1) a2 r1.2.1) ++ (o_X4 cy (a2 0) a3 r1.2.2.1) ++ (o_X0 cy (a2 1) a4 r1.2.2.2) ++ (o_X4 cy (a0 4) a5 r2) ++ (o_X0 cy (a0 3) a6 w6)) ⟨hx, hb, hml, hown, hts⟩ hK hA (hDa _ _ _ _ _ _ _) hP hS [20, 21, 22, 23, 24, 25, 26, 27, 28, 29, 6, 7, 8, 9, 10, 11, 12, 13, 14, 15] [0, 1, 2, 3, 4, 5, 16, 17, 18, 19, 30, 31, 32, 33] [0, 1, 2, 3, 4, 5, 24, 25, 26, 27, 28, 29, 30, 31, 32, 33, 6, 7, 8, 9, 14, 15, 16, 17, 18, 19, 20, 21, 22, 23, 10, 11, 12, 13] (fun sz => kcX4_copyFrom l dC dI cy fu (a0 4) a5 w5 (a2 0) a3 r1.2.2.1 sz r2 hr2) rfl rfl (by decide) (by decide) (by decide) rfl (cwV 1 hts gX5_lay_X4_copyFrom rfl rfl rfl ⟨rfl, ydX4_copyFrom⟩ ⟨Nat.le_of_ble_eq_true rfl, Nat.le_of_ble_eq_true rfl⟩) 4 0 rfl rfl rfl rfl hl.1 rfl (Nat.le_of_ble_eq_true rfl) dX5_lay_30 ⟨Nat.zero_le _, Nat.zero_le _⟩ (fun H locs hP hS => ?_)
    refine lv_aload_n hx hb dX5_lay_33 rfl (lv_at hl 0 rfl) ?_
    refine va_get (D := (dC, dI)) (ci := 5) (v := .ref (a0 3)) (C := RX5) (T := TX5) (N := 8) hx hb hts i5 hown hK hP 0 rfl rfl 3 (by decide) (hts (.fieldLink RX5 33 "TwoMetals" "mines" "LTwoMetals$Mines;") (List.mem_of_getElem? (i := 5) rfl)) (fun _ h9 => h9) rfl dX5_lay_34 ?_
    refine lv_aload_n hx hb dX5_lay_37 rfl (lv_at hl 0 rfl) ?_
    refine va_get (D := (dC, dI)) (ci := 5) (v := .ref (a0 1)) (C := RX5) (T := TX5) (N := 8) hx hb hts i5 hown hK hP 0 rfl rfl 1 (by decide) (hts (.fieldLink RX5 19 "TwoMetals" "reader" "LTwoMetals$Reader;") (List.mem_of_getElem? (i := 1) rfl)) (fun _ h9 => h9) rfl dX5_lay_38 ?_
    refine va_get (D := (dC, dI)) (ci := 2) (v := .ref (a2 1)) (C := RX2) (T := TX2) (N := 4) hx hb hts i2 hown hK hP 4 rfl rfl 1 (by decide) (hts (.fieldLink RX5 77 "TwoMetals$Reader" "mines" "LTwoMetals$Mines;") (List.mem_of_getElem? (i := 6) rfl)) (fun _ h9 => h9) rfl dX5_lay_41 ?_
    obtain ⟨r3, hr3, hm⟩ := bn_call hm
    refine ca_vv (wr := (o_X5 cy h0 a0 w0) ++ (o_X3 cy (a0 0) a1 w1) ++ (o_X2 cy (a0 1) a2 r1.2.1) ++ (o_X4 cy (a2 0) a3 r1.2.2.1) ++ (o_X4 cy (a0 4) a5 r2)) (wn := (o_X5 cy h0 a0 w0) ++ (o_X3 cy (a0 0) a1 w1) ++ (o_X2 cy (a0 1) a2 r1.2.1) ++ (o_X4 cy (a2 0) a3 r1.2.2.1) ++ (o_X0 cy (a2 1) a4 r1.2.2.2) ++ (o_X4 cy (a0 4) a5 r2) ++ (o_X0 cy (a0 3) a6 r3)) ⟨hx, hb, hml, hown, hts⟩ hK hA (hDa _ _ _ _ _ _ _) hP hS [30, 31, 32, 33, 16, 17, 18, 19] [0, 1, 2, 3, 4, 5, 6, 7, 8, 9, 10, 11, 12, 13, 14, 15, 20, 21, 22, 23, 24, 25, 26, 27, 28, 29] [0, 1, 2, 3, 4, 5, 6, 7, 8, 9, 10, 11, 12, 13, 14, 15, 30, 31, 32, 33, 16, 17, 18, 19, 20, 21, 22, 23, 24, 25, 26, 27, 28, 29] (fun sz => kcX0_copyFrom l dC dI cy fu (a0 3) a6 w6 (a2 1) a4 r1.2.2.2 sz r3 hr3) rfl rfl (by decide) (by decide) (by decide) rfl (cwV 1 hts gX5_lay_X0_copyFrom rfl rfl rfl ⟨rfl, ydX0_copyFrom⟩ ⟨Nat.le_of_ble_eq_true rfl, Nat.le_of_ble_eq_true rfl⟩) 0 0 rfl rfl rfl rfl hl.1 rfl (Nat.le_of_ble_eq_true rfl) dX5_lay_44 ⟨Nat.zero_le _, Nat.zero_le _⟩ (fun H locs hP hS => ?_)
    refine lv_aload_n hx hb dX5_lay_47 rfl (lv_at hl 0 rfl) ?_
    refine lv_iconst (v := (0 : Int32)) hx hb dX5_lay_48 (by decide) ?_
    refine va_put (D := (dC, dI)) (ci := 5) (v := .int (0 : Int32)) (ty := .int) (C := RX5) (T := TX5) (N := 8) hx hb hts i5 tyX5 tyX5_ok nmX5 hown hK hP (hDa _ _ _ _ _ _ _) hS 0 rfl rfl 7 (by decide) (hts (.fieldLink RX5 51 "TwoMetals" "keptCount" "I") (List.mem_of_getElem? (i := 7) rfl)) (fun _ h9 => h9) rfl (tyX5_ok 7 (by decide)) rfl rfl (Nat.le_of_ble_eq_true rfl) dX5_lay_49 (fun H locs hP _ hS => ?_)
    have hP : va_P (dC, dI) vwCl ((o_X5 cy h0 a0 (ob_I w0 7 (fun _ => (0 : Int32)))) ++ (o_X3 cy (a0 0) a1 w1) ++ (o_X2 cy (a0 1) a2 r1.2.1) ++ (o_X4 cy (a2 0) a3 r1.2.2.1) ++ (o_X0 cy (a2 1) a4 r1.2.2.2) ++ (o_X4 cy (a0 4) a5 r2) ++ (o_X0 cy (a0 3) a6 r3)) H := hP
    obtain ⟨u4, hP, hm⟩ := bn_ob (P := fun zz => va_P (dC, dI) vwCl ((o_X5 cy h0 a0 zz) ++ (o_X3 cy (a0 0) a1 w1) ++ (o_X2 cy (a0 1) a2 r1.2.1) ++ (o_X4 cy (a2 0) a3 r1.2.2.1) ++ (o_X0 cy (a2 1) a4 r1.2.2.2) ++ (o_X4 cy (a0 4) a5 r2) ++ (o_X0 cy (a0 3) a6 r3)) H) hm hP
    refine lv_aload_n hx hb dX5_lay_52 rfl (lv_at hl 0 rfl) ?_
    refine va_get (D := (dC, dI)) (ci := 5) (v := .ref (a0 4)) (C := RX5) (T := TX5) (N := 8) hx hb hts i5 hown hK hP 0 rfl rfl 4 (by decide) (hts (.fieldLink RX5 40 "TwoMetals" "now" "LTwoMetals$World;") (List.mem_of_getElem? (i := 3) rfl)) (fun _ h9 => h9) rfl dX5_lay_53 ?_
    refine va_get (D := (dC, dI)) (ci := 4) (v := .int (r2.1 9 0)) (C := RX4) (T := TX4) (N := 17) hx hb hts i4 hown hK hP 20 rfl rfl 9 (by decide) (hts (.fieldLink RX5 81 "TwoMetals$World" "told" "I") (List.mem_of_getElem? (i := 8) rfl)) (fun _ h9 => h9) rfl dX5_lay_56 ?_
    obtain ⟨r5, hr5, hm⟩ := bn_call hm
    refine ca_si (wr := (o_X5 cy h0 a0 u4) ++ (o_X3 cy (a0 0) a1 w1) ++ (o_X2 cy (a0 1) a2 r1.2.1) ++ (o_X4 cy (a2 0) a3 r1.2.2.1) ++ (o_X0 cy (a2 1) a4 r1.2.2.2) ++ (o_X4 cy (a0 4) a5 r2) ++ (o_X0 cy (a0 3) a6 r3)) (wn := (o_X5 cy h0 a0 u4) ++ (o_X3 cy (a0 0) a1 w1) ++ (o_X2 cy (a0 1) a2 r1.2.1) ++ (o_X4 cy (a2 0) a3 r1.2.2.1) ++ (o_X0 cy (a2 1) a4 r1.2.2.2) ++ (o_X4 cy (a0 4) a5 r2) ++ (o_X0 cy (a0 3) a6 r3)) ⟨hx, hb, hml, hown, hts⟩ hK hA (hDa _ _ _ _ _ _ _) hP hS [] [0, 1, 2, 3, 4, 5, 6, 7, 8, 9, 10, 11, 12, 13, 14, 15, 16, 17, 18, 19, 20, 21, 22, 23, 24, 25, 26, 27, 28, 29, 30, 31, 32, 33] [0, 1, 2, 3, 4, 5, 6, 7, 8, 9, 10, 11, 12, 13, 14, 15, 16, 17, 18, 19, 20, 21, 22, 23, 24, 25, 26, 27, 28, 29, 30, 31, 32, 33] (fun sz => kcJ6_bitCount_0f7a4 l dC dI cy fu (r2.1 9 0) sz r5 hr5) rfl rfl (by decide) (by decide) (by decide) rfl (va_cwS 1 hts gX5_lay_J6_bitCount_0f7a4 rfl rfl rfl ydJ6_bitCount_0f7a4 ⟨Nat.le_of_ble_eq_true rfl, Nat.le_of_ble_eq_true rfl⟩) rfl hl.1 rfl (Nat.le_of_ble_eq_true rfl) dX5_lay_59 ⟨Nat.zero_le _, Nat.zero_le _⟩ (fun H locs hP hS => ?_)
    obtain rfl := Option.some.inj hm
    exact hret 62 ls _ _ dX5_lay_62 hP hS
  replace hm := (if_neg hc).symm.trans hm
  refine lv_bipush (v := (-2 : Int32)) hx hb dX5_lay_16 (by decide) ?_
  obtain rfl := Option.some.inj hm
  exact hret 18 ls _ _ dX5_lay_18 hP hS
set_option maxHeartbeats 4000000 in
set_option maxRecDepth 100000 in
theorem kcX5_realm (l : Launch) (dC : Nat → ClassId) (dI : Nat → Nat → Nat) (cy : Nat → ClassId) (fu : Nat) (h0 : Nat) (a0 : Nat → Nat) (w0 : ob_T) (a1 : Nat → Nat) (w1 : ob_T) (p1 : Int32) (p2 : Int32) (sz : Nat) (R : Int64) (hm : mX5_realm fu w0 w1 p1 p2 = some R) : Met l yX5_realm wsX5_realm (rmN 1 21) (va_Pc [.ref h0, .int p1, .int p2] (cPre dC dI cy ((o_X5 cy h0 a0 w0) ++ (o_X4 cy (a0 4) a1 w1)) sz)) (va_Ql (fun (r : Int64) (_ : Unit) => r = R) (fun _ => cPost dC dI cy ((o_X5 cy h0 a0 w0) ++ (o_X4 cy (a0 4) a1 w1)) ((o_X5 cy h0 a0 w0) ++ (o_X4 cy (a0 4) a1 w1)) sz) (va_A ((o_X5 cy h0 a0 w0) ++ (o_X4 cy (a0 4) a1 w1)) sz)) 0 0 (va_A ((o_X5 cy h0 a0 w0) ++ (o_X4 cy (a0 4) a1 w1)) sz) := by
  refine mt_l (cc := cX5_realm) (maxL := 3) (by decide) rfl (Nat.le_of_ble_eq_true rfl) rfl ?_
  intro p e s m below meth c Q A hx hb hml hown hts hK hA hD hP hret ls hl
  have hown : s.vm.findClass RX5 = some m.cls := hown
  have hl : lv_has ls 3 [(0, .ref h0), (1, .int p1), (2, .int p2)] := hl
  have hDa : ∀ v0 v1 : ob_T, va_D A ((o_X5 cy h0 a0 v0) ++ (o_X4 cy (a0 4) a1 v1)) := fun _ _ => va_D_adr hD rfl
  have i4 : ∀ w ∈ wsX40, w ∈ wsX5_realm := fun _ h => List.mem_cons_of_mem _ (List.mem_append_right _ h)
  have i5 : ∀ w ∈ wsX50, w ∈ wsX5_realm := fun _ h => List.mem_cons_of_mem _ (List.mem_append_left _ (List.mem_append_right _ h))
  have hS : va_S A s.heap s.heap [] := va_S.rf
  unfold mX5_realm at hm
  refine lv_aload_n hx hb dX5_realm_0 rfl (lv_at hl 0 rfl) ?_
  refine va_get (D := (dC, dI)) (ci := 5) (v := .ref (a0 4)) (C := RX5) (T := TX5) (N := 8) hx hb hts i5 hown hK hP 0 rfl rfl 4 (by decide) (hts (.fieldLink RX5 40 "TwoMetals" "now" "LTwoMetals$World;") (List.mem_of_getElem? (i := 1) rfl)) (fun _ h9 => h9) rfl dX5_realm_1 ?_
  refine lv_iload_n hx hb dX5_realm_4 rfl (lv_at hl 1 rfl) ?_
  obtain ⟨r1, hr1, hm⟩ := bn_call hm
  refine ca_vi (wr := (o_X5 cy h0 a0 w0)) (wn := (o_X5 cy h0 a0 w0) ++ (o_X4 cy (a0 4) a1 w1)) ⟨hx, hb, hml, hown, hts⟩ hK hA (hDa _ _) hP hS [2, 3, 4, 5, 6, 7, 8, 9, 10, 11] [0, 1] [0, 1, 2, 3, 4, 5, 6, 7, 8, 9, 10, 11] (fun sz => kcX4_has l dC dI cy fu (a0 4) a1 w1 p1 sz r1 hr1) rfl rfl (by decide) (by decide) (by decide) rfl (cwV 1 hts gX5_realm_X4_has rfl rfl rfl ⟨rfl, ydX4_has⟩ ⟨Nat.le_of_ble_eq_true rfl, Nat.le_of_ble_eq_true rfl⟩) 4 0 rfl rfl rfl rfl hl.1 rfl (Nat.le_of_ble_eq_true rfl) dX5_realm_5 ⟨Nat.zero_le _, Nat.zero_le _⟩ (fun H locs hP hS => ?_)
  refine lv_if_ne (tgt := 15) hx hb dX5_realm_8 (by decide) (fun hc => ?_) (fun hc => ?_)
  · replace hm := (if_neg hc).symm.trans hm
    refine lv_iload_n hx hb dX5_realm_15 rfl (lv_at hl 2 rfl) ?_
    by_cases hv2 : p2 = (0 : Int32)
    · replace hm := (if_pos hv2).symm.trans hm
      refine W.eq (g2 := F0 m 16 ls (.int (0 : Int32) :: [])) (by rw [hv2]) ?_
      refine lv_tableIn (tgt := 64) hx hb dX5_realm_16 (by decide) (by decide) rfl (by decide) ?_
      refine lv_aload_n hx hb dX5_realm_64 rfl (lv_at hl 0 rfl) ?_
      refine va_get (D := (dC, dI)) (ci := 5) (v := .ref (a0 4)) (C := RX5) (T := TX5) (N := 8) hx hb hts i5 hown hK hP 0 rfl rfl 4 (by decide) (hts (.fieldLink RX5 40 "TwoMetals" "now" "LTwoMetals$World;") (List.mem_of_getElem? (i := 1) rfl)) (fun _ h9 => h9) rfl dX5_realm_65 ?_
      refine va_get (D := (dC, dI)) (ci := 4) (v := .ref (a1 0)) (C := RX4) (T := TX4) (N := 17) hx hb hts i4 hown hK hP 2 rfl rfl 0 (by decide) (hts (.fieldLink RX5 95 "TwoMetals$World" "law" "[I") (List.mem_of_getElem? (i := 3) rfl)) (fun _ h9 => h9) rfl dX5_realm_68 ?_
      refine lv_iload_n hx hb dX5_realm_71 rfl (lv_at hl 1 rfl) ?_
      obtain ⟨hi3, hm⟩ := ck_in hm
      refine va_iald hx hb hK hP 3 0 rfl rfl hi3 dX5_realm_72 ?_
      refine lv_i2l (v := (w1.1 0 p1.toNatClampNeg).toInt64) hx hb dX5_realm_73 rfl ?_
      obtain rfl := Option.some.inj hm
      exact hret 74 ls _ _ dX5_realm_74 hP hS
    replace hm := (if_neg hv2).symm.trans hm
    by_cases hv4 : p2 = (1 : Int32)
    · replace hm := (if_pos hv4).symm.trans hm
      refine W.eq (g2 := F0 m 16 ls (.int (1 : Int32) :: [])) (by rw [hv4]) ?_
      refine lv_tableIn (tgt := 75) hx hb dX5_realm_16 (by decide) (by decide) rfl (by decide) ?_
      refine lv_aload_n hx hb dX5_realm_75 rfl (lv_at hl 0 rfl) ?_
      refine va_get (D := (dC, dI)) (ci := 5) (v := .ref (a0 4)) (C := RX5) (T := TX5) (N := 8) hx hb hts i5 hown hK hP 0 rfl rfl 4 (by decide) (hts (.fieldLink RX5 40 "TwoMetals" "now" "LTwoMetals$World;") (List.mem_of_getElem? (i := 1) rfl)) (fun _ h9 => h9) rfl dX5_realm_76 ?_
      refine va_get (D := (dC, dI)) (ci := 4) (v := .ref (a1 1)) (C := RX4) (T := TX4) (N := 17) hx hb hts i4 hown hK hP 2 rfl rfl 1 (by decide) (hts (.fieldLink RX5 99 "TwoMetals$World" "cut" "[I") (List.mem_of_getElem? (i := 4) rfl)) (fun _ h9 => h9) rfl dX5_realm_79 ?_
      refine lv_iload_n hx hb dX5_realm_82 rfl (lv_at hl 1 rfl) ?_
      obtain ⟨hi5, hm⟩ := ck_in hm
      refine va_iald hx hb hK hP 4 0 rfl rfl hi5 dX5_realm_83 ?_
      refine lv_i2l (v := (w1.1 1 p1.toNatClampNeg).toInt64) hx hb dX5_realm_84 rfl ?_
      obtain rfl := Option.some.inj hm
      exact hret 85 ls _ _ dX5_realm_85 hP hS
    replace hm := (if_neg hv4).symm.trans hm
    by_cases hv6 : p2 = (2 : Int32)
    · replace hm := (if_pos hv6).symm.trans hm
      refine W.eq (g2 := F0 m 16 ls (.int (2 : Int32) :: [])) (by rw [hv6]) ?_
      refine lv_tableIn (tgt := 86) hx hb dX5_realm_16 (by decide) (by decide) rfl (by decide) ?_
      refine lv_aload_n hx hb dX5_realm_86 rfl (lv_at hl 0 rfl) ?_
      refine va_get (D := (dC, dI)) (ci := 5) (v := .ref (a0 4)) (C := RX5) (T := TX5) (N := 8) hx hb hts i5 hown hK hP 0 rfl rfl 4 (by decide) (hts (.fieldLink RX5 40 "TwoMetals" "now" "LTwoMetals$World;") (List.mem_of_getElem? (i := 1) rfl)) (fun _ h9 => h9) rfl dX5_realm_87 ?_
      refine va_get (D := (dC, dI)) (ci := 4) (v := .ref (a1 2)) (C := RX4) (T := TX4) (N := 17) hx hb hts i4 hown hK hP 2 rfl rfl 2 (by decide) (hts (.fieldLink RX5 102 "TwoMetals$World" "way" "[I") (List.mem_of_getElem? (i := 5) rfl)) (fun _ h9 => h9) rfl dX5_realm_90 ?_
      refine lv_iload_n hx hb dX5_realm_93 rfl (lv_at hl 1 rfl) ?_
      obtain ⟨hi7, hm⟩ := ck_in hm
      refine va_iald hx hb hK hP 5 0 rfl rfl hi7 dX5_realm_94 ?_
      refine lv_i2l (v := (w1.1 2 p1.toNatClampNeg).toInt64) hx hb dX5_realm_95 rfl ?_
      obtain rfl := Option.some.inj hm
      exact hret 96 ls _ _ dX5_realm_96 hP hS
    replace hm := (if_neg hv6).symm.trans hm
    by_cases hv8 : p2 = (3 : Int32)
    · replace hm := (if_pos hv8).symm.trans hm
      refine W.eq (g2 := F0 m 16 ls (.int (3 : Int32) :: [])) (by rw [hv8]) ?_
      refine lv_tableIn (tgt := 97) hx hb dX5_realm_16 (by decide) (by decide) rfl (by decide) ?_
      refine lv_aload_n hx hb dX5_realm_97 rfl (lv_at hl 0 rfl) ?_
      refine va_get (D := (dC, dI)) (ci := 5) (v := .ref (a0 4)) (C := RX5) (T := TX5) (N := 8) hx hb hts i5 hown hK hP 0 rfl rfl 4 (by decide) (hts (.fieldLink RX5 40 "TwoMetals" "now" "LTwoMetals$World;") (List.mem_of_getElem? (i := 1) rfl)) (fun _ h9 => h9) rfl dX5_realm_98 ?_
      refine va_get (D := (dC, dI)) (ci := 4) (v := .ref (a1 7)) (C := RX4) (T := TX4) (N := 17) hx hb hts i4 hown hK hP 2 rfl rfl 7 (by decide) (hts (.fieldLink RX5 105 "TwoMetals$World" "gold" "[J") (List.mem_of_getElem? (i := 6) rfl)) (fun _ h9 => h9) rfl dX5_realm_101 ?_
      refine lv_iload_n hx hb dX5_realm_104 rfl (lv_at hl 1 rfl) ?_
      obtain ⟨hi9, hm⟩ := ck_in hm
      refine va_lald hx hb hK hP 10 1 rfl rfl hi9 dX5_realm_105 ?_
      obtain rfl := Option.some.inj hm
      exact hret 106 ls _ _ dX5_realm_106 hP hS
    replace hm := (if_neg hv8).symm.trans hm
    by_cases hv10 : p2 = (4 : Int32)
    · replace hm := (if_pos hv10).symm.trans hm
      refine W.eq (g2 := F0 m 16 ls (.int (4 : Int32) :: [])) (by rw [hv10]) ?_
      refine lv_tableIn (tgt := 107) hx hb dX5_realm_16 (by decide) (by decide) rfl (by decide) ?_
      refine lv_aload_n hx hb dX5_realm_107 rfl (lv_at hl 0 rfl) ?_
      refine va_get (D := (dC, dI)) (ci := 5) (v := .ref (a0 4)) (C := RX5) (T := TX5) (N := 8) hx hb hts i5 hown hK hP 0 rfl rfl 4 (by decide) (hts (.fieldLink RX5 40 "TwoMetals" "now" "LTwoMetals$World;") (List.mem_of_getElem? (i := 1) rfl)) (fun _ h9 => h9) rfl dX5_realm_108 ?_
      refine va_get (D := (dC, dI)) (ci := 4) (v := .ref (a1 8)) (C := RX4) (T := TX4) (N := 17) hx hb hts i4 hown hK hP 2 rfl rfl 8 (by decide) (hts (.fieldLink RX5 109 "TwoMetals$World" "silver" "[J") (List.mem_of_getElem? (i := 7) rfl)) (fun _ h9 => h9) rfl dX5_realm_111 ?_
      refine lv_iload_n hx hb dX5_realm_114 rfl (lv_at hl 1 rfl) ?_
      obtain ⟨hi11, hm⟩ := ck_in hm
      refine va_lald hx hb hK hP 11 1 rfl rfl hi11 dX5_realm_115 ?_
      obtain rfl := Option.some.inj hm
      exact hret 116 ls _ _ dX5_realm_116 hP hS
    replace hm := (if_neg hv10).symm.trans hm
    by_cases hv12 : p2 = (5 : Int32)
    · replace hm := (if_pos hv12).symm.trans hm
      refine W.eq (g2 := F0 m 16 ls (.int (5 : Int32) :: [])) (by rw [hv12]) ?_
      refine lv_tableIn (tgt := 117) hx hb dX5_realm_16 (by decide) (by decide) rfl (by decide) ?_
      refine lv_aload_n hx hb dX5_realm_117 rfl (lv_at hl 0 rfl) ?_
      refine va_get (D := (dC, dI)) (ci := 5) (v := .ref (a0 4)) (C := RX5) (T := TX5) (N := 8) hx hb hts i5 hown hK hP 0 rfl rfl 4 (by decide) (hts (.fieldLink RX5 40 "TwoMetals" "now" "LTwoMetals$World;") (List.mem_of_getElem? (i := 1) rfl)) (fun _ h9 => h9) rfl dX5_realm_118 ?_
      refine va_get (D := (dC, dI)) (ci := 4) (v := .ref (a1 3)) (C := RX4) (T := TX4) (N := 17) hx hb hts i4 hown hK hP 2 rfl rfl 3 (by decide) (hts (.fieldLink RX5 112 "TwoMetals$World" "yearly" "[I") (List.mem_of_getElem? (i := 8) rfl)) (fun _ h9 => h9) rfl dX5_realm_121 ?_
      refine lv_iload_n hx hb dX5_realm_124 rfl (lv_at hl 1 rfl) ?_
      obtain ⟨hi13, hm⟩ := ck_in hm
      refine va_iald hx hb hK hP 6 0 rfl rfl hi13 dX5_realm_125 ?_
      refine lv_i2l (v := (w1.1 3 p1.toNatClampNeg).toInt64) hx hb dX5_realm_126 rfl ?_
      obtain rfl := Option.some.inj hm
      exact hret 127 ls _ _ dX5_realm_127 hP hS
    replace hm := (if_neg hv12).symm.trans hm
    by_cases hv14 : p2 = (6 : Int32)
    · replace hm := (if_pos hv14).symm.trans hm
      refine W.eq (g2 := F0 m 16 ls (.int (6 : Int32) :: [])) (by rw [hv14]) ?_
      refine lv_tableIn (tgt := 128) hx hb dX5_realm_16 (by decide) (by decide) rfl (by decide) ?_
      refine lv_aload_n hx hb dX5_realm_128 rfl (lv_at hl 0 rfl) ?_
      refine va_get (D := (dC, dI)) (ci := 5) (v := .ref (a0 4)) (C := RX5) (T := TX5) (N := 8) hx hb hts i5 hown hK hP 0 rfl rfl 4 (by decide) (hts (.fieldLink RX5 40 "TwoMetals" "now" "LTwoMetals$World;") (List.mem_of_getElem? (i := 1) rfl)) (fun _ h9 => h9) rfl dX5_realm_129 ?_
      refine lv_iload_n hx hb dX5_realm_132 rfl (lv_at hl 1 rfl) ?_
      obtain ⟨r15, hr15, hm⟩ := bn_call hm
      refine ca_vi (wr := (o_X5 cy h0 a0 w0)) (wn := (o_X5 cy h0 a0 w0) ++ (o_X4 cy (a0 4) a1 w1)) ⟨hx, hb, hml, hown, hts⟩ hK hA (hDa _ _) hP hS [2, 3, 4, 5, 6, 7, 8, 9, 10, 11] [0, 1] [0, 1, 2, 3, 4, 5, 6, 7, 8, 9, 10, 11] (fun sz => kcX4_mints l dC dI cy fu (a0 4) a1 w1 p1 sz r15 hr15) rfl rfl (by decide) (by decide) (by decide) rfl (cwV 1 hts gX5_realm_X4_mints rfl rfl rfl ⟨rfl, ydX4_mints⟩ ⟨Nat.le_of_ble_eq_true rfl, Nat.le_of_ble_eq_true rfl⟩) 4 0 rfl rfl rfl rfl hl.1 rfl (Nat.le_of_ble_eq_true rfl) dX5_realm_133 ⟨Nat.zero_le _, Nat.zero_le _⟩ (fun H locs hP hS => ?_)
      refine lv_if_eq (tgt := 143) hx hb dX5_realm_136 (by decide) (fun hc => ?_) (fun hc => ?_)
      · replace hm := (if_pos hc).symm.trans hm
        refine lv_lconst (v := (0 : Int64)) hx hb dX5_realm_143 (by decide) ?_
        obtain rfl := Option.some.inj hm
        exact hret 144 ls _ _ dX5_realm_144 hP hS
      replace hm := (if_neg hc).symm.trans hm
      refine lv_lconst (v := (1 : Int64)) hx hb dX5_realm_139 (by decide) ?_
      refine lv_goto (tgt := 144) hx hb dX5_realm_140 (by decide) ?_
      obtain rfl := Option.some.inj hm
      exact hret 144 ls _ _ dX5_realm_144 hP hS
    replace hm := (if_neg hv14).symm.trans hm
    by_cases hv16 : p2 = (7 : Int32)
    · replace hm := (if_pos hv16).symm.trans hm
      refine W.eq (g2 := F0 m 16 ls (.int (7 : Int32) :: [])) (by rw [hv16]) ?_
      refine lv_tableIn (tgt := 145) hx hb dX5_realm_16 (by decide) (by decide) rfl (by decide) ?_
      refine lv_aload_n hx hb dX5_realm_145 rfl (lv_at hl 0 rfl) ?_
      refine va_get (D := (dC, dI)) (ci := 5) (v := .ref (a0 4)) (C := RX5) (T := TX5) (N := 8) hx hb hts i5 hown hK hP 0 rfl rfl 4 (by decide) (hts (.fieldLink RX5 40 "TwoMetals" "now" "LTwoMetals$World;") (List.mem_of_getElem? (i := 1) rfl)) (fun _ h9 => h9) rfl dX5_realm_146 ?_
      refine lv_iload_n hx hb dX5_realm_149 rfl (lv_at hl 1 rfl) ?_
      obtain ⟨r17, hr17, hm⟩ := bn_call hm
      refine ca_vi (wr := (o_X5 cy h0 a0 w0)) (wn := (o_X5 cy h0 a0 w0) ++ (o_X4 cy (a0 4) a1 w1)) ⟨hx, hb, hml, hown, hts⟩ hK hA (hDa _ _) hP hS [2, 3, 4, 5, 6, 7, 8, 9, 10, 11] [0, 1] [0, 1, 2, 3, 4, 5, 6, 7, 8, 9, 10, 11] (fun sz => kcX4_limps l dC dI cy fu (a0 4) a1 w1 p1 sz r17 hr17) rfl rfl (by decide) (by decide) (by decide) rfl (cwV 1 hts gX5_realm_X4_limps rfl rfl rfl ⟨rfl, ydX4_limps⟩ ⟨Nat.le_of_ble_eq_true rfl, Nat.le_of_ble_eq_true rfl⟩) 4 0 rfl rfl rfl rfl hl.1 rfl (Nat.le_of_ble_eq_true rfl) dX5_realm_150 ⟨Nat.zero_le _, Nat.zero_le _⟩ (fun H locs hP hS => ?_)
      refine lv_if_eq (tgt := 160) hx hb dX5_realm_153 (by decide) (fun hc => ?_) (fun hc => ?_)
      · replace hm := (if_pos hc).symm.trans hm
        refine lv_lconst (v := (0 : Int64)) hx hb dX5_realm_160 (by decide) ?_
        obtain rfl := Option.some.inj hm
        exact hret 161 ls _ _ dX5_realm_161 hP hS
      replace hm := (if_neg hc).symm.trans hm
      refine lv_lconst (v := (1 : Int64)) hx hb dX5_realm_156 (by decide) ?_
      refine lv_goto (tgt := 161) hx hb dX5_realm_157 (by decide) ?_
      obtain rfl := Option.some.inj hm
      exact hret 161 ls _ _ dX5_realm_161 hP hS
    replace hm := (if_neg hv16).symm.trans hm
    refine lv_tableOut (tgt := 162) hx hb dX5_realm_16 (by
        have hv2 := sw_ne hv2 (z := 0) rfl
        have hv4 := sw_ne hv4 (z := 1) rfl
        have hv6 := sw_ne hv6 (z := 2) rfl
        have hv8 := sw_ne hv8 (z := 3) rfl
        have hv10 := sw_ne hv10 (z := 4) rfl
        have hv12 := sw_ne hv12 (z := 5) rfl
        have hv14 := sw_ne hv14 (z := 6) rfl
        have hv16 := sw_ne hv16 (z := 7) rfl
        omega) (by decide) ?_
    refine lv_ldc2 (v := (-1 : Int64)) hx hb hown (hts (.constantLong RX5 93 (-1)) (List.mem_of_getElem? (i := 2) rfl)) dX5_realm_162 ?_
    obtain rfl := Option.some.inj hm
    exact hret 165 ls _ _ dX5_realm_165 hP hS
  replace hm := (if_pos hc).symm.trans hm
  refine lv_ldc2 (v := (-1 : Int64)) hx hb hown (hts (.constantLong RX5 93 (-1)) (List.mem_of_getElem? (i := 2) rfl)) dX5_realm_11 ?_
  obtain rfl := Option.some.inj hm
  exact hret 14 ls _ _ dX5_realm_14 hP hS
set_option maxHeartbeats 4000000 in
set_option maxRecDepth 100000 in
theorem kcX5_market (l : Launch) (dC : Nat → ClassId) (dI : Nat → Nat → Nat) (cy : Nat → ClassId) (fu : Nat) (h0 : Nat) (a0 : Nat → Nat) (w0 : ob_T) (a1 : Nat → Nat) (w1 : ob_T) (p1 : Int32) (sz : Nat) (R : Int64) (hm : mX5_market fu w0 w1 p1 = some R) : Met l yX5_market wsX5_market (rmN 0 0) (va_Pc [.ref h0, .int p1] (cPre dC dI cy ((o_X5 cy h0 a0 w0) ++ (o_X4 cy (a0 4) a1 w1)) sz)) (va_Ql (fun (r : Int64) (_ : Unit) => r = R) (fun _ => cPost dC dI cy ((o_X5 cy h0 a0 w0) ++ (o_X4 cy (a0 4) a1 w1)) ((o_X5 cy h0 a0 w0) ++ (o_X4 cy (a0 4) a1 w1)) sz) (va_A ((o_X5 cy h0 a0 w0) ++ (o_X4 cy (a0 4) a1 w1)) sz)) 0 0 (va_A ((o_X5 cy h0 a0 w0) ++ (o_X4 cy (a0 4) a1 w1)) sz) := by
  refine mt_l (cc := cX5_market) (maxL := 2) (by decide) rfl (Nat.le_of_ble_eq_true rfl) rfl ?_
  intro p e s m below meth c Q A hx hb hml hown hts hK hA hD hP hret ls hl
  have hown : s.vm.findClass RX5 = some m.cls := hown
  have hl : lv_has ls 2 [(0, .ref h0), (1, .int p1)] := hl
  have hDa : ∀ v0 v1 : ob_T, va_D A ((o_X5 cy h0 a0 v0) ++ (o_X4 cy (a0 4) a1 v1)) := fun _ _ => va_D_adr hD rfl
  have i4 : ∀ w ∈ wsX40, w ∈ wsX5_market := fun _ h => List.mem_cons_of_mem _ (List.mem_append_right _ h)
  have i5 : ∀ w ∈ wsX50, w ∈ wsX5_market := fun _ h => List.mem_cons_of_mem _ (List.mem_append_left _ (List.mem_append_right _ h))
  have hS : va_S A s.heap s.heap [] := va_S.rf
  unfold mX5_market at hm
  refine lv_iload_n hx hb dX5_market_0 rfl (lv_at hl 1 rfl) ?_
  by_cases hv1 : p1 = (0 : Int32)
  · replace hm := (if_pos hv1).symm.trans hm
    refine W.eq (g2 := F0 m 1 ls (.int (0 : Int32) :: [])) (by rw [hv1]) ?_
    refine lv_tableIn (tgt := 32) hx hb dX5_market_1 (by decide) (by decide) rfl (by decide) ?_
    refine lv_aload_n hx hb dX5_market_32 rfl (lv_at hl 0 rfl) ?_
    refine va_get (D := (dC, dI)) (ci := 5) (v := .ref (a0 4)) (C := RX5) (T := TX5) (N := 8) hx hb hts i5 hown hK hP 0 rfl rfl 4 (by decide) (hts (.fieldLink RX5 40 "TwoMetals" "now" "LTwoMetals$World;") (List.mem_of_getElem? (i := 1) rfl)) (fun _ h9 => h9) rfl dX5_market_33 ?_
    refine va_get (D := (dC, dI)) (ci := 4) (v := .long (w1.2 12 0)) (C := RX4) (T := TX4) (N := 17) hx hb hts i4 hown hK hP 2 rfl rfl 12 (by decide) (hts (.fieldLink RX5 121 "TwoMetals$World" "marketGold" "J") (List.mem_of_getElem? (i := 2) rfl)) (fun _ h9 => h9) rfl dX5_market_36 ?_
    obtain rfl := Option.some.inj hm
    exact hret 39 ls _ _ dX5_market_39 hP hS
  replace hm := (if_neg hv1).symm.trans hm
  by_cases hv2 : p1 = (1 : Int32)
  · replace hm := (if_pos hv2).symm.trans hm
    refine W.eq (g2 := F0 m 1 ls (.int (1 : Int32) :: [])) (by rw [hv2]) ?_
    refine lv_tableIn (tgt := 40) hx hb dX5_market_1 (by decide) (by decide) rfl (by decide) ?_
    refine lv_aload_n hx hb dX5_market_40 rfl (lv_at hl 0 rfl) ?_
    refine va_get (D := (dC, dI)) (ci := 5) (v := .ref (a0 4)) (C := RX5) (T := TX5) (N := 8) hx hb hts i5 hown hK hP 0 rfl rfl 4 (by decide) (hts (.fieldLink RX5 40 "TwoMetals" "now" "LTwoMetals$World;") (List.mem_of_getElem? (i := 1) rfl)) (fun _ h9 => h9) rfl dX5_market_41 ?_
    refine va_get (D := (dC, dI)) (ci := 4) (v := .long (w1.2 13 0)) (C := RX4) (T := TX4) (N := 17) hx hb hts i4 hown hK hP 2 rfl rfl 13 (by decide) (hts (.fieldLink RX5 125 "TwoMetals$World" "marketSilver" "J") (List.mem_of_getElem? (i := 3) rfl)) (fun _ h9 => h9) rfl dX5_market_44 ?_
    obtain rfl := Option.some.inj hm
    exact hret 47 ls _ _ dX5_market_47 hP hS
  replace hm := (if_neg hv2).symm.trans hm
  by_cases hv3 : p1 = (2 : Int32)
  · replace hm := (if_pos hv3).symm.trans hm
    refine W.eq (g2 := F0 m 1 ls (.int (2 : Int32) :: [])) (by rw [hv3]) ?_
    refine lv_tableIn (tgt := 48) hx hb dX5_market_1 (by decide) (by decide) rfl (by decide) ?_
    refine lv_aload_n hx hb dX5_market_48 rfl (lv_at hl 0 rfl) ?_
    refine va_get (D := (dC, dI)) (ci := 5) (v := .ref (a0 4)) (C := RX5) (T := TX5) (N := 8) hx hb hts i5 hown hK hP 0 rfl rfl 4 (by decide) (hts (.fieldLink RX5 40 "TwoMetals" "now" "LTwoMetals$World;") (List.mem_of_getElem? (i := 1) rfl)) (fun _ h9 => h9) rfl dX5_market_49 ?_
    refine va_get (D := (dC, dI)) (ci := 4) (v := .int (w1.1 15 0)) (C := RX4) (T := TX4) (N := 17) hx hb hts i4 hown hK hP 2 rfl rfl 15 (by decide) (hts (.fieldLink RX5 128 "TwoMetals$World" "price" "I") (List.mem_of_getElem? (i := 4) rfl)) (fun _ h9 => h9) rfl dX5_market_52 ?_
    refine lv_i2l (v := (w1.1 15 0).toInt64) hx hb dX5_market_55 rfl ?_
    obtain rfl := Option.some.inj hm
    exact hret 56 ls _ _ dX5_market_56 hP hS
  replace hm := (if_neg hv3).symm.trans hm
  by_cases hv4 : p1 = (3 : Int32)
  · replace hm := (if_pos hv4).symm.trans hm
    refine W.eq (g2 := F0 m 1 ls (.int (3 : Int32) :: [])) (by rw [hv4]) ?_
    refine lv_tableIn (tgt := 57) hx hb dX5_market_1 (by decide) (by decide) rfl (by decide) ?_
    refine lv_aload_n hx hb dX5_market_57 rfl (lv_at hl 0 rfl) ?_
    refine va_get (D := (dC, dI)) (ci := 5) (v := .ref (a0 4)) (C := RX5) (T := TX5) (N := 8) hx hb hts i5 hown hK hP 0 rfl rfl 4 (by decide) (hts (.fieldLink RX5 40 "TwoMetals" "now" "LTwoMetals$World;") (List.mem_of_getElem? (i := 1) rfl)) (fun _ h9 => h9) rfl dX5_market_58 ?_
    refine va_get (D := (dC, dI)) (ci := 4) (v := .int (w1.1 16 0)) (C := RX4) (T := TX4) (N := 17) hx hb hts i4 hown hK hP 2 rfl rfl 16 (by decide) (hts (.fieldLink RX5 131 "TwoMetals$World" "age" "I") (List.mem_of_getElem? (i := 5) rfl)) (fun _ h9 => h9) rfl dX5_market_61 ?_
    refine lv_i2l (v := (w1.1 16 0).toInt64) hx hb dX5_market_64 rfl ?_
    obtain rfl := Option.some.inj hm
    exact hret 65 ls _ _ dX5_market_65 hP hS
  replace hm := (if_neg hv4).symm.trans hm
  refine lv_tableOut (tgt := 66) hx hb dX5_market_1 (by
      have hv1 := sw_ne hv1 (z := 0) rfl
      have hv2 := sw_ne hv2 (z := 1) rfl
      have hv3 := sw_ne hv3 (z := 2) rfl
      have hv4 := sw_ne hv4 (z := 3) rfl
      omega) (by decide) ?_
  refine lv_ldc2 (v := (-1 : Int64)) hx hb hown (hts (.constantLong RX5 93 (-1)) (List.mem_of_getElem? (i := 6) rfl)) dX5_market_66 ?_
  obtain rfl := Option.some.inj hm
  exact hret 69 ls _ _ dX5_market_69 hP hS
set_option maxHeartbeats 4000000 in
set_option maxRecDepth 100000 in
theorem kcX5_moves (l : Launch) (dC : Nat → ClassId) (dI : Nat → Nat → Nat) (cy : Nat → ClassId) (fu : Nat) (h0 : Nat) (a0 : Nat → Nat) (w0 : ob_T) (a1 : Nat → Nat) (w1 : ob_T) (p1 : Int32) (sz : Nat) (R : Int32) (hm : mX5_moves fu w0 w1 p1 = some R) : Met l yX5_moves wsX5_moves (rmN 2 43) (va_Pc [.ref h0, .int p1] (cPre dC dI cy ((o_X5 cy h0 a0 w0) ++ (o_X4 cy (a0 4) a1 w1)) sz)) (va_Qi (fun (r : Int32) (_ : Unit) => r = R) (fun _ => cPost dC dI cy ((o_X5 cy h0 a0 w0) ++ (o_X4 cy (a0 4) a1 w1)) ((o_X5 cy h0 a0 w0) ++ (o_X4 cy (a0 4) a1 w1)) sz) (va_A ((o_X5 cy h0 a0 w0) ++ (o_X4 cy (a0 4) a1 w1)) sz)) 0 0 (va_A ((o_X5 cy h0 a0 w0) ++ (o_X4 cy (a0 4) a1 w1)) sz) := by
  refine mt_i (cc := cX5_moves) (maxL := 2) (by decide) rfl (Nat.le_of_ble_eq_true rfl) rfl ?_
  intro p e s m below meth c Q A hx hb hml hown hts hK hA hD hP hret ls hl
  have hown : s.vm.findClass RX5 = some m.cls := hown
  have hl : lv_has ls 2 [(0, .ref h0), (1, .int p1)] := hl
  have hDa : ∀ v0 v1 : ob_T, va_D A ((o_X5 cy h0 a0 v0) ++ (o_X4 cy (a0 4) a1 v1)) := fun _ _ => va_D_adr hD rfl
  have i5 : ∀ w ∈ wsX50, w ∈ wsX5_moves := fun _ h => List.mem_cons_of_mem _ (List.mem_append_left _ (List.mem_append_right _ h))
  have hS : va_S A s.heap s.heap [] := va_S.rf
  unfold mX5_moves at hm
  refine lv_aload_n hx hb dX5_moves_0 rfl (lv_at hl 0 rfl) ?_
  refine va_get (D := (dC, dI)) (ci := 5) (v := .ref (a0 4)) (C := RX5) (T := TX5) (N := 8) hx hb hts i5 hown hK hP 0 rfl rfl 4 (by decide) (hts (.fieldLink RX5 40 "TwoMetals" "now" "LTwoMetals$World;") (List.mem_of_getElem? (i := 1) rfl)) (fun _ h9 => h9) rfl dX5_moves_1 ?_
  refine lv_iload_n hx hb dX5_moves_4 rfl (lv_at hl 1 rfl) ?_
  obtain ⟨r1, hr1, hm⟩ := bn_call hm
  refine ca_vi (wr := (o_X5 cy h0 a0 w0)) (wn := (o_X5 cy h0 a0 w0) ++ (o_X4 cy (a0 4) a1 w1)) ⟨hx, hb, hml, hown, hts⟩ hK hA (hDa _ _) hP hS [2, 3, 4, 5, 6, 7, 8, 9, 10, 11] [0, 1] [0, 1, 2, 3, 4, 5, 6, 7, 8, 9, 10, 11] (fun sz => kcX4_has l dC dI cy fu (a0 4) a1 w1 p1 sz r1 hr1) rfl rfl (by decide) (by decide) (by decide) rfl (cwV 1 hts gX5_moves_X4_has rfl rfl rfl ⟨rfl, ydX4_has⟩ ⟨Nat.le_of_ble_eq_true rfl, Nat.le_of_ble_eq_true rfl⟩) 4 0 rfl rfl rfl rfl hl.1 rfl (Nat.le_of_ble_eq_true rfl) dX5_moves_5 ⟨Nat.zero_le _, Nat.zero_le _⟩ (fun H locs hP hS => ?_)
  refine lv_if_eq (tgt := 22) hx hb dX5_moves_8 (by decide) (fun hc => ?_) (fun hc => ?_)
  · replace hm := (if_pos hc).symm.trans hm
    refine lv_iconst (v := (-1 : Int32)) hx hb dX5_moves_22 (by decide) ?_
    obtain rfl := Option.some.inj hm
    exact hret 23 ls _ _ dX5_moves_23 hP hS
  replace hm := (if_neg hc).symm.trans hm
  refine lv_aload_n hx hb dX5_moves_11 rfl (lv_at hl 0 rfl) ?_
  refine va_get (D := (dC, dI)) (ci := 5) (v := .ref (a0 4)) (C := RX5) (T := TX5) (N := 8) hx hb hts i5 hown hK hP 0 rfl rfl 4 (by decide) (hts (.fieldLink RX5 40 "TwoMetals" "now" "LTwoMetals$World;") (List.mem_of_getElem? (i := 1) rfl)) (fun _ h9 => h9) rfl dX5_moves_12 ?_
  refine lv_iload_n hx hb dX5_moves_15 rfl (lv_at hl 1 rfl) ?_
  obtain ⟨r2, hr2, hm⟩ := bn_call hm
  refine ca_vi (wr := (o_X5 cy h0 a0 w0)) (wn := (o_X5 cy h0 a0 w0) ++ (o_X4 cy (a0 4) a1 w1)) ⟨hx, hb, hml, hown, hts⟩ hK hA (hDa _ _) hP hS [2, 3, 4, 5, 6, 7, 8, 9, 10, 11] [0, 1] [0, 1, 2, 3, 4, 5, 6, 7, 8, 9, 10, 11] (fun sz => kcX4_heading l dC dI cy fu (a0 4) a1 w1 p1 sz r2 hr2) rfl rfl (by decide) (by decide) (by decide) rfl (cwV 1 hts gX5_moves_X4_heading rfl rfl rfl ⟨rfl, ydX4_heading⟩ ⟨Nat.le_of_ble_eq_true rfl, Nat.le_of_ble_eq_true rfl⟩) 4 0 rfl rfl rfl rfl hl.1 rfl (Nat.le_of_ble_eq_true rfl) dX5_moves_16 ⟨Nat.zero_le _, Nat.zero_le _⟩ (fun H locs hP hS => ?_)
  refine lv_goto (tgt := 23) hx hb dX5_moves_19 (by decide) ?_
  obtain rfl := Option.some.inj hm
  exact hret 23 ls _ _ dX5_moves_23 hP hS
set_option maxHeartbeats 4000000 in
set_option maxRecDepth 100000 in
theorem kcX5_isZeroOrOne (l : Launch) (dC : Nat → ClassId) (dI : Nat → Nat → Nat) (cy : Nat → ClassId) (fu : Nat) (p1 : Int32) (sz : Nat) (R : Int32) (hm : mX5_isZeroOrOne fu p1 = some R) : Met l yX5_isZeroOrOne wsX5_isZeroOrOne (rmN 0 0) (va_Pc [.int p1] (cPre dC dI cy (([] : va_W)) sz)) (va_Qi (fun (r : Int32) (_ : Unit) => r = R) (fun _ => cPost dC dI cy (([] : va_W)) (([] : va_W)) sz) (va_A (([] : va_W)) sz)) 0 0 (va_A (([] : va_W)) sz) := by
  refine mt_z (cc := cX5_isZeroOrOne) (maxL := 1) (by decide) rfl (Nat.le_of_ble_eq_true rfl) rfl ?_
  intro p e s m below meth c Q A hx hb hml hown hts hK hA hD hP hret ls hl
  have hown : s.vm.findClass RX5 = some m.cls := hown
  have hl : lv_has ls 1 [(0, .int p1)] := hl
  have hS : va_S A s.heap s.heap [] := va_S.rf
  unfold mX5_isZeroOrOne at hm
  refine lv_iload_n hx hb dX5_isZeroOrOne_0 rfl (lv_at hl 0 rfl) ?_
  refine lv_if_eq (tgt := 9) hx hb dX5_isZeroOrOne_1 (by decide) (fun hc => ?_) (fun hc => ?_)
  · replace hm := (if_pos hc).symm.trans hm
    refine lv_iconst (v := (1 : Int32)) hx hb dX5_isZeroOrOne_9 (by decide) ?_
    refine lv_goto (tgt := 14) hx hb dX5_isZeroOrOne_10 (by decide) ?_
    obtain rfl := Option.some.inj hm
    exact hret 14 ls _ _ dX5_isZeroOrOne_14 nar_1 hP hS
  replace hm := (if_neg hc).symm.trans hm
  refine lv_iload_n hx hb dX5_isZeroOrOne_4 rfl (lv_at hl 0 rfl) ?_
  refine lv_iconst (v := (1 : Int32)) hx hb dX5_isZeroOrOne_5 (by decide) ?_
  refine lv_icmp_ne (tgt := 13) hx hb dX5_isZeroOrOne_6 (by decide) (fun hc => ?_) (fun hc => ?_)
  · replace hm := (if_neg hc).symm.trans hm
    refine lv_iconst (v := (0 : Int32)) hx hb dX5_isZeroOrOne_13 (by decide) ?_
    obtain rfl := Option.some.inj hm
    exact hret 14 ls _ _ dX5_isZeroOrOne_14 nar_0 hP hS
  replace hm := (if_pos hc).symm.trans hm
  refine lv_iconst (v := (1 : Int32)) hx hb dX5_isZeroOrOne_9 (by decide) ?_
  refine lv_goto (tgt := 14) hx hb dX5_isZeroOrOne_10 (by decide) ?_
  obtain rfl := Option.some.inj hm
  exact hret 14 ls _ _ dX5_isZeroOrOne_14 nar_1 hP hS
set_option maxHeartbeats 4000000 in
set_option maxRecDepth 100000 in
theorem kcX5_ends (l : Launch) (dC : Nat → ClassId) (dI : Nat → Nat → Nat) (cy : Nat → ClassId) (fu : Nat) (h0 : Nat) (a0 : Nat → Nat) (w0 : ob_T) (a1 : Nat → Nat) (w1 : ob_T) (p1 : Int32) (p2 : Int32) (sz : Nat) (R : Int32) (hm : mX5_ends fu w0 w1 p1 p2 = some R) : Met l yX5_ends wsX5_ends (rmN 1 21) (va_Pc [.ref h0, .int p1, .int p2] (cPre dC dI cy ((o_X5 cy h0 a0 w0) ++ (o_X4 cy (a0 4) a1 w1)) sz)) (va_Qi (fun (r : Int32) (_ : Unit) => r = R) (fun _ => cPost dC dI cy ((o_X5 cy h0 a0 w0) ++ (o_X4 cy (a0 4) a1 w1)) ((o_X5 cy h0 a0 w0) ++ (o_X4 cy (a0 4) a1 w1)) sz) (va_A ((o_X5 cy h0 a0 w0) ++ (o_X4 cy (a0 4) a1 w1)) sz)) 0 0 (va_A ((o_X5 cy h0 a0 w0) ++ (o_X4 cy (a0 4) a1 w1)) sz) := by
  refine mt_i (cc := cX5_ends) (maxL := 3) (by decide) rfl (Nat.le_of_ble_eq_true rfl) rfl ?_
  intro p e s m below meth c Q A hx hb hml hown hts hK hA hD hP hret ls hl
  have hown : s.vm.findClass RX5 = some m.cls := hown
  have hl : lv_has ls 3 [(0, .ref h0), (1, .int p1), (2, .int p2)] := hl
  have hDa : ∀ v0 v1 : ob_T, va_D A ((o_X5 cy h0 a0 v0) ++ (o_X4 cy (a0 4) a1 v1)) := fun _ _ => va_D_adr hD rfl
  have i4 : ∀ w ∈ wsX40, w ∈ wsX5_ends := fun _ h => List.mem_cons_of_mem _ (List.mem_append_right _ h)
  have i5 : ∀ w ∈ wsX50, w ∈ wsX5_ends := fun _ h => List.mem_cons_of_mem _ (List.mem_append_left _ (List.mem_append_right _ h))
  have hS : va_S A s.heap s.heap [] := va_S.rf
  unfold mX5_ends at hm
  refine lv_aload_n hx hb dX5_ends_0 rfl (lv_at hl 0 rfl) ?_
  refine va_get (D := (dC, dI)) (ci := 5) (v := .ref (a0 4)) (C := RX5) (T := TX5) (N := 8) hx hb hts i5 hown hK hP 0 rfl rfl 4 (by decide) (hts (.fieldLink RX5 40 "TwoMetals" "now" "LTwoMetals$World;") (List.mem_of_getElem? (i := 1) rfl)) (fun _ h9 => h9) rfl dX5_ends_1 ?_
  refine lv_iload_n hx hb dX5_ends_4 rfl (lv_at hl 1 rfl) ?_
  obtain ⟨r1, hr1, hm⟩ := bn_call hm
  refine ca_vi (wr := (o_X5 cy h0 a0 w0)) (wn := (o_X5 cy h0 a0 w0) ++ (o_X4 cy (a0 4) a1 w1)) ⟨hx, hb, hml, hown, hts⟩ hK hA (hDa _ _) hP hS [2, 3, 4, 5, 6, 7, 8, 9, 10, 11] [0, 1] [0, 1, 2, 3, 4, 5, 6, 7, 8, 9, 10, 11] (fun sz => kcX4_has l dC dI cy fu (a0 4) a1 w1 p1 sz r1 hr1) rfl rfl (by decide) (by decide) (by decide) rfl (cwV 1 hts gX5_ends_X4_has rfl rfl rfl ⟨rfl, ydX4_has⟩ ⟨Nat.le_of_ble_eq_true rfl, Nat.le_of_ble_eq_true rfl⟩) 4 0 rfl rfl rfl rfl hl.1 rfl (Nat.le_of_ble_eq_true rfl) dX5_ends_5 ⟨Nat.zero_le _, Nat.zero_le _⟩ (fun H locs hP hS => ?_)
  refine lv_if_eq (tgt := 18) hx hb dX5_ends_8 (by decide) (fun hc => ?_) (fun hc => ?_)
  · replace hm := (if_pos hc).symm.trans hm
    refine lv_iconst (v := (-1 : Int32)) hx hb dX5_ends_18 (by decide) ?_
    obtain rfl := Option.some.inj hm
    exact hret 19 ls _ _ dX5_ends_19 hP hS
  replace hm := (if_neg hc).symm.trans hm
  refine lv_iload_n hx hb dX5_ends_11 rfl (lv_at hl 2 rfl) ?_
  obtain ⟨r2, hr2, hm⟩ := bn_call hm
  refine ca_si (wr := (o_X5 cy h0 a0 w0) ++ (o_X4 cy (a0 4) a1 w1)) (wn := (o_X5 cy h0 a0 w0) ++ (o_X4 cy (a0 4) a1 w1)) ⟨hx, hb, hml, hown, hts⟩ hK hA (hDa _ _) hP hS [] [0, 1, 2, 3, 4, 5, 6, 7, 8, 9, 10, 11] [0, 1, 2, 3, 4, 5, 6, 7, 8, 9, 10, 11] (fun sz => kcX5_isZeroOrOne l dC dI cy fu p2 sz r2 hr2) rfl rfl (by decide) (by decide) (by decide) rfl (va_cwS 1 hts gX5_ends_X5_isZeroOrOne rfl rfl rfl ydX5_isZeroOrOne ⟨Nat.le_of_ble_eq_true rfl, Nat.le_of_ble_eq_true rfl⟩) rfl hl.1 rfl (Nat.le_of_ble_eq_true rfl) dX5_ends_12 ⟨Nat.zero_le _, Nat.zero_le _⟩ (fun H locs hP hS => ?_)
  refine lv_if_ne (tgt := 20) hx hb dX5_ends_15 (by decide) (fun hc => ?_) (fun hc => ?_)
  · replace hm := (if_neg hc).symm.trans hm
    refine lv_iload_n hx hb dX5_ends_20 rfl (lv_at hl 2 rfl) ?_
    refine lv_if_ne (tgt := 36) hx hb dX5_ends_21 (by decide) (fun hc => ?_) (fun hc => ?_)
    · replace hm := (if_neg hc).symm.trans hm
      refine lv_aload_n hx hb dX5_ends_36 rfl (lv_at hl 0 rfl) ?_
      refine va_get (D := (dC, dI)) (ci := 5) (v := .ref (a0 4)) (C := RX5) (T := TX5) (N := 8) hx hb hts i5 hown hK hP 0 rfl rfl 4 (by decide) (hts (.fieldLink RX5 40 "TwoMetals" "now" "LTwoMetals$World;") (List.mem_of_getElem? (i := 1) rfl)) (fun _ h9 => h9) rfl dX5_ends_37 ?_
      refine va_get (D := (dC, dI)) (ci := 4) (v := .ref (a1 6)) (C := RX4) (T := TX4) (N := 17) hx hb hts i4 hown hK hP 2 rfl rfl 6 (by decide) (hts (.fieldLink RX5 143 "TwoMetals$World" "high" "[I") (List.mem_of_getElem? (i := 3) rfl)) (fun _ h9 => h9) rfl dX5_ends_40 ?_
      refine lv_iload_n hx hb dX5_ends_43 rfl (lv_at hl 1 rfl) ?_
      obtain ⟨hi3, hm⟩ := ck_in hm
      refine va_iald hx hb hK hP 9 0 rfl rfl hi3 dX5_ends_44 ?_
      obtain rfl := Option.some.inj hm
      exact hret 45 ls _ _ dX5_ends_45 hP hS
    replace hm := (if_pos hc).symm.trans hm
    refine lv_aload_n hx hb dX5_ends_24 rfl (lv_at hl 0 rfl) ?_
    refine va_get (D := (dC, dI)) (ci := 5) (v := .ref (a0 4)) (C := RX5) (T := TX5) (N := 8) hx hb hts i5 hown hK hP 0 rfl rfl 4 (by decide) (hts (.fieldLink RX5 40 "TwoMetals" "now" "LTwoMetals$World;") (List.mem_of_getElem? (i := 1) rfl)) (fun _ h9 => h9) rfl dX5_ends_25 ?_
    refine va_get (D := (dC, dI)) (ci := 4) (v := .ref (a1 5)) (C := RX4) (T := TX4) (N := 17) hx hb hts i4 hown hK hP 2 rfl rfl 5 (by decide) (hts (.fieldLink RX5 140 "TwoMetals$World" "low" "[I") (List.mem_of_getElem? (i := 2) rfl)) (fun _ h9 => h9) rfl dX5_ends_28 ?_
    refine lv_iload_n hx hb dX5_ends_31 rfl (lv_at hl 1 rfl) ?_
    obtain ⟨hi4, hm⟩ := ck_in hm
    refine va_iald hx hb hK hP 8 0 rfl rfl hi4 dX5_ends_32 ?_
    refine lv_goto (tgt := 45) hx hb dX5_ends_33 (by decide) ?_
    obtain rfl := Option.some.inj hm
    exact hret 45 ls _ _ dX5_ends_45 hP hS
  replace hm := (if_pos hc).symm.trans hm
  refine lv_iconst (v := (-1 : Int32)) hx hb dX5_ends_18 (by decide) ?_
  obtain rfl := Option.some.inj hm
  exact hret 19 ls _ _ dX5_ends_19 hP hS
set_option maxHeartbeats 4000000 in
set_option maxRecDepth 100000 in
theorem kcX5_held (l : Launch) (dC : Nat → ClassId) (dI : Nat → Nat → Nat) (cy : Nat → ClassId) (fu : Nat) (h0 : Nat) (a0 : Nat → Nat) (w0 : ob_T) (a1 : Nat → Nat) (w1 : ob_T) (sz : Nat) (R : Int32) (hm : mX5_held fu w0 w1 = some R) : Met l yX5_held wsX5_held (rmN 2 44) (va_Pc [.ref h0] (cPre dC dI cy ((o_X5 cy h0 a0 w0) ++ (o_X4 cy (a0 4) a1 w1)) sz)) (va_Qi (fun (r : Int32) (_ : Unit) => r = R) (fun _ => cPost dC dI cy ((o_X5 cy h0 a0 w0) ++ (o_X4 cy (a0 4) a1 w1)) ((o_X5 cy h0 a0 w0) ++ (o_X4 cy (a0 4) a1 w1)) sz) (va_A ((o_X5 cy h0 a0 w0) ++ (o_X4 cy (a0 4) a1 w1)) sz)) 0 0 (va_A ((o_X5 cy h0 a0 w0) ++ (o_X4 cy (a0 4) a1 w1)) sz) := by
  refine mt_i (cc := cX5_held) (maxL := 1) (by decide) rfl (Nat.le_of_ble_eq_true rfl) rfl ?_
  intro p e s m below meth c Q A hx hb hml hown hts hK hA hD hP hret ls hl
  have hown : s.vm.findClass RX5 = some m.cls := hown
  have hl : lv_has ls 1 [(0, .ref h0)] := hl
  have hDa : ∀ v0 v1 : ob_T, va_D A ((o_X5 cy h0 a0 v0) ++ (o_X4 cy (a0 4) a1 v1)) := fun _ _ => va_D_adr hD rfl
  have i5 : ∀ w ∈ wsX50, w ∈ wsX5_held := fun _ h => List.mem_cons_of_mem _ (List.mem_append_left _ (List.mem_append_right _ h))
  have hS : va_S A s.heap s.heap [] := va_S.rf
  unfold mX5_held at hm
  refine lv_aload_n hx hb dX5_held_0 rfl (lv_at hl 0 rfl) ?_
  refine va_get (D := (dC, dI)) (ci := 5) (v := .ref (a0 4)) (C := RX5) (T := TX5) (N := 8) hx hb hts i5 hown hK hP 0 rfl rfl 4 (by decide) (hts (.fieldLink RX5 40 "TwoMetals" "now" "LTwoMetals$World;") (List.mem_of_getElem? (i := 1) rfl)) (fun _ h9 => h9) rfl dX5_held_1 ?_
  obtain ⟨r1, hr1, hm⟩ := bn_call hm
  refine ca_vi (wr := (o_X5 cy h0 a0 w0)) (wn := (o_X5 cy h0 a0 w0) ++ (o_X4 cy (a0 4) a1 w1)) ⟨hx, hb, hml, hown, hts⟩ hK hA (hDa _ _) hP hS [2, 3, 4, 5, 6, 7, 8, 9, 10, 11] [0, 1] [0, 1, 2, 3, 4, 5, 6, 7, 8, 9, 10, 11] (fun sz => kcX4_holders l dC dI cy fu (a0 4) a1 w1 sz r1 hr1) rfl rfl (by decide) (by decide) (by decide) rfl (cwV 0 hts gX5_held_X4_holders rfl rfl rfl ⟨rfl, ydX4_holders⟩ ⟨Nat.le_of_ble_eq_true rfl, Nat.le_of_ble_eq_true rfl⟩) 4 0 rfl rfl rfl rfl hl.1 rfl (Nat.le_of_ble_eq_true rfl) dX5_held_4 ⟨Nat.zero_le _, Nat.zero_le _⟩ (fun H locs hP hS => ?_)
  obtain rfl := Option.some.inj hm
  exact hret 7 ls _ _ dX5_held_7 hP hS
set_option maxHeartbeats 4000000 in
set_option maxRecDepth 100000 in
theorem kcX5_year (l : Launch) (dC : Nat → ClassId) (dI : Nat → Nat → Nat) (cy : Nat → ClassId) (fu : Nat) (h0 : Nat) (a0 : Nat → Nat) (w0 : ob_T) (a1 : Nat → Nat) (w1 : ob_T) (a2 : Nat → Nat) (w2 : ob_T) (a3 : Nat → Nat) (w3 : ob_T) (sz : Nat) (R : Int32 × ob_T × ob_T) (hm : mX5_year fu w0 w1 w2 w3 = some R) : Met l yX5_year wsX5_year (rmN 5 122) (va_Pc [.ref h0] (cPre dC dI cy ((o_X5 cy h0 a0 w0) ++ (o_X1 cy (a0 2) a1 w1) ++ (o_X4 cy (a0 4) a2 w2) ++ (o_X0 cy (a0 3) a3 w3)) sz)) (va_Qi (fun (r : Int32) (_ : Unit) => r = R.1) (fun _ => cPost dC dI cy ((o_X5 cy h0 a0 w0) ++ (o_X1 cy (a0 2) a1 w1) ++ (o_X4 cy (a0 4) a2 w2) ++ (o_X0 cy (a0 3) a3 w3)) ((o_X5 cy h0 a0 w0) ++ (o_X1 cy (a0 2) a1 R.2.1) ++ (o_X4 cy (a0 4) a2 R.2.2) ++ (o_X0 cy (a0 3) a3 w3)) sz) (va_A ((o_X5 cy h0 a0 w0) ++ (o_X1 cy (a0 2) a1 w1) ++ (o_X4 cy (a0 4) a2 w2) ++ (o_X0 cy (a0 3) a3 w3)) sz)) 0 0 (va_A ((o_X5 cy h0 a0 w0) ++ (o_X1 cy (a0 2) a1 w1) ++ (o_X4 cy (a0 4) a2 w2) ++ (o_X0 cy (a0 3) a3 w3)) sz) := by
  refine mt_i (cc := cX5_year) (maxL := 1) (by decide) rfl (Nat.le_of_ble_eq_true rfl) rfl ?_
  intro p e s m below meth c Q A hx hb hml hown hts hK hA hD hP hret ls hl
  have hown : s.vm.findClass RX5 = some m.cls := hown
  have hl : lv_has ls 1 [(0, .ref h0)] := hl
  have hDa : ∀ v0 v1 v2 v3 : ob_T, va_D A ((o_X5 cy h0 a0 v0) ++ (o_X1 cy (a0 2) a1 v1) ++ (o_X4 cy (a0 4) a2 v2) ++ (o_X0 cy (a0 3) a3 v3)) := fun _ _ _ _ => va_D_adr hD rfl
  have i5 : ∀ w ∈ wsX50, w ∈ wsX5_year := fun _ h => List.mem_cons_of_mem _ (List.mem_append_left _ (List.mem_append_left _ (List.mem_append_left _ (List.mem_append_right _ h))))
  have hS : va_S A s.heap s.heap [] := va_S.rf
  unfold mX5_year at hm
  refine lv_aload_n hx hb dX5_year_0 rfl (lv_at hl 0 rfl) ?_
  refine va_get (D := (dC, dI)) (ci := 5) (v := .ref (a0 2)) (C := RX5) (T := TX5) (N := 8) hx hb hts i5 hown hK hP 0 rfl rfl 2 (by decide) (hts (.fieldLink RX5 26 "TwoMetals" "mover" "LTwoMetals$Mover;") (List.mem_of_getElem? (i := 1) rfl)) (fun _ h9 => h9) rfl dX5_year_1 ?_
  refine lv_aload_n hx hb dX5_year_4 rfl (lv_at hl 0 rfl) ?_
  refine va_get (D := (dC, dI)) (ci := 5) (v := .ref (a0 4)) (C := RX5) (T := TX5) (N := 8) hx hb hts i5 hown hK hP 0 rfl rfl 4 (by decide) (hts (.fieldLink RX5 40 "TwoMetals" "now" "LTwoMetals$World;") (List.mem_of_getElem? (i := 2) rfl)) (fun _ h9 => h9) rfl dX5_year_5 ?_
  refine lv_aload_n hx hb dX5_year_8 rfl (lv_at hl 0 rfl) ?_
  refine va_get (D := (dC, dI)) (ci := 5) (v := .ref (a0 3)) (C := RX5) (T := TX5) (N := 8) hx hb hts i5 hown hK hP 0 rfl rfl 3 (by decide) (hts (.fieldLink RX5 33 "TwoMetals" "mines" "LTwoMetals$Mines;") (List.mem_of_getElem? (i := 3) rfl)) (fun _ h9 => h9) rfl dX5_year_9 ?_
  obtain ⟨r1, hr1, hm⟩ := bn_call hm
  refine ca_vi (wr := (o_X5 cy h0 a0 w0)) (wn := (o_X5 cy h0 a0 w0) ++ (o_X1 cy (a0 2) a1 r1.2.1) ++ (o_X4 cy (a0 4) a2 r1.2.2) ++ (o_X0 cy (a0 3) a3 w3)) ⟨hx, hb, hml, hown, hts⟩ hK hA (hDa _ _ _ _) hP hS [2, 3, 4, 5, 6, 7, 8, 9, 10, 11, 12, 13, 14, 15, 16, 17, 18] [0, 1] [0, 1, 2, 3, 4, 5, 6, 7, 8, 9, 10, 11, 12, 13, 14, 15, 16, 17, 18] (fun sz => kcX1_passYear l dC dI cy fu (a0 2) a1 w1 (a0 4) a2 w2 (a0 3) a3 w3 sz r1 hr1) rfl rfl (by decide) (by decide) (by decide) rfl (cwV 2 hts gX5_year_X1_passYear rfl rfl rfl ⟨rfl, ydX1_passYear⟩ ⟨Nat.le_of_ble_eq_true rfl, Nat.le_of_ble_eq_true rfl⟩) 1 0 rfl rfl rfl rfl hl.1 rfl (Nat.le_of_ble_eq_true rfl) dX5_year_12 ⟨Nat.zero_le _, Nat.zero_le _⟩ (fun H locs hP hS => ?_)
  obtain rfl := Option.some.inj hm
  exact hret 15 ls _ _ dX5_year_15 hP hS
set_option maxHeartbeats 4000000 in
set_option maxRecDepth 100000 in
theorem kcX5_rest (l : Launch) (dC : Nat → ClassId) (dI : Nat → Nat → Nat) (cy : Nat → ClassId) (fu : Nat) (h0 : Nat) (a0 : Nat → Nat) (w0 : ob_T) (a1 : Nat → Nat) (w1 : ob_T) (a2 : Nat → Nat) (w2 : ob_T) (a3 : Nat → Nat) (w3 : ob_T) (sz : Nat) (R : Int32 × ob_T × ob_T × ob_T) (hm : mX5_rest fu w0 w1 w2 w3 = some R) : Met l yX5_rest wsX5_rest (rmN 5 121) (va_Pc [.ref h0] (cPre dC dI cy ((o_X5 cy h0 a0 w0) ++ (o_X1 cy (a0 2) a1 w1) ++ (o_X4 cy (a0 4) a2 w2) ++ (o_X4 cy (a0 5) a3 w3)) sz)) (va_Qi (fun (r : Int32) (_ : Unit) => r = R.1) (fun _ => cPost dC dI cy ((o_X5 cy h0 a0 w0) ++ (o_X1 cy (a0 2) a1 w1) ++ (o_X4 cy (a0 4) a2 w2) ++ (o_X4 cy (a0 5) a3 w3)) ((o_X5 cy h0 a0 w0) ++ (o_X1 cy (a0 2) a1 R.2.1) ++ (o_X4 cy (a0 4) a2 R.2.2.1) ++ (o_X4 cy (a0 5) a3 R.2.2.2)) sz) (va_A ((o_X5 cy h0 a0 w0) ++ (o_X1 cy (a0 2) a1 w1) ++ (o_X4 cy (a0 4) a2 w2) ++ (o_X4 cy (a0 5) a3 w3)) sz)) 0 0 (va_A ((o_X5 cy h0 a0 w0) ++ (o_X1 cy (a0 2) a1 w1) ++ (o_X4 cy (a0 4) a2 w2) ++ (o_X4 cy (a0 5) a3 w3)) sz) := by
  refine mt_i (cc := cX5_rest) (maxL := 2) (by decide) rfl (Nat.le_of_ble_eq_true rfl) rfl ?_
  intro p e s m below meth c Q A hx hb hml hown hts hK hA hD hP hret ls hl
  have hown : s.vm.findClass RX5 = some m.cls := hown
  have hl : lv_has ls 2 [(0, .ref h0)] := hl
  have hDa : ∀ v0 v1 v2 v3 : ob_T, va_D A ((o_X5 cy h0 a0 v0) ++ (o_X1 cy (a0 2) a1 v1) ++ (o_X4 cy (a0 4) a2 v2) ++ (o_X4 cy (a0 5) a3 v3)) := fun _ _ _ _ => va_D_adr hD rfl
  have i5 : ∀ w ∈ wsX50, w ∈ wsX5_rest := fun _ h => List.mem_cons_of_mem _ (List.mem_append_left _ (List.mem_append_left _ (List.mem_append_right _ h)))
  have hS : va_S A s.heap s.heap [] := va_S.rf
  unfold mX5_rest at hm
  refine lv_aload_n hx hb dX5_rest_0 rfl (lv_at hl 0 rfl) ?_
  refine va_get (D := (dC, dI)) (ci := 5) (v := .ref (a0 5)) (C := RX5) (T := TX5) (N := 8) hx hb hts i5 hown hK hP 0 rfl rfl 5 (by decide) (hts (.fieldLink RX5 44 "TwoMetals" "trial" "LTwoMetals$World;") (List.mem_of_getElem? (i := 1) rfl)) (fun _ h9 => h9) rfl dX5_rest_1 ?_
  refine lv_aload_n hx hb dX5_rest_4 rfl (lv_at hl 0 rfl) ?_
  refine va_get (D := (dC, dI)) (ci := 5) (v := .ref (a0 4)) (C := RX5) (T := TX5) (N := 8) hx hb hts i5 hown hK hP 0 rfl rfl 4 (by decide) (hts (.fieldLink RX5 40 "TwoMetals" "now" "LTwoMetals$World;") (List.mem_of_getElem? (i := 2) rfl)) (fun _ h9 => h9) rfl dX5_rest_5 ?_
  obtain ⟨r1, hr1, hm⟩ := bn_call hm
  refine ca_vv (wr := (o_X5 cy h0 a0 w0) ++ (o_X1 cy (a0 2) a1 w1)) (wn := (o_X5 cy h0 a0 w0) ++ (o_X1 cy (a0 2) a1 w1) ++ (o_X4 cy (a0 4) a2 w2) ++ (o_X4 cy (a0 5) a3 r1)) ⟨hx, hb, hml, hown, hts⟩ hK hA (hDa _ _ _ _) hP hS [15, 16, 17, 18, 19, 20, 21, 22, 23, 24, 5, 6, 7, 8, 9, 10, 11, 12, 13, 14] [0, 1, 2, 3, 4] [0, 1, 2, 3, 4, 15, 16, 17, 18, 19, 20, 21, 22, 23, 24, 5, 6, 7, 8, 9, 10, 11, 12, 13, 14] (fun sz => kcX4_copyFrom l dC dI cy fu (a0 5) a3 w3 (a0 4) a2 w2 sz r1 hr1) rfl rfl (by decide) (by decide) (by decide) rfl (cwV 1 hts gX5_rest_X4_copyFrom rfl rfl rfl ⟨rfl, ydX4_copyFrom⟩ ⟨Nat.le_of_ble_eq_true rfl, Nat.le_of_ble_eq_true rfl⟩) 4 0 rfl rfl rfl rfl hl.1 rfl (Nat.le_of_ble_eq_true rfl) dX5_rest_8 ⟨Nat.zero_le _, Nat.zero_le _⟩ (fun H locs hP hS => ?_)
  refine lv_aload_n hx hb dX5_rest_11 rfl (lv_at hl 0 rfl) ?_
  refine va_get (D := (dC, dI)) (ci := 5) (v := .ref (a0 2)) (C := RX5) (T := TX5) (N := 8) hx hb hts i5 hown hK hP 0 rfl rfl 2 (by decide) (hts (.fieldLink RX5 26 "TwoMetals" "mover" "LTwoMetals$Mover;") (List.mem_of_getElem? (i := 3) rfl)) (fun _ h9 => h9) rfl dX5_rest_12 ?_
  refine lv_aload_n hx hb dX5_rest_15 rfl (lv_at hl 0 rfl) ?_
  refine va_get (D := (dC, dI)) (ci := 5) (v := .ref (a0 5)) (C := RX5) (T := TX5) (N := 8) hx hb hts i5 hown hK hP 0 rfl rfl 5 (by decide) (hts (.fieldLink RX5 44 "TwoMetals" "trial" "LTwoMetals$World;") (List.mem_of_getElem? (i := 1) rfl)) (fun _ h9 => h9) rfl dX5_rest_16 ?_
  obtain ⟨r2, hr2, hm⟩ := bn_call hm
  refine ca_vi (wr := (o_X5 cy h0 a0 w0) ++ (o_X4 cy (a0 4) a2 w2)) (wn := (o_X5 cy h0 a0 w0) ++ (o_X1 cy (a0 2) a1 r2.2.1) ++ (o_X4 cy (a0 4) a2 w2) ++ (o_X4 cy (a0 5) a3 r2.2.2)) ⟨hx, hb, hml, hown, hts⟩ hK hA (hDa _ _ _ _) hP hS [2, 3, 4, 15, 16, 17, 18, 19, 20, 21, 22, 23, 24] [0, 1, 5, 6, 7, 8, 9, 10, 11, 12, 13, 14] [0, 1, 12, 13, 14, 2, 3, 4, 5, 6, 7, 8, 9, 10, 11, 15, 16, 17, 18, 19, 20, 21, 22, 23, 24] (fun sz => kcX1_settle l dC dI cy fu (a0 2) a1 w1 (a0 5) a3 r1 sz r2 hr2) rfl rfl (by decide) (by decide) (by decide) rfl (cwV 1 hts gX5_rest_X1_settle rfl rfl rfl ⟨rfl, ydX1_settle⟩ ⟨Nat.le_of_ble_eq_true rfl, Nat.le_of_ble_eq_true rfl⟩) 1 0 rfl rfl rfl rfl hl.1 rfl (Nat.le_of_ble_eq_true rfl) dX5_rest_19 ⟨Nat.zero_le _, Nat.zero_le _⟩ (fun H locs hP hS => ?_)
  refine lv_istore_n (lv' := [(1, .int r2.1), (0, .ref h0)]) hx hb dX5_rest_22 rfl hl (by decide) rfl (fun ls hl => ?_)
  refine lv_iload_n hx hb dX5_rest_23 rfl (lv_at hl 0 rfl) ?_
  refine lv_bipush (v := (-5 : Int32)) hx hb dX5_rest_24 (by decide) ?_
  refine lv_icmp_eq (tgt := 40) hx hb dX5_rest_26 (by decide) (fun hc => ?_) (fun hc => ?_)
  · replace hm := (if_pos hc).symm.trans hm
    refine lv_iload_n hx hb dX5_rest_40 rfl (lv_at hl 0 rfl) ?_
    obtain rfl := Option.some.inj hm
    exact hret 41 ls _ _ dX5_rest_41 hP hS
  replace hm := (if_neg hc).symm.trans hm
  refine lv_aload_n hx hb dX5_rest_29 rfl (lv_at hl 1 rfl) ?_
  refine va_get (D := (dC, dI)) (ci := 5) (v := .ref (a0 4)) (C := RX5) (T := TX5) (N := 8) hx hb hts i5 hown hK hP 0 rfl rfl 4 (by decide) (hts (.fieldLink RX5 40 "TwoMetals" "now" "LTwoMetals$World;") (List.mem_of_getElem? (i := 2) rfl)) (fun _ h9 => h9) rfl dX5_rest_30 ?_
  refine lv_aload_n hx hb dX5_rest_33 rfl (lv_at hl 1 rfl) ?_
  refine va_get (D := (dC, dI)) (ci := 5) (v := .ref (a0 5)) (C := RX5) (T := TX5) (N := 8) hx hb hts i5 hown hK hP 0 rfl rfl 5 (by decide) (hts (.fieldLink RX5 44 "TwoMetals" "trial" "LTwoMetals$World;") (List.mem_of_getElem? (i := 1) rfl)) (fun _ h9 => h9) rfl dX5_rest_34 ?_
  obtain ⟨r3, hr3, hm⟩ := bn_call hm
  refine ca_vv (wr := (o_X5 cy h0 a0 w0) ++ (o_X1 cy (a0 2) a1 r2.2.1)) (wn := (o_X5 cy h0 a0 w0) ++ (o_X1 cy (a0 2) a1 r2.2.1) ++ (o_X4 cy (a0 4) a2 r3) ++ (o_X4 cy (a0 5) a3 r2.2.2)) ⟨hx, hb, hml, hown, hts⟩ hK hA (hDa _ _ _ _) hP hS [5, 6, 7, 8, 9, 10, 11, 12, 13, 14, 15, 16, 17, 18, 19, 20, 21, 22, 23, 24] [0, 1, 2, 3, 4] [0, 1, 2, 3, 4, 5, 6, 7, 8, 9, 10, 11, 12, 13, 14, 15, 16, 17, 18, 19, 20, 21, 22, 23, 24] (fun sz => kcX4_copyFrom l dC dI cy fu (a0 4) a2 w2 (a0 5) a3 r2.2.2 sz r3 hr3) rfl rfl (by decide) (by decide) (by decide) rfl (cwV 1 hts gX5_rest_X4_copyFrom rfl rfl rfl ⟨rfl, ydX4_copyFrom⟩ ⟨Nat.le_of_ble_eq_true rfl, Nat.le_of_ble_eq_true rfl⟩) 4 0 rfl rfl rfl rfl hl.1 rfl (Nat.le_of_ble_eq_true rfl) dX5_rest_37 ⟨Nat.zero_le _, Nat.zero_le _⟩ (fun H locs hP hS => ?_)
  refine lv_iload_n hx hb dX5_rest_40 rfl (lv_at hl 0 rfl) ?_
  obtain rfl := Option.some.inj hm
  exact hret 41 ls _ _ dX5_rest_41 hP hS
set_option maxHeartbeats 4000000 in
set_option maxRecDepth 100000 in
theorem kcX5_isSpanOfYears (l : Launch) (dC : Nat → ClassId) (dI : Nat → Nat → Nat) (cy : Nat → ClassId) (fu : Nat) (p1 : Int32) (sz : Nat) (R : Int32) (hm : mX5_isSpanOfYears fu p1 = some R) : Met l yX5_isSpanOfYears wsX5_isSpanOfYears (rmN 0 0) (va_Pc [.int p1] (cPre dC dI cy (([] : va_W)) sz)) (va_Qi (fun (r : Int32) (_ : Unit) => r = R) (fun _ => cPost dC dI cy (([] : va_W)) (([] : va_W)) sz) (va_A (([] : va_W)) sz)) 0 0 (va_A (([] : va_W)) sz) := by
  refine mt_z (cc := cX5_isSpanOfYears) (maxL := 1) (by decide) rfl (Nat.le_of_ble_eq_true rfl) rfl ?_
  intro p e s m below meth c Q A hx hb hml hown hts hK hA hD hP hret ls hl
  have hown : s.vm.findClass RX5 = some m.cls := hown
  have hl : lv_has ls 1 [(0, .int p1)] := hl
  have hS : va_S A s.heap s.heap [] := va_S.rf
  unfold mX5_isSpanOfYears at hm
  refine lv_iload_n hx hb dX5_isSpanOfYears_0 rfl (lv_at hl 0 rfl) ?_
  refine lv_iconst (v := (1 : Int32)) hx hb dX5_isSpanOfYears_1 (by decide) ?_
  refine lv_icmp_lt (tgt := 15) hx hb dX5_isSpanOfYears_2 (by decide) (fun hc => ?_) (fun hc => ?_)
  · replace hm := (if_pos hc).symm.trans hm
    refine lv_iconst (v := (0 : Int32)) hx hb dX5_isSpanOfYears_15 (by decide) ?_
    obtain rfl := Option.some.inj hm
    exact hret 16 ls _ _ dX5_isSpanOfYears_16 nar_0 hP hS
  replace hm := (if_neg hc).symm.trans hm
  refine lv_iload_n hx hb dX5_isSpanOfYears_5 rfl (lv_at hl 0 rfl) ?_
  refine lv_bipush (v := (100 : Int32)) hx hb dX5_isSpanOfYears_6 (by decide) ?_
  refine lv_icmp_gt (tgt := 15) hx hb dX5_isSpanOfYears_8 (by decide) (fun hc => ?_) (fun hc => ?_)
  · replace hm := (if_pos hc).symm.trans hm
    refine lv_iconst (v := (0 : Int32)) hx hb dX5_isSpanOfYears_15 (by decide) ?_
    obtain rfl := Option.some.inj hm
    exact hret 16 ls _ _ dX5_isSpanOfYears_16 nar_0 hP hS
  replace hm := (if_neg hc).symm.trans hm
  refine lv_iconst (v := (1 : Int32)) hx hb dX5_isSpanOfYears_11 (by decide) ?_
  refine lv_goto (tgt := 16) hx hb dX5_isSpanOfYears_12 (by decide) ?_
  obtain rfl := Option.some.inj hm
  exact hret 16 ls _ _ dX5_isSpanOfYears_16 nar_1 hP hS
set_option maxHeartbeats 4000000 in
set_option maxRecDepth 100000 in
theorem kcX5_gone (l : Launch) (dC : Nat → ClassId) (dI : Nat → Nat → Nat) (cy : Nat → ClassId) (fu : Nat) (h0 : Nat) (a0 : Nat → Nat) (w0 : ob_T) (a1 : Nat → Nat) (w1 : ob_T) (a2 : Nat → Nat) (w2 : ob_T) (a3 : Nat → Nat) (w3 : ob_T) (a4 : Nat → Nat) (w4 : ob_T) (p1 : Int32) (p2 : Int32) (p3 : Int32) (sz : Nat) (R : Int32 × ob_T × ob_T) (hm : mX5_gone fu w0 w1 w2 w3 w4 p1 p2 p3 = some R) : Met l yX5_gone wsX5_gone (rmN 5 122) (va_Pc [.ref h0, .int p1, .int p2, .int p3] (cPre dC dI cy ((o_X5 cy h0 a0 w0) ++ (o_X1 cy (a0 2) a1 w1) ++ (o_X4 cy (a0 4) a2 w2) ++ (o_X4 cy (a0 5) a3 w3) ++ (o_X0 cy (a0 3) a4 w4)) sz)) (va_Qi (fun (r : Int32) (_ : Unit) => r = R.1) (fun _ => cPost dC dI cy ((o_X5 cy h0 a0 w0) ++ (o_X1 cy (a0 2) a1 w1) ++ (o_X4 cy (a0 4) a2 w2) ++ (o_X4 cy (a0 5) a3 w3) ++ (o_X0 cy (a0 3) a4 w4)) ((o_X5 cy h0 a0 w0) ++ (o_X1 cy (a0 2) a1 R.2.1) ++ (o_X4 cy (a0 4) a2 w2) ++ (o_X4 cy (a0 5) a3 R.2.2) ++ (o_X0 cy (a0 3) a4 w4)) sz) (va_A ((o_X5 cy h0 a0 w0) ++ (o_X1 cy (a0 2) a1 w1) ++ (o_X4 cy (a0 4) a2 w2) ++ (o_X4 cy (a0 5) a3 w3) ++ (o_X0 cy (a0 3) a4 w4)) sz)) 0 0 (va_A ((o_X5 cy h0 a0 w0) ++ (o_X1 cy (a0 2) a1 w1) ++ (o_X4 cy (a0 4) a2 w2) ++ (o_X4 cy (a0 5) a3 w3) ++ (o_X0 cy (a0 3) a4 w4)) sz) := by
  refine mt_i (cc := cX5_gone) (maxL := 5) (by decide) rfl (Nat.le_of_ble_eq_true rfl) rfl ?_
  intro p e s m below meth c Q A hx hb hml hown hts hK hA hD hP hret ls hl
  have hown : s.vm.findClass RX5 = some m.cls := hown
  have hl : lv_has ls 5 [(0, .ref h0), (1, .int p1), (2, .int p2), (3, .int p3)] := hl
  have hDa : ∀ v0 v1 v2 v3 v4 : ob_T, va_D A ((o_X5 cy h0 a0 v0) ++ (o_X1 cy (a0 2) a1 v1) ++ (o_X4 cy (a0 4) a2 v2) ++ (o_X4 cy (a0 5) a3 v3) ++ (o_X0 cy (a0 3) a4 v4)) := fun _ _ _ _ _ => va_D_adr hD rfl
  have i5 : ∀ w ∈ wsX50, w ∈ wsX5_gone := fun _ h => List.mem_cons_of_mem _ (List.mem_append_left _ (List.mem_append_left _ (List.mem_append_left _ (List.mem_append_right _ h))))
  have hS : va_S A s.heap s.heap [] := va_S.rf
  have hB95 : ∀ (k41 : ob_T → ob_T → Int32 → Int32 → Int32 → Int32 → Option (Int32 × ob_T × ob_T)) (_ : ∀ (w1 : ob_T) (w3 : ob_T) (l1 : Int32) (l2 : Int32) (l3 : Int32) (l4 : Int32) (H : Heap) (locs : List Loc) (ls : Array Slot), k41 w1 w3 l1 l2 l3 l4 = some R → va_P (dC, dI) vwCl ((o_X5 cy h0 a0 w0) ++ (o_X1 cy (a0 2) a1 w1) ++ (o_X4 cy (a0 4) a2 w2) ++ (o_X4 cy (a0 5) a3 w3) ++ (o_X0 cy (a0 3) a4 w4)) H → va_S A s.heap H locs → lv_has ls 5 [(0, .ref h0), (1, .int l1), (2, .int l2), (3, .int l3), (4, .int l4)] → W p l e (rmN 5 122) s m ([.ref h0, .int p1, .int p2, .int p3] : List Value).toArray below meth c H locs 0 0 Q (F0 m 41 ls [])) (w1 : ob_T) (w3 : ob_T) (l1 : Int32) (l2 : Int32) (l3 : Int32) (l4 : Int32) (H : Heap) (locs : List Loc) (ls : Array Slot), bX5_gone_95 fu w0 w2 w4 k41 w1 w3 l1 l2 l3 l4 = some R → va_P (dC, dI) vwCl ((o_X5 cy h0 a0 w0) ++ (o_X1 cy (a0 2) a1 w1) ++ (o_X4 cy (a0 4) a2 w2) ++ (o_X4 cy (a0 5) a3 w3) ++ (o_X0 cy (a0 3) a4 w4)) H → va_S A s.heap H locs → lv_has ls 5 [(0, .ref h0), (1, .int l1), (2, .int l2), (3, .int l3), (4, .int l4)] → W p l e (rmN 5 122) s m ([.ref h0, .int p1, .int p2, .int p3] : List Value).toArray below meth c H locs 0 0 Q (F0 m 95 ls []) := by
    intro k41 hk41 w1 w3 l1 l2 l3 l4 H locs ls hm hP hS hl
    unfold bX5_gone_95 at hm
    obtain ⟨x1, e2⟩ : ∃ y : Int32, y = l4 + (1 : Int32) := ⟨_, rfl⟩
    replace hm := bn_at e2 hm
    refine lv_iinc (v := x1) (lv' := [(4, .int x1), (0, .ref h0), (1, .int l1), (2, .int l2), (3, .int l3)]) hx hb dX5_gone_95 hl (k := 4) rfl (by rw [e2]; rfl) (by decide) rfl (fun ls hl => ?_)
    refine lv_goto (tgt := 41) hx hb dX5_gone_98 (by decide) ?_
    exact hk41 w1 w3 l1 l2 l3 x1 _ _ ls hm hP hS (lv_sub hl [1, 2, 3, 4, 0] rfl)
  have hB41 : ∀ (nn : Nat) (w1 : ob_T) (w3 : ob_T) (l1 : Int32) (l2 : Int32) (l3 : Int32) (l4 : Int32) (H : Heap) (locs : List Loc) (ls : Array Slot), bX5_gone_41 fu w0 w2 w4 nn w1 w3 l1 l2 l3 l4 = some R → va_P (dC, dI) vwCl ((o_X5 cy h0 a0 w0) ++ (o_X1 cy (a0 2) a1 w1) ++ (o_X4 cy (a0 4) a2 w2) ++ (o_X4 cy (a0 5) a3 w3) ++ (o_X0 cy (a0 3) a4 w4)) H → va_S A s.heap H locs → lv_has ls 5 [(0, .ref h0), (1, .int l1), (2, .int l2), (3, .int l3), (4, .int l4)] → W p l e (rmN 5 122) s m ([.ref h0, .int p1, .int p2, .int p3] : List Value).toArray below meth c H locs 0 0 Q (F0 m 41 ls []) := by
    intro nn
    induction nn with
    | zero => intro w1 w3 l1 l2 l3 l4 H locs ls hm; exact no_some ((bX5_gone_41_0 fu w0 w2 w4 w1 w3 l1 l2 l3 l4).symm.trans hm)
    | succ nn ih =>
      intro w1 w3 l1 l2 l3 l4 H locs ls hm hP hS hl
      replace hm := (bX5_gone_41_s fu w0 w2 w4 nn w1 w3 l1 l2 l3 l4).symm.trans hm
      refine lv_iload hx hb dX5_gone_41 (lv_at hl 4 rfl) ?_
      refine lv_iload_n hx hb dX5_gone_43 rfl (lv_at hl 3 rfl) ?_
      refine lv_icmp_gt (tgt := 101) hx hb dX5_gone_44 (by decide) (fun hc => ?_) (fun hc => ?_)
      · replace hm := (if_pos hc).symm.trans hm
        refine lv_bipush (v := (-4 : Int32)) hx hb dX5_gone_101 (by decide) ?_
        obtain rfl := Option.some.inj hm
        exact hret 103 ls _ _ dX5_gone_103 hP hS
      replace hm := (if_neg hc).symm.trans hm
      refine lv_aload_n hx hb dX5_gone_47 rfl (lv_at hl 0 rfl) ?_
      refine va_get (D := (dC, dI)) (ci := 5) (v := .ref (a0 2)) (C := RX5) (T := TX5) (N := 8) hx hb hts i5 hown hK hP 0 rfl rfl 2 (by decide) (hts (.fieldLink RX5 26 "TwoMetals" "mover" "LTwoMetals$Mover;") (List.mem_of_getElem? (i := 3) rfl)) (fun _ h9 => h9) rfl dX5_gone_48 ?_
      refine lv_aload_n hx hb dX5_gone_51 rfl (lv_at hl 0 rfl) ?_
      refine va_get (D := (dC, dI)) (ci := 5) (v := .ref (a0 5)) (C := RX5) (T := TX5) (N := 8) hx hb hts i5 hown hK hP 0 rfl rfl 5 (by decide) (hts (.fieldLink RX5 44 "TwoMetals" "trial" "LTwoMetals$World;") (List.mem_of_getElem? (i := 2) rfl)) (fun _ h9 => h9) rfl dX5_gone_52 ?_
      refine lv_aload_n hx hb dX5_gone_55 rfl (lv_at hl 0 rfl) ?_
      refine va_get (D := (dC, dI)) (ci := 5) (v := .ref (a0 3)) (C := RX5) (T := TX5) (N := 8) hx hb hts i5 hown hK hP 0 rfl rfl 3 (by decide) (hts (.fieldLink RX5 33 "TwoMetals" "mines" "LTwoMetals$Mines;") (List.mem_of_getElem? (i := 4) rfl)) (fun _ h9 => h9) rfl dX5_gone_56 ?_
      obtain ⟨r3, hr3, hm⟩ := bn_call hm
      refine ca_vi (wr := (o_X5 cy h0 a0 w0) ++ (o_X4 cy (a0 4) a2 w2)) (wn := (o_X5 cy h0 a0 w0) ++ (o_X1 cy (a0 2) a1 r3.2.1) ++ (o_X4 cy (a0 4) a2 w2) ++ (o_X4 cy (a0 5) a3 r3.2.2) ++ (o_X0 cy (a0 3) a4 w4)) ⟨hx, hb, hml, hown, hts⟩ hK hA (hDa _ _ _ _ _) hP hS [2, 3, 4, 15, 16, 17, 18, 19, 20, 21, 22, 23, 24, 25, 26, 27, 28] [0, 1, 5, 6, 7, 8, 9, 10, 11, 12, 13, 14] [0, 1, 12, 13, 14, 2, 3, 4, 5, 6, 7, 8, 9, 10, 11, 15, 16, 17, 18, 19, 20, 21, 22, 23, 24, 25, 26, 27, 28] (fun sz => kcX1_passYear l dC dI cy fu (a0 2) a1 w1 (a0 5) a3 w3 (a0 3) a4 w4 sz r3 hr3) rfl rfl (by decide) (by decide) (by decide) rfl (cwV 2 hts gX5_gone_X1_passYear rfl rfl rfl ⟨rfl, ydX1_passYear⟩ ⟨Nat.le_of_ble_eq_true rfl, Nat.le_of_ble_eq_true rfl⟩) 1 0 rfl rfl rfl rfl hl.1 rfl (Nat.le_of_ble_eq_true rfl) dX5_gone_59 ⟨Nat.zero_le _, Nat.zero_le _⟩ (fun H locs hP hS => ?_)
      refine lv_pop hx hb dX5_gone_62 rfl ?_
      refine lv_iload_n hx hb dX5_gone_63 rfl (lv_at hl 2 rfl) ?_
      refine lv_if_ne (tgt := 81) hx hb dX5_gone_64 (by decide) (fun hc => ?_) (fun hc => ?_)
      · replace hm := (if_neg hc).symm.trans hm
        refine lv_aload_n hx hb dX5_gone_81 rfl (lv_at hl 0 rfl) ?_
        refine va_get (D := (dC, dI)) (ci := 5) (v := .ref (a0 5)) (C := RX5) (T := TX5) (N := 8) hx hb hts i5 hown hK hP 0 rfl rfl 5 (by decide) (hts (.fieldLink RX5 44 "TwoMetals" "trial" "LTwoMetals$World;") (List.mem_of_getElem? (i := 2) rfl)) (fun _ h9 => h9) rfl dX5_gone_82 ?_
        refine lv_iload_n hx hb dX5_gone_85 rfl (lv_at hl 1 rfl) ?_
        obtain ⟨r4, hr4, hm⟩ := bn_call hm
        refine ca_vi (wr := (o_X5 cy h0 a0 w0) ++ (o_X1 cy (a0 2) a1 r3.2.1) ++ (o_X4 cy (a0 4) a2 w2) ++ (o_X0 cy (a0 3) a4 w4)) (wn := (o_X5 cy h0 a0 w0) ++ (o_X1 cy (a0 2) a1 r3.2.1) ++ (o_X4 cy (a0 4) a2 w2) ++ (o_X4 cy (a0 5) a3 r3.2.2) ++ (o_X0 cy (a0 3) a4 w4)) ⟨hx, hb, hml, hown, hts⟩ hK hA (hDa _ _ _ _ _) hP hS [15, 16, 17, 18, 19, 20, 21, 22, 23, 24] [0, 1, 2, 3, 4, 5, 6, 7, 8, 9, 10, 11, 12, 13, 14, 25, 26, 27, 28] [0, 1, 2, 3, 4, 5, 6, 7, 8, 9, 10, 11, 12, 13, 14, 19, 20, 21, 22, 23, 24, 25, 26, 27, 28, 15, 16, 17, 18] (fun sz => kcX4_hasSilver l dC dI cy fu (a0 5) a3 r3.2.2 l1 sz r4 hr4) rfl rfl (by decide) (by decide) (by decide) rfl (cwV 1 hts gX5_gone_X4_hasSilver rfl rfl rfl ⟨rfl, ydX4_hasSilver⟩ ⟨Nat.le_of_ble_eq_true rfl, Nat.le_of_ble_eq_true rfl⟩) 4 0 rfl rfl rfl rfl hl.1 rfl (Nat.le_of_ble_eq_true rfl) dX5_gone_86 ⟨Nat.zero_le _, Nat.zero_le _⟩ (fun H locs hP hS => ?_)
        refine lv_if_ne (tgt := 95) hx hb dX5_gone_89 (by decide) (fun hc => ?_) (fun hc => ?_)
        · replace hm := (if_neg hc).symm.trans hm
          exact hB95 (bX5_gone_41 fu w0 w2 w4 nn) ih r3.2.1 r3.2.2 l1 l2 l3 l4 _ _ ls hm hP hS (lv_sub hl [0, 1, 2, 3, 4] rfl)
        replace hm := (if_pos hc).symm.trans hm
        refine lv_iload hx hb dX5_gone_92 (lv_at hl 4 rfl) ?_
        obtain rfl := Option.some.inj hm
        exact hret 94 ls _ _ dX5_gone_94 hP hS
      replace hm := (if_pos hc).symm.trans hm
      refine lv_aload_n hx hb dX5_gone_67 rfl (lv_at hl 0 rfl) ?_
      refine va_get (D := (dC, dI)) (ci := 5) (v := .ref (a0 5)) (C := RX5) (T := TX5) (N := 8) hx hb hts i5 hown hK hP 0 rfl rfl 5 (by decide) (hts (.fieldLink RX5 44 "TwoMetals" "trial" "LTwoMetals$World;") (List.mem_of_getElem? (i := 2) rfl)) (fun _ h9 => h9) rfl dX5_gone_68 ?_
      refine lv_iload_n hx hb dX5_gone_71 rfl (lv_at hl 1 rfl) ?_
      obtain ⟨r5, hr5, hm⟩ := bn_call hm
      refine ca_vi (wr := (o_X5 cy h0 a0 w0) ++ (o_X1 cy (a0 2) a1 r3.2.1) ++ (o_X4 cy (a0 4) a2 w2) ++ (o_X0 cy (a0 3) a4 w4)) (wn := (o_X5 cy h0 a0 w0) ++ (o_X1 cy (a0 2) a1 r3.2.1) ++ (o_X4 cy (a0 4) a2 w2) ++ (o_X4 cy (a0 5) a3 r3.2.2) ++ (o_X0 cy (a0 3) a4 w4)) ⟨hx, hb, hml, hown, hts⟩ hK hA (hDa _ _ _ _ _) hP hS [15, 16, 17, 18, 19, 20, 21, 22, 23, 24] [0, 1, 2, 3, 4, 5, 6, 7, 8, 9, 10, 11, 12, 13, 14, 25, 26, 27, 28] [0, 1, 2, 3, 4, 5, 6, 7, 8, 9, 10, 11, 12, 13, 14, 19, 20, 21, 22, 23, 24, 25, 26, 27, 28, 15, 16, 17, 18] (fun sz => kcX4_hasGold l dC dI cy fu (a0 5) a3 r3.2.2 l1 sz r5 hr5) rfl rfl (by decide) (by decide) (by decide) rfl (cwV 1 hts gX5_gone_X4_hasGold rfl rfl rfl ⟨rfl, ydX4_hasGold⟩ ⟨Nat.le_of_ble_eq_true rfl, Nat.le_of_ble_eq_true rfl⟩) 4 0 rfl rfl rfl rfl hl.1 rfl (Nat.le_of_ble_eq_true rfl) dX5_gone_72 ⟨Nat.zero_le _, Nat.zero_le _⟩ (fun H locs hP hS => ?_)
      refine lv_if_ne (tgt := 95) hx hb dX5_gone_75 (by decide) (fun hc => ?_) (fun hc => ?_)
      · replace hm := (if_neg hc).symm.trans hm
        exact hB95 (bX5_gone_41 fu w0 w2 w4 nn) ih r3.2.1 r3.2.2 l1 l2 l3 l4 _ _ ls hm hP hS (lv_sub hl [0, 1, 2, 3, 4] rfl)
      replace hm := (if_pos hc).symm.trans hm
      refine lv_goto (tgt := 92) hx hb dX5_gone_78 (by decide) ?_
      refine lv_iload hx hb dX5_gone_92 (lv_at hl 4 rfl) ?_
      obtain rfl := Option.some.inj hm
      exact hret 94 ls _ _ dX5_gone_94 hP hS
  unfold mX5_gone at hm
  refine lv_aload_n hx hb dX5_gone_0 rfl (lv_at hl 0 rfl) ?_
  refine va_get (D := (dC, dI)) (ci := 5) (v := .ref (a0 4)) (C := RX5) (T := TX5) (N := 8) hx hb hts i5 hown hK hP 0 rfl rfl 4 (by decide) (hts (.fieldLink RX5 40 "TwoMetals" "now" "LTwoMetals$World;") (List.mem_of_getElem? (i := 1) rfl)) (fun _ h9 => h9) rfl dX5_gone_1 ?_
  refine lv_iload_n hx hb dX5_gone_4 rfl (lv_at hl 1 rfl) ?_
  obtain ⟨r6, hr6, hm⟩ := bn_call hm
  refine ca_vi (wr := (o_X5 cy h0 a0 w0) ++ (o_X1 cy (a0 2) a1 w1) ++ (o_X4 cy (a0 5) a3 w3) ++ (o_X0 cy (a0 3) a4 w4)) (wn := (o_X5 cy h0 a0 w0) ++ (o_X1 cy (a0 2) a1 w1) ++ (o_X4 cy (a0 4) a2 w2) ++ (o_X4 cy (a0 5) a3 w3) ++ (o_X0 cy (a0 3) a4 w4)) ⟨hx, hb, hml, hown, hts⟩ hK hA (hDa _ _ _ _ _) hP hS [5, 6, 7, 8, 9, 10, 11, 12, 13, 14] [0, 1, 2, 3, 4, 15, 16, 17, 18, 19, 20, 21, 22, 23, 24, 25, 26, 27, 28] [0, 1, 2, 3, 4, 19, 20, 21, 22, 23, 24, 25, 26, 27, 28, 5, 6, 7, 8, 9, 10, 11, 12, 13, 14, 15, 16, 17, 18] (fun sz => kcX4_has l dC dI cy fu (a0 4) a2 w2 p1 sz r6 hr6) rfl rfl (by decide) (by decide) (by decide) rfl (cwV 1 hts gX5_gone_X4_has rfl rfl rfl ⟨rfl, ydX4_has⟩ ⟨Nat.le_of_ble_eq_true rfl, Nat.le_of_ble_eq_true rfl⟩) 4 0 rfl rfl rfl rfl hl.1 rfl (Nat.le_of_ble_eq_true rfl) dX5_gone_5 ⟨Nat.zero_le _, Nat.zero_le _⟩ (fun H locs hP hS => ?_)
  refine lv_if_eq (tgt := 25) hx hb dX5_gone_8 (by decide) (fun hc => ?_) (fun hc => ?_)
  · replace hm := (if_pos hc).symm.trans hm
    refine lv_iconst (v := (-1 : Int32)) hx hb dX5_gone_25 (by decide) ?_
    obtain rfl := Option.some.inj hm
    exact hret 26 ls _ _ dX5_gone_26 hP hS
  replace hm := (if_neg hc).symm.trans hm
  refine lv_iload_n hx hb dX5_gone_11 rfl (lv_at hl 2 rfl) ?_
  obtain ⟨r7, hr7, hm⟩ := bn_call hm
  refine ca_si (wr := (o_X5 cy h0 a0 w0) ++ (o_X1 cy (a0 2) a1 w1) ++ (o_X4 cy (a0 4) a2 w2) ++ (o_X4 cy (a0 5) a3 w3) ++ (o_X0 cy (a0 3) a4 w4)) (wn := (o_X5 cy h0 a0 w0) ++ (o_X1 cy (a0 2) a1 w1) ++ (o_X4 cy (a0 4) a2 w2) ++ (o_X4 cy (a0 5) a3 w3) ++ (o_X0 cy (a0 3) a4 w4)) ⟨hx, hb, hml, hown, hts⟩ hK hA (hDa _ _ _ _ _) hP hS [] [0, 1, 2, 3, 4, 5, 6, 7, 8, 9, 10, 11, 12, 13, 14, 15, 16, 17, 18, 19, 20, 21, 22, 23, 24, 25, 26, 27, 28] [0, 1, 2, 3, 4, 5, 6, 7, 8, 9, 10, 11, 12, 13, 14, 15, 16, 17, 18, 19, 20, 21, 22, 23, 24, 25, 26, 27, 28] (fun sz => kcX5_isZeroOrOne l dC dI cy fu p2 sz r7 hr7) rfl rfl (by decide) (by decide) (by decide) rfl (va_cwS 1 hts gX5_gone_X5_isZeroOrOne rfl rfl rfl ydX5_isZeroOrOne ⟨Nat.le_of_ble_eq_true rfl, Nat.le_of_ble_eq_true rfl⟩) rfl hl.1 rfl (Nat.le_of_ble_eq_true rfl) dX5_gone_12 ⟨Nat.zero_le _, Nat.zero_le _⟩ (fun H locs hP hS => ?_)
  refine lv_if_eq (tgt := 25) hx hb dX5_gone_15 (by decide) (fun hc => ?_) (fun hc => ?_)
  · replace hm := (if_pos hc).symm.trans hm
    refine lv_iconst (v := (-1 : Int32)) hx hb dX5_gone_25 (by decide) ?_
    obtain rfl := Option.some.inj hm
    exact hret 26 ls _ _ dX5_gone_26 hP hS
  replace hm := (if_neg hc).symm.trans hm
  refine lv_iload_n hx hb dX5_gone_18 rfl (lv_at hl 3 rfl) ?_
  obtain ⟨r8, hr8, hm⟩ := bn_call hm
  refine ca_si (wr := (o_X5 cy h0 a0 w0) ++ (o_X1 cy (a0 2) a1 w1) ++ (o_X4 cy (a0 4) a2 w2) ++ (o_X4 cy (a0 5) a3 w3) ++ (o_X0 cy (a0 3) a4 w4)) (wn := (o_X5 cy h0 a0 w0) ++ (o_X1 cy (a0 2) a1 w1) ++ (o_X4 cy (a0 4) a2 w2) ++ (o_X4 cy (a0 5) a3 w3) ++ (o_X0 cy (a0 3) a4 w4)) ⟨hx, hb, hml, hown, hts⟩ hK hA (hDa _ _ _ _ _) hP hS [] [0, 1, 2, 3, 4, 5, 6, 7, 8, 9, 10, 11, 12, 13, 14, 15, 16, 17, 18, 19, 20, 21, 22, 23, 24, 25, 26, 27, 28] [0, 1, 2, 3, 4, 5, 6, 7, 8, 9, 10, 11, 12, 13, 14, 15, 16, 17, 18, 19, 20, 21, 22, 23, 24, 25, 26, 27, 28] (fun sz => kcX5_isSpanOfYears l dC dI cy fu p3 sz r8 hr8) rfl rfl (by decide) (by decide) (by decide) rfl (va_cwS 1 hts gX5_gone_X5_isSpanOfYears rfl rfl rfl ydX5_isSpanOfYears ⟨Nat.le_of_ble_eq_true rfl, Nat.le_of_ble_eq_true rfl⟩) rfl hl.1 rfl (Nat.le_of_ble_eq_true rfl) dX5_gone_19 ⟨Nat.zero_le _, Nat.zero_le _⟩ (fun H locs hP hS => ?_)
  refine lv_if_ne (tgt := 27) hx hb dX5_gone_22 (by decide) (fun hc => ?_) (fun hc => ?_)
  · replace hm := (if_neg hc).symm.trans hm
    refine lv_aload_n hx hb dX5_gone_27 rfl (lv_at hl 0 rfl) ?_
    refine va_get (D := (dC, dI)) (ci := 5) (v := .ref (a0 5)) (C := RX5) (T := TX5) (N := 8) hx hb hts i5 hown hK hP 0 rfl rfl 5 (by decide) (hts (.fieldLink RX5 44 "TwoMetals" "trial" "LTwoMetals$World;") (List.mem_of_getElem? (i := 2) rfl)) (fun _ h9 => h9) rfl dX5_gone_28 ?_
    refine lv_aload_n hx hb dX5_gone_31 rfl (lv_at hl 0 rfl) ?_
    refine va_get (D := (dC, dI)) (ci := 5) (v := .ref (a0 4)) (C := RX5) (T := TX5) (N := 8) hx hb hts i5 hown hK hP 0 rfl rfl 4 (by decide) (hts (.fieldLink RX5 40 "TwoMetals" "now" "LTwoMetals$World;") (List.mem_of_getElem? (i := 1) rfl)) (fun _ h9 => h9) rfl dX5_gone_32 ?_
    obtain ⟨r9, hr9, hm⟩ := bn_call hm
    refine ca_vv (wr := (o_X5 cy h0 a0 w0) ++ (o_X1 cy (a0 2) a1 w1) ++ (o_X0 cy (a0 3) a4 w4)) (wn := (o_X5 cy h0 a0 w0) ++ (o_X1 cy (a0 2) a1 w1) ++ (o_X4 cy (a0 4) a2 w2) ++ (o_X4 cy (a0 5) a3 r9) ++ (o_X0 cy (a0 3) a4 w4)) ⟨hx, hb, hml, hown, hts⟩ hK hA (hDa _ _ _ _ _) hP hS [15, 16, 17, 18, 19, 20, 21, 22, 23, 24, 5, 6, 7, 8, 9, 10, 11, 12, 13, 14] [0, 1, 2, 3, 4, 25, 26, 27, 28] [0, 1, 2, 3, 4, 19, 20, 21, 22, 23, 24, 25, 26, 27, 28, 9, 10, 11, 12, 13, 14, 15, 16, 17, 18, 5, 6, 7, 8] (fun sz => kcX4_copyFrom l dC dI cy fu (a0 5) a3 w3 (a0 4) a2 w2 sz r9 hr9) rfl rfl (by decide) (by decide) (by decide) rfl (cwV 1 hts gX5_gone_X4_copyFrom rfl rfl rfl ⟨rfl, ydX4_copyFrom⟩ ⟨Nat.le_of_ble_eq_true rfl, Nat.le_of_ble_eq_true rfl⟩) 4 0 rfl rfl rfl rfl hl.1 rfl (Nat.le_of_ble_eq_true rfl) dX5_gone_35 ⟨Nat.zero_le _, Nat.zero_le _⟩ (fun H locs hP hS => ?_)
    refine lv_iconst (v := (1 : Int32)) hx hb dX5_gone_38 (by decide) ?_
    refine lv_istore (lv' := [(4, .int (1 : Int32)), (0, .ref h0), (1, .int p1), (2, .int p2), (3, .int p3)]) hx hb dX5_gone_39 hl (by decide) rfl (fun ls hl => ?_)
    exact hB41 fu w1 r9 p1 p2 p3 (1 : Int32) _ _ ls hm hP hS (lv_sub hl [1, 2, 3, 4, 0] rfl)
  replace hm := (if_pos hc).symm.trans hm
  refine lv_iconst (v := (-1 : Int32)) hx hb dX5_gone_25 (by decide) ?_
  obtain rfl := Option.some.inj hm
  exact hret 26 ls _ _ dX5_gone_26 hP hS
set_option maxHeartbeats 4000000 in
set_option maxRecDepth 100000 in
theorem kcX5_stopped (l : Launch) (dC : Nat → ClassId) (dI : Nat → Nat → Nat) (cy : Nat → ClassId) (fu : Nat) (h0 : Nat) (a0 : Nat → Nat) (w0 : ob_T) (a1 : Nat → Nat) (w1 : ob_T) (a2 : Nat → Nat) (w2 : ob_T) (a3 : Nat → Nat) (w3 : ob_T) (a4 : Nat → Nat) (w4 : ob_T) (p1 : Int32) (p2 : Int32) (sz : Nat) (R : Int32 × ob_T × ob_T) (hm : mX5_stopped fu w0 w1 w2 w3 w4 p1 p2 = some R) : Met l yX5_stopped wsX5_stopped (rmN 5 122) (va_Pc [.ref h0, .int p1, .int p2] (cPre dC dI cy ((o_X5 cy h0 a0 w0) ++ (o_X1 cy (a0 2) a1 w1) ++ (o_X4 cy (a0 4) a2 w2) ++ (o_X4 cy (a0 5) a3 w3) ++ (o_X0 cy (a0 3) a4 w4)) sz)) (va_Qi (fun (r : Int32) (_ : Unit) => r = R.1) (fun _ => cPost dC dI cy ((o_X5 cy h0 a0 w0) ++ (o_X1 cy (a0 2) a1 w1) ++ (o_X4 cy (a0 4) a2 w2) ++ (o_X4 cy (a0 5) a3 w3) ++ (o_X0 cy (a0 3) a4 w4)) ((o_X5 cy h0 a0 w0) ++ (o_X1 cy (a0 2) a1 R.2.1) ++ (o_X4 cy (a0 4) a2 w2) ++ (o_X4 cy (a0 5) a3 R.2.2) ++ (o_X0 cy (a0 3) a4 w4)) sz) (va_A ((o_X5 cy h0 a0 w0) ++ (o_X1 cy (a0 2) a1 w1) ++ (o_X4 cy (a0 4) a2 w2) ++ (o_X4 cy (a0 5) a3 w3) ++ (o_X0 cy (a0 3) a4 w4)) sz)) 0 0 (va_A ((o_X5 cy h0 a0 w0) ++ (o_X1 cy (a0 2) a1 w1) ++ (o_X4 cy (a0 4) a2 w2) ++ (o_X4 cy (a0 5) a3 w3) ++ (o_X0 cy (a0 3) a4 w4)) sz) := by
  refine mt_i (cc := cX5_stopped) (maxL := 4) (by decide) rfl (Nat.le_of_ble_eq_true rfl) rfl ?_
  intro p e s m below meth c Q A hx hb hml hown hts hK hA hD hP hret ls hl
  have hown : s.vm.findClass RX5 = some m.cls := hown
  have hl : lv_has ls 4 [(0, .ref h0), (1, .int p1), (2, .int p2)] := hl
  have hDa : ∀ v0 v1 v2 v3 v4 : ob_T, va_D A ((o_X5 cy h0 a0 v0) ++ (o_X1 cy (a0 2) a1 v1) ++ (o_X4 cy (a0 4) a2 v2) ++ (o_X4 cy (a0 5) a3 v3) ++ (o_X0 cy (a0 3) a4 v4)) := fun _ _ _ _ _ => va_D_adr hD rfl
  have i5 : ∀ w ∈ wsX50, w ∈ wsX5_stopped := fun _ h => List.mem_cons_of_mem _ (List.mem_append_left _ (List.mem_append_left _ (List.mem_append_left _ (List.mem_append_right _ h))))
  have hS : va_S A s.heap s.heap [] := va_S.rf
  have hB47 : ∀ (nn : Nat) (w1 : ob_T) (w3 : ob_T) (l1 : Int32) (l2 : Int32) (l3 : Int32) (H : Heap) (locs : List Loc) (ls : Array Slot), bX5_stopped_47 fu w0 w2 w4 nn w1 w3 l1 l2 l3 = some R → va_P (dC, dI) vwCl ((o_X5 cy h0 a0 w0) ++ (o_X1 cy (a0 2) a1 w1) ++ (o_X4 cy (a0 4) a2 w2) ++ (o_X4 cy (a0 5) a3 w3) ++ (o_X0 cy (a0 3) a4 w4)) H → va_S A s.heap H locs → lv_has ls 4 [(0, .ref h0), (1, .int l1), (2, .int l2), (3, .int l3)] → W p l e (rmN 5 122) s m ([.ref h0, .int p1, .int p2] : List Value).toArray below meth c H locs 0 0 Q (F0 m 47 ls []) := by
    intro nn
    induction nn with
    | zero => intro w1 w3 l1 l2 l3 H locs ls hm; exact no_some ((bX5_stopped_47_0 fu w0 w2 w4 w1 w3 l1 l2 l3).symm.trans hm)
    | succ nn ih =>
      intro w1 w3 l1 l2 l3 H locs ls hm hP hS hl
      replace hm := (bX5_stopped_47_s fu w0 w2 w4 nn w1 w3 l1 l2 l3).symm.trans hm
      refine lv_iload_n hx hb dX5_stopped_47 rfl (lv_at hl 3 rfl) ?_
      refine lv_iload_n hx hb dX5_stopped_48 rfl (lv_at hl 2 rfl) ?_
      refine lv_icmp_gt (tgt := 87) hx hb dX5_stopped_49 (by decide) (fun hc => ?_) (fun hc => ?_)
      · replace hm := (if_pos hc).symm.trans hm
        refine lv_bipush (v := (-4 : Int32)) hx hb dX5_stopped_87 (by decide) ?_
        obtain rfl := Option.some.inj hm
        exact hret 89 ls _ _ dX5_stopped_89 hP hS
      replace hm := (if_neg hc).symm.trans hm
      refine lv_aload_n hx hb dX5_stopped_52 rfl (lv_at hl 0 rfl) ?_
      refine va_get (D := (dC, dI)) (ci := 5) (v := .ref (a0 2)) (C := RX5) (T := TX5) (N := 8) hx hb hts i5 hown hK hP 0 rfl rfl 2 (by decide) (hts (.fieldLink RX5 26 "TwoMetals" "mover" "LTwoMetals$Mover;") (List.mem_of_getElem? (i := 3) rfl)) (fun _ h9 => h9) rfl dX5_stopped_53 ?_
      refine lv_aload_n hx hb dX5_stopped_56 rfl (lv_at hl 0 rfl) ?_
      refine va_get (D := (dC, dI)) (ci := 5) (v := .ref (a0 5)) (C := RX5) (T := TX5) (N := 8) hx hb hts i5 hown hK hP 0 rfl rfl 5 (by decide) (hts (.fieldLink RX5 44 "TwoMetals" "trial" "LTwoMetals$World;") (List.mem_of_getElem? (i := 2) rfl)) (fun _ h9 => h9) rfl dX5_stopped_57 ?_
      refine lv_aload_n hx hb dX5_stopped_60 rfl (lv_at hl 0 rfl) ?_
      refine va_get (D := (dC, dI)) (ci := 5) (v := .ref (a0 3)) (C := RX5) (T := TX5) (N := 8) hx hb hts i5 hown hK hP 0 rfl rfl 3 (by decide) (hts (.fieldLink RX5 33 "TwoMetals" "mines" "LTwoMetals$Mines;") (List.mem_of_getElem? (i := 4) rfl)) (fun _ h9 => h9) rfl dX5_stopped_61 ?_
      obtain ⟨r1, hr1, hm⟩ := bn_call hm
      refine ca_vi (wr := (o_X5 cy h0 a0 w0) ++ (o_X4 cy (a0 4) a2 w2)) (wn := (o_X5 cy h0 a0 w0) ++ (o_X1 cy (a0 2) a1 r1.2.1) ++ (o_X4 cy (a0 4) a2 w2) ++ (o_X4 cy (a0 5) a3 r1.2.2) ++ (o_X0 cy (a0 3) a4 w4)) ⟨hx, hb, hml, hown, hts⟩ hK hA (hDa _ _ _ _ _) hP hS [2, 3, 4, 15, 16, 17, 18, 19, 20, 21, 22, 23, 24, 25, 26, 27, 28] [0, 1, 5, 6, 7, 8, 9, 10, 11, 12, 13, 14] [0, 1, 12, 13, 14, 2, 3, 4, 5, 6, 7, 8, 9, 10, 11, 15, 16, 17, 18, 19, 20, 21, 22, 23, 24, 25, 26, 27, 28] (fun sz => kcX1_passYear l dC dI cy fu (a0 2) a1 w1 (a0 5) a3 w3 (a0 3) a4 w4 sz r1 hr1) rfl rfl (by decide) (by decide) (by decide) rfl (cwV 2 hts gX5_stopped_X1_passYear rfl rfl rfl ⟨rfl, ydX1_passYear⟩ ⟨Nat.le_of_ble_eq_true rfl, Nat.le_of_ble_eq_true rfl⟩) 1 0 rfl rfl rfl rfl hl.1 rfl (Nat.le_of_ble_eq_true rfl) dX5_stopped_64 ⟨Nat.zero_le _, Nat.zero_le _⟩ (fun H locs hP hS => ?_)
      refine lv_pop hx hb dX5_stopped_67 rfl ?_
      refine lv_aload_n hx hb dX5_stopped_68 rfl (lv_at hl 0 rfl) ?_
      refine va_get (D := (dC, dI)) (ci := 5) (v := .ref (a0 5)) (C := RX5) (T := TX5) (N := 8) hx hb hts i5 hown hK hP 0 rfl rfl 5 (by decide) (hts (.fieldLink RX5 44 "TwoMetals" "trial" "LTwoMetals$World;") (List.mem_of_getElem? (i := 2) rfl)) (fun _ h9 => h9) rfl dX5_stopped_69 ?_
      refine lv_iload_n hx hb dX5_stopped_72 rfl (lv_at hl 1 rfl) ?_
      obtain ⟨r2, hr2, hm⟩ := bn_call hm
      refine ca_vi (wr := (o_X5 cy h0 a0 w0) ++ (o_X1 cy (a0 2) a1 r1.2.1) ++ (o_X4 cy (a0 4) a2 w2) ++ (o_X0 cy (a0 3) a4 w4)) (wn := (o_X5 cy h0 a0 w0) ++ (o_X1 cy (a0 2) a1 r1.2.1) ++ (o_X4 cy (a0 4) a2 w2) ++ (o_X4 cy (a0 5) a3 r1.2.2) ++ (o_X0 cy (a0 3) a4 w4)) ⟨hx, hb, hml, hown, hts⟩ hK hA (hDa _ _ _ _ _) hP hS [15, 16, 17, 18, 19, 20, 21, 22, 23, 24] [0, 1, 2, 3, 4, 5, 6, 7, 8, 9, 10, 11, 12, 13, 14, 25, 26, 27, 28] [0, 1, 2, 3, 4, 5, 6, 7, 8, 9, 10, 11, 12, 13, 14, 19, 20, 21, 22, 23, 24, 25, 26, 27, 28, 15, 16, 17, 18] (fun sz => kcX4_mints l dC dI cy fu (a0 5) a3 r1.2.2 l1 sz r2 hr2) rfl rfl (by decide) (by decide) (by decide) rfl (cwV 1 hts gX5_stopped_X4_mints rfl rfl rfl ⟨rfl, ydX4_mints⟩ ⟨Nat.le_of_ble_eq_true rfl, Nat.le_of_ble_eq_true rfl⟩) 4 0 rfl rfl rfl rfl hl.1 rfl (Nat.le_of_ble_eq_true rfl) dX5_stopped_73 ⟨Nat.zero_le _, Nat.zero_le _⟩ (fun H locs hP hS => ?_)
      refine lv_if_ne (tgt := 81) hx hb dX5_stopped_76 (by decide) (fun hc => ?_) (fun hc => ?_)
      · replace hm := (if_neg hc).symm.trans hm
        obtain ⟨x3, e4⟩ : ∃ y : Int32, y = l3 + (1 : Int32) := ⟨_, rfl⟩
        replace hm := bn_at e4 hm
        refine lv_iinc (v := x3) (lv' := [(3, .int x3), (0, .ref h0), (1, .int l1), (2, .int l2)]) hx hb dX5_stopped_81 hl (k := 3) rfl (by rw [e4]; rfl) (by decide) rfl (fun ls hl => ?_)
        refine lv_goto (tgt := 47) hx hb dX5_stopped_84 (by decide) ?_
        exact ih r1.2.1 r1.2.2 l1 l2 x3 _ _ ls hm hP hS (lv_sub hl [1, 2, 3, 0] rfl)
      replace hm := (if_pos hc).symm.trans hm
      refine lv_iload_n hx hb dX5_stopped_79 rfl (lv_at hl 3 rfl) ?_
      obtain rfl := Option.some.inj hm
      exact hret 80 ls _ _ dX5_stopped_80 hP hS
  unfold mX5_stopped at hm
  refine lv_aload_n hx hb dX5_stopped_0 rfl (lv_at hl 0 rfl) ?_
  refine va_get (D := (dC, dI)) (ci := 5) (v := .ref (a0 4)) (C := RX5) (T := TX5) (N := 8) hx hb hts i5 hown hK hP 0 rfl rfl 4 (by decide) (hts (.fieldLink RX5 40 "TwoMetals" "now" "LTwoMetals$World;") (List.mem_of_getElem? (i := 1) rfl)) (fun _ h9 => h9) rfl dX5_stopped_1 ?_
  refine lv_iload_n hx hb dX5_stopped_4 rfl (lv_at hl 1 rfl) ?_
  obtain ⟨r5, hr5, hm⟩ := bn_call hm
  refine ca_vi (wr := (o_X5 cy h0 a0 w0) ++ (o_X1 cy (a0 2) a1 w1) ++ (o_X4 cy (a0 5) a3 w3) ++ (o_X0 cy (a0 3) a4 w4)) (wn := (o_X5 cy h0 a0 w0) ++ (o_X1 cy (a0 2) a1 w1) ++ (o_X4 cy (a0 4) a2 w2) ++ (o_X4 cy (a0 5) a3 w3) ++ (o_X0 cy (a0 3) a4 w4)) ⟨hx, hb, hml, hown, hts⟩ hK hA (hDa _ _ _ _ _) hP hS [5, 6, 7, 8, 9, 10, 11, 12, 13, 14] [0, 1, 2, 3, 4, 15, 16, 17, 18, 19, 20, 21, 22, 23, 24, 25, 26, 27, 28] [0, 1, 2, 3, 4, 19, 20, 21, 22, 23, 24, 25, 26, 27, 28, 5, 6, 7, 8, 9, 10, 11, 12, 13, 14, 15, 16, 17, 18] (fun sz => kcX4_has l dC dI cy fu (a0 4) a2 w2 p1 sz r5 hr5) rfl rfl (by decide) (by decide) (by decide) rfl (cwV 1 hts gX5_stopped_X4_has rfl rfl rfl ⟨rfl, ydX4_has⟩ ⟨Nat.le_of_ble_eq_true rfl, Nat.le_of_ble_eq_true rfl⟩) 4 0 rfl rfl rfl rfl hl.1 rfl (Nat.le_of_ble_eq_true rfl) dX5_stopped_5 ⟨Nat.zero_le _, Nat.zero_le _⟩ (fun H locs hP hS => ?_)
  refine lv_if_eq (tgt := 18) hx hb dX5_stopped_8 (by decide) (fun hc => ?_) (fun hc => ?_)
  · replace hm := (if_pos hc).symm.trans hm
    refine lv_iconst (v := (-1 : Int32)) hx hb dX5_stopped_18 (by decide) ?_
    obtain rfl := Option.some.inj hm
    exact hret 19 ls _ _ dX5_stopped_19 hP hS
  replace hm := (if_neg hc).symm.trans hm
  refine lv_iload_n hx hb dX5_stopped_11 rfl (lv_at hl 2 rfl) ?_
  obtain ⟨r6, hr6, hm⟩ := bn_call hm
  refine ca_si (wr := (o_X5 cy h0 a0 w0) ++ (o_X1 cy (a0 2) a1 w1) ++ (o_X4 cy (a0 4) a2 w2) ++ (o_X4 cy (a0 5) a3 w3) ++ (o_X0 cy (a0 3) a4 w4)) (wn := (o_X5 cy h0 a0 w0) ++ (o_X1 cy (a0 2) a1 w1) ++ (o_X4 cy (a0 4) a2 w2) ++ (o_X4 cy (a0 5) a3 w3) ++ (o_X0 cy (a0 3) a4 w4)) ⟨hx, hb, hml, hown, hts⟩ hK hA (hDa _ _ _ _ _) hP hS [] [0, 1, 2, 3, 4, 5, 6, 7, 8, 9, 10, 11, 12, 13, 14, 15, 16, 17, 18, 19, 20, 21, 22, 23, 24, 25, 26, 27, 28] [0, 1, 2, 3, 4, 5, 6, 7, 8, 9, 10, 11, 12, 13, 14, 15, 16, 17, 18, 19, 20, 21, 22, 23, 24, 25, 26, 27, 28] (fun sz => kcX5_isSpanOfYears l dC dI cy fu p2 sz r6 hr6) rfl rfl (by decide) (by decide) (by decide) rfl (va_cwS 1 hts gX5_stopped_X5_isSpanOfYears rfl rfl rfl ydX5_isSpanOfYears ⟨Nat.le_of_ble_eq_true rfl, Nat.le_of_ble_eq_true rfl⟩) rfl hl.1 rfl (Nat.le_of_ble_eq_true rfl) dX5_stopped_12 ⟨Nat.zero_le _, Nat.zero_le _⟩ (fun H locs hP hS => ?_)
  refine lv_if_ne (tgt := 20) hx hb dX5_stopped_15 (by decide) (fun hc => ?_) (fun hc => ?_)
  · replace hm := (if_neg hc).symm.trans hm
    refine lv_aload_n hx hb dX5_stopped_20 rfl (lv_at hl 0 rfl) ?_
    refine va_get (D := (dC, dI)) (ci := 5) (v := .ref (a0 4)) (C := RX5) (T := TX5) (N := 8) hx hb hts i5 hown hK hP 0 rfl rfl 4 (by decide) (hts (.fieldLink RX5 40 "TwoMetals" "now" "LTwoMetals$World;") (List.mem_of_getElem? (i := 1) rfl)) (fun _ h9 => h9) rfl dX5_stopped_21 ?_
    refine lv_iload_n hx hb dX5_stopped_24 rfl (lv_at hl 1 rfl) ?_
    obtain ⟨r7, hr7, hm⟩ := bn_call hm
    refine ca_vi (wr := (o_X5 cy h0 a0 w0) ++ (o_X1 cy (a0 2) a1 w1) ++ (o_X4 cy (a0 5) a3 w3) ++ (o_X0 cy (a0 3) a4 w4)) (wn := (o_X5 cy h0 a0 w0) ++ (o_X1 cy (a0 2) a1 w1) ++ (o_X4 cy (a0 4) a2 w2) ++ (o_X4 cy (a0 5) a3 w3) ++ (o_X0 cy (a0 3) a4 w4)) ⟨hx, hb, hml, hown, hts⟩ hK hA (hDa _ _ _ _ _) hP hS [5, 6, 7, 8, 9, 10, 11, 12, 13, 14] [0, 1, 2, 3, 4, 15, 16, 17, 18, 19, 20, 21, 22, 23, 24, 25, 26, 27, 28] [0, 1, 2, 3, 4, 19, 20, 21, 22, 23, 24, 25, 26, 27, 28, 5, 6, 7, 8, 9, 10, 11, 12, 13, 14, 15, 16, 17, 18] (fun sz => kcX4_mints l dC dI cy fu (a0 4) a2 w2 p1 sz r7 hr7) rfl rfl (by decide) (by decide) (by decide) rfl (cwV 1 hts gX5_stopped_X4_mints rfl rfl rfl ⟨rfl, ydX4_mints⟩ ⟨Nat.le_of_ble_eq_true rfl, Nat.le_of_ble_eq_true rfl⟩) 4 0 rfl rfl rfl rfl hl.1 rfl (Nat.le_of_ble_eq_true rfl) dX5_stopped_25 ⟨Nat.zero_le _, Nat.zero_le _⟩ (fun H locs hP hS => ?_)
    refine lv_if_ne (tgt := 34) hx hb dX5_stopped_28 (by decide) (fun hc => ?_) (fun hc => ?_)
    · replace hm := (if_neg hc).symm.trans hm
      refine lv_aload_n hx hb dX5_stopped_34 rfl (lv_at hl 0 rfl) ?_
      refine va_get (D := (dC, dI)) (ci := 5) (v := .ref (a0 5)) (C := RX5) (T := TX5) (N := 8) hx hb hts i5 hown hK hP 0 rfl rfl 5 (by decide) (hts (.fieldLink RX5 44 "TwoMetals" "trial" "LTwoMetals$World;") (List.mem_of_getElem? (i := 2) rfl)) (fun _ h9 => h9) rfl dX5_stopped_35 ?_
      refine lv_aload_n hx hb dX5_stopped_38 rfl (lv_at hl 0 rfl) ?_
      refine va_get (D := (dC, dI)) (ci := 5) (v := .ref (a0 4)) (C := RX5) (T := TX5) (N := 8) hx hb hts i5 hown hK hP 0 rfl rfl 4 (by decide) (hts (.fieldLink RX5 40 "TwoMetals" "now" "LTwoMetals$World;") (List.mem_of_getElem? (i := 1) rfl)) (fun _ h9 => h9) rfl dX5_stopped_39 ?_
      obtain ⟨r8, hr8, hm⟩ := bn_call hm
      refine ca_vv (wr := (o_X5 cy h0 a0 w0) ++ (o_X1 cy (a0 2) a1 w1) ++ (o_X0 cy (a0 3) a4 w4)) (wn := (o_X5 cy h0 a0 w0) ++ (o_X1 cy (a0 2) a1 w1) ++ (o_X4 cy (a0 4) a2 w2) ++ (o_X4 cy (a0 5) a3 r8) ++ (o_X0 cy (a0 3) a4 w4)) ⟨hx, hb, hml, hown, hts⟩ hK hA (hDa _ _ _ _ _) hP hS [15, 16, 17, 18, 19, 20, 21, 22, 23, 24, 5, 6, 7, 8, 9, 10, 11, 12, 13, 14] [0, 1, 2, 3, 4, 25, 26, 27, 28] [0, 1, 2, 3, 4, 19, 20, 21, 22, 23, 24, 25, 26, 27, 28, 9, 10, 11, 12, 13, 14, 15, 16, 17, 18, 5, 6, 7, 8] (fun sz => kcX4_copyFrom l dC dI cy fu (a0 5) a3 w3 (a0 4) a2 w2 sz r8 hr8) rfl rfl (by decide) (by decide) (by decide) rfl (cwV 1 hts gX5_stopped_X4_copyFrom rfl rfl rfl ⟨rfl, ydX4_copyFrom⟩ ⟨Nat.le_of_ble_eq_true rfl, Nat.le_of_ble_eq_true rfl⟩) 4 0 rfl rfl rfl rfl hl.1 rfl (Nat.le_of_ble_eq_true rfl) dX5_stopped_42 ⟨Nat.zero_le _, Nat.zero_le _⟩ (fun H locs hP hS => ?_)
      refine lv_iconst (v := (1 : Int32)) hx hb dX5_stopped_45 (by decide) ?_
      refine lv_istore_n (lv' := [(3, .int (1 : Int32)), (0, .ref h0), (1, .int p1), (2, .int p2)]) hx hb dX5_stopped_46 rfl hl (by decide) rfl (fun ls hl => ?_)
      exact hB47 fu w1 r8 p1 p2 (1 : Int32) _ _ ls hm hP hS (lv_sub hl [1, 2, 3, 0] rfl)
    replace hm := (if_pos hc).symm.trans hm
    refine lv_bipush (v := (-2 : Int32)) hx hb dX5_stopped_31 (by decide) ?_
    obtain rfl := Option.some.inj hm
    exact hret 33 ls _ _ dX5_stopped_33 hP hS
  replace hm := (if_pos hc).symm.trans hm
  refine lv_iconst (v := (-1 : Int32)) hx hb dX5_stopped_18 (by decide) ?_
  obtain rfl := Option.some.inj hm
  exact hret 19 ls _ _ dX5_stopped_19 hP hS
