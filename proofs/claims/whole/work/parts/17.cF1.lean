set_option maxHeartbeats 4000000 in
set_option maxRecDepth 100000 in
theorem kcX6_readAll (l : Launch) (dC : Nat → ClassId) (dI : Nat → Nat → Nat) (cy : Nat → ClassId) (fu : Nat) (h0 : Nat) (a0 : Nat → Nat) (w0 : ob_T) (sz : Nat) (R : Int32 × ob_T) (hm : mX6_readAll fu w0 = some R) : Met l yX6_readAll wsX6_readAll (rmN 4 93) (va_Pc [.ref h0] (cPre dC dI cy ((o_X6 cy h0 a0 w0)) sz)) (va_Qi (fun (r : Int32) (_ : Unit) => r = R.1) (fun _ => cPost dC dI cy ((o_X6 cy h0 a0 w0)) ((o_X6 cy h0 a0 R.2)) sz) (va_A ((o_X6 cy h0 a0 w0)) sz)) 0 0 (va_A ((o_X6 cy h0 a0 w0)) sz) := by
  refine mt_i (cc := cX6_readAll) (maxL := 2) (by decide) rfl (Nat.le_of_ble_eq_true rfl) rfl ?_
  intro p e s m below meth c Q A hx hb hml hown hts hK hA hD hP hret ls hl
  have hown : s.vm.findClass RX6 = some m.cls := hown
  have hl : lv_has ls 2 [(0, .ref h0)] := hl
  have hDa : ∀ v0 : ob_T, va_D A ((o_X6 cy h0 a0 v0)) := fun _ => va_D_adr hD rfl
  have i6 : ∀ w ∈ wsX60, w ∈ wsX6_readAll := fun _ h => List.mem_cons_of_mem _ (List.mem_append_right _ h)
  have hS : va_S A s.heap s.heap [] := va_S.rf
  have hB11 : ∀ (nn : Nat) (w0 : ob_T) (H : Heap) (locs : List Loc) (ls : Array Slot), bX6_readAll_11 fu nn w0 = some R → va_P (dC, dI) vwCl ((o_X6 cy h0 a0 w0)) H → va_S A s.heap H locs → lv_has ls 2 [(0, .ref h0)] → W p l e (rmN 4 93) s m ([.ref h0] : List Value).toArray below meth c H locs 0 0 Q (F0 m 11 ls []) := by
    intro nn
    induction nn with
    | zero => intro w0 H locs ls hm; exact no_some ((bX6_readAll_11_0 fu w0).symm.trans hm)
    | succ nn ih =>
      intro w0 H locs ls hm hP hS hl
      replace hm := (bX6_readAll_11_s fu nn w0).symm.trans hm
      refine lv_aload_n hx hb dX6_readAll_11 rfl (lv_at hl 0 rfl) ?_
      refine va_get (D := (dC, dI)) (ci := 6) (v := .int (w0.1 8 0)) (C := RX6) (T := TX6) (N := 11) hx hb hts i6 hown hK hP 0 rfl rfl 8 (by decide) (hts (.fieldLink RX6 53 "TwoMetalsModel" "place" "I") (List.mem_of_getElem? (i := 1) rfl)) (fun _ h9 => h9) rfl dX6_readAll_12 ?_
      refine lv_aload_n hx hb dX6_readAll_15 rfl (lv_at hl 0 rfl) ?_
      refine va_get (D := (dC, dI)) (ci := 6) (v := .int (w0.1 0 0)) (C := RX6) (T := TX6) (N := 11) hx hb hts i6 hown hK hP 0 rfl rfl 0 (by decide) (hts (.fieldLink RX6 47 "TwoMetalsModel" "length" "I") (List.mem_of_getElem? (i := 2) rfl)) (fun _ h9 => h9) rfl dX6_readAll_16 ?_
      refine lv_icmp_ge (tgt := 39) hx hb dX6_readAll_19 (by decide) (fun hc => ?_) (fun hc => ?_)
      · replace hm := (if_pos hc).symm.trans hm
        refine lv_bipush (v := (-4 : Int32)) hx hb dX6_readAll_39 (by decide) ?_
        obtain rfl := Option.some.inj hm
        exact hret 41 ls _ _ dX6_readAll_41 hP hS
      replace hm := (if_neg hc).symm.trans hm
      refine lv_aload_n hx hb dX6_readAll_22 rfl (lv_at hl 0 rfl) ?_
      refine va_get (D := (dC, dI)) (ci := 6) (v := .int (w0.1 8 0)) (C := RX6) (T := TX6) (N := 11) hx hb hts i6 hown hK hP 0 rfl rfl 8 (by decide) (hts (.fieldLink RX6 53 "TwoMetalsModel" "place" "I") (List.mem_of_getElem? (i := 1) rfl)) (fun _ h9 => h9) rfl dX6_readAll_23 ?_
      refine lv_topi (fun x1 e2 => ?_)
      replace hm := bn_at e2 hm
      refine lv_istore_n (lv' := [(1, .int x1), (0, .ref h0)]) hx hb dX6_readAll_26 rfl hl (by decide) rfl (fun ls hl => ?_)
      refine lv_aload_n hx hb dX6_readAll_27 rfl (lv_at hl 1 rfl) ?_
      obtain ⟨r3, hr3, hm⟩ := bn_call hm
      refine ca_vi (wr := []) (wn := (o_X6 cy h0 a0 r3.2)) ⟨hx, hb, hml, hown, hts⟩ hK hA (hDa _) hP hS [0, 1, 2, 3, 4, 5, 6, 7, 8] [] [0, 1, 2, 3, 4, 5, 6, 7, 8] (fun sz => kcX6_item l dC dI cy fu h0 a0 w0 sz r3 hr3) rfl rfl (by decide) (by decide) (by decide) rfl (cwV 0 hts gX6_readAll_X6_item rfl rfl rfl ⟨rfl, ydX6_item⟩ ⟨Nat.le_of_ble_eq_true rfl, Nat.le_of_ble_eq_true rfl⟩) 6 0 rfl rfl rfl rfl hl.1 rfl (Nat.le_of_ble_eq_true rfl) dX6_readAll_28 ⟨Nat.zero_le _, Nat.zero_le _⟩ (fun H locs hP hS => ?_)
      refine lv_if_ne (tgt := 36) hx hb dX6_readAll_31 (by decide) (fun hc => ?_) (fun hc => ?_)
      · replace hm := (if_neg hc).symm.trans hm
        refine lv_goto (tgt := 11) hx hb dX6_readAll_36 (by decide) ?_
        exact ih r3.2 _ _ ls hm hP hS (lv_sub hl [1] rfl)
      replace hm := (if_pos hc).symm.trans hm
      refine lv_iload_n hx hb dX6_readAll_34 rfl (lv_at hl 0 rfl) ?_
      obtain rfl := Option.some.inj hm
      exact hret 35 ls _ _ dX6_readAll_35 hP hS
  unfold mX6_readAll at hm
  refine lv_aload_n hx hb dX6_readAll_0 rfl (lv_at hl 0 rfl) ?_
  refine lv_iconst (v := (4 : Int32)) hx hb dX6_readAll_1 (by decide) ?_
  refine lv_iconst (v := (1 : Int32)) hx hb dX6_readAll_2 (by decide) ?_
  obtain ⟨r4, hr4, hm⟩ := bn_call hm
  refine ca_vv (wr := []) (wn := (o_X6 cy h0 a0 r4)) ⟨hx, hb, hml, hown, hts⟩ hK hA (hDa _) hP hS [0, 1, 2, 3, 4, 5, 6, 7, 8] [] [0, 1, 2, 3, 4, 5, 6, 7, 8] (fun sz => kcX6_noWorld l dC dI cy fu h0 a0 w0 (4 : Int32) (1 : Int32) sz r4 hr4) rfl rfl (by decide) (by decide) (by decide) rfl (cwV 2 hts gX6_readAll_X6_noWorld rfl rfl rfl ⟨rfl, ydX6_noWorld⟩ ⟨Nat.le_of_ble_eq_true rfl, Nat.le_of_ble_eq_true rfl⟩) 6 0 rfl rfl rfl rfl hl.1 rfl (Nat.le_of_ble_eq_true rfl) dX6_readAll_3 ⟨Nat.zero_le _, Nat.zero_le _⟩ (fun H locs hP hS => ?_)
  refine lv_aload_n hx hb dX6_readAll_6 rfl (lv_at hl 0 rfl) ?_
  refine lv_iconst (v := (0 : Int32)) hx hb dX6_readAll_7 (by decide) ?_
  refine va_put (D := (dC, dI)) (ci := 6) (v := .int (0 : Int32)) (ty := .int) (C := RX6) (T := TX6) (N := 11) hx hb hts i6 tyX6 tyX6_ok nmX6 hown hK hP (hDa _) hS 0 rfl rfl 8 (by decide) (hts (.fieldLink RX6 53 "TwoMetalsModel" "place" "I") (List.mem_of_getElem? (i := 1) rfl)) (fun _ h9 => h9) rfl (tyX6_ok 8 (by decide)) rfl rfl (Nat.le_of_ble_eq_true rfl) dX6_readAll_8 (fun H locs hP _ hS => ?_)
  have hP : va_P (dC, dI) vwCl ((o_X6 cy h0 a0 (ob_I r4 8 (fun _ => (0 : Int32))))) H := hP
  obtain ⟨u5, hP, hm⟩ := bn_ob (P := fun zz => va_P (dC, dI) vwCl ((o_X6 cy h0 a0 zz)) H) hm hP
  exact hB11 fu u5 _ _ ls hm hP hS (lv_sub hl [0] rfl)
set_option maxHeartbeats 4000000 in
set_option maxRecDepth 100000 in
theorem kcX6_fault (l : Launch) (dC : Nat → ClassId) (dI : Nat → Nat → Nat) (cy : Nat → ClassId) (fu : Nat) (h0 : Nat) (a0 : Nat → Nat) (w0 : ob_T) (sz : Nat) (R : Int32 × ob_T) (hm : mX6_fault fu w0 = some R) : Met l yX6_fault wsX6_fault (rmN 5 114) (va_Pc [.ref h0] (cPre dC dI cy ((o_X6 cy h0 a0 w0)) sz)) (va_Qi (fun (r : Int32) (_ : Unit) => r = R.1) (fun _ => cPost dC dI cy ((o_X6 cy h0 a0 w0)) ((o_X6 cy h0 a0 R.2)) sz) (va_A ((o_X6 cy h0 a0 w0)) sz)) 0 0 (va_A ((o_X6 cy h0 a0 w0)) sz) := by
  refine mt_i (cc := cX6_fault) (maxL := 1) (by decide) rfl (Nat.le_of_ble_eq_true rfl) rfl ?_
  intro p e s m below meth c Q A hx hb hml hown hts hK hA hD hP hret ls hl
  have hown : s.vm.findClass RX6 = some m.cls := hown
  have hl : lv_has ls 1 [(0, .ref h0)] := hl
  have hDa : ∀ v0 : ob_T, va_D A ((o_X6 cy h0 a0 v0)) := fun _ => va_D_adr hD rfl
  have hS : va_S A s.heap s.heap [] := va_S.rf
  unfold mX6_fault at hm
  refine lv_aload_n hx hb dX6_fault_0 rfl (lv_at hl 0 rfl) ?_
  obtain ⟨r1, hr1, hm⟩ := bn_call hm
  refine ca_vi (wr := []) (wn := (o_X6 cy h0 a0 r1.2)) ⟨hx, hb, hml, hown, hts⟩ hK hA (hDa _) hP hS [0, 1, 2, 3, 4, 5, 6, 7, 8] [] [0, 1, 2, 3, 4, 5, 6, 7, 8] (fun sz => kcX6_readAll l dC dI cy fu h0 a0 w0 sz r1 hr1) rfl rfl (by decide) (by decide) (by decide) rfl (cwV 0 hts gX6_fault_X6_readAll rfl rfl rfl ⟨rfl, ydX6_readAll⟩ ⟨Nat.le_of_ble_eq_true rfl, Nat.le_of_ble_eq_true rfl⟩) 6 0 rfl rfl rfl rfl hl.1 rfl (Nat.le_of_ble_eq_true rfl) dX6_fault_1 ⟨Nat.zero_le _, Nat.zero_le _⟩ (fun H locs hP hS => ?_)
  obtain rfl := Option.some.inj hm
  exact hret 4 ls _ _ dX6_fault_4 hP hS
set_option maxHeartbeats 4000000 in
set_option maxRecDepth 100000 in
theorem kcX6_copy (l : Launch) (dC : Nat → ClassId) (dI : Nat → Nat → Nat) (cy : Nat → ClassId) (fu : Nat) (h0 : Nat) (a0 : Nat → Nat) (w0 : ob_T) (p1 : Int32) (p2 : Int32) (sz : Nat) (R : ob_T) (hm : mX6_copy fu w0 p1 p2 = some R) : Met l yX6_copy wsX6_copy (rmN 0 0) (va_Pc [.ref h0, .int p1, .int p2] (cPre dC dI cy ((o_X6 cy h0 a0 w0)) sz)) (va_Qv (fun (_ : Unit) => True) (fun _ => cPost dC dI cy ((o_X6 cy h0 a0 w0)) ((o_X6 cy h0 a0 R)) sz) (va_A ((o_X6 cy h0 a0 w0)) sz)) 0 0 (va_A ((o_X6 cy h0 a0 w0)) sz) := by
  refine mt_v (cc := cX6_copy) (maxL := 4) (by decide) rfl (Nat.le_of_ble_eq_true rfl) rfl ?_
  intro p e s m below meth c Q A hx hb hml hown hts hK hA hD hP hret ls hl
  have hown : s.vm.findClass RX6 = some m.cls := hown
  have hl : lv_has ls 4 [(0, .ref h0), (1, .int p1), (2, .int p2)] := hl
  have hDa : ∀ v0 : ob_T, va_D A ((o_X6 cy h0 a0 v0)) := fun _ => va_D_adr hD rfl
  have i6 : ∀ w ∈ wsX60, w ∈ wsX6_copy := fun _ h => List.mem_cons_of_mem _ (List.mem_append_right _ h)
  have hS : va_S A s.heap s.heap [] := va_S.rf
  have hB38 : ∀ (nn : Nat) (w0 : ob_T) (l1 : Int32) (l2 : Int32) (l3 : Int32) (H : Heap) (locs : List Loc) (ls : Array Slot), bX6_copy_38 fu nn w0 l1 l2 l3 = some R → va_P (dC, dI) vwCl ((o_X6 cy h0 a0 w0)) H → va_S A s.heap H locs → lv_has ls 4 [(0, .ref h0), (1, .int l1), (2, .int l2), (3, .int l3)] → W p l e (rmN 0 0) s m ([.ref h0, .int p1, .int p2] : List Value).toArray below meth c H locs 0 0 Q (F0 m 38 ls []) := by
    intro nn
    induction nn with
    | zero => intro w0 l1 l2 l3 H locs ls hm; exact no_some ((bX6_copy_38_0 fu w0 l1 l2 l3).symm.trans hm)
    | succ nn ih =>
      intro w0 l1 l2 l3 H locs ls hm hP hS hl
      replace hm := (bX6_copy_38_s fu nn w0 l1 l2 l3).symm.trans hm
      refine lv_iload_n hx hb dX6_copy_38 rfl (lv_at hl 3 rfl) ?_
      refine lv_iconst (v := (3 : Int32)) hx hb dX6_copy_39 (by decide) ?_
      refine lv_icmp_ge (tgt := 69) hx hb dX6_copy_40 (by decide) (fun hc => ?_) (fun hc => ?_)
      · replace hm := (if_pos hc).symm.trans hm
        obtain rfl := Option.some.inj hm
        exact hret 69 ls _ _ dX6_copy_69 hP hS
      replace hm := (if_neg hc).symm.trans hm
      refine lv_aload_n hx hb dX6_copy_43 rfl (lv_at hl 0 rfl) ?_
      refine va_get (D := (dC, dI)) (ci := 6) (v := .ref (a0 3)) (C := RX6) (T := TX6) (N := 11) hx hb hts i6 hown hK hP 0 rfl rfl 3 (by decide) (hts (.fieldLink RX6 17 "TwoMetalsModel" "markets" "[J") (List.mem_of_getElem? (i := 2) rfl)) (fun _ h9 => h9) rfl dX6_copy_44 ?_
      refine lv_iconst (v := (3 : Int32)) hx hb dX6_copy_47 (by decide) ?_
      refine lv_iload_n hx hb dX6_copy_48 rfl (lv_at hl 2 rfl) ?_
      refine lv_imul hx hb dX6_copy_49 ?_
      refine lv_iload_n hx hb dX6_copy_50 rfl (lv_at hl 3 rfl) ?_
      refine lv_iadd hx hb dX6_copy_51 ?_
      refine lv_aload_n hx hb dX6_copy_52 rfl (lv_at hl 0 rfl) ?_
      refine va_get (D := (dC, dI)) (ci := 6) (v := .ref (a0 3)) (C := RX6) (T := TX6) (N := 11) hx hb hts i6 hown hK hP 0 rfl rfl 3 (by decide) (hts (.fieldLink RX6 17 "TwoMetalsModel" "markets" "[J") (List.mem_of_getElem? (i := 2) rfl)) (fun _ h9 => h9) rfl dX6_copy_53 ?_
      refine lv_iconst (v := (3 : Int32)) hx hb dX6_copy_56 (by decide) ?_
      refine lv_iload_n hx hb dX6_copy_57 rfl (lv_at hl 1 rfl) ?_
      refine lv_imul hx hb dX6_copy_58 ?_
      refine lv_iload_n hx hb dX6_copy_59 rfl (lv_at hl 3 rfl) ?_
      refine lv_iadd hx hb dX6_copy_60 ?_
      obtain ⟨hi1, hm⟩ := ck_in hm
      refine va_lald hx hb hK hP 3 1 rfl rfl hi1 dX6_copy_61 ?_
      obtain ⟨hi2, hm⟩ := ck_in hm
      refine va_last hx hb hK hP (hDa _) hS 3 1 rfl rfl hi2 dX6_copy_62 (fun H locs hP _ hS => ?_)
      have hP : va_P (dC, dI) vwCl ((o_X6 cy h0 a0 (ob_L w0 3 (vp_updL (w0.2 3) (((3 : Int32) * l2) + l3).toNatClampNeg (w0.2 3 (((3 : Int32) * l1) + l3).toNatClampNeg))))) H := hP
      obtain ⟨u3, hP, hm⟩ := bn_ob (P := fun zz => va_P (dC, dI) vwCl ((o_X6 cy h0 a0 zz)) H) hm hP
      obtain ⟨x4, e5⟩ : ∃ y : Int32, y = l3 + (1 : Int32) := ⟨_, rfl⟩
      replace hm := bn_at e5 hm
      refine lv_iinc (v := x4) (lv' := [(3, .int x4), (0, .ref h0), (1, .int l1), (2, .int l2)]) hx hb dX6_copy_63 hl (k := 3) rfl (by rw [e5]; rfl) (by decide) rfl (fun ls hl => ?_)
      refine lv_goto (tgt := 38) hx hb dX6_copy_66 (by decide) ?_
      exact ih u3 l1 l2 x4 _ _ ls hm hP hS (lv_sub hl [1, 2, 3, 0] rfl)
  have hB2 : ∀ (nn : Nat) (w0 : ob_T) (l1 : Int32) (l2 : Int32) (l3 : Int32) (H : Heap) (locs : List Loc) (ls : Array Slot), bX6_copy_2 fu nn w0 l1 l2 l3 = some R → va_P (dC, dI) vwCl ((o_X6 cy h0 a0 w0)) H → va_S A s.heap H locs → lv_has ls 4 [(0, .ref h0), (1, .int l1), (2, .int l2), (3, .int l3)] → W p l e (rmN 0 0) s m ([.ref h0, .int p1, .int p2] : List Value).toArray below meth c H locs 0 0 Q (F0 m 2 ls []) := by
    intro nn
    induction nn with
    | zero => intro w0 l1 l2 l3 H locs ls hm; exact no_some ((bX6_copy_2_0 fu w0 l1 l2 l3).symm.trans hm)
    | succ nn ih =>
      intro w0 l1 l2 l3 H locs ls hm hP hS hl
      replace hm := (bX6_copy_2_s fu nn w0 l1 l2 l3).symm.trans hm
      refine lv_iload_n hx hb dX6_copy_2 rfl (lv_at hl 3 rfl) ?_
      refine lv_bipush (v := (72 : Int32)) hx hb dX6_copy_3 (by decide) ?_
      refine lv_icmp_ge (tgt := 36) hx hb dX6_copy_5 (by decide) (fun hc => ?_) (fun hc => ?_)
      · replace hm := (if_pos hc).symm.trans hm
        refine lv_iconst (v := (0 : Int32)) hx hb dX6_copy_36 (by decide) ?_
        refine lv_istore_n (lv' := [(3, .int (0 : Int32)), (0, .ref h0), (1, .int l1), (2, .int l2)]) hx hb dX6_copy_37 rfl hl (by decide) rfl (fun ls hl => ?_)
        exact hB38 fu w0 l1 l2 (0 : Int32) _ _ ls hm hP hS (lv_sub hl [1, 2, 3, 0] rfl)
      replace hm := (if_neg hc).symm.trans hm
      refine lv_aload_n hx hb dX6_copy_8 rfl (lv_at hl 0 rfl) ?_
      refine va_get (D := (dC, dI)) (ci := 6) (v := .ref (a0 2)) (C := RX6) (T := TX6) (N := 11) hx hb hts i6 hown hK hP 0 rfl rfl 2 (by decide) (hts (.fieldLink RX6 13 "TwoMetalsModel" "realms" "[J") (List.mem_of_getElem? (i := 1) rfl)) (fun _ h9 => h9) rfl dX6_copy_9 ?_
      refine lv_bipush (v := (72 : Int32)) hx hb dX6_copy_12 (by decide) ?_
      refine lv_iload_n hx hb dX6_copy_14 rfl (lv_at hl 2 rfl) ?_
      refine lv_imul hx hb dX6_copy_15 ?_
      refine lv_iload_n hx hb dX6_copy_16 rfl (lv_at hl 3 rfl) ?_
      refine lv_iadd hx hb dX6_copy_17 ?_
      refine lv_aload_n hx hb dX6_copy_18 rfl (lv_at hl 0 rfl) ?_
      refine va_get (D := (dC, dI)) (ci := 6) (v := .ref (a0 2)) (C := RX6) (T := TX6) (N := 11) hx hb hts i6 hown hK hP 0 rfl rfl 2 (by decide) (hts (.fieldLink RX6 13 "TwoMetalsModel" "realms" "[J") (List.mem_of_getElem? (i := 1) rfl)) (fun _ h9 => h9) rfl dX6_copy_19 ?_
      refine lv_bipush (v := (72 : Int32)) hx hb dX6_copy_22 (by decide) ?_
      refine lv_iload_n hx hb dX6_copy_24 rfl (lv_at hl 1 rfl) ?_
      refine lv_imul hx hb dX6_copy_25 ?_
      refine lv_iload_n hx hb dX6_copy_26 rfl (lv_at hl 3 rfl) ?_
      refine lv_iadd hx hb dX6_copy_27 ?_
      obtain ⟨hi6, hm⟩ := ck_in hm
      refine va_lald hx hb hK hP 2 1 rfl rfl hi6 dX6_copy_28 ?_
      obtain ⟨hi7, hm⟩ := ck_in hm
      refine va_last hx hb hK hP (hDa _) hS 2 1 rfl rfl hi7 dX6_copy_29 (fun H locs hP _ hS => ?_)
      have hP : va_P (dC, dI) vwCl ((o_X6 cy h0 a0 (ob_L w0 2 (vp_updL (w0.2 2) (((72 : Int32) * l2) + l3).toNatClampNeg (w0.2 2 (((72 : Int32) * l1) + l3).toNatClampNeg))))) H := hP
      obtain ⟨u8, hP, hm⟩ := bn_ob (P := fun zz => va_P (dC, dI) vwCl ((o_X6 cy h0 a0 zz)) H) hm hP
      obtain ⟨x9, e10⟩ : ∃ y : Int32, y = l3 + (1 : Int32) := ⟨_, rfl⟩
      replace hm := bn_at e10 hm
      refine lv_iinc (v := x9) (lv' := [(3, .int x9), (0, .ref h0), (1, .int l1), (2, .int l2)]) hx hb dX6_copy_30 hl (k := 3) rfl (by rw [e10]; rfl) (by decide) rfl (fun ls hl => ?_)
      refine lv_goto (tgt := 2) hx hb dX6_copy_33 (by decide) ?_
      exact ih u8 l1 l2 x9 _ _ ls hm hP hS (lv_sub hl [1, 2, 3, 0] rfl)
  unfold mX6_copy at hm
  refine lv_iconst (v := (0 : Int32)) hx hb dX6_copy_0 (by decide) ?_
  refine lv_istore_n (lv' := [(3, .int (0 : Int32)), (0, .ref h0), (1, .int p1), (2, .int p2)]) hx hb dX6_copy_1 rfl hl (by decide) rfl (fun ls hl => ?_)
  exact hB2 fu w0 p1 p2 (0 : Int32) _ _ ls hm hP hS (lv_sub hl [1, 2, 3, 0] rfl)
set_option maxHeartbeats 4000000 in
set_option maxRecDepth 100000 in
theorem kcX6_isRealm (l : Launch) (dC : Nat → ClassId) (dI : Nat → Nat → Nat) (cy : Nat → ClassId) (fu : Nat) (h0 : Nat) (a0 : Nat → Nat) (w0 : ob_T) (p1 : Int32) (sz : Nat) (R : Int32) (hm : mX6_isRealm fu w0 p1 = some R) : Met l yX6_isRealm wsX6_isRealm (rmN 1 25) (va_Pc [.ref h0, .int p1] (cPre dC dI cy ((o_X6 cy h0 a0 w0)) sz)) (va_Qi (fun (r : Int32) (_ : Unit) => r = R) (fun _ => cPost dC dI cy ((o_X6 cy h0 a0 w0)) ((o_X6 cy h0 a0 w0)) sz) (va_A ((o_X6 cy h0 a0 w0)) sz)) 0 0 (va_A ((o_X6 cy h0 a0 w0)) sz) := by
  refine mt_z (cc := cX6_isRealm) (maxL := 2) (by decide) rfl (Nat.le_of_ble_eq_true rfl) rfl ?_
  intro p e s m below meth c Q A hx hb hml hown hts hK hA hD hP hret ls hl
  have hown : s.vm.findClass RX6 = some m.cls := hown
  have hl : lv_has ls 2 [(0, .ref h0), (1, .int p1)] := hl
  have hDa : ∀ v0 : ob_T, va_D A ((o_X6 cy h0 a0 v0)) := fun _ => va_D_adr hD rfl
  have i6 : ∀ w ∈ wsX60, w ∈ wsX6_isRealm := fun _ h => List.mem_cons_of_mem _ (List.mem_append_right _ h)
  have hS : va_S A s.heap s.heap [] := va_S.rf
  unfold mX6_isRealm at hm
  refine lv_iload_n hx hb dX6_isRealm_0 rfl (lv_at hl 1 rfl) ?_
  refine lv_i2l (v := p1.toInt64) hx hb dX6_isRealm_1 rfl ?_
  refine lv_lconst (v := (0 : Int64)) hx hb dX6_isRealm_2 (by decide) ?_
  refine lv_ldc2 (v := (7 : Int64)) hx hb hown (hts (.constantLong RX6 107 (7)) (List.mem_of_getElem? (i := 1) rfl)) dX6_isRealm_3 ?_
  obtain ⟨r1, hr1, hm⟩ := bn_call hm
  refine ca_si (wr := (o_X6 cy h0 a0 w0)) (wn := (o_X6 cy h0 a0 w0)) ⟨hx, hb, hml, hown, hts⟩ hK hA (hDa _) hP hS [] [0, 1, 2, 3, 4, 5, 6, 7, 8] [0, 1, 2, 3, 4, 5, 6, 7, 8] (fun sz => kcX6_in l dC dI cy fu p1.toInt64 (0 : Int64) (7 : Int64) sz r1 hr1) rfl rfl (by decide) (by decide) (by decide) rfl (va_cwS 3 hts gX6_isRealm_X6_in rfl rfl rfl ydX6_in ⟨Nat.le_of_ble_eq_true rfl, Nat.le_of_ble_eq_true rfl⟩) rfl hl.1 rfl (Nat.le_of_ble_eq_true rfl) dX6_isRealm_6 ⟨Nat.zero_le _, Nat.zero_le _⟩ (fun H locs hP hS => ?_)
  refine lv_if_eq (tgt := 30) hx hb dX6_isRealm_9 (by decide) (fun hc => ?_) (fun hc => ?_)
  · replace hm := (if_pos hc).symm.trans hm
    refine lv_iconst (v := (0 : Int32)) hx hb dX6_isRealm_30 (by decide) ?_
    obtain rfl := Option.some.inj hm
    exact hret 31 ls _ _ dX6_isRealm_31 nar_0 hP hS
  replace hm := (if_neg hc).symm.trans hm
  refine lv_aload_n hx hb dX6_isRealm_12 rfl (lv_at hl 0 rfl) ?_
  refine va_get (D := (dC, dI)) (ci := 6) (v := .ref (a0 2)) (C := RX6) (T := TX6) (N := 11) hx hb hts i6 hown hK hP 0 rfl rfl 2 (by decide) (hts (.fieldLink RX6 13 "TwoMetalsModel" "realms" "[J") (List.mem_of_getElem? (i := 2) rfl)) (fun _ h9 => h9) rfl dX6_isRealm_13 ?_
  refine lv_bipush (v := (9 : Int32)) hx hb dX6_isRealm_16 (by decide) ?_
  refine lv_iload_n hx hb dX6_isRealm_18 rfl (lv_at hl 1 rfl) ?_
  refine lv_imul hx hb dX6_isRealm_19 ?_
  obtain ⟨hi2, hm⟩ := ck_in hm
  refine va_lald hx hb hK hP 2 1 rfl rfl hi2 dX6_isRealm_20 ?_
  refine lv_lconst (v := (0 : Int64)) hx hb dX6_isRealm_21 (by decide) ?_
  refine W.lcmp hx hb dX6_isRealm_22 ?_
  refine lv_if_le (tgt := 30) hx hb dX6_isRealm_23 (by decide) (fun hc => ?_) (fun hc => ?_)
  · replace hm := (if_pos hc).symm.trans hm
    refine lv_iconst (v := (0 : Int32)) hx hb dX6_isRealm_30 (by decide) ?_
    obtain rfl := Option.some.inj hm
    exact hret 31 ls _ _ dX6_isRealm_31 nar_0 hP hS
  replace hm := (if_neg hc).symm.trans hm
  refine lv_iconst (v := (1 : Int32)) hx hb dX6_isRealm_26 (by decide) ?_
  refine lv_goto (tgt := 31) hx hb dX6_isRealm_27 (by decide) ?_
  obtain rfl := Option.some.inj hm
  exact hret 31 ls _ _ dX6_isRealm_31 nar_1 hP hS
set_option maxHeartbeats 4000000 in
set_option maxRecDepth 100000 in
theorem kcX6_mints (l : Launch) (dC : Nat → ClassId) (dI : Nat → Nat → Nat) (cy : Nat → ClassId) (fu : Nat) (h0 : Nat) (a0 : Nat → Nat) (w0 : ob_T) (p1 : Int32) (sz : Nat) (R : Int32) (hm : mX6_mints fu w0 p1 = some R) : Met l yX6_mints wsX6_mints (rmN 0 0) (va_Pc [.ref h0, .int p1] (cPre dC dI cy ((o_X6 cy h0 a0 w0)) sz)) (va_Qi (fun (r : Int32) (_ : Unit) => r = R) (fun _ => cPost dC dI cy ((o_X6 cy h0 a0 w0)) ((o_X6 cy h0 a0 w0)) sz) (va_A ((o_X6 cy h0 a0 w0)) sz)) 0 0 (va_A ((o_X6 cy h0 a0 w0)) sz) := by
  refine mt_z (cc := cX6_mints) (maxL := 2) (by decide) rfl (Nat.le_of_ble_eq_true rfl) rfl ?_
  intro p e s m below meth c Q A hx hb hml hown hts hK hA hD hP hret ls hl
  have hown : s.vm.findClass RX6 = some m.cls := hown
  have hl : lv_has ls 2 [(0, .ref h0), (1, .int p1)] := hl
  have hDa : ∀ v0 : ob_T, va_D A ((o_X6 cy h0 a0 v0)) := fun _ => va_D_adr hD rfl
  have i6 : ∀ w ∈ wsX60, w ∈ wsX6_mints := fun _ h => List.mem_cons_of_mem _ (List.mem_append_right _ h)
  have hS : va_S A s.heap s.heap [] := va_S.rf
  unfold mX6_mints at hm
  refine lv_aload_n hx hb dX6_mints_0 rfl (lv_at hl 0 rfl) ?_
  refine va_get (D := (dC, dI)) (ci := 6) (v := .ref (a0 2)) (C := RX6) (T := TX6) (N := 11) hx hb hts i6 hown hK hP 0 rfl rfl 2 (by decide) (hts (.fieldLink RX6 13 "TwoMetalsModel" "realms" "[J") (List.mem_of_getElem? (i := 1) rfl)) (fun _ h9 => h9) rfl dX6_mints_1 ?_
  refine lv_bipush (v := (9 : Int32)) hx hb dX6_mints_4 (by decide) ?_
  refine lv_iload_n hx hb dX6_mints_6 rfl (lv_at hl 1 rfl) ?_
  refine lv_imul hx hb dX6_mints_7 ?_
  refine lv_bipush (v := (6 : Int32)) hx hb dX6_mints_8 (by decide) ?_
  refine lv_iadd hx hb dX6_mints_10 ?_
  obtain ⟨hi1, hm⟩ := ck_in hm
  refine va_lald hx hb hK hP 2 1 rfl rfl hi1 dX6_mints_11 ?_
  refine lv_lconst (v := (1 : Int64)) hx hb dX6_mints_12 (by decide) ?_
  refine W.lcmp hx hb dX6_mints_13 ?_
  refine lv_if_ne (tgt := 21) hx hb dX6_mints_14 (by decide) (fun hc => ?_) (fun hc => ?_)
  · replace hm := (if_neg hc).symm.trans hm
    refine lv_iconst (v := (0 : Int32)) hx hb dX6_mints_21 (by decide) ?_
    obtain rfl := Option.some.inj hm
    exact hret 22 ls _ _ dX6_mints_22 nar_0 hP hS
  replace hm := (if_pos hc).symm.trans hm
  refine lv_iconst (v := (1 : Int32)) hx hb dX6_mints_17 (by decide) ?_
  refine lv_goto (tgt := 22) hx hb dX6_mints_18 (by decide) ?_
  obtain rfl := Option.some.inj hm
  exact hret 22 ls _ _ dX6_mints_22 nar_1 hP hS
set_option maxHeartbeats 4000000 in
set_option maxRecDepth 100000 in
theorem kcX6_realmMany (l : Launch) (dC : Nat → ClassId) (dI : Nat → Nat → Nat) (cy : Nat → ClassId) (fu : Nat) (h0 : Nat) (a0 : Nat → Nat) (w0 : ob_T) (p1 : Int32) (sz : Nat) (R : Int32) (hm : mX6_realmMany fu w0 p1 = some R) : Met l yX6_realmMany wsX6_realmMany (rmN 2 46) (va_Pc [.ref h0, .int p1] (cPre dC dI cy ((o_X6 cy h0 a0 w0)) sz)) (va_Qi (fun (r : Int32) (_ : Unit) => r = R) (fun _ => cPost dC dI cy ((o_X6 cy h0 a0 w0)) ((o_X6 cy h0 a0 w0)) sz) (va_A ((o_X6 cy h0 a0 w0)) sz)) 0 0 (va_A ((o_X6 cy h0 a0 w0)) sz) := by
  refine mt_i (cc := cX6_realmMany) (maxL := 4) (by decide) rfl (Nat.le_of_ble_eq_true rfl) rfl ?_
  intro p e s m below meth c Q A hx hb hml hown hts hK hA hD hP hret ls hl
  have hown : s.vm.findClass RX6 = some m.cls := hown
  have hl : lv_has ls 4 [(0, .ref h0), (1, .int p1)] := hl
  have hDa : ∀ v0 : ob_T, va_D A ((o_X6 cy h0 a0 v0)) := fun _ => va_D_adr hD rfl
  have hS : va_S A s.heap s.heap [] := va_S.rf
  have hB36 : ∀ (k4 : Int32 → Int32 → Int32 → Option (Int32)) (_ : ∀ (l1 : Int32) (l2 : Int32) (l3 : Int32) (H : Heap) (locs : List Loc) (ls : Array Slot), k4 l1 l2 l3 = some R → va_P (dC, dI) vwCl ((o_X6 cy h0 a0 w0)) H → va_S A s.heap H locs → lv_has ls 4 [(0, .ref h0), (1, .int l1), (2, .int l2), (3, .int l3)] → W p l e (rmN 2 46) s m ([.ref h0, .int p1] : List Value).toArray below meth c H locs 0 0 Q (F0 m 4 ls [])) (l1 : Int32) (l3 : Int32) (s0 : Int32) (s1 : Int32) (H : Heap) (locs : List Loc) (ls : Array Slot), bX6_realmMany_36 fu w0 k4 l1 l3 s0 s1 = some R → va_P (dC, dI) vwCl ((o_X6 cy h0 a0 w0)) H → va_S A s.heap H locs → lv_has ls 4 [(0, .ref h0), (1, .int l1), (3, .int l3)] → W p l e (rmN 2 46) s m ([.ref h0, .int p1] : List Value).toArray below meth c H locs 0 0 Q (F0 m 36 ls [.int s0, .int s1]) := by
    intro k4 hk4 l1 l3 s0 s1 H locs ls hm hP hS hl
    unfold bX6_realmMany_36 at hm
    refine lv_iadd hx hb dX6_realmMany_36 ?_
    refine lv_topi (fun x1 e2 => ?_)
    replace hm := bn_at e2 hm
    refine lv_istore_n (lv' := [(2, .int x1), (0, .ref h0), (1, .int l1), (3, .int l3)]) hx hb dX6_realmMany_37 rfl hl (by decide) rfl (fun ls hl => ?_)
    obtain ⟨x3, e4⟩ : ∃ y : Int32, y = l3 + (1 : Int32) := ⟨_, rfl⟩
    replace hm := bn_at e4 hm
    refine lv_iinc (v := x3) (lv' := [(3, .int x3), (2, .int x1), (0, .ref h0), (1, .int l1)]) hx hb dX6_realmMany_38 hl (k := 3) rfl (by rw [e4]; rfl) (by decide) rfl (fun ls hl => ?_)
    refine lv_goto (tgt := 4) hx hb dX6_realmMany_41 (by decide) ?_
    exact hk4 l1 x1 x3 _ _ ls hm hP hS (lv_sub hl [2, 3, 1, 0] rfl)
  have hB4 : ∀ (nn : Nat) (l1 : Int32) (l2 : Int32) (l3 : Int32) (H : Heap) (locs : List Loc) (ls : Array Slot), bX6_realmMany_4 fu w0 nn l1 l2 l3 = some R → va_P (dC, dI) vwCl ((o_X6 cy h0 a0 w0)) H → va_S A s.heap H locs → lv_has ls 4 [(0, .ref h0), (1, .int l1), (2, .int l2), (3, .int l3)] → W p l e (rmN 2 46) s m ([.ref h0, .int p1] : List Value).toArray below meth c H locs 0 0 Q (F0 m 4 ls []) := by
    intro nn
    induction nn with
    | zero => intro l1 l2 l3 H locs ls hm; exact no_some ((bX6_realmMany_4_0 fu w0 l1 l2 l3).symm.trans hm)
    | succ nn ih =>
      intro l1 l2 l3 H locs ls hm hP hS hl
      replace hm := (bX6_realmMany_4_s fu w0 nn l1 l2 l3).symm.trans hm
      refine lv_iload_n hx hb dX6_realmMany_4 rfl (lv_at hl 3 rfl) ?_
      refine lv_bipush (v := (8 : Int32)) hx hb dX6_realmMany_5 (by decide) ?_
      refine lv_icmp_ge (tgt := 44) hx hb dX6_realmMany_7 (by decide) (fun hc => ?_) (fun hc => ?_)
      · replace hm := (if_pos hc).symm.trans hm
        refine lv_iload_n hx hb dX6_realmMany_44 rfl (lv_at hl 2 rfl) ?_
        obtain rfl := Option.some.inj hm
        exact hret 45 ls _ _ dX6_realmMany_45 hP hS
      replace hm := (if_neg hc).symm.trans hm
      refine lv_iload_n hx hb dX6_realmMany_10 rfl (lv_at hl 2 rfl) ?_
      refine lv_aload_n hx hb dX6_realmMany_11 rfl (lv_at hl 0 rfl) ?_
      refine lv_iload_n hx hb dX6_realmMany_12 rfl (lv_at hl 3 rfl) ?_
      obtain ⟨r5, hr5, hm⟩ := bn_call hm
      refine ca_vi (wr := []) (wn := (o_X6 cy h0 a0 w0)) ⟨hx, hb, hml, hown, hts⟩ hK hA (hDa _) hP hS [0, 1, 2, 3, 4, 5, 6, 7, 8] [] [0, 1, 2, 3, 4, 5, 6, 7, 8] (fun sz => kcX6_isRealm l dC dI cy fu h0 a0 w0 l3 sz r5 hr5) rfl rfl (by decide) (by decide) (by decide) rfl (cwV 1 hts gX6_realmMany_X6_isRealm rfl rfl rfl ⟨rfl, ydX6_isRealm⟩ ⟨Nat.le_of_ble_eq_true rfl, Nat.le_of_ble_eq_true rfl⟩) 6 0 rfl rfl rfl rfl hl.1 rfl (Nat.le_of_ble_eq_true rfl) dX6_realmMany_13 ⟨Nat.zero_le _, Nat.zero_le _⟩ (fun H locs hP hS => ?_)
      refine lv_if_eq (tgt := 35) hx hb dX6_realmMany_16 (by decide) (fun hc => ?_) (fun hc => ?_)
      · replace hm := (if_pos hc).symm.trans hm
        refine lv_iconst (v := (0 : Int32)) hx hb dX6_realmMany_35 (by decide) ?_
        exact hB36 (bX6_realmMany_4 fu w0 nn) ih l1 l3 (0 : Int32) l2 _ _ ls hm hP hS (lv_sub hl [0, 1, 3] rfl)
      replace hm := (if_neg hc).symm.trans hm
      refine lv_iload_n hx hb dX6_realmMany_19 rfl (lv_at hl 1 rfl) ?_
      refine lv_if_eq (tgt := 31) hx hb dX6_realmMany_20 (by decide) (fun hc => ?_) (fun hc => ?_)
      · replace hm := (if_pos hc).symm.trans hm
        refine lv_iconst (v := (1 : Int32)) hx hb dX6_realmMany_31 (by decide) ?_
        refine lv_goto (tgt := 36) hx hb dX6_realmMany_32 (by decide) ?_
        exact hB36 (bX6_realmMany_4 fu w0 nn) ih l1 l3 (1 : Int32) l2 _ _ ls hm hP hS (lv_sub hl [0, 1, 3] rfl)
      replace hm := (if_neg hc).symm.trans hm
      refine lv_aload_n hx hb dX6_realmMany_23 rfl (lv_at hl 0 rfl) ?_
      refine lv_iload_n hx hb dX6_realmMany_24 rfl (lv_at hl 3 rfl) ?_
      obtain ⟨r6, hr6, hm⟩ := bn_call hm
      refine ca_vi (wr := []) (wn := (o_X6 cy h0 a0 w0)) ⟨hx, hb, hml, hown, hts⟩ hK hA (hDa _) hP hS [0, 1, 2, 3, 4, 5, 6, 7, 8] [] [0, 1, 2, 3, 4, 5, 6, 7, 8] (fun sz => kcX6_mints l dC dI cy fu h0 a0 w0 l3 sz r6 hr6) rfl rfl (by decide) (by decide) (by decide) rfl (cwV 1 hts gX6_realmMany_X6_mints rfl rfl rfl ⟨rfl, ydX6_mints⟩ ⟨Nat.le_of_ble_eq_true rfl, Nat.le_of_ble_eq_true rfl⟩) 6 0 rfl rfl rfl rfl hl.1 rfl (Nat.le_of_ble_eq_true rfl) dX6_realmMany_25 ⟨Nat.zero_le _, Nat.zero_le _⟩ (fun H locs hP hS => ?_)
      refine lv_if_eq (tgt := 35) hx hb dX6_realmMany_28 (by decide) (fun hc => ?_) (fun hc => ?_)
      · replace hm := (if_pos hc).symm.trans hm
        refine lv_iconst (v := (0 : Int32)) hx hb dX6_realmMany_35 (by decide) ?_
        exact hB36 (bX6_realmMany_4 fu w0 nn) ih l1 l3 (0 : Int32) l2 _ _ ls hm hP hS (lv_sub hl [0, 1, 3] rfl)
      replace hm := (if_neg hc).symm.trans hm
      refine lv_iconst (v := (1 : Int32)) hx hb dX6_realmMany_31 (by decide) ?_
      refine lv_goto (tgt := 36) hx hb dX6_realmMany_32 (by decide) ?_
      exact hB36 (bX6_realmMany_4 fu w0 nn) ih l1 l3 (1 : Int32) l2 _ _ ls hm hP hS (lv_sub hl [0, 1, 3] rfl)
  unfold mX6_realmMany at hm
  refine lv_iconst (v := (0 : Int32)) hx hb dX6_realmMany_0 (by decide) ?_
  refine lv_istore_n (lv' := [(2, .int (0 : Int32)), (0, .ref h0), (1, .int p1)]) hx hb dX6_realmMany_1 rfl hl (by decide) rfl (fun ls hl => ?_)
  refine lv_iconst (v := (0 : Int32)) hx hb dX6_realmMany_2 (by decide) ?_
  refine lv_istore_n (lv' := [(3, .int (0 : Int32)), (2, .int (0 : Int32)), (0, .ref h0), (1, .int p1)]) hx hb dX6_realmMany_3 rfl hl (by decide) rfl (fun ls hl => ?_)
  exact hB4 fu p1 (0 : Int32) (0 : Int32) _ _ ls hm hP hS (lv_sub hl [2, 3, 1, 0] rfl)
set_option maxHeartbeats 4000000 in
set_option maxRecDepth 100000 in
theorem kcX6_lay (l : Launch) (dC : Nat → ClassId) (dI : Nat → Nat → Nat) (cy : Nat → ClassId) (fu : Nat) (h0 : Nat) (a0 : Nat → Nat) (w0 : ob_T) (sz : Nat) (R : Int32 × ob_T) (hm : mX6_lay fu w0 = some R) : Met l yX6_lay wsX6_lay (rmN 5 114) (va_Pc [.ref h0] (cPre dC dI cy ((o_X6 cy h0 a0 w0)) sz)) (va_Qi (fun (r : Int32) (_ : Unit) => r = R.1) (fun _ => cPost dC dI cy ((o_X6 cy h0 a0 w0)) ((o_X6 cy h0 a0 R.2)) sz) (va_A ((o_X6 cy h0 a0 w0)) sz)) 0 0 (va_A ((o_X6 cy h0 a0 w0)) sz) := by
  refine mt_i (cc := cX6_lay) (maxL := 2) (by decide) rfl (Nat.le_of_ble_eq_true rfl) rfl ?_
  intro p e s m below meth c Q A hx hb hml hown hts hK hA hD hP hret ls hl
  have hown : s.vm.findClass RX6 = some m.cls := hown
  have hl : lv_has ls 2 [(0, .ref h0)] := hl
  have hDa : ∀ v0 : ob_T, va_D A ((o_X6 cy h0 a0 v0)) := fun _ => va_D_adr hD rfl
  have i6 : ∀ w ∈ wsX60, w ∈ wsX6_lay := fun _ h => List.mem_cons_of_mem _ (List.mem_append_right _ h)
  have hS : va_S A s.heap s.heap [] := va_S.rf
  have hB44 : ∀ (nn : Nat) (w0 : ob_T) (l1 : Int32) (H : Heap) (locs : List Loc) (ls : Array Slot), bX6_lay_44 fu nn w0 l1 = some R → va_P (dC, dI) vwCl ((o_X6 cy h0 a0 w0)) H → va_S A s.heap H locs → lv_has ls 2 [(0, .ref h0), (1, .int l1)] → W p l e (rmN 5 114) s m ([.ref h0] : List Value).toArray below meth c H locs 0 0 Q (F0 m 44 ls []) := by
    intro nn
    induction nn with
    | zero => intro w0 l1 H locs ls hm; exact no_some ((bX6_lay_44_0 fu w0 l1).symm.trans hm)
    | succ nn ih =>
      intro w0 l1 H locs ls hm hP hS hl
      replace hm := (bX6_lay_44_s fu nn w0 l1).symm.trans hm
      refine lv_iload_n hx hb dX6_lay_44 rfl (lv_at hl 1 rfl) ?_
      refine lv_sipush (v := (180 : Int32)) hx hb dX6_lay_45 (by decide) ?_
      refine lv_icmp_ge (tgt := 73) hx hb dX6_lay_48 (by decide) (fun hc => ?_) (fun hc => ?_)
      · replace hm := (if_pos hc).symm.trans hm
        refine lv_aload_n hx hb dX6_lay_73 rfl (lv_at hl 0 rfl) ?_
        refine lv_iconst (v := (0 : Int32)) hx hb dX6_lay_74 (by decide) ?_
        refine va_put (D := (dC, dI)) (ci := 6) (v := .int (0 : Int32)) (ty := .int) (C := RX6) (T := TX6) (N := 11) hx hb hts i6 tyX6 tyX6_ok nmX6 hown hK hP (hDa _) hS 0 rfl rfl 7 (by decide) (hts (.fieldLink RX6 100 "TwoMetalsModel" "keptMany" "I") (List.mem_of_getElem? (i := 4) rfl)) (fun _ h9 => h9) rfl (tyX6_ok 7 (by decide)) rfl rfl (Nat.le_of_ble_eq_true rfl) dX6_lay_75 (fun H locs hP _ hS => ?_)
        have hP : va_P (dC, dI) vwCl ((o_X6 cy h0 a0 (ob_I w0 7 (fun _ => (0 : Int32))))) H := hP
        obtain ⟨u1, hP, hm⟩ := bn_ob (P := fun zz => va_P (dC, dI) vwCl ((o_X6 cy h0 a0 zz)) H) hm hP
        refine lv_aload_n hx hb dX6_lay_78 rfl (lv_at hl 0 rfl) ?_
        refine lv_iconst (v := (0 : Int32)) hx hb dX6_lay_79 (by decide) ?_
        obtain ⟨r2, hr2, hm⟩ := bn_call hm
        refine ca_vi (wr := []) (wn := (o_X6 cy h0 a0 u1)) ⟨hx, hb, hml, hown, hts⟩ hK hA (hDa _) hP hS [0, 1, 2, 3, 4, 5, 6, 7, 8] [] [0, 1, 2, 3, 4, 5, 6, 7, 8] (fun sz => kcX6_realmMany l dC dI cy fu h0 a0 u1 (0 : Int32) sz r2 hr2) rfl rfl (by decide) (by decide) (by decide) rfl (cwV 1 hts gX6_lay_X6_realmMany rfl rfl rfl ⟨rfl, ydX6_realmMany⟩ ⟨Nat.le_of_ble_eq_true rfl, Nat.le_of_ble_eq_true rfl⟩) 6 0 rfl rfl rfl rfl hl.1 rfl (Nat.le_of_ble_eq_true rfl) dX6_lay_80 ⟨Nat.zero_le _, Nat.zero_le _⟩ (fun H locs hP hS => ?_)
        obtain rfl := Option.some.inj hm
        exact hret 83 ls _ _ dX6_lay_83 hP hS
      replace hm := (if_neg hc).symm.trans hm
      refine lv_aload_n hx hb dX6_lay_51 rfl (lv_at hl 0 rfl) ?_
      refine va_get (D := (dC, dI)) (ci := 6) (v := .ref (a0 6)) (C := RX6) (T := TX6) (N := 11) hx hb hts i6 hown hK hP 0 rfl rfl 6 (by decide) (hts (.fieldLink RX6 26 "TwoMetalsModel" "mines" "[I") (List.mem_of_getElem? (i := 3) rfl)) (fun _ h9 => h9) rfl dX6_lay_52 ?_
      refine lv_iload_n hx hb dX6_lay_55 rfl (lv_at hl 1 rfl) ?_
      refine lv_aload_n hx hb dX6_lay_56 rfl (lv_at hl 0 rfl) ?_
      refine va_get (D := (dC, dI)) (ci := 6) (v := .ref (a0 6)) (C := RX6) (T := TX6) (N := 11) hx hb hts i6 hown hK hP 0 rfl rfl 6 (by decide) (hts (.fieldLink RX6 26 "TwoMetalsModel" "mines" "[I") (List.mem_of_getElem? (i := 3) rfl)) (fun _ h9 => h9) rfl dX6_lay_57 ?_
      refine lv_sipush (v := (180 : Int32)) hx hb dX6_lay_60 (by decide) ?_
      refine lv_iload_n hx hb dX6_lay_63 rfl (lv_at hl 1 rfl) ?_
      refine lv_iadd hx hb dX6_lay_64 ?_
      obtain ⟨hi3, hm⟩ := ck_in hm
      refine va_iald hx hb hK hP 6 0 rfl rfl hi3 dX6_lay_65 ?_
      obtain ⟨hi4, hm⟩ := ck_in hm
      refine va_iast hx hb hK hP (hDa _) hS 6 0 rfl rfl hi4 dX6_lay_66 (fun H locs hP _ hS => ?_)
      have hP : va_P (dC, dI) vwCl ((o_X6 cy h0 a0 (ob_I w0 6 (upd (w0.1 6) l1.toNatClampNeg (w0.1 6 ((180 : Int32) + l1).toNatClampNeg))))) H := hP
      obtain ⟨u5, hP, hm⟩ := bn_ob (P := fun zz => va_P (dC, dI) vwCl ((o_X6 cy h0 a0 zz)) H) hm hP
      obtain ⟨x6, e7⟩ : ∃ y : Int32, y = l1 + (1 : Int32) := ⟨_, rfl⟩
      replace hm := bn_at e7 hm
      refine lv_iinc (v := x6) (lv' := [(1, .int x6), (0, .ref h0)]) hx hb dX6_lay_67 hl (k := 1) rfl (by rw [e7]; rfl) (by decide) rfl (fun ls hl => ?_)
      refine lv_goto (tgt := 44) hx hb dX6_lay_70 (by decide) ?_
      exact ih u5 x6 _ _ ls hm hP hS (lv_sub hl [1, 0] rfl)
  unfold mX6_lay at hm
  refine lv_aload_n hx hb dX6_lay_0 rfl (lv_at hl 0 rfl) ?_
  obtain ⟨r8, hr8, hm⟩ := bn_call hm
  refine ca_vi (wr := []) (wn := (o_X6 cy h0 a0 r8.2)) ⟨hx, hb, hml, hown, hts⟩ hK hA (hDa _) hP hS [0, 1, 2, 3, 4, 5, 6, 7, 8] [] [0, 1, 2, 3, 4, 5, 6, 7, 8] (fun sz => kcX6_readAll l dC dI cy fu h0 a0 w0 sz r8 hr8) rfl rfl (by decide) (by decide) (by decide) rfl (cwV 0 hts gX6_lay_X6_readAll rfl rfl rfl ⟨rfl, ydX6_readAll⟩ ⟨Nat.le_of_ble_eq_true rfl, Nat.le_of_ble_eq_true rfl⟩) 6 0 rfl rfl rfl rfl hl.1 rfl (Nat.le_of_ble_eq_true rfl) dX6_lay_1 ⟨Nat.zero_le _, Nat.zero_le _⟩ (fun H locs hP hS => ?_)
  refine lv_bipush (v := (-4 : Int32)) hx hb dX6_lay_4 (by decide) ?_
  refine lv_icmp_eq (tgt := 12) hx hb dX6_lay_6 (by decide) (fun hc => ?_) (fun hc => ?_)
  · replace hm := (if_pos hc).symm.trans hm
    refine lv_aload_n hx hb dX6_lay_12 rfl (lv_at hl 0 rfl) ?_
    refine lv_iconst (v := (4 : Int32)) hx hb dX6_lay_13 (by decide) ?_
    refine lv_iconst (v := (0 : Int32)) hx hb dX6_lay_14 (by decide) ?_
    obtain ⟨r9, hr9, hm⟩ := bn_call hm
    refine ca_vv (wr := []) (wn := (o_X6 cy h0 a0 r9)) ⟨hx, hb, hml, hown, hts⟩ hK hA (hDa _) hP hS [0, 1, 2, 3, 4, 5, 6, 7, 8] [] [0, 1, 2, 3, 4, 5, 6, 7, 8] (fun sz => kcX6_copy l dC dI cy fu h0 a0 r8.2 (4 : Int32) (0 : Int32) sz r9 hr9) rfl rfl (by decide) (by decide) (by decide) rfl (cwV 2 hts gX6_lay_X6_copy rfl rfl rfl ⟨rfl, ydX6_copy⟩ ⟨Nat.le_of_ble_eq_true rfl, Nat.le_of_ble_eq_true rfl⟩) 6 0 rfl rfl rfl rfl hl.1 rfl (Nat.le_of_ble_eq_true rfl) dX6_lay_15 ⟨Nat.zero_le _, Nat.zero_le _⟩ (fun H locs hP hS => ?_)
    refine lv_aload_n hx hb dX6_lay_18 rfl (lv_at hl 0 rfl) ?_
    refine va_get (D := (dC, dI)) (ci := 6) (v := .ref (a0 4)) (C := RX6) (T := TX6) (N := 11) hx hb hts i6 hown hK hP 0 rfl rfl 4 (by decide) (hts (.fieldLink RX6 20 "TwoMetalsModel" "scarce" "[I") (List.mem_of_getElem? (i := 1) rfl)) (fun _ h9 => h9) rfl dX6_lay_19 ?_
    refine lv_iconst (v := (0 : Int32)) hx hb dX6_lay_22 (by decide) ?_
    refine lv_aload_n hx hb dX6_lay_23 rfl (lv_at hl 0 rfl) ?_
    refine va_get (D := (dC, dI)) (ci := 6) (v := .ref (a0 4)) (C := RX6) (T := TX6) (N := 11) hx hb hts i6 hown hK hP 0 rfl rfl 4 (by decide) (hts (.fieldLink RX6 20 "TwoMetalsModel" "scarce" "[I") (List.mem_of_getElem? (i := 1) rfl)) (fun _ h9 => h9) rfl dX6_lay_24 ?_
    refine lv_iconst (v := (1 : Int32)) hx hb dX6_lay_27 (by decide) ?_
    obtain ⟨hi10, hm⟩ := ck_in hm
    refine va_iald hx hb hK hP 4 0 rfl rfl hi10 dX6_lay_28 ?_
    obtain ⟨hi11, hm⟩ := ck_in hm
    refine va_iast hx hb hK hP (hDa _) hS 4 0 rfl rfl hi11 dX6_lay_29 (fun H locs hP _ hS => ?_)
    have hP : va_P (dC, dI) vwCl ((o_X6 cy h0 a0 (ob_I r9 4 (upd (r9.1 4) (0 : Int32).toNatClampNeg (r9.1 4 (1 : Int32).toNatClampNeg))))) H := hP
    obtain ⟨u12, hP, hm⟩ := bn_ob (P := fun zz => va_P (dC, dI) vwCl ((o_X6 cy h0 a0 zz)) H) hm hP
    refine lv_aload_n hx hb dX6_lay_30 rfl (lv_at hl 0 rfl) ?_
    refine va_get (D := (dC, dI)) (ci := 6) (v := .ref (a0 5)) (C := RX6) (T := TX6) (N := 11) hx hb hts i6 hown hK hP 0 rfl rfl 5 (by decide) (hts (.fieldLink RX6 23 "TwoMetalsModel" "mineMany" "[I") (List.mem_of_getElem? (i := 2) rfl)) (fun _ h9 => h9) rfl dX6_lay_31 ?_
    refine lv_iconst (v := (0 : Int32)) hx hb dX6_lay_34 (by decide) ?_
    refine lv_aload_n hx hb dX6_lay_35 rfl (lv_at hl 0 rfl) ?_
    refine va_get (D := (dC, dI)) (ci := 6) (v := .ref (a0 5)) (C := RX6) (T := TX6) (N := 11) hx hb hts i6 hown hK hP 0 rfl rfl 5 (by decide) (hts (.fieldLink RX6 23 "TwoMetalsModel" "mineMany" "[I") (List.mem_of_getElem? (i := 2) rfl)) (fun _ h9 => h9) rfl dX6_lay_36 ?_
    refine lv_iconst (v := (1 : Int32)) hx hb dX6_lay_39 (by decide) ?_
    refine va_iald hx hb hK hP 5 0 rfl rfl hi10 dX6_lay_40 ?_
    refine va_iast hx hb hK hP (hDa _) hS 5 0 rfl rfl hi11 dX6_lay_41 (fun H locs hP _ hS => ?_)
    have hP : va_P (dC, dI) vwCl ((o_X6 cy h0 a0 (ob_I u12 5 (upd (u12.1 5) (0 : Int32).toNatClampNeg (u12.1 5 (1 : Int32).toNatClampNeg))))) H := hP
    obtain ⟨u13, hP, hm⟩ := bn_ob (P := fun zz => va_P (dC, dI) vwCl ((o_X6 cy h0 a0 zz)) H) hm hP
    refine lv_iconst (v := (0 : Int32)) hx hb dX6_lay_42 (by decide) ?_
    refine lv_istore_n (lv' := [(1, .int (0 : Int32)), (0, .ref h0)]) hx hb dX6_lay_43 rfl hl (by decide) rfl (fun ls hl => ?_)
    exact hB44 fu u13 (0 : Int32) _ _ ls hm hP hS (lv_sub hl [1, 0] rfl)
  replace hm := (if_neg hc).symm.trans hm
  refine lv_bipush (v := (-2 : Int32)) hx hb dX6_lay_9 (by decide) ?_
  obtain rfl := Option.some.inj hm
  exact hret 11 ls _ _ dX6_lay_11 hP hS
set_option maxHeartbeats 4000000 in
set_option maxRecDepth 100000 in
theorem kcX6_realm (l : Launch) (dC : Nat → ClassId) (dI : Nat → Nat → Nat) (cy : Nat → ClassId) (fu : Nat) (h0 : Nat) (a0 : Nat → Nat) (w0 : ob_T) (p1 : Int32) (p2 : Int32) (sz : Nat) (R : Int64) (hm : mX6_realm fu w0 p1 p2 = some R) : Met l yX6_realm wsX6_realm (rmN 2 46) (va_Pc [.ref h0, .int p1, .int p2] (cPre dC dI cy ((o_X6 cy h0 a0 w0)) sz)) (va_Ql (fun (r : Int64) (_ : Unit) => r = R) (fun _ => cPost dC dI cy ((o_X6 cy h0 a0 w0)) ((o_X6 cy h0 a0 w0)) sz) (va_A ((o_X6 cy h0 a0 w0)) sz)) 0 0 (va_A ((o_X6 cy h0 a0 w0)) sz) := by
  refine mt_l (cc := cX6_realm) (maxL := 3) (by decide) rfl (Nat.le_of_ble_eq_true rfl) rfl ?_
  intro p e s m below meth c Q A hx hb hml hown hts hK hA hD hP hret ls hl
  have hown : s.vm.findClass RX6 = some m.cls := hown
  have hl : lv_has ls 3 [(0, .ref h0), (1, .int p1), (2, .int p2)] := hl
  have hDa : ∀ v0 : ob_T, va_D A ((o_X6 cy h0 a0 v0)) := fun _ => va_D_adr hD rfl
  have i6 : ∀ w ∈ wsX60, w ∈ wsX6_realm := fun _ h => List.mem_cons_of_mem _ (List.mem_append_right _ h)
  have hS : va_S A s.heap s.heap [] := va_S.rf
  have hB34 : ∀ (H : Heap) (locs : List Loc) (ls : Array Slot), bX6_realm_34 fu w0  = some R → va_P (dC, dI) vwCl ((o_X6 cy h0 a0 w0)) H → va_S A s.heap H locs → lv_has ls 3 [] → W p l e (rmN 2 46) s m ([.ref h0, .int p1, .int p2] : List Value).toArray below meth c H locs 0 0 Q (F0 m 34 ls []) := by
    intro  H locs ls hm hP hS hl
    unfold bX6_realm_34 at hm
    refine lv_ldc2 (v := (-1 : Int64)) hx hb hown (hts (.constantLong RX6 39 (-1)) (List.mem_of_getElem? (i := 3) rfl)) dX6_realm_34 ?_
    obtain rfl := Option.some.inj hm
    exact hret 37 ls _ _ dX6_realm_37 hP hS
  unfold mX6_realm at hm
  refine lv_aload_n hx hb dX6_realm_0 rfl (lv_at hl 0 rfl) ?_
  refine lv_iload_n hx hb dX6_realm_1 rfl (lv_at hl 1 rfl) ?_
  obtain ⟨r1, hr1, hm⟩ := bn_call hm
  refine ca_vi (wr := []) (wn := (o_X6 cy h0 a0 w0)) ⟨hx, hb, hml, hown, hts⟩ hK hA (hDa _) hP hS [0, 1, 2, 3, 4, 5, 6, 7, 8] [] [0, 1, 2, 3, 4, 5, 6, 7, 8] (fun sz => kcX6_isRealm l dC dI cy fu h0 a0 w0 p1 sz r1 hr1) rfl rfl (by decide) (by decide) (by decide) rfl (cwV 1 hts gX6_realm_X6_isRealm rfl rfl rfl ⟨rfl, ydX6_isRealm⟩ ⟨Nat.le_of_ble_eq_true rfl, Nat.le_of_ble_eq_true rfl⟩) 6 0 rfl rfl rfl rfl hl.1 rfl (Nat.le_of_ble_eq_true rfl) dX6_realm_2 ⟨Nat.zero_le _, Nat.zero_le _⟩ (fun H locs hP hS => ?_)
  refine lv_if_eq (tgt := 34) hx hb dX6_realm_5 (by decide) (fun hc => ?_) (fun hc => ?_)
  · replace hm := (if_pos hc).symm.trans hm
    exact hB34  _ _ ls hm hP hS (lv_sub hl [] rfl)
  replace hm := (if_neg hc).symm.trans hm
  refine lv_iload_n hx hb dX6_realm_8 rfl (lv_at hl 2 rfl) ?_
  refine lv_i2l (v := p2.toInt64) hx hb dX6_realm_9 rfl ?_
  refine lv_lconst (v := (0 : Int64)) hx hb dX6_realm_10 (by decide) ?_
  refine lv_ldc2 (v := (7 : Int64)) hx hb hown (hts (.constantLong RX6 107 (7)) (List.mem_of_getElem? (i := 1) rfl)) dX6_realm_11 ?_
  obtain ⟨r2, hr2, hm⟩ := bn_call hm
  refine ca_si (wr := (o_X6 cy h0 a0 w0)) (wn := (o_X6 cy h0 a0 w0)) ⟨hx, hb, hml, hown, hts⟩ hK hA (hDa _) hP hS [] [0, 1, 2, 3, 4, 5, 6, 7, 8] [0, 1, 2, 3, 4, 5, 6, 7, 8] (fun sz => kcX6_in l dC dI cy fu p2.toInt64 (0 : Int64) (7 : Int64) sz r2 hr2) rfl rfl (by decide) (by decide) (by decide) rfl (va_cwS 3 hts gX6_realm_X6_in rfl rfl rfl ydX6_in ⟨Nat.le_of_ble_eq_true rfl, Nat.le_of_ble_eq_true rfl⟩) rfl hl.1 rfl (Nat.le_of_ble_eq_true rfl) dX6_realm_14 ⟨Nat.zero_le _, Nat.zero_le _⟩ (fun H locs hP hS => ?_)
  refine lv_if_eq (tgt := 34) hx hb dX6_realm_17 (by decide) (fun hc => ?_) (fun hc => ?_)
  · replace hm := (if_pos hc).symm.trans hm
    exact hB34  _ _ ls hm hP hS (lv_sub hl [] rfl)
  replace hm := (if_neg hc).symm.trans hm
  refine lv_aload_n hx hb dX6_realm_20 rfl (lv_at hl 0 rfl) ?_
  refine va_get (D := (dC, dI)) (ci := 6) (v := .ref (a0 2)) (C := RX6) (T := TX6) (N := 11) hx hb hts i6 hown hK hP 0 rfl rfl 2 (by decide) (hts (.fieldLink RX6 13 "TwoMetalsModel" "realms" "[J") (List.mem_of_getElem? (i := 2) rfl)) (fun _ h9 => h9) rfl dX6_realm_21 ?_
  refine lv_bipush (v := (9 : Int32)) hx hb dX6_realm_24 (by decide) ?_
  refine lv_iload_n hx hb dX6_realm_26 rfl (lv_at hl 1 rfl) ?_
  refine lv_imul hx hb dX6_realm_27 ?_
  refine lv_iload_n hx hb dX6_realm_28 rfl (lv_at hl 2 rfl) ?_
  refine lv_iadd hx hb dX6_realm_29 ?_
  obtain ⟨hi3, hm⟩ := ck_in hm
  refine va_lald hx hb hK hP 2 1 rfl rfl hi3 dX6_realm_30 ?_
  refine lv_goto (tgt := 37) hx hb dX6_realm_31 (by decide) ?_
  obtain rfl := Option.some.inj hm
  exact hret 37 ls _ _ dX6_realm_37 hP hS
set_option maxHeartbeats 4000000 in
set_option maxRecDepth 100000 in
theorem kcX6_ratio (l : Launch) (dC : Nat → ClassId) (dI : Nat → Nat → Nat) (cy : Nat → ClassId) (fu : Nat) (h0 : Nat) (a0 : Nat → Nat) (w0 : ob_T) (sz : Nat) (R : Int64) (hm : mX6_ratio fu w0 = some R) : Met l yX6_ratio wsX6_ratio (rmN 0 0) (va_Pc [.ref h0] (cPre dC dI cy ((o_X6 cy h0 a0 w0)) sz)) (va_Ql (fun (r : Int64) (_ : Unit) => r = R) (fun _ => cPost dC dI cy ((o_X6 cy h0 a0 w0)) ((o_X6 cy h0 a0 w0)) sz) (va_A ((o_X6 cy h0 a0 w0)) sz)) 0 0 (va_A ((o_X6 cy h0 a0 w0)) sz) := by
  refine mt_l (cc := cX6_ratio) (maxL := 3) (by decide) rfl (Nat.le_of_ble_eq_true rfl) rfl ?_
  intro p e s m below meth c Q A hx hb hml hown hts hK hA hD hP hret ls hl
  have hown : s.vm.findClass RX6 = some m.cls := hown
  have hl : lv_has ls 3 [(0, .ref h0)] := hl
  have hDa : ∀ v0 : ob_T, va_D A ((o_X6 cy h0 a0 v0)) := fun _ => va_D_adr hD rfl
  have i6 : ∀ w ∈ wsX60, w ∈ wsX6_ratio := fun _ h => List.mem_cons_of_mem _ (List.mem_append_right _ h)
  have hS : va_S A s.heap s.heap [] := va_S.rf
  unfold mX6_ratio at hm
  refine lv_aload_n hx hb dX6_ratio_0 rfl (lv_at hl 0 rfl) ?_
  refine va_get (D := (dC, dI)) (ci := 6) (v := .ref (a0 3)) (C := RX6) (T := TX6) (N := 11) hx hb hts i6 hown hK hP 0 rfl rfl 3 (by decide) (hts (.fieldLink RX6 17 "TwoMetalsModel" "markets" "[J") (List.mem_of_getElem? (i := 1) rfl)) (fun _ h9 => h9) rfl dX6_ratio_1 ?_
  refine lv_iconst (v := (0 : Int32)) hx hb dX6_ratio_4 (by decide) ?_
  obtain ⟨hi1, hm⟩ := ck_in hm
  refine va_lald hx hb hK hP 3 1 rfl rfl hi1 dX6_ratio_5 ?_
  refine lv_lconst (v := (0 : Int64)) hx hb dX6_ratio_6 (by decide) ?_
  refine W.lcmp hx hb dX6_ratio_7 ?_
  refine lv_if_ne (tgt := 15) hx hb dX6_ratio_8 (by decide) (fun hc => ?_) (fun hc => ?_)
  · replace hm := (if_neg hc).symm.trans hm
    refine lv_aload_n hx hb dX6_ratio_15 rfl (lv_at hl 0 rfl) ?_
    refine va_get (D := (dC, dI)) (ci := 6) (v := .ref (a0 4)) (C := RX6) (T := TX6) (N := 11) hx hb hts i6 hown hK hP 0 rfl rfl 4 (by decide) (hts (.fieldLink RX6 20 "TwoMetalsModel" "scarce" "[I") (List.mem_of_getElem? (i := 3) rfl)) (fun _ h9 => h9) rfl dX6_ratio_16 ?_
    refine lv_iconst (v := (0 : Int32)) hx hb dX6_ratio_19 (by decide) ?_
    obtain ⟨hi2, hm⟩ := ck_in hm
    refine va_iald hx hb hK hP 4 0 rfl rfl hi2 dX6_ratio_20 ?_
    refine lv_i2l (v := (w0.1 4 (0 : Int32).toNatClampNeg).toInt64) hx hb dX6_ratio_21 rfl ?_
    refine lv_aload_n hx hb dX6_ratio_22 rfl (lv_at hl 0 rfl) ?_
    refine va_get (D := (dC, dI)) (ci := 6) (v := .ref (a0 3)) (C := RX6) (T := TX6) (N := 11) hx hb hts i6 hown hK hP 0 rfl rfl 3 (by decide) (hts (.fieldLink RX6 17 "TwoMetalsModel" "markets" "[J") (List.mem_of_getElem? (i := 1) rfl)) (fun _ h9 => h9) rfl dX6_ratio_23 ?_
    refine lv_iconst (v := (1 : Int32)) hx hb dX6_ratio_26 (by decide) ?_
    obtain ⟨hi3, hm⟩ := ck_in hm
    refine va_lald hx hb hK hP 3 1 rfl rfl hi3 dX6_ratio_27 ?_
    refine lv_lmul hx hb dX6_ratio_28 ?_
    refine lv_ldc2 (v := (1000 : Int64)) hx hb hown (hts (.constantLong RX6 73 (1000)) (List.mem_of_getElem? (i := 4) rfl)) dX6_ratio_29 ?_
    refine lv_aload_n hx hb dX6_ratio_32 rfl (lv_at hl 0 rfl) ?_
    refine va_get (D := (dC, dI)) (ci := 6) (v := .ref (a0 3)) (C := RX6) (T := TX6) (N := 11) hx hb hts i6 hown hK hP 0 rfl rfl 3 (by decide) (hts (.fieldLink RX6 17 "TwoMetalsModel" "markets" "[J") (List.mem_of_getElem? (i := 1) rfl)) (fun _ h9 => h9) rfl dX6_ratio_33 ?_
    refine lv_iconst (v := (0 : Int32)) hx hb dX6_ratio_36 (by decide) ?_
    refine va_lald hx hb hK hP 3 1 rfl rfl hi1 dX6_ratio_37 ?_
    refine lv_lmul hx hb dX6_ratio_38 ?_
    obtain ⟨hz4, hm⟩ := ck_dv hm
    refine lv_ldiv hx hb dX6_ratio_39 hz4 ?_
    refine lv_topl (fun x5 e6 => ?_)
    replace hm := bn_at e6 hm
    refine lv_lstore_n (lv' := [(1, .long x5), (0, .ref h0)]) hx hb dX6_ratio_40 rfl hl (by decide) rfl (fun ls hl => ?_)
    refine lv_lload_n hx hb dX6_ratio_41 rfl (lv_at hl 0 rfl) ?_
    refine lv_ldc2 (v := (1000000 : Int64)) hx hb hown (hts (.constantLong RX6 109 (1000000)) (List.mem_of_getElem? (i := 2) rfl)) dX6_ratio_42 ?_
    refine W.lcmp hx hb dX6_ratio_45 ?_
    refine lv_if_le (tgt := 55) hx hb dX6_ratio_46 (by decide) (fun hc => ?_) (fun hc => ?_)
    · replace hm := (if_pos hc).symm.trans hm
      refine lv_lload_n hx hb dX6_ratio_55 rfl (lv_at hl 0 rfl) ?_
      obtain rfl := Option.some.inj hm
      exact hret 56 ls _ _ dX6_ratio_56 hP hS
    replace hm := (if_neg hc).symm.trans hm
    refine lv_ldc2 (v := (1000000 : Int64)) hx hb hown (hts (.constantLong RX6 109 (1000000)) (List.mem_of_getElem? (i := 2) rfl)) dX6_ratio_49 ?_
    refine lv_goto (tgt := 56) hx hb dX6_ratio_52 (by decide) ?_
    obtain rfl := Option.some.inj hm
    exact hret 56 ls _ _ dX6_ratio_56 hP hS
  replace hm := (if_pos hc).symm.trans hm
  refine lv_ldc2 (v := (1000000 : Int64)) hx hb hown (hts (.constantLong RX6 109 (1000000)) (List.mem_of_getElem? (i := 2) rfl)) dX6_ratio_11 ?_
  obtain rfl := Option.some.inj hm
  exact hret 14 ls _ _ dX6_ratio_14 hP hS
set_option maxHeartbeats 4000000 in
set_option maxRecDepth 100000 in
theorem kcX6_market (l : Launch) (dC : Nat → ClassId) (dI : Nat → Nat → Nat) (cy : Nat → ClassId) (fu : Nat) (h0 : Nat) (a0 : Nat → Nat) (w0 : ob_T) (p1 : Int32) (sz : Nat) (R : Int64) (hm : mX6_market fu w0 p1 = some R) : Met l yX6_market wsX6_market (rmN 1 22) (va_Pc [.ref h0, .int p1] (cPre dC dI cy ((o_X6 cy h0 a0 w0)) sz)) (va_Ql (fun (r : Int64) (_ : Unit) => r = R) (fun _ => cPost dC dI cy ((o_X6 cy h0 a0 w0)) ((o_X6 cy h0 a0 w0)) sz) (va_A ((o_X6 cy h0 a0 w0)) sz)) 0 0 (va_A ((o_X6 cy h0 a0 w0)) sz) := by
  refine mt_l (cc := cX6_market) (maxL := 2) (by decide) rfl (Nat.le_of_ble_eq_true rfl) rfl ?_
  intro p e s m below meth c Q A hx hb hml hown hts hK hA hD hP hret ls hl
  have hown : s.vm.findClass RX6 = some m.cls := hown
  have hl : lv_has ls 2 [(0, .ref h0), (1, .int p1)] := hl
  have hDa : ∀ v0 : ob_T, va_D A ((o_X6 cy h0 a0 v0)) := fun _ => va_D_adr hD rfl
  have i6 : ∀ w ∈ wsX60, w ∈ wsX6_market := fun _ h => List.mem_cons_of_mem _ (List.mem_append_right _ h)
  have hS : va_S A s.heap s.heap [] := va_S.rf
  unfold mX6_market at hm
  refine lv_iload_n hx hb dX6_market_0 rfl (lv_at hl 1 rfl) ?_
  by_cases hv1 : p1 = (0 : Int32)
  · replace hm := (if_pos hv1).symm.trans hm
    refine W.eq (g2 := F0 m 1 ls (.int (0 : Int32) :: [])) (by rw [hv1]) ?_
    refine lv_tableIn (tgt := 32) hx hb dX6_market_1 (by decide) (by decide) rfl (by decide) ?_
    refine lv_aload_n hx hb dX6_market_32 rfl (lv_at hl 0 rfl) ?_
    refine va_get (D := (dC, dI)) (ci := 6) (v := .ref (a0 3)) (C := RX6) (T := TX6) (N := 11) hx hb hts i6 hown hK hP 0 rfl rfl 3 (by decide) (hts (.fieldLink RX6 17 "TwoMetalsModel" "markets" "[J") (List.mem_of_getElem? (i := 1) rfl)) (fun _ h9 => h9) rfl dX6_market_33 ?_
    refine lv_iconst (v := (0 : Int32)) hx hb dX6_market_36 (by decide) ?_
    obtain ⟨hi2, hm⟩ := ck_in hm
    refine va_lald hx hb hK hP 3 1 rfl rfl hi2 dX6_market_37 ?_
    obtain rfl := Option.some.inj hm
    exact hret 38 ls _ _ dX6_market_38 hP hS
  replace hm := (if_neg hv1).symm.trans hm
  by_cases hv3 : p1 = (1 : Int32)
  · replace hm := (if_pos hv3).symm.trans hm
    refine W.eq (g2 := F0 m 1 ls (.int (1 : Int32) :: [])) (by rw [hv3]) ?_
    refine lv_tableIn (tgt := 39) hx hb dX6_market_1 (by decide) (by decide) rfl (by decide) ?_
    refine lv_aload_n hx hb dX6_market_39 rfl (lv_at hl 0 rfl) ?_
    refine va_get (D := (dC, dI)) (ci := 6) (v := .ref (a0 3)) (C := RX6) (T := TX6) (N := 11) hx hb hts i6 hown hK hP 0 rfl rfl 3 (by decide) (hts (.fieldLink RX6 17 "TwoMetalsModel" "markets" "[J") (List.mem_of_getElem? (i := 1) rfl)) (fun _ h9 => h9) rfl dX6_market_40 ?_
    refine lv_iconst (v := (1 : Int32)) hx hb dX6_market_43 (by decide) ?_
    obtain ⟨hi4, hm⟩ := ck_in hm
    refine va_lald hx hb hK hP 3 1 rfl rfl hi4 dX6_market_44 ?_
    obtain rfl := Option.some.inj hm
    exact hret 45 ls _ _ dX6_market_45 hP hS
  replace hm := (if_neg hv3).symm.trans hm
  by_cases hv5 : p1 = (2 : Int32)
  · replace hm := (if_pos hv5).symm.trans hm
    refine W.eq (g2 := F0 m 1 ls (.int (2 : Int32) :: [])) (by rw [hv5]) ?_
    refine lv_tableIn (tgt := 46) hx hb dX6_market_1 (by decide) (by decide) rfl (by decide) ?_
    refine lv_aload_n hx hb dX6_market_46 rfl (lv_at hl 0 rfl) ?_
    obtain ⟨r6, hr6, hm⟩ := bn_call hm
    refine ca_vl (wr := []) (wn := (o_X6 cy h0 a0 w0)) ⟨hx, hb, hml, hown, hts⟩ hK hA (hDa _) hP hS [0, 1, 2, 3, 4, 5, 6, 7, 8] [] [0, 1, 2, 3, 4, 5, 6, 7, 8] (fun sz => kcX6_ratio l dC dI cy fu h0 a0 w0 sz r6 hr6) rfl rfl (by decide) (by decide) (by decide) rfl (cwV 0 hts gX6_market_X6_ratio rfl rfl rfl ⟨rfl, ydX6_ratio⟩ ⟨Nat.le_of_ble_eq_true rfl, Nat.le_of_ble_eq_true rfl⟩) 6 0 rfl rfl rfl rfl hl.1 rfl (Nat.le_of_ble_eq_true rfl) dX6_market_47 ⟨Nat.zero_le _, Nat.zero_le _⟩ (fun H locs hP hS => ?_)
    obtain rfl := Option.some.inj hm
    exact hret 50 ls _ _ dX6_market_50 hP hS
  replace hm := (if_neg hv5).symm.trans hm
  by_cases hv7 : p1 = (3 : Int32)
  · replace hm := (if_pos hv7).symm.trans hm
    refine W.eq (g2 := F0 m 1 ls (.int (3 : Int32) :: [])) (by rw [hv7]) ?_
    refine lv_tableIn (tgt := 51) hx hb dX6_market_1 (by decide) (by decide) rfl (by decide) ?_
    refine lv_aload_n hx hb dX6_market_51 rfl (lv_at hl 0 rfl) ?_
    refine va_get (D := (dC, dI)) (ci := 6) (v := .ref (a0 3)) (C := RX6) (T := TX6) (N := 11) hx hb hts i6 hown hK hP 0 rfl rfl 3 (by decide) (hts (.fieldLink RX6 17 "TwoMetalsModel" "markets" "[J") (List.mem_of_getElem? (i := 1) rfl)) (fun _ h9 => h9) rfl dX6_market_52 ?_
    refine lv_iconst (v := (2 : Int32)) hx hb dX6_market_55 (by decide) ?_
    obtain ⟨hi8, hm⟩ := ck_in hm
    refine va_lald hx hb hK hP 3 1 rfl rfl hi8 dX6_market_56 ?_
    obtain rfl := Option.some.inj hm
    exact hret 57 ls _ _ dX6_market_57 hP hS
  replace hm := (if_neg hv7).symm.trans hm
  refine lv_tableOut (tgt := 58) hx hb dX6_market_1 (by
      have hv1 := sw_ne hv1 (z := 0) rfl
      have hv3 := sw_ne hv3 (z := 1) rfl
      have hv5 := sw_ne hv5 (z := 2) rfl
      have hv7 := sw_ne hv7 (z := 3) rfl
      omega) (by decide) ?_
  refine lv_ldc2 (v := (-1 : Int64)) hx hb hown (hts (.constantLong RX6 39 (-1)) (List.mem_of_getElem? (i := 2) rfl)) dX6_market_58 ?_
  obtain rfl := Option.some.inj hm
  exact hret 61 ls _ _ dX6_market_61 hP hS
set_option maxHeartbeats 4000000 in
set_option maxRecDepth 100000 in
theorem kcX6_above (l : Launch) (dC : Nat → ClassId) (dI : Nat → Nat → Nat) (cy : Nat → ClassId) (fu : Nat) (p1 : Int64) (sz : Nat) (R : Int64) (hm : mX6_above fu p1 = some R) : Met l yX6_above wsX6_above (rmN 0 0) (va_Pc [.long p1] (cPre dC dI cy (([] : va_W)) sz)) (va_Ql (fun (r : Int64) (_ : Unit) => r = R) (fun _ => cPost dC dI cy (([] : va_W)) (([] : va_W)) sz) (va_A (([] : va_W)) sz)) 0 0 (va_A (([] : va_W)) sz) := by
  refine mt_l (cc := cX6_above) (maxL := 2) (by decide) rfl (Nat.le_of_ble_eq_true rfl) rfl ?_
  intro p e s m below meth c Q A hx hb hml hown hts hK hA hD hP hret ls hl
  have hown : s.vm.findClass RX6 = some m.cls := hown
  have hl : lv_has ls 2 [(0, .long p1)] := hl
  have hS : va_S A s.heap s.heap [] := va_S.rf
  unfold mX6_above at hm
  refine lv_lload_n hx hb dX6_above_0 rfl (lv_at hl 0 rfl) ?_
  refine lv_lconst (v := (0 : Int64)) hx hb dX6_above_1 (by decide) ?_
  refine W.lcmp hx hb dX6_above_2 ?_
  refine lv_if_ge (tgt := 10) hx hb dX6_above_3 (by decide) (fun hc => ?_) (fun hc => ?_)
  · replace hm := (if_pos hc).symm.trans hm
    refine lv_lload_n hx hb dX6_above_10 rfl (lv_at hl 0 rfl) ?_
    obtain rfl := Option.some.inj hm
    exact hret 11 ls _ _ dX6_above_11 hP hS
  replace hm := (if_neg hc).symm.trans hm
  refine lv_lconst (v := (0 : Int64)) hx hb dX6_above_6 (by decide) ?_
  refine lv_goto (tgt := 11) hx hb dX6_above_7 (by decide) ?_
  obtain rfl := Option.some.inj hm
  exact hret 11 ls _ _ dX6_above_11 hP hS
set_option maxHeartbeats 4000000 in
set_option maxRecDepth 100000 in
theorem kcX6_movesOf (l : Launch) (dC : Nat → ClassId) (dI : Nat → Nat → Nat) (cy : Nat → ClassId) (fu : Nat) (h0 : Nat) (a0 : Nat → Nat) (w0 : ob_T) (p1 : Int32) (sz : Nat) (R : Int32) (hm : mX6_movesOf fu w0 p1 = some R) : Met l yX6_movesOf wsX6_movesOf (rmN 2 46) (va_Pc [.ref h0, .int p1] (cPre dC dI cy ((o_X6 cy h0 a0 w0)) sz)) (va_Qi (fun (r : Int32) (_ : Unit) => r = R) (fun _ => cPost dC dI cy ((o_X6 cy h0 a0 w0)) ((o_X6 cy h0 a0 w0)) sz) (va_A ((o_X6 cy h0 a0 w0)) sz)) 0 0 (va_A ((o_X6 cy h0 a0 w0)) sz) := by
  refine mt_i (cc := cX6_movesOf) (maxL := 7) (by decide) rfl (Nat.le_of_ble_eq_true rfl) rfl ?_
  intro p e s m below meth c Q A hx hb hml hown hts hK hA hD hP hret ls hl
  have hown : s.vm.findClass RX6 = some m.cls := hown
  have hl : lv_has ls 7 [(0, .ref h0), (1, .int p1)] := hl
  have hDa : ∀ v0 : ob_T, va_D A ((o_X6 cy h0 a0 v0)) := fun _ => va_D_adr hD rfl
  have i6 : ∀ w ∈ wsX60, w ∈ wsX6_movesOf := fun _ h => List.mem_cons_of_mem _ (List.mem_append_right _ h)
  have hS : va_S A s.heap s.heap [] := va_S.rf
  have hB189 : ∀ (l5 : Int32) (s0 : Int32) (H : Heap) (locs : List Loc) (ls : Array Slot), bX6_movesOf_189 fu w0 l5 s0 = some R → va_P (dC, dI) vwCl ((o_X6 cy h0 a0 w0)) H → va_S A s.heap H locs → lv_has ls 7 [(5, .int l5)] → W p l e (rmN 2 46) s m ([.ref h0, .int p1] : List Value).toArray below meth c H locs 0 0 Q (F0 m 189 ls [.int s0]) := by
    intro l5 s0 H locs ls hm hP hS hl
    unfold bX6_movesOf_189 at hm
    refine lv_istore (lv' := [(6, .int s0), (5, .int l5)]) hx hb dX6_movesOf_189 hl (by decide) rfl (fun ls hl => ?_)
    refine lv_iload hx hb dX6_movesOf_191 (lv_at hl 1 rfl) ?_
    refine lv_if_eq (tgt := 200) hx hb dX6_movesOf_193 (by decide) (fun hc => ?_) (fun hc => ?_)
    · replace hm := (if_pos hc).symm.trans hm
      refine lv_iload hx hb dX6_movesOf_200 (lv_at hl 0 rfl) ?_
      refine lv_if_eq (tgt := 209) hx hb dX6_movesOf_202 (by decide) (fun hc => ?_) (fun hc => ?_)
      · replace hm := (if_pos hc).symm.trans hm
        refine lv_iconst (v := (0 : Int32)) hx hb dX6_movesOf_209 (by decide) ?_
        obtain rfl := Option.some.inj hm
        exact hret 210 ls _ _ dX6_movesOf_210 hP hS
      replace hm := (if_neg hc).symm.trans hm
      refine lv_iconst (v := (2 : Int32)) hx hb dX6_movesOf_205 (by decide) ?_
      refine lv_goto (tgt := 210) hx hb dX6_movesOf_206 (by decide) ?_
      obtain rfl := Option.some.inj hm
      exact hret 210 ls _ _ dX6_movesOf_210 hP hS
    replace hm := (if_neg hc).symm.trans hm
    refine lv_iconst (v := (1 : Int32)) hx hb dX6_movesOf_196 (by decide) ?_
    refine lv_goto (tgt := 210) hx hb dX6_movesOf_197 (by decide) ?_
    obtain rfl := Option.some.inj hm
    exact hret 210 ls _ _ dX6_movesOf_210 hP hS
  have hB113 : ∀ (l2 : Int32) (l3 : Int64) (s0 : Int32) (H : Heap) (locs : List Loc) (ls : Array Slot), bX6_movesOf_113 fu w0 l2 l3 s0 = some R → va_P (dC, dI) vwCl ((o_X6 cy h0 a0 w0)) H → va_S A s.heap H locs → lv_has ls 7 [(0, .ref h0), (2, .int l2), (3, .long l3)] → W p l e (rmN 2 46) s m ([.ref h0, .int p1] : List Value).toArray below meth c H locs 0 0 Q (F0 m 113 ls [.int s0]) := by
    intro l2 l3 s0 H locs ls hm hP hS hl
    unfold bX6_movesOf_113 at hm
    refine lv_istore (lv' := [(5, .int s0), (0, .ref h0), (2, .int l2), (3, .long l3)]) hx hb dX6_movesOf_113 hl (by decide) rfl (fun ls hl => ?_)
    refine lv_aload_n hx hb dX6_movesOf_115 rfl (lv_at hl 1 rfl) ?_
    refine va_get (D := (dC, dI)) (ci := 6) (v := .ref (a0 3)) (C := RX6) (T := TX6) (N := 11) hx hb hts i6 hown hK hP 0 rfl rfl 3 (by decide) (hts (.fieldLink RX6 17 "TwoMetalsModel" "markets" "[J") (List.mem_of_getElem? (i := 2) rfl)) (fun _ h9 => h9) rfl dX6_movesOf_116 ?_
    refine lv_iconst (v := (0 : Int32)) hx hb dX6_movesOf_119 (by decide) ?_
    obtain ⟨hi1, hm⟩ := ck_in hm
    refine va_lald hx hb hK hP 3 1 rfl rfl hi1 dX6_movesOf_120 ?_
    refine lv_lconst (v := (0 : Int64)) hx hb dX6_movesOf_121 (by decide) ?_
    refine W.lcmp hx hb dX6_movesOf_122 ?_
    refine lv_if_le (tgt := 188) hx hb dX6_movesOf_123 (by decide) (fun hc => ?_) (fun hc => ?_)
    · replace hm := (if_pos hc).symm.trans hm
      refine lv_iconst (v := (0 : Int32)) hx hb dX6_movesOf_188 (by decide) ?_
      exact hB189 s0 (0 : Int32) _ _ ls hm hP hS (lv_sub hl [0] rfl)
    replace hm := (if_neg hc).symm.trans hm
    refine lv_aload_n hx hb dX6_movesOf_126 rfl (lv_at hl 1 rfl) ?_
    refine va_get (D := (dC, dI)) (ci := 6) (v := .ref (a0 2)) (C := RX6) (T := TX6) (N := 11) hx hb hts i6 hown hK hP 0 rfl rfl 2 (by decide) (hts (.fieldLink RX6 13 "TwoMetalsModel" "realms" "[J") (List.mem_of_getElem? (i := 1) rfl)) (fun _ h9 => h9) rfl dX6_movesOf_127 ?_
    refine lv_iload_n hx hb dX6_movesOf_130 rfl (lv_at hl 2 rfl) ?_
    refine lv_iconst (v := (4 : Int32)) hx hb dX6_movesOf_131 (by decide) ?_
    refine lv_iadd hx hb dX6_movesOf_132 ?_
    obtain ⟨hi2, hm⟩ := ck_in hm
    refine va_lald hx hb hK hP 2 1 rfl rfl hi2 dX6_movesOf_133 ?_
    refine lv_aload_n hx hb dX6_movesOf_134 rfl (lv_at hl 1 rfl) ?_
    refine va_get (D := (dC, dI)) (ci := 6) (v := .ref (a0 2)) (C := RX6) (T := TX6) (N := 11) hx hb hts i6 hown hK hP 0 rfl rfl 2 (by decide) (hts (.fieldLink RX6 13 "TwoMetalsModel" "realms" "[J") (List.mem_of_getElem? (i := 1) rfl)) (fun _ h9 => h9) rfl dX6_movesOf_135 ?_
    refine lv_iload_n hx hb dX6_movesOf_138 rfl (lv_at hl 2 rfl) ?_
    obtain ⟨hi3, hm⟩ := ck_in hm
    refine va_lald hx hb hK hP 2 1 rfl rfl hi3 dX6_movesOf_139 ?_
    refine W.lcmp hx hb dX6_movesOf_140 ?_
    refine lv_if_lt (tgt := 188) hx hb dX6_movesOf_141 (by decide) (fun hc => ?_) (fun hc => ?_)
    · replace hm := (if_pos hc).symm.trans hm
      refine lv_iconst (v := (0 : Int32)) hx hb dX6_movesOf_188 (by decide) ?_
      exact hB189 s0 (0 : Int32) _ _ ls hm hP hS (lv_sub hl [0] rfl)
    replace hm := (if_neg hc).symm.trans hm
    refine lv_lload_n hx hb dX6_movesOf_144 rfl (lv_at hl 3 rfl) ?_
    refine lv_ldc2 (v := (1000 : Int64)) hx hb hown (hts (.constantLong RX6 73 (1000)) (List.mem_of_getElem? (i := 3) rfl)) dX6_movesOf_145 ?_
    refine lv_aload_n hx hb dX6_movesOf_148 rfl (lv_at hl 1 rfl) ?_
    refine va_get (D := (dC, dI)) (ci := 6) (v := .ref (a0 2)) (C := RX6) (T := TX6) (N := 11) hx hb hts i6 hown hK hP 0 rfl rfl 2 (by decide) (hts (.fieldLink RX6 13 "TwoMetalsModel" "realms" "[J") (List.mem_of_getElem? (i := 1) rfl)) (fun _ h9 => h9) rfl dX6_movesOf_149 ?_
    refine lv_iload_n hx hb dX6_movesOf_152 rfl (lv_at hl 2 rfl) ?_
    refine lv_iconst (v := (2 : Int32)) hx hb dX6_movesOf_153 (by decide) ?_
    refine lv_iadd hx hb dX6_movesOf_154 ?_
    obtain ⟨hi4, hm⟩ := ck_in hm
    refine va_lald hx hb hK hP 2 1 rfl rfl hi4 dX6_movesOf_155 ?_
    refine lv_ladd hx hb dX6_movesOf_156 ?_
    refine lv_lmul hx hb dX6_movesOf_157 ?_
    refine lv_ldc2 (v := (1000 : Int64)) hx hb hown (hts (.constantLong RX6 73 (1000)) (List.mem_of_getElem? (i := 3) rfl)) dX6_movesOf_158 ?_
    refine lv_aload_n hx hb dX6_movesOf_161 rfl (lv_at hl 1 rfl) ?_
    refine va_get (D := (dC, dI)) (ci := 6) (v := .ref (a0 2)) (C := RX6) (T := TX6) (N := 11) hx hb hts i6 hown hK hP 0 rfl rfl 2 (by decide) (hts (.fieldLink RX6 13 "TwoMetalsModel" "realms" "[J") (List.mem_of_getElem? (i := 1) rfl)) (fun _ h9 => h9) rfl dX6_movesOf_162 ?_
    refine lv_iload_n hx hb dX6_movesOf_165 rfl (lv_at hl 2 rfl) ?_
    refine va_lald hx hb hK hP 2 1 rfl rfl hi3 dX6_movesOf_166 ?_
    refine lv_aload_n hx hb dX6_movesOf_167 rfl (lv_at hl 1 rfl) ?_
    refine va_get (D := (dC, dI)) (ci := 6) (v := .ref (a0 2)) (C := RX6) (T := TX6) (N := 11) hx hb hts i6 hown hK hP 0 rfl rfl 2 (by decide) (hts (.fieldLink RX6 13 "TwoMetalsModel" "realms" "[J") (List.mem_of_getElem? (i := 1) rfl)) (fun _ h9 => h9) rfl dX6_movesOf_168 ?_
    refine lv_iload_n hx hb dX6_movesOf_171 rfl (lv_at hl 2 rfl) ?_
    refine lv_iconst (v := (1 : Int32)) hx hb dX6_movesOf_172 (by decide) ?_
    refine lv_iadd hx hb dX6_movesOf_173 ?_
    obtain ⟨hi5, hm⟩ := ck_in hm
    refine va_lald hx hb hK hP 2 1 rfl rfl hi5 dX6_movesOf_174 ?_
    refine lv_lsub hx hb dX6_movesOf_175 ?_
    obtain ⟨r6, hr6, hm⟩ := bn_call hm
    refine ca_sl (wr := (o_X6 cy h0 a0 w0)) (wn := (o_X6 cy h0 a0 w0)) ⟨hx, hb, hml, hown, hts⟩ hK hA (hDa _) hP hS [] [0, 1, 2, 3, 4, 5, 6, 7, 8] [0, 1, 2, 3, 4, 5, 6, 7, 8] (fun sz => kcX6_above l dC dI cy fu ((w0.2 2 l2.toNatClampNeg) - (w0.2 2 (l2 + (1 : Int32)).toNatClampNeg)) sz r6 hr6) rfl rfl (by decide) (by decide) (by decide) rfl (va_cwS 1 hts gX6_movesOf_X6_above rfl rfl rfl ydX6_above ⟨Nat.le_of_ble_eq_true rfl, Nat.le_of_ble_eq_true rfl⟩) rfl hl.1 rfl (Nat.le_of_ble_eq_true rfl) dX6_movesOf_176 ⟨Nat.zero_le _, Nat.zero_le _⟩ (fun H locs hP hS => ?_)
    refine lv_lmul hx hb dX6_movesOf_179 ?_
    refine W.lcmp hx hb dX6_movesOf_180 ?_
    refine lv_if_ge (tgt := 188) hx hb dX6_movesOf_181 (by decide) (fun hc => ?_) (fun hc => ?_)
    · replace hm := (if_pos hc).symm.trans hm
      refine lv_iconst (v := (0 : Int32)) hx hb dX6_movesOf_188 (by decide) ?_
      exact hB189 s0 (0 : Int32) _ _ ls hm hP hS (lv_sub hl [0] rfl)
    replace hm := (if_neg hc).symm.trans hm
    refine lv_iconst (v := (1 : Int32)) hx hb dX6_movesOf_184 (by decide) ?_
    refine lv_goto (tgt := 189) hx hb dX6_movesOf_185 (by decide) ?_
    exact hB189 s0 (1 : Int32) _ _ ls hm hP hS (lv_sub hl [0] rfl)
  unfold mX6_movesOf at hm
  refine lv_bipush (v := (9 : Int32)) hx hb dX6_movesOf_0 (by decide) ?_
  refine lv_iload_n hx hb dX6_movesOf_2 rfl (lv_at hl 1 rfl) ?_
  refine lv_imul hx hb dX6_movesOf_3 ?_
  refine lv_topi (fun x7 e8 => ?_)
  replace hm := bn_at e8 hm
  refine lv_istore_n (lv' := [(2, .int x7), (0, .ref h0), (1, .int p1)]) hx hb dX6_movesOf_4 rfl hl (by decide) rfl (fun ls hl => ?_)
  refine lv_aload_n hx hb dX6_movesOf_5 rfl (lv_at hl 1 rfl) ?_
  refine lv_iload_n hx hb dX6_movesOf_6 rfl (lv_at hl 2 rfl) ?_
  obtain ⟨r9, hr9, hm⟩ := bn_call hm
  refine ca_vi (wr := []) (wn := (o_X6 cy h0 a0 w0)) ⟨hx, hb, hml, hown, hts⟩ hK hA (hDa _) hP hS [0, 1, 2, 3, 4, 5, 6, 7, 8] [] [0, 1, 2, 3, 4, 5, 6, 7, 8] (fun sz => kcX6_isRealm l dC dI cy fu h0 a0 w0 p1 sz r9 hr9) rfl rfl (by decide) (by decide) (by decide) rfl (cwV 1 hts gX6_movesOf_X6_isRealm rfl rfl rfl ⟨rfl, ydX6_isRealm⟩ ⟨Nat.le_of_ble_eq_true rfl, Nat.le_of_ble_eq_true rfl⟩) 6 0 rfl rfl rfl rfl hl.1 rfl (Nat.le_of_ble_eq_true rfl) dX6_movesOf_7 ⟨Nat.zero_le _, Nat.zero_le _⟩ (fun H locs hP hS => ?_)
  refine lv_if_eq (tgt := 21) hx hb dX6_movesOf_10 (by decide) (fun hc => ?_) (fun hc => ?_)
  · replace hm := (if_pos hc).symm.trans hm
    refine lv_iconst (v := (0 : Int32)) hx hb dX6_movesOf_21 (by decide) ?_
    obtain rfl := Option.some.inj hm
    exact hret 22 ls _ _ dX6_movesOf_22 hP hS
  replace hm := (if_neg hc).symm.trans hm
  refine lv_aload_n hx hb dX6_movesOf_13 rfl (lv_at hl 1 rfl) ?_
  refine lv_iload_n hx hb dX6_movesOf_14 rfl (lv_at hl 2 rfl) ?_
  obtain ⟨r10, hr10, hm⟩ := bn_call hm
  refine ca_vi (wr := []) (wn := (o_X6 cy h0 a0 w0)) ⟨hx, hb, hml, hown, hts⟩ hK hA (hDa _) hP hS [0, 1, 2, 3, 4, 5, 6, 7, 8] [] [0, 1, 2, 3, 4, 5, 6, 7, 8] (fun sz => kcX6_mints l dC dI cy fu h0 a0 w0 p1 sz r10 hr10) rfl rfl (by decide) (by decide) (by decide) rfl (cwV 1 hts gX6_movesOf_X6_mints rfl rfl rfl ⟨rfl, ydX6_mints⟩ ⟨Nat.le_of_ble_eq_true rfl, Nat.le_of_ble_eq_true rfl⟩) 6 0 rfl rfl rfl rfl hl.1 rfl (Nat.le_of_ble_eq_true rfl) dX6_movesOf_15 ⟨Nat.zero_le _, Nat.zero_le _⟩ (fun H locs hP hS => ?_)
  refine lv_if_ne (tgt := 23) hx hb dX6_movesOf_18 (by decide) (fun hc => ?_) (fun hc => ?_)
  · replace hm := (if_neg hc).symm.trans hm
    refine lv_aload_n hx hb dX6_movesOf_23 rfl (lv_at hl 1 rfl) ?_
    obtain ⟨r11, hr11, hm⟩ := bn_call hm
    refine ca_vl (wr := []) (wn := (o_X6 cy h0 a0 w0)) ⟨hx, hb, hml, hown, hts⟩ hK hA (hDa _) hP hS [0, 1, 2, 3, 4, 5, 6, 7, 8] [] [0, 1, 2, 3, 4, 5, 6, 7, 8] (fun sz => kcX6_ratio l dC dI cy fu h0 a0 w0 sz r11 hr11) rfl rfl (by decide) (by decide) (by decide) rfl (cwV 0 hts gX6_movesOf_X6_ratio rfl rfl rfl ⟨rfl, ydX6_ratio⟩ ⟨Nat.le_of_ble_eq_true rfl, Nat.le_of_ble_eq_true rfl⟩) 6 0 rfl rfl rfl rfl hl.1 rfl (Nat.le_of_ble_eq_true rfl) dX6_movesOf_24 ⟨Nat.zero_le _, Nat.zero_le _⟩ (fun H locs hP hS => ?_)
    refine lv_lstore_n (lv' := [(3, .long r11), (2, .int x7), (0, .ref h0), (1, .int p1)]) hx hb dX6_movesOf_27 rfl hl (by decide) rfl (fun ls hl => ?_)
    refine lv_aload_n hx hb dX6_movesOf_28 rfl (lv_at hl 2 rfl) ?_
    refine va_get (D := (dC, dI)) (ci := 6) (v := .ref (a0 2)) (C := RX6) (T := TX6) (N := 11) hx hb hts i6 hown hK hP 0 rfl rfl 2 (by decide) (hts (.fieldLink RX6 13 "TwoMetalsModel" "realms" "[J") (List.mem_of_getElem? (i := 1) rfl)) (fun _ h9 => h9) rfl dX6_movesOf_29 ?_
    refine lv_iload_n hx hb dX6_movesOf_32 rfl (lv_at hl 1 rfl) ?_
    refine lv_bipush (v := (7 : Int32)) hx hb dX6_movesOf_33 (by decide) ?_
    refine lv_iadd hx hb dX6_movesOf_35 ?_
    obtain ⟨hi12, hm⟩ := ck_in hm
    refine va_lald hx hb hK hP 2 1 rfl rfl hi12 dX6_movesOf_36 ?_
    refine lv_lconst (v := (0 : Int64)) hx hb dX6_movesOf_37 (by decide) ?_
    refine W.lcmp hx hb dX6_movesOf_38 ?_
    refine lv_if_ne (tgt := 112) hx hb dX6_movesOf_39 (by decide) (fun hc => ?_) (fun hc => ?_)
    · replace hm := (if_neg hc).symm.trans hm
      refine lv_iconst (v := (0 : Int32)) hx hb dX6_movesOf_112 (by decide) ?_
      exact hB113 x7 r11 (0 : Int32) _ _ ls hm hP hS (lv_sub hl [2, 1, 0] rfl)
    replace hm := (if_pos hc).symm.trans hm
    refine lv_aload_n hx hb dX6_movesOf_42 rfl (lv_at hl 2 rfl) ?_
    refine va_get (D := (dC, dI)) (ci := 6) (v := .ref (a0 2)) (C := RX6) (T := TX6) (N := 11) hx hb hts i6 hown hK hP 0 rfl rfl 2 (by decide) (hts (.fieldLink RX6 13 "TwoMetalsModel" "realms" "[J") (List.mem_of_getElem? (i := 1) rfl)) (fun _ h9 => h9) rfl dX6_movesOf_43 ?_
    refine lv_iload_n hx hb dX6_movesOf_46 rfl (lv_at hl 1 rfl) ?_
    refine lv_iconst (v := (3 : Int32)) hx hb dX6_movesOf_47 (by decide) ?_
    refine lv_iadd hx hb dX6_movesOf_48 ?_
    obtain ⟨hi13, hm⟩ := ck_in hm
    refine va_lald hx hb hK hP 2 1 rfl rfl hi13 dX6_movesOf_49 ?_
    refine lv_lconst (v := (0 : Int64)) hx hb dX6_movesOf_50 (by decide) ?_
    refine W.lcmp hx hb dX6_movesOf_51 ?_
    refine lv_if_le (tgt := 112) hx hb dX6_movesOf_52 (by decide) (fun hc => ?_) (fun hc => ?_)
    · replace hm := (if_pos hc).symm.trans hm
      refine lv_iconst (v := (0 : Int32)) hx hb dX6_movesOf_112 (by decide) ?_
      exact hB113 x7 r11 (0 : Int32) _ _ ls hm hP hS (lv_sub hl [2, 1, 0] rfl)
    replace hm := (if_neg hc).symm.trans hm
    refine lv_aload_n hx hb dX6_movesOf_55 rfl (lv_at hl 2 rfl) ?_
    refine va_get (D := (dC, dI)) (ci := 6) (v := .ref (a0 3)) (C := RX6) (T := TX6) (N := 11) hx hb hts i6 hown hK hP 0 rfl rfl 3 (by decide) (hts (.fieldLink RX6 17 "TwoMetalsModel" "markets" "[J") (List.mem_of_getElem? (i := 2) rfl)) (fun _ h9 => h9) rfl dX6_movesOf_56 ?_
    refine lv_iconst (v := (1 : Int32)) hx hb dX6_movesOf_59 (by decide) ?_
    obtain ⟨hi14, hm⟩ := ck_in hm
    refine va_lald hx hb hK hP 3 1 rfl rfl hi14 dX6_movesOf_60 ?_
    refine lv_aload_n hx hb dX6_movesOf_61 rfl (lv_at hl 2 rfl) ?_
    refine va_get (D := (dC, dI)) (ci := 6) (v := .ref (a0 2)) (C := RX6) (T := TX6) (N := 11) hx hb hts i6 hown hK hP 0 rfl rfl 2 (by decide) (hts (.fieldLink RX6 13 "TwoMetalsModel" "realms" "[J") (List.mem_of_getElem? (i := 1) rfl)) (fun _ h9 => h9) rfl dX6_movesOf_62 ?_
    refine lv_iload_n hx hb dX6_movesOf_65 rfl (lv_at hl 1 rfl) ?_
    obtain ⟨hi15, hm⟩ := ck_in hm
    refine va_lald hx hb hK hP 2 1 rfl rfl hi15 dX6_movesOf_66 ?_
    refine W.lcmp hx hb dX6_movesOf_67 ?_
    refine lv_if_lt (tgt := 112) hx hb dX6_movesOf_68 (by decide) (fun hc => ?_) (fun hc => ?_)
    · replace hm := (if_pos hc).symm.trans hm
      refine lv_iconst (v := (0 : Int32)) hx hb dX6_movesOf_112 (by decide) ?_
      exact hB113 x7 r11 (0 : Int32) _ _ ls hm hP hS (lv_sub hl [2, 1, 0] rfl)
    replace hm := (if_neg hc).symm.trans hm
    refine lv_lload_n hx hb dX6_movesOf_71 rfl (lv_at hl 0 rfl) ?_
    refine lv_ldc2 (v := (1000 : Int64)) hx hb hown (hts (.constantLong RX6 73 (1000)) (List.mem_of_getElem? (i := 3) rfl)) dX6_movesOf_72 ?_
    refine lv_aload_n hx hb dX6_movesOf_75 rfl (lv_at hl 2 rfl) ?_
    refine va_get (D := (dC, dI)) (ci := 6) (v := .ref (a0 2)) (C := RX6) (T := TX6) (N := 11) hx hb hts i6 hown hK hP 0 rfl rfl 2 (by decide) (hts (.fieldLink RX6 13 "TwoMetalsModel" "realms" "[J") (List.mem_of_getElem? (i := 1) rfl)) (fun _ h9 => h9) rfl dX6_movesOf_76 ?_
    refine lv_iload_n hx hb dX6_movesOf_79 rfl (lv_at hl 1 rfl) ?_
    refine lv_iconst (v := (2 : Int32)) hx hb dX6_movesOf_80 (by decide) ?_
    refine lv_iadd hx hb dX6_movesOf_81 ?_
    obtain ⟨hi16, hm⟩ := ck_in hm
    refine va_lald hx hb hK hP 2 1 rfl rfl hi16 dX6_movesOf_82 ?_
    refine lv_lsub hx hb dX6_movesOf_83 ?_
    refine lv_lmul hx hb dX6_movesOf_84 ?_
    refine lv_ldc2 (v := (1000 : Int64)) hx hb hown (hts (.constantLong RX6 73 (1000)) (List.mem_of_getElem? (i := 3) rfl)) dX6_movesOf_85 ?_
    refine lv_aload_n hx hb dX6_movesOf_88 rfl (lv_at hl 2 rfl) ?_
    refine va_get (D := (dC, dI)) (ci := 6) (v := .ref (a0 2)) (C := RX6) (T := TX6) (N := 11) hx hb hts i6 hown hK hP 0 rfl rfl 2 (by decide) (hts (.fieldLink RX6 13 "TwoMetalsModel" "realms" "[J") (List.mem_of_getElem? (i := 1) rfl)) (fun _ h9 => h9) rfl dX6_movesOf_89 ?_
    refine lv_iload_n hx hb dX6_movesOf_92 rfl (lv_at hl 1 rfl) ?_
    refine va_lald hx hb hK hP 2 1 rfl rfl hi15 dX6_movesOf_93 ?_
    refine lv_aload_n hx hb dX6_movesOf_94 rfl (lv_at hl 2 rfl) ?_
    refine va_get (D := (dC, dI)) (ci := 6) (v := .ref (a0 2)) (C := RX6) (T := TX6) (N := 11) hx hb hts i6 hown hK hP 0 rfl rfl 2 (by decide) (hts (.fieldLink RX6 13 "TwoMetalsModel" "realms" "[J") (List.mem_of_getElem? (i := 1) rfl)) (fun _ h9 => h9) rfl dX6_movesOf_95 ?_
    refine lv_iload_n hx hb dX6_movesOf_98 rfl (lv_at hl 1 rfl) ?_
    refine lv_iconst (v := (1 : Int32)) hx hb dX6_movesOf_99 (by decide) ?_
    refine lv_iadd hx hb dX6_movesOf_100 ?_
    obtain ⟨hi17, hm⟩ := ck_in hm
    refine va_lald hx hb hK hP 2 1 rfl rfl hi17 dX6_movesOf_101 ?_
    refine lv_ladd hx hb dX6_movesOf_102 ?_
    refine lv_lmul hx hb dX6_movesOf_103 ?_
    refine W.lcmp hx hb dX6_movesOf_104 ?_
    refine lv_if_le (tgt := 112) hx hb dX6_movesOf_105 (by decide) (fun hc => ?_) (fun hc => ?_)
    · replace hm := (if_pos hc).symm.trans hm
      refine lv_iconst (v := (0 : Int32)) hx hb dX6_movesOf_112 (by decide) ?_
      exact hB113 x7 r11 (0 : Int32) _ _ ls hm hP hS (lv_sub hl [2, 1, 0] rfl)
    replace hm := (if_neg hc).symm.trans hm
    refine lv_iconst (v := (1 : Int32)) hx hb dX6_movesOf_108 (by decide) ?_
    refine lv_goto (tgt := 113) hx hb dX6_movesOf_109 (by decide) ?_
    exact hB113 x7 r11 (1 : Int32) _ _ ls hm hP hS (lv_sub hl [2, 1, 0] rfl)
  replace hm := (if_pos hc).symm.trans hm
  refine lv_iconst (v := (0 : Int32)) hx hb dX6_movesOf_21 (by decide) ?_
  obtain rfl := Option.some.inj hm
  exact hret 22 ls _ _ dX6_movesOf_22 hP hS
set_option maxHeartbeats 4000000 in
set_option maxRecDepth 100000 in
theorem kcX6_moves (l : Launch) (dC : Nat → ClassId) (dI : Nat → Nat → Nat) (cy : Nat → ClassId) (fu : Nat) (h0 : Nat) (a0 : Nat → Nat) (w0 : ob_T) (p1 : Int32) (sz : Nat) (R : Int32) (hm : mX6_moves fu w0 p1 = some R) : Met l yX6_moves wsX6_moves (rmN 3 72) (va_Pc [.ref h0, .int p1] (cPre dC dI cy ((o_X6 cy h0 a0 w0)) sz)) (va_Qi (fun (r : Int32) (_ : Unit) => r = R) (fun _ => cPost dC dI cy ((o_X6 cy h0 a0 w0)) ((o_X6 cy h0 a0 w0)) sz) (va_A ((o_X6 cy h0 a0 w0)) sz)) 0 0 (va_A ((o_X6 cy h0 a0 w0)) sz) := by
  refine mt_i (cc := cX6_moves) (maxL := 2) (by decide) rfl (Nat.le_of_ble_eq_true rfl) rfl ?_
  intro p e s m below meth c Q A hx hb hml hown hts hK hA hD hP hret ls hl
  have hown : s.vm.findClass RX6 = some m.cls := hown
  have hl : lv_has ls 2 [(0, .ref h0), (1, .int p1)] := hl
  have hDa : ∀ v0 : ob_T, va_D A ((o_X6 cy h0 a0 v0)) := fun _ => va_D_adr hD rfl
  have hS : va_S A s.heap s.heap [] := va_S.rf
  unfold mX6_moves at hm
  refine lv_aload_n hx hb dX6_moves_0 rfl (lv_at hl 0 rfl) ?_
  refine lv_iload_n hx hb dX6_moves_1 rfl (lv_at hl 1 rfl) ?_
  obtain ⟨r1, hr1, hm⟩ := bn_call hm
  refine ca_vi (wr := []) (wn := (o_X6 cy h0 a0 w0)) ⟨hx, hb, hml, hown, hts⟩ hK hA (hDa _) hP hS [0, 1, 2, 3, 4, 5, 6, 7, 8] [] [0, 1, 2, 3, 4, 5, 6, 7, 8] (fun sz => kcX6_isRealm l dC dI cy fu h0 a0 w0 p1 sz r1 hr1) rfl rfl (by decide) (by decide) (by decide) rfl (cwV 1 hts gX6_moves_X6_isRealm rfl rfl rfl ⟨rfl, ydX6_isRealm⟩ ⟨Nat.le_of_ble_eq_true rfl, Nat.le_of_ble_eq_true rfl⟩) 6 0 rfl rfl rfl rfl hl.1 rfl (Nat.le_of_ble_eq_true rfl) dX6_moves_2 ⟨Nat.zero_le _, Nat.zero_le _⟩ (fun H locs hP hS => ?_)
  refine lv_if_eq (tgt := 16) hx hb dX6_moves_5 (by decide) (fun hc => ?_) (fun hc => ?_)
  · replace hm := (if_pos hc).symm.trans hm
    refine lv_iconst (v := (-1 : Int32)) hx hb dX6_moves_16 (by decide) ?_
    obtain rfl := Option.some.inj hm
    exact hret 17 ls _ _ dX6_moves_17 hP hS
  replace hm := (if_neg hc).symm.trans hm
  refine lv_aload_n hx hb dX6_moves_8 rfl (lv_at hl 0 rfl) ?_
  refine lv_iload_n hx hb dX6_moves_9 rfl (lv_at hl 1 rfl) ?_
  obtain ⟨r2, hr2, hm⟩ := bn_call hm
  refine ca_vi (wr := []) (wn := (o_X6 cy h0 a0 w0)) ⟨hx, hb, hml, hown, hts⟩ hK hA (hDa _) hP hS [0, 1, 2, 3, 4, 5, 6, 7, 8] [] [0, 1, 2, 3, 4, 5, 6, 7, 8] (fun sz => kcX6_movesOf l dC dI cy fu h0 a0 w0 p1 sz r2 hr2) rfl rfl (by decide) (by decide) (by decide) rfl (cwV 1 hts gX6_moves_X6_movesOf rfl rfl rfl ⟨rfl, ydX6_movesOf⟩ ⟨Nat.le_of_ble_eq_true rfl, Nat.le_of_ble_eq_true rfl⟩) 6 0 rfl rfl rfl rfl hl.1 rfl (Nat.le_of_ble_eq_true rfl) dX6_moves_10 ⟨Nat.zero_le _, Nat.zero_le _⟩ (fun H locs hP hS => ?_)
  refine lv_goto (tgt := 17) hx hb dX6_moves_13 (by decide) ?_
  obtain rfl := Option.some.inj hm
  exact hret 17 ls _ _ dX6_moves_17 hP hS
set_option maxHeartbeats 4000000 in
set_option maxRecDepth 100000 in
theorem kcX6_endOf (l : Launch) (dC : Nat → ClassId) (dI : Nat → Nat → Nat) (cy : Nat → ClassId) (fu : Nat) (h0 : Nat) (a0 : Nat → Nat) (w0 : ob_T) (p1 : Int32) (p2 : Int32) (sz : Nat) (R : Int64) (hm : mX6_endOf fu w0 p1 p2 = some R) : Met l yX6_endOf wsX6_endOf (rmN 1 21) (va_Pc [.ref h0, .int p1, .int p2] (cPre dC dI cy ((o_X6 cy h0 a0 w0)) sz)) (va_Ql (fun (r : Int64) (_ : Unit) => r = R) (fun _ => cPost dC dI cy ((o_X6 cy h0 a0 w0)) ((o_X6 cy h0 a0 w0)) sz) (va_A ((o_X6 cy h0 a0 w0)) sz)) 0 0 (va_A ((o_X6 cy h0 a0 w0)) sz) := by
  refine mt_l (cc := cX6_endOf) (maxL := 11) (by decide) rfl (Nat.le_of_ble_eq_true rfl) rfl ?_
  intro p e s m below meth c Q A hx hb hml hown hts hK hA hD hP hret ls hl
  have hown : s.vm.findClass RX6 = some m.cls := hown
  have hl : lv_has ls 11 [(0, .ref h0), (1, .int p1), (2, .int p2)] := hl
  have hDa : ∀ v0 : ob_T, va_D A ((o_X6 cy h0 a0 v0)) := fun _ => va_D_adr hD rfl
  have i6 : ∀ w ∈ wsX60, w ∈ wsX6_endOf := fun _ h => List.mem_cons_of_mem _ (List.mem_append_right _ h)
  have hS : va_S A s.heap s.heap [] := va_S.rf
  unfold mX6_endOf at hm
  refine lv_aload_n hx hb dX6_endOf_0 rfl (lv_at hl 0 rfl) ?_
  refine va_get (D := (dC, dI)) (ci := 6) (v := .ref (a0 2)) (C := RX6) (T := TX6) (N := 11) hx hb hts i6 hown hK hP 0 rfl rfl 2 (by decide) (hts (.fieldLink RX6 13 "TwoMetalsModel" "realms" "[J") (List.mem_of_getElem? (i := 1) rfl)) (fun _ h9 => h9) rfl dX6_endOf_1 ?_
  refine lv_bipush (v := (9 : Int32)) hx hb dX6_endOf_4 (by decide) ?_
  refine lv_iload_n hx hb dX6_endOf_6 rfl (lv_at hl 1 rfl) ?_
  refine lv_imul hx hb dX6_endOf_7 ?_
  obtain ⟨hi1, hm⟩ := ck_in hm
  refine va_lald hx hb hK hP 2 1 rfl rfl hi1 dX6_endOf_8 ?_
  refine lv_topl (fun x2 e3 => ?_)
  replace hm := bn_at e3 hm
  refine lv_lstore_n (lv' := [(3, .long x2), (0, .ref h0), (1, .int p1), (2, .int p2)]) hx hb dX6_endOf_9 rfl hl (by decide) rfl (fun ls hl => ?_)
  refine lv_aload_n hx hb dX6_endOf_10 rfl (lv_at hl 1 rfl) ?_
  refine va_get (D := (dC, dI)) (ci := 6) (v := .ref (a0 2)) (C := RX6) (T := TX6) (N := 11) hx hb hts i6 hown hK hP 0 rfl rfl 2 (by decide) (hts (.fieldLink RX6 13 "TwoMetalsModel" "realms" "[J") (List.mem_of_getElem? (i := 1) rfl)) (fun _ h9 => h9) rfl dX6_endOf_11 ?_
  refine lv_bipush (v := (9 : Int32)) hx hb dX6_endOf_14 (by decide) ?_
  refine lv_iload_n hx hb dX6_endOf_16 rfl (lv_at hl 2 rfl) ?_
  refine lv_imul hx hb dX6_endOf_17 ?_
  refine lv_iconst (v := (1 : Int32)) hx hb dX6_endOf_18 (by decide) ?_
  refine lv_iadd hx hb dX6_endOf_19 ?_
  obtain ⟨hi4, hm⟩ := ck_in hm
  refine va_lald hx hb hK hP 2 1 rfl rfl hi4 dX6_endOf_20 ?_
  refine lv_topl (fun x5 e6 => ?_)
  replace hm := bn_at e6 hm
  refine lv_lstore (lv' := [(5, .long x5), (3, .long x2), (0, .ref h0), (1, .int p1), (2, .int p2)]) hx hb dX6_endOf_21 hl (by decide) rfl (fun ls hl => ?_)
  refine lv_aload_n hx hb dX6_endOf_23 rfl (lv_at hl 2 rfl) ?_
  refine va_get (D := (dC, dI)) (ci := 6) (v := .ref (a0 2)) (C := RX6) (T := TX6) (N := 11) hx hb hts i6 hown hK hP 0 rfl rfl 2 (by decide) (hts (.fieldLink RX6 13 "TwoMetalsModel" "realms" "[J") (List.mem_of_getElem? (i := 1) rfl)) (fun _ h9 => h9) rfl dX6_endOf_24 ?_
  refine lv_bipush (v := (9 : Int32)) hx hb dX6_endOf_27 (by decide) ?_
  refine lv_iload_n hx hb dX6_endOf_29 rfl (lv_at hl 3 rfl) ?_
  refine lv_imul hx hb dX6_endOf_30 ?_
  refine lv_iconst (v := (2 : Int32)) hx hb dX6_endOf_31 (by decide) ?_
  refine lv_iadd hx hb dX6_endOf_32 ?_
  obtain ⟨hi7, hm⟩ := ck_in hm
  refine va_lald hx hb hK hP 2 1 rfl rfl hi7 dX6_endOf_33 ?_
  refine lv_topl (fun x8 e9 => ?_)
  replace hm := bn_at e9 hm
  refine lv_lstore (lv' := [(7, .long x8), (5, .long x5), (3, .long x2), (0, .ref h0), (1, .int p1), (2, .int p2)]) hx hb dX6_endOf_34 hl (by decide) rfl (fun ls hl => ?_)
  refine lv_iload_n hx hb dX6_endOf_36 rfl (lv_at hl 5 rfl) ?_
  refine lv_if_eq (tgt := 75) hx hb dX6_endOf_37 (by decide) (fun hc => ?_) (fun hc => ?_)
  · replace hm := (if_pos hc).symm.trans hm
    refine lv_ldc2 (v := (1000 : Int64)) hx hb hown (hts (.constantLong RX6 73 (1000)) (List.mem_of_getElem? (i := 2) rfl)) dX6_endOf_75 ?_
    refine lv_lload_n hx hb dX6_endOf_78 rfl (lv_at hl 2 rfl) ?_
    refine lv_lload hx hb dX6_endOf_79 (lv_at hl 1 rfl) ?_
    refine lv_lsub hx hb dX6_endOf_81 ?_
    obtain ⟨r10, hr10, hm⟩ := bn_call hm
    refine ca_sl (wr := (o_X6 cy h0 a0 w0)) (wn := (o_X6 cy h0 a0 w0)) ⟨hx, hb, hml, hown, hts⟩ hK hA (hDa _) hP hS [] [0, 1, 2, 3, 4, 5, 6, 7, 8] [0, 1, 2, 3, 4, 5, 6, 7, 8] (fun sz => kcX6_above l dC dI cy fu (x2 - x5) sz r10 hr10) rfl rfl (by decide) (by decide) (by decide) rfl (va_cwS 1 hts gX6_endOf_X6_above rfl rfl rfl ydX6_above ⟨Nat.le_of_ble_eq_true rfl, Nat.le_of_ble_eq_true rfl⟩) rfl hl.1 rfl (Nat.le_of_ble_eq_true rfl) dX6_endOf_82 ⟨Nat.zero_le _, Nat.zero_le _⟩ (fun H locs hP hS => ?_)
    refine lv_lmul hx hb dX6_endOf_85 ?_
    refine lv_ldc2 (v := (999 : Int64)) hx hb hown (hts (.constantLong RX6 122 (999)) (List.mem_of_getElem? (i := 4) rfl)) dX6_endOf_86 ?_
    refine lv_ladd hx hb dX6_endOf_89 ?_
    refine lv_lload hx hb dX6_endOf_90 (lv_at hl 0 rfl) ?_
    refine lv_ladd hx hb dX6_endOf_92 ?_
    refine lv_ldc2 (v := (1000 : Int64)) hx hb hown (hts (.constantLong RX6 73 (1000)) (List.mem_of_getElem? (i := 2) rfl)) dX6_endOf_93 ?_
    refine lv_lload hx hb dX6_endOf_96 (lv_at hl 0 rfl) ?_
    refine lv_ladd hx hb dX6_endOf_98 ?_
    obtain ⟨hz11, hm⟩ := ck_dv hm
    refine lv_ldiv hx hb dX6_endOf_99 hz11 ?_
    obtain rfl := Option.some.inj hm
    exact hret 100 ls _ _ dX6_endOf_100 hP hS
  replace hm := (if_neg hc).symm.trans hm
  refine lv_ldc2 (v := (1000 : Int64)) hx hb hown (hts (.constantLong RX6 73 (1000)) (List.mem_of_getElem? (i := 2) rfl)) dX6_endOf_40 ?_
  refine lv_lload_n hx hb dX6_endOf_43 rfl (lv_at hl 2 rfl) ?_
  refine lv_lload hx hb dX6_endOf_44 (lv_at hl 1 rfl) ?_
  refine lv_ladd hx hb dX6_endOf_46 ?_
  refine lv_lmul hx hb dX6_endOf_47 ?_
  refine lv_ldc2 (v := (1000 : Int64)) hx hb hown (hts (.constantLong RX6 73 (1000)) (List.mem_of_getElem? (i := 2) rfl)) dX6_endOf_48 ?_
  refine lv_lload hx hb dX6_endOf_51 (lv_at hl 0 rfl) ?_
  refine lv_lsub hx hb dX6_endOf_53 ?_
  obtain ⟨hz12, hm⟩ := ck_dv hm
  refine lv_ldiv hx hb dX6_endOf_54 hz12 ?_
  refine lv_topl (fun x13 e14 => ?_)
  replace hm := bn_at e14 hm
  refine lv_lstore (lv' := [(9, .long x13), (7, .long x8), (5, .long x5), (3, .long x2), (0, .ref h0), (1, .int p1), (2, .int p2)]) hx hb dX6_endOf_55 hl (by decide) rfl (fun ls hl => ?_)
  refine lv_lload hx hb dX6_endOf_57 (lv_at hl 0 rfl) ?_
  refine lv_ldc2 (v := (1000000 : Int64)) hx hb hown (hts (.constantLong RX6 109 (1000000)) (List.mem_of_getElem? (i := 3) rfl)) dX6_endOf_59 ?_
  refine W.lcmp hx hb dX6_endOf_62 ?_
  refine lv_if_le (tgt := 72) hx hb dX6_endOf_63 (by decide) (fun hc => ?_) (fun hc => ?_)
  · replace hm := (if_pos hc).symm.trans hm
    refine lv_lload hx hb dX6_endOf_72 (lv_at hl 0 rfl) ?_
    obtain rfl := Option.some.inj hm
    exact hret 74 ls _ _ dX6_endOf_74 hP hS
  replace hm := (if_neg hc).symm.trans hm
  refine lv_ldc2 (v := (1000000 : Int64)) hx hb hown (hts (.constantLong RX6 109 (1000000)) (List.mem_of_getElem? (i := 3) rfl)) dX6_endOf_66 ?_
  refine lv_goto (tgt := 74) hx hb dX6_endOf_69 (by decide) ?_
  obtain rfl := Option.some.inj hm
  exact hret 74 ls _ _ dX6_endOf_74 hP hS
set_option maxHeartbeats 4000000 in
set_option maxRecDepth 100000 in
theorem kcX6_ends (l : Launch) (dC : Nat → ClassId) (dI : Nat → Nat → Nat) (cy : Nat → ClassId) (fu : Nat) (h0 : Nat) (a0 : Nat → Nat) (w0 : ob_T) (p1 : Int32) (p2 : Int32) (sz : Nat) (R : Int32) (hm : mX6_ends fu w0 p1 p2 = some R) : Met l yX6_ends wsX6_ends (rmN 2 51) (va_Pc [.ref h0, .int p1, .int p2] (cPre dC dI cy ((o_X6 cy h0 a0 w0)) sz)) (va_Qi (fun (r : Int32) (_ : Unit) => r = R) (fun _ => cPost dC dI cy ((o_X6 cy h0 a0 w0)) ((o_X6 cy h0 a0 w0)) sz) (va_A ((o_X6 cy h0 a0 w0)) sz)) 0 0 (va_A ((o_X6 cy h0 a0 w0)) sz) := by
  refine mt_i (cc := cX6_ends) (maxL := 3) (by decide) rfl (Nat.le_of_ble_eq_true rfl) rfl ?_
  intro p e s m below meth c Q A hx hb hml hown hts hK hA hD hP hret ls hl
  have hown : s.vm.findClass RX6 = some m.cls := hown
  have hl : lv_has ls 3 [(0, .ref h0), (1, .int p1), (2, .int p2)] := hl
  have hDa : ∀ v0 : ob_T, va_D A ((o_X6 cy h0 a0 v0)) := fun _ => va_D_adr hD rfl
  have hS : va_S A s.heap s.heap [] := va_S.rf
  have hB30 : ∀ (s0 : Int32) (s1 : Int32) (H : Heap) (locs : List Loc) (ls : Array Slot), bX6_ends_30 fu w0 s0 s1 = some R → va_P (dC, dI) vwCl ((o_X6 cy h0 a0 w0)) H → va_S A s.heap H locs → lv_has ls 3 [] → W p l e (rmN 2 51) s m ([.ref h0, .int p1, .int p2] : List Value).toArray below meth c H locs 0 0 Q (F0 m 30 ls [.int s0, .int s1, .ref h0]) := by
    intro s0 s1 H locs ls hm hP hS hl
    unfold bX6_ends_30 at hm
    obtain ⟨r1, hr1, hm⟩ := bn_call hm
    refine ca_vl (wr := []) (wn := (o_X6 cy h0 a0 w0)) ⟨hx, hb, hml, hown, hts⟩ hK hA (hDa _) hP hS [0, 1, 2, 3, 4, 5, 6, 7, 8] [] [0, 1, 2, 3, 4, 5, 6, 7, 8] (fun sz => kcX6_endOf l dC dI cy fu h0 a0 w0 s1 s0 sz r1 hr1) rfl rfl (by decide) (by decide) (by decide) rfl (cwV 2 hts gX6_ends_X6_endOf rfl rfl rfl ⟨rfl, ydX6_endOf⟩ ⟨Nat.le_of_ble_eq_true rfl, Nat.le_of_ble_eq_true rfl⟩) 6 0 rfl rfl rfl rfl hl.1 rfl (Nat.le_of_ble_eq_true rfl) dX6_ends_30 ⟨Nat.zero_le _, Nat.zero_le _⟩ (fun H locs hP hS => ?_)
    refine lv_l2i (v := r1.toInt32) hx hb dX6_ends_33 rfl ?_
    refine lv_goto (tgt := 38) hx hb dX6_ends_34 (by decide) ?_
    obtain rfl := Option.some.inj hm
    exact hret 38 ls _ _ dX6_ends_38 hP hS
  unfold mX6_ends at hm
  refine lv_aload_n hx hb dX6_ends_0 rfl (lv_at hl 0 rfl) ?_
  refine lv_iload_n hx hb dX6_ends_1 rfl (lv_at hl 1 rfl) ?_
  obtain ⟨r2, hr2, hm⟩ := bn_call hm
  refine ca_vi (wr := []) (wn := (o_X6 cy h0 a0 w0)) ⟨hx, hb, hml, hown, hts⟩ hK hA (hDa _) hP hS [0, 1, 2, 3, 4, 5, 6, 7, 8] [] [0, 1, 2, 3, 4, 5, 6, 7, 8] (fun sz => kcX6_isRealm l dC dI cy fu h0 a0 w0 p1 sz r2 hr2) rfl rfl (by decide) (by decide) (by decide) rfl (cwV 1 hts gX6_ends_X6_isRealm rfl rfl rfl ⟨rfl, ydX6_isRealm⟩ ⟨Nat.le_of_ble_eq_true rfl, Nat.le_of_ble_eq_true rfl⟩) 6 0 rfl rfl rfl rfl hl.1 rfl (Nat.le_of_ble_eq_true rfl) dX6_ends_2 ⟨Nat.zero_le _, Nat.zero_le _⟩ (fun H locs hP hS => ?_)
  refine lv_if_eq (tgt := 37) hx hb dX6_ends_5 (by decide) (fun hc => ?_) (fun hc => ?_)
  · replace hm := (if_pos hc).symm.trans hm
    refine lv_iconst (v := (-1 : Int32)) hx hb dX6_ends_37 (by decide) ?_
    obtain rfl := Option.some.inj hm
    exact hret 38 ls _ _ dX6_ends_38 hP hS
  replace hm := (if_neg hc).symm.trans hm
  refine lv_iload_n hx hb dX6_ends_8 rfl (lv_at hl 2 rfl) ?_
  refine lv_i2l (v := p2.toInt64) hx hb dX6_ends_9 rfl ?_
  refine lv_lconst (v := (0 : Int64)) hx hb dX6_ends_10 (by decide) ?_
  refine lv_lconst (v := (1 : Int64)) hx hb dX6_ends_11 (by decide) ?_
  obtain ⟨r3, hr3, hm⟩ := bn_call hm
  refine ca_si (wr := (o_X6 cy h0 a0 w0)) (wn := (o_X6 cy h0 a0 w0)) ⟨hx, hb, hml, hown, hts⟩ hK hA (hDa _) hP hS [] [0, 1, 2, 3, 4, 5, 6, 7, 8] [0, 1, 2, 3, 4, 5, 6, 7, 8] (fun sz => kcX6_in l dC dI cy fu p2.toInt64 (0 : Int64) (1 : Int64) sz r3 hr3) rfl rfl (by decide) (by decide) (by decide) rfl (va_cwS 3 hts gX6_ends_X6_in rfl rfl rfl ydX6_in ⟨Nat.le_of_ble_eq_true rfl, Nat.le_of_ble_eq_true rfl⟩) rfl hl.1 rfl (Nat.le_of_ble_eq_true rfl) dX6_ends_12 ⟨Nat.zero_le _, Nat.zero_le _⟩ (fun H locs hP hS => ?_)
  refine lv_if_eq (tgt := 37) hx hb dX6_ends_15 (by decide) (fun hc => ?_) (fun hc => ?_)
  · replace hm := (if_pos hc).symm.trans hm
    refine lv_iconst (v := (-1 : Int32)) hx hb dX6_ends_37 (by decide) ?_
    obtain rfl := Option.some.inj hm
    exact hret 38 ls _ _ dX6_ends_38 hP hS
  replace hm := (if_neg hc).symm.trans hm
  refine lv_aload_n hx hb dX6_ends_18 rfl (lv_at hl 0 rfl) ?_
  refine lv_iload_n hx hb dX6_ends_19 rfl (lv_at hl 1 rfl) ?_
  refine lv_iload_n hx hb dX6_ends_20 rfl (lv_at hl 2 rfl) ?_
  refine lv_iconst (v := (1 : Int32)) hx hb dX6_ends_21 (by decide) ?_
  refine lv_icmp_ne (tgt := 29) hx hb dX6_ends_22 (by decide) (fun hc => ?_) (fun hc => ?_)
  · replace hm := (if_neg hc).symm.trans hm
    refine lv_iconst (v := (0 : Int32)) hx hb dX6_ends_29 (by decide) ?_
    exact hB30 (0 : Int32) p1 _ _ ls hm hP hS (lv_sub hl [] rfl)
  replace hm := (if_pos hc).symm.trans hm
  refine lv_iconst (v := (1 : Int32)) hx hb dX6_ends_25 (by decide) ?_
  refine lv_goto (tgt := 30) hx hb dX6_ends_26 (by decide) ?_
  exact hB30 (1 : Int32) p1 _ _ ls hm hP hS (lv_sub hl [] rfl)
set_option maxHeartbeats 4000000 in
set_option maxRecDepth 100000 in
theorem kcX6_holdsRatio (l : Launch) (dC : Nat → ClassId) (dI : Nat → Nat → Nat) (cy : Nat → ClassId) (fu : Nat) (h0 : Nat) (a0 : Nat → Nat) (w0 : ob_T) (p1 : Int32) (sz : Nat) (R : Int32) (hm : mX6_holdsRatio fu w0 p1 = some R) : Met l yX6_holdsRatio wsX6_holdsRatio (rmN 2 51) (va_Pc [.ref h0, .int p1] (cPre dC dI cy ((o_X6 cy h0 a0 w0)) sz)) (va_Qi (fun (r : Int32) (_ : Unit) => r = R) (fun _ => cPost dC dI cy ((o_X6 cy h0 a0 w0)) ((o_X6 cy h0 a0 w0)) sz) (va_A ((o_X6 cy h0 a0 w0)) sz)) 0 0 (va_A ((o_X6 cy h0 a0 w0)) sz) := by
  refine mt_z (cc := cX6_holdsRatio) (maxL := 4) (by decide) rfl (Nat.le_of_ble_eq_true rfl) rfl ?_
  intro p e s m below meth c Q A hx hb hml hown hts hK hA hD hP hret ls hl
  have hown : s.vm.findClass RX6 = some m.cls := hown
  have hl : lv_has ls 4 [(0, .ref h0), (1, .int p1)] := hl
  have hDa : ∀ v0 : ob_T, va_D A ((o_X6 cy h0 a0 v0)) := fun _ => va_D_adr hD rfl
  have i6 : ∀ w ∈ wsX60, w ∈ wsX6_holdsRatio := fun _ h => List.mem_cons_of_mem _ (List.mem_append_right _ h)
  have hS : va_S A s.heap s.heap [] := va_S.rf
  unfold mX6_holdsRatio at hm
  refine lv_aload_n hx hb dX6_holdsRatio_0 rfl (lv_at hl 0 rfl) ?_
  obtain ⟨r1, hr1, hm⟩ := bn_call hm
  refine ca_vl (wr := []) (wn := (o_X6 cy h0 a0 w0)) ⟨hx, hb, hml, hown, hts⟩ hK hA (hDa _) hP hS [0, 1, 2, 3, 4, 5, 6, 7, 8] [] [0, 1, 2, 3, 4, 5, 6, 7, 8] (fun sz => kcX6_ratio l dC dI cy fu h0 a0 w0 sz r1 hr1) rfl rfl (by decide) (by decide) (by decide) rfl (cwV 0 hts gX6_holdsRatio_X6_ratio rfl rfl rfl ⟨rfl, ydX6_ratio⟩ ⟨Nat.le_of_ble_eq_true rfl, Nat.le_of_ble_eq_true rfl⟩) 6 0 rfl rfl rfl rfl hl.1 rfl (Nat.le_of_ble_eq_true rfl) dX6_holdsRatio_1 ⟨Nat.zero_le _, Nat.zero_le _⟩ (fun H locs hP hS => ?_)
  refine lv_lstore_n (lv' := [(2, .long r1), (0, .ref h0), (1, .int p1)]) hx hb dX6_holdsRatio_4 rfl hl (by decide) rfl (fun ls hl => ?_)
  refine lv_aload_n hx hb dX6_holdsRatio_5 rfl (lv_at hl 1 rfl) ?_
  refine lv_iload_n hx hb dX6_holdsRatio_6 rfl (lv_at hl 2 rfl) ?_
  obtain ⟨r2, hr2, hm⟩ := bn_call hm
  refine ca_vi (wr := []) (wn := (o_X6 cy h0 a0 w0)) ⟨hx, hb, hml, hown, hts⟩ hK hA (hDa _) hP hS [0, 1, 2, 3, 4, 5, 6, 7, 8] [] [0, 1, 2, 3, 4, 5, 6, 7, 8] (fun sz => kcX6_isRealm l dC dI cy fu h0 a0 w0 p1 sz r2 hr2) rfl rfl (by decide) (by decide) (by decide) rfl (cwV 1 hts gX6_holdsRatio_X6_isRealm rfl rfl rfl ⟨rfl, ydX6_isRealm⟩ ⟨Nat.le_of_ble_eq_true rfl, Nat.le_of_ble_eq_true rfl⟩) 6 0 rfl rfl rfl rfl hl.1 rfl (Nat.le_of_ble_eq_true rfl) dX6_holdsRatio_7 ⟨Nat.zero_le _, Nat.zero_le _⟩ (fun H locs hP hS => ?_)
  refine lv_if_eq (tgt := 87) hx hb dX6_holdsRatio_10 (by decide) (fun hc => ?_) (fun hc => ?_)
  · replace hm := (if_pos hc).symm.trans hm
    refine lv_iconst (v := (0 : Int32)) hx hb dX6_holdsRatio_87 (by decide) ?_
    obtain rfl := Option.some.inj hm
    exact hret 88 ls _ _ dX6_holdsRatio_88 nar_0 hP hS
  replace hm := (if_neg hc).symm.trans hm
  refine lv_aload_n hx hb dX6_holdsRatio_13 rfl (lv_at hl 1 rfl) ?_
  refine lv_iload_n hx hb dX6_holdsRatio_14 rfl (lv_at hl 2 rfl) ?_
  obtain ⟨r3, hr3, hm⟩ := bn_call hm
  refine ca_vi (wr := []) (wn := (o_X6 cy h0 a0 w0)) ⟨hx, hb, hml, hown, hts⟩ hK hA (hDa _) hP hS [0, 1, 2, 3, 4, 5, 6, 7, 8] [] [0, 1, 2, 3, 4, 5, 6, 7, 8] (fun sz => kcX6_mints l dC dI cy fu h0 a0 w0 p1 sz r3 hr3) rfl rfl (by decide) (by decide) (by decide) rfl (cwV 1 hts gX6_holdsRatio_X6_mints rfl rfl rfl ⟨rfl, ydX6_mints⟩ ⟨Nat.le_of_ble_eq_true rfl, Nat.le_of_ble_eq_true rfl⟩) 6 0 rfl rfl rfl rfl hl.1 rfl (Nat.le_of_ble_eq_true rfl) dX6_holdsRatio_15 ⟨Nat.zero_le _, Nat.zero_le _⟩ (fun H locs hP hS => ?_)
  refine lv_if_eq (tgt := 87) hx hb dX6_holdsRatio_18 (by decide) (fun hc => ?_) (fun hc => ?_)
  · replace hm := (if_pos hc).symm.trans hm
    refine lv_iconst (v := (0 : Int32)) hx hb dX6_holdsRatio_87 (by decide) ?_
    obtain rfl := Option.some.inj hm
    exact hret 88 ls _ _ dX6_holdsRatio_88 nar_0 hP hS
  replace hm := (if_neg hc).symm.trans hm
  refine lv_lload_n hx hb dX6_holdsRatio_21 rfl (lv_at hl 0 rfl) ?_
  refine lv_aload_n hx hb dX6_holdsRatio_22 rfl (lv_at hl 1 rfl) ?_
  refine lv_iload_n hx hb dX6_holdsRatio_23 rfl (lv_at hl 2 rfl) ?_
  refine lv_iconst (v := (0 : Int32)) hx hb dX6_holdsRatio_24 (by decide) ?_
  obtain ⟨r4, hr4, hm⟩ := bn_call hm
  refine ca_vl (wr := []) (wn := (o_X6 cy h0 a0 w0)) ⟨hx, hb, hml, hown, hts⟩ hK hA (hDa _) hP hS [0, 1, 2, 3, 4, 5, 6, 7, 8] [] [0, 1, 2, 3, 4, 5, 6, 7, 8] (fun sz => kcX6_endOf l dC dI cy fu h0 a0 w0 p1 (0 : Int32) sz r4 hr4) rfl rfl (by decide) (by decide) (by decide) rfl (cwV 2 hts gX6_holdsRatio_X6_endOf rfl rfl rfl ⟨rfl, ydX6_endOf⟩ ⟨Nat.le_of_ble_eq_true rfl, Nat.le_of_ble_eq_true rfl⟩) 6 0 rfl rfl rfl rfl hl.1 rfl (Nat.le_of_ble_eq_true rfl) dX6_holdsRatio_25 ⟨Nat.zero_le _, Nat.zero_le _⟩ (fun H locs hP hS => ?_)
  refine W.lcmp hx hb dX6_holdsRatio_28 ?_
  refine lv_if_lt (tgt := 87) hx hb dX6_holdsRatio_29 (by decide) (fun hc => ?_) (fun hc => ?_)
  · replace hm := (if_pos hc).symm.trans hm
    refine lv_iconst (v := (0 : Int32)) hx hb dX6_holdsRatio_87 (by decide) ?_
    obtain rfl := Option.some.inj hm
    exact hret 88 ls _ _ dX6_holdsRatio_88 nar_0 hP hS
  replace hm := (if_neg hc).symm.trans hm
  refine lv_lload_n hx hb dX6_holdsRatio_32 rfl (lv_at hl 0 rfl) ?_
  refine lv_aload_n hx hb dX6_holdsRatio_33 rfl (lv_at hl 1 rfl) ?_
  refine lv_iload_n hx hb dX6_holdsRatio_34 rfl (lv_at hl 2 rfl) ?_
  refine lv_iconst (v := (1 : Int32)) hx hb dX6_holdsRatio_35 (by decide) ?_
  obtain ⟨r5, hr5, hm⟩ := bn_call hm
  refine ca_vl (wr := []) (wn := (o_X6 cy h0 a0 w0)) ⟨hx, hb, hml, hown, hts⟩ hK hA (hDa _) hP hS [0, 1, 2, 3, 4, 5, 6, 7, 8] [] [0, 1, 2, 3, 4, 5, 6, 7, 8] (fun sz => kcX6_endOf l dC dI cy fu h0 a0 w0 p1 (1 : Int32) sz r5 hr5) rfl rfl (by decide) (by decide) (by decide) rfl (cwV 2 hts gX6_holdsRatio_X6_endOf rfl rfl rfl ⟨rfl, ydX6_endOf⟩ ⟨Nat.le_of_ble_eq_true rfl, Nat.le_of_ble_eq_true rfl⟩) 6 0 rfl rfl rfl rfl hl.1 rfl (Nat.le_of_ble_eq_true rfl) dX6_holdsRatio_36 ⟨Nat.zero_le _, Nat.zero_le _⟩ (fun H locs hP hS => ?_)
  refine W.lcmp hx hb dX6_holdsRatio_39 ?_
  refine lv_if_gt (tgt := 87) hx hb dX6_holdsRatio_40 (by decide) (fun hc => ?_) (fun hc => ?_)
  · replace hm := (if_pos hc).symm.trans hm
    refine lv_iconst (v := (0 : Int32)) hx hb dX6_holdsRatio_87 (by decide) ?_
    obtain rfl := Option.some.inj hm
    exact hret 88 ls _ _ dX6_holdsRatio_88 nar_0 hP hS
  replace hm := (if_neg hc).symm.trans hm
  refine lv_aload_n hx hb dX6_holdsRatio_43 rfl (lv_at hl 1 rfl) ?_
  refine va_get (D := (dC, dI)) (ci := 6) (v := .ref (a0 2)) (C := RX6) (T := TX6) (N := 11) hx hb hts i6 hown hK hP 0 rfl rfl 2 (by decide) (hts (.fieldLink RX6 13 "TwoMetalsModel" "realms" "[J") (List.mem_of_getElem? (i := 1) rfl)) (fun _ h9 => h9) rfl dX6_holdsRatio_44 ?_
  refine lv_bipush (v := (9 : Int32)) hx hb dX6_holdsRatio_47 (by decide) ?_
  refine lv_iload_n hx hb dX6_holdsRatio_49 rfl (lv_at hl 2 rfl) ?_
  refine lv_imul hx hb dX6_holdsRatio_50 ?_
  refine lv_iconst (v := (3 : Int32)) hx hb dX6_holdsRatio_51 (by decide) ?_
  refine lv_iadd hx hb dX6_holdsRatio_52 ?_
  obtain ⟨hi6, hm⟩ := ck_in hm
  refine va_lald hx hb hK hP 2 1 rfl rfl hi6 dX6_holdsRatio_53 ?_
  refine lv_lconst (v := (0 : Int64)) hx hb dX6_holdsRatio_54 (by decide) ?_
  refine W.lcmp hx hb dX6_holdsRatio_55 ?_
  refine lv_if_le (tgt := 87) hx hb dX6_holdsRatio_56 (by decide) (fun hc => ?_) (fun hc => ?_)
  · replace hm := (if_pos hc).symm.trans hm
    refine lv_iconst (v := (0 : Int32)) hx hb dX6_holdsRatio_87 (by decide) ?_
    obtain rfl := Option.some.inj hm
    exact hret 88 ls _ _ dX6_holdsRatio_88 nar_0 hP hS
  replace hm := (if_neg hc).symm.trans hm
  refine lv_aload_n hx hb dX6_holdsRatio_59 rfl (lv_at hl 1 rfl) ?_
  refine va_get (D := (dC, dI)) (ci := 6) (v := .ref (a0 2)) (C := RX6) (T := TX6) (N := 11) hx hb hts i6 hown hK hP 0 rfl rfl 2 (by decide) (hts (.fieldLink RX6 13 "TwoMetalsModel" "realms" "[J") (List.mem_of_getElem? (i := 1) rfl)) (fun _ h9 => h9) rfl dX6_holdsRatio_60 ?_
  refine lv_bipush (v := (9 : Int32)) hx hb dX6_holdsRatio_63 (by decide) ?_
  refine lv_iload_n hx hb dX6_holdsRatio_65 rfl (lv_at hl 2 rfl) ?_
  refine lv_imul hx hb dX6_holdsRatio_66 ?_
  refine lv_iconst (v := (4 : Int32)) hx hb dX6_holdsRatio_67 (by decide) ?_
  refine lv_iadd hx hb dX6_holdsRatio_68 ?_
  obtain ⟨hi7, hm⟩ := ck_in hm
  refine va_lald hx hb hK hP 2 1 rfl rfl hi7 dX6_holdsRatio_69 ?_
  refine lv_aload_n hx hb dX6_holdsRatio_70 rfl (lv_at hl 1 rfl) ?_
  refine va_get (D := (dC, dI)) (ci := 6) (v := .ref (a0 2)) (C := RX6) (T := TX6) (N := 11) hx hb hts i6 hown hK hP 0 rfl rfl 2 (by decide) (hts (.fieldLink RX6 13 "TwoMetalsModel" "realms" "[J") (List.mem_of_getElem? (i := 1) rfl)) (fun _ h9 => h9) rfl dX6_holdsRatio_71 ?_
  refine lv_bipush (v := (9 : Int32)) hx hb dX6_holdsRatio_74 (by decide) ?_
  refine lv_iload_n hx hb dX6_holdsRatio_76 rfl (lv_at hl 2 rfl) ?_
  refine lv_imul hx hb dX6_holdsRatio_77 ?_
  obtain ⟨hi8, hm⟩ := ck_in hm
  refine va_lald hx hb hK hP 2 1 rfl rfl hi8 dX6_holdsRatio_78 ?_
  refine W.lcmp hx hb dX6_holdsRatio_79 ?_
  refine lv_if_lt (tgt := 87) hx hb dX6_holdsRatio_80 (by decide) (fun hc => ?_) (fun hc => ?_)
  · replace hm := (if_pos hc).symm.trans hm
    refine lv_iconst (v := (0 : Int32)) hx hb dX6_holdsRatio_87 (by decide) ?_
    obtain rfl := Option.some.inj hm
    exact hret 88 ls _ _ dX6_holdsRatio_88 nar_0 hP hS
  replace hm := (if_neg hc).symm.trans hm
  refine lv_iconst (v := (1 : Int32)) hx hb dX6_holdsRatio_83 (by decide) ?_
  refine lv_goto (tgt := 88) hx hb dX6_holdsRatio_84 (by decide) ?_
  obtain rfl := Option.some.inj hm
  exact hret 88 ls _ _ dX6_holdsRatio_88 nar_1 hP hS
set_option maxHeartbeats 4000000 in
set_option maxRecDepth 100000 in
theorem kcX6_held (l : Launch) (dC : Nat → ClassId) (dI : Nat → Nat → Nat) (cy : Nat → ClassId) (fu : Nat) (h0 : Nat) (a0 : Nat → Nat) (w0 : ob_T) (sz : Nat) (R : Int32) (hm : mX6_held fu w0 = some R) : Met l yX6_held wsX6_held (rmN 3 74) (va_Pc [.ref h0] (cPre dC dI cy ((o_X6 cy h0 a0 w0)) sz)) (va_Qi (fun (r : Int32) (_ : Unit) => r = R) (fun _ => cPost dC dI cy ((o_X6 cy h0 a0 w0)) ((o_X6 cy h0 a0 w0)) sz) (va_A ((o_X6 cy h0 a0 w0)) sz)) 0 0 (va_A ((o_X6 cy h0 a0 w0)) sz) := by
  refine mt_i (cc := cX6_held) (maxL := 3) (by decide) rfl (Nat.le_of_ble_eq_true rfl) rfl ?_
  intro p e s m below meth c Q A hx hb hml hown hts hK hA hD hP hret ls hl
  have hown : s.vm.findClass RX6 = some m.cls := hown
  have hl : lv_has ls 3 [(0, .ref h0)] := hl
  have hDa : ∀ v0 : ob_T, va_D A ((o_X6 cy h0 a0 v0)) := fun _ => va_D_adr hD rfl
  have hS : va_S A s.heap s.heap [] := va_S.rf
  have hB26 : ∀ (k4 : Int32 → Int32 → Option (Int32)) (_ : ∀ (l1 : Int32) (l2 : Int32) (H : Heap) (locs : List Loc) (ls : Array Slot), k4 l1 l2 = some R → va_P (dC, dI) vwCl ((o_X6 cy h0 a0 w0)) H → va_S A s.heap H locs → lv_has ls 3 [(0, .ref h0), (1, .int l1), (2, .int l2)] → W p l e (rmN 3 74) s m ([.ref h0] : List Value).toArray below meth c H locs 0 0 Q (F0 m 4 ls [])) (l2 : Int32) (s0 : Int32) (s1 : Int32) (H : Heap) (locs : List Loc) (ls : Array Slot), bX6_held_26 fu w0 k4 l2 s0 s1 = some R → va_P (dC, dI) vwCl ((o_X6 cy h0 a0 w0)) H → va_S A s.heap H locs → lv_has ls 3 [(0, .ref h0), (2, .int l2)] → W p l e (rmN 3 74) s m ([.ref h0] : List Value).toArray below meth c H locs 0 0 Q (F0 m 26 ls [.int s0, .int s1]) := by
    intro k4 hk4 l2 s0 s1 H locs ls hm hP hS hl
    unfold bX6_held_26 at hm
    refine lv_ior hx hb dX6_held_26 ?_
    refine lv_topi (fun x1 e2 => ?_)
    replace hm := bn_at e2 hm
    refine lv_istore_n (lv' := [(1, .int x1), (0, .ref h0), (2, .int l2)]) hx hb dX6_held_27 rfl hl (by decide) rfl (fun ls hl => ?_)
    obtain ⟨x3, e4⟩ : ∃ y : Int32, y = l2 + (1 : Int32) := ⟨_, rfl⟩
    replace hm := bn_at e4 hm
    refine lv_iinc (v := x3) (lv' := [(2, .int x3), (1, .int x1), (0, .ref h0)]) hx hb dX6_held_28 hl (k := 2) rfl (by rw [e4]; rfl) (by decide) rfl (fun ls hl => ?_)
    refine lv_goto (tgt := 4) hx hb dX6_held_31 (by decide) ?_
    exact hk4 x1 x3 _ _ ls hm hP hS (lv_sub hl [2, 1, 0] rfl)
  have hB4 : ∀ (nn : Nat) (l1 : Int32) (l2 : Int32) (H : Heap) (locs : List Loc) (ls : Array Slot), bX6_held_4 fu w0 nn l1 l2 = some R → va_P (dC, dI) vwCl ((o_X6 cy h0 a0 w0)) H → va_S A s.heap H locs → lv_has ls 3 [(0, .ref h0), (1, .int l1), (2, .int l2)] → W p l e (rmN 3 74) s m ([.ref h0] : List Value).toArray below meth c H locs 0 0 Q (F0 m 4 ls []) := by
    intro nn
    induction nn with
    | zero => intro l1 l2 H locs ls hm; exact no_some ((bX6_held_4_0 fu w0 l1 l2).symm.trans hm)
    | succ nn ih =>
      intro l1 l2 H locs ls hm hP hS hl
      replace hm := (bX6_held_4_s fu w0 nn l1 l2).symm.trans hm
      refine lv_iload_n hx hb dX6_held_4 rfl (lv_at hl 2 rfl) ?_
      refine lv_bipush (v := (8 : Int32)) hx hb dX6_held_5 (by decide) ?_
      refine lv_icmp_ge (tgt := 34) hx hb dX6_held_7 (by decide) (fun hc => ?_) (fun hc => ?_)
      · replace hm := (if_pos hc).symm.trans hm
        refine lv_iload_n hx hb dX6_held_34 rfl (lv_at hl 1 rfl) ?_
        obtain rfl := Option.some.inj hm
        exact hret 35 ls _ _ dX6_held_35 hP hS
      replace hm := (if_neg hc).symm.trans hm
      refine lv_iload_n hx hb dX6_held_10 rfl (lv_at hl 1 rfl) ?_
      refine lv_aload_n hx hb dX6_held_11 rfl (lv_at hl 0 rfl) ?_
      refine lv_iload_n hx hb dX6_held_12 rfl (lv_at hl 2 rfl) ?_
      obtain ⟨r5, hr5, hm⟩ := bn_call hm
      refine ca_vi (wr := []) (wn := (o_X6 cy h0 a0 w0)) ⟨hx, hb, hml, hown, hts⟩ hK hA (hDa _) hP hS [0, 1, 2, 3, 4, 5, 6, 7, 8] [] [0, 1, 2, 3, 4, 5, 6, 7, 8] (fun sz => kcX6_holdsRatio l dC dI cy fu h0 a0 w0 l2 sz r5 hr5) rfl rfl (by decide) (by decide) (by decide) rfl (cwV 1 hts gX6_held_X6_holdsRatio rfl rfl rfl ⟨rfl, ydX6_holdsRatio⟩ ⟨Nat.le_of_ble_eq_true rfl, Nat.le_of_ble_eq_true rfl⟩) 6 0 rfl rfl rfl rfl hl.1 rfl (Nat.le_of_ble_eq_true rfl) dX6_held_13 ⟨Nat.zero_le _, Nat.zero_le _⟩ (fun H locs hP hS => ?_)
      refine lv_if_eq (tgt := 25) hx hb dX6_held_16 (by decide) (fun hc => ?_) (fun hc => ?_)
      · replace hm := (if_pos hc).symm.trans hm
        refine lv_iconst (v := (0 : Int32)) hx hb dX6_held_25 (by decide) ?_
        exact hB26 (bX6_held_4 fu w0 nn) ih l2 (0 : Int32) l1 _ _ ls hm hP hS (lv_sub hl [0, 2] rfl)
      replace hm := (if_neg hc).symm.trans hm
      refine lv_iconst (v := (1 : Int32)) hx hb dX6_held_19 (by decide) ?_
      refine lv_iload_n hx hb dX6_held_20 rfl (lv_at hl 2 rfl) ?_
      refine lv_ishl hx hb dX6_held_21 ?_
      refine lv_goto (tgt := 26) hx hb dX6_held_22 (by decide) ?_
      exact hB26 (bX6_held_4 fu w0 nn) ih l2 ((1 : Int32) <<< (l2 &&& 31)) l1 _ _ ls hm hP hS (lv_sub hl [0, 2] rfl)
  unfold mX6_held at hm
  refine lv_iconst (v := (0 : Int32)) hx hb dX6_held_0 (by decide) ?_
  refine lv_istore_n (lv' := [(1, .int (0 : Int32)), (0, .ref h0)]) hx hb dX6_held_1 rfl hl (by decide) rfl (fun ls hl => ?_)
  refine lv_iconst (v := (0 : Int32)) hx hb dX6_held_2 (by decide) ?_
  refine lv_istore_n (lv' := [(2, .int (0 : Int32)), (1, .int (0 : Int32)), (0, .ref h0)]) hx hb dX6_held_3 rfl hl (by decide) rfl (fun ls hl => ?_)
  exact hB4 fu (0 : Int32) (0 : Int32) _ _ ls hm hP hS (lv_sub hl [2, 1, 0] rfl)
