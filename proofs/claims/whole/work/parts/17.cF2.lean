set_option maxHeartbeats 4000000 in
set_option maxRecDepth 100000 in
theorem kcX6_moveSack (l : Launch) (dC : Nat → ClassId) (dI : Nat → Nat → Nat) (cy : Nat → ClassId) (fu : Nat) (h0 : Nat) (a0 : Nat → Nat) (w0 : ob_T) (p1 : Int32) (p2 : Int32) (sz : Nat) (R : ob_T) (hm : mX6_moveSack fu w0 p1 p2 = some R) : Met l yX6_moveSack wsX6_moveSack (rmN 0 0) (va_Pc [.ref h0, .int p1, .int p2] (cPre dC dI cy ((o_X6 cy h0 a0 w0)) sz)) (va_Qv (fun (_ : Unit) => True) (fun _ => cPost dC dI cy ((o_X6 cy h0 a0 w0)) ((o_X6 cy h0 a0 R)) sz) (va_A ((o_X6 cy h0 a0 w0)) sz)) 0 0 (va_A ((o_X6 cy h0 a0 w0)) sz) := by
  refine mt_v (cc := cX6_moveSack) (maxL := 6) (by decide) rfl (Nat.le_of_ble_eq_true rfl) rfl ?_
  intro p e s m below meth c Q A hx hb hml hown hts hK hA hD hP hret ls hl
  have hown : s.vm.findClass RX6 = some m.cls := hown
  have hl : lv_has ls 6 [(0, .ref h0), (1, .int p1), (2, .int p2)] := hl
  have hDa : ∀ v0 : ob_T, va_D A ((o_X6 cy h0 a0 v0)) := fun _ => va_D_adr hD rfl
  have i6 : ∀ w ∈ wsX60, w ∈ wsX6_moveSack := fun _ h => List.mem_cons_of_mem _ (List.mem_append_right _ h)
  have hS : va_S A s.heap s.heap [] := va_S.rf
  have hB12 : ∀ (w0 : ob_T) (l1 : Int32) (s0 : Int64) (H : Heap) (locs : List Loc) (ls : Array Slot), bX6_moveSack_12 fu w0 l1 s0 = some R → va_P (dC, dI) vwCl ((o_X6 cy h0 a0 w0)) H → va_S A s.heap H locs → lv_has ls 6 [(0, .ref h0), (1, .int l1)] → W p l e (rmN 0 0) s m ([.ref h0, .int p1, .int p2] : List Value).toArray below meth c H locs 0 0 Q (F0 m 12 ls [.long s0]) := by
    intro w0 l1 s0 H locs ls hm hP hS hl
    unfold bX6_moveSack_12 at hm
    refine lv_lstore_n (lv' := [(3, .long s0), (0, .ref h0), (1, .int l1)]) hx hb dX6_moveSack_12 rfl hl (by decide) rfl (fun ls hl => ?_)
    refine lv_bipush (v := (9 : Int32)) hx hb dX6_moveSack_13 (by decide) ?_
    refine lv_iload_n hx hb dX6_moveSack_15 rfl (lv_at hl 2 rfl) ?_
    refine lv_imul hx hb dX6_moveSack_16 ?_
    refine lv_topi (fun x1 e2 => ?_)
    replace hm := bn_at e2 hm
    refine lv_istore (lv' := [(5, .int x1), (3, .long s0), (0, .ref h0), (1, .int l1)]) hx hb dX6_moveSack_17 hl (by decide) rfl (fun ls hl => ?_)
    refine lv_aload_n hx hb dX6_moveSack_19 rfl (lv_at hl 2 rfl) ?_
    refine va_get (D := (dC, dI)) (ci := 6) (v := .ref (a0 2)) (C := RX6) (T := TX6) (N := 11) hx hb hts i6 hown hK hP 0 rfl rfl 2 (by decide) (hts (.fieldLink RX6 13 "TwoMetalsModel" "realms" "[J") (List.mem_of_getElem? (i := 2) rfl)) (fun _ h9 => h9) rfl dX6_moveSack_20 ?_
    refine lv_iload hx hb dX6_moveSack_23 (lv_at hl 0 rfl) ?_
    refine lv_iconst (v := (3 : Int32)) hx hb dX6_moveSack_25 (by decide) ?_
    refine lv_iadd hx hb dX6_moveSack_26 ?_
    refine lv_dup2_11 hx hb dX6_moveSack_27 rfl rfl ?_
    obtain ⟨hi3, hm⟩ := ck_in hm
    refine va_lald hx hb hK hP 2 1 rfl rfl hi3 dX6_moveSack_28 ?_
    refine lv_lload_n hx hb dX6_moveSack_29 rfl (lv_at hl 1 rfl) ?_
    refine lv_lsub hx hb dX6_moveSack_30 ?_
    refine va_last hx hb hK hP (hDa _) hS 2 1 rfl rfl hi3 dX6_moveSack_31 (fun H locs hP _ hS => ?_)
    have hP : va_P (dC, dI) vwCl ((o_X6 cy h0 a0 (ob_L w0 2 (vp_updL (w0.2 2) (x1 + (3 : Int32)).toNatClampNeg ((w0.2 2 (x1 + (3 : Int32)).toNatClampNeg) - s0))))) H := hP
    obtain ⟨u4, hP, hm⟩ := bn_ob (P := fun zz => va_P (dC, dI) vwCl ((o_X6 cy h0 a0 zz)) H) hm hP
    refine lv_aload_n hx hb dX6_moveSack_32 rfl (lv_at hl 2 rfl) ?_
    refine va_get (D := (dC, dI)) (ci := 6) (v := .ref (a0 3)) (C := RX6) (T := TX6) (N := 11) hx hb hts i6 hown hK hP 0 rfl rfl 3 (by decide) (hts (.fieldLink RX6 17 "TwoMetalsModel" "markets" "[J") (List.mem_of_getElem? (i := 3) rfl)) (fun _ h9 => h9) rfl dX6_moveSack_33 ?_
    refine lv_iconst (v := (0 : Int32)) hx hb dX6_moveSack_36 (by decide) ?_
    refine lv_dup2_11 hx hb dX6_moveSack_37 rfl rfl ?_
    obtain ⟨hi5, hm⟩ := ck_in hm
    refine va_lald hx hb hK hP 3 1 rfl rfl hi5 dX6_moveSack_38 ?_
    refine lv_lload_n hx hb dX6_moveSack_39 rfl (lv_at hl 1 rfl) ?_
    refine lv_ladd hx hb dX6_moveSack_40 ?_
    refine va_last hx hb hK hP (hDa _) hS 3 1 rfl rfl hi5 dX6_moveSack_41 (fun H locs hP _ hS => ?_)
    have hP : va_P (dC, dI) vwCl ((o_X6 cy h0 a0 (ob_L u4 3 (vp_updL (u4.2 3) (0 : Int32).toNatClampNeg ((u4.2 3 (0 : Int32).toNatClampNeg) + s0))))) H := hP
    obtain ⟨u6, hP, hm⟩ := bn_ob (P := fun zz => va_P (dC, dI) vwCl ((o_X6 cy h0 a0 zz)) H) hm hP
    refine lv_aload_n hx hb dX6_moveSack_42 rfl (lv_at hl 2 rfl) ?_
    refine va_get (D := (dC, dI)) (ci := 6) (v := .ref (a0 2)) (C := RX6) (T := TX6) (N := 11) hx hb hts i6 hown hK hP 0 rfl rfl 2 (by decide) (hts (.fieldLink RX6 13 "TwoMetalsModel" "realms" "[J") (List.mem_of_getElem? (i := 2) rfl)) (fun _ h9 => h9) rfl dX6_moveSack_43 ?_
    refine lv_iload hx hb dX6_moveSack_46 (lv_at hl 0 rfl) ?_
    refine lv_iconst (v := (4 : Int32)) hx hb dX6_moveSack_48 (by decide) ?_
    refine lv_iadd hx hb dX6_moveSack_49 ?_
    refine lv_dup2_11 hx hb dX6_moveSack_50 rfl rfl ?_
    obtain ⟨hi7, hm⟩ := ck_in hm
    refine va_lald hx hb hK hP 2 1 rfl rfl hi7 dX6_moveSack_51 ?_
    refine lv_lload_n hx hb dX6_moveSack_52 rfl (lv_at hl 1 rfl) ?_
    refine lv_aload_n hx hb dX6_moveSack_53 rfl (lv_at hl 2 rfl) ?_
    refine va_get (D := (dC, dI)) (ci := 6) (v := .ref (a0 2)) (C := RX6) (T := TX6) (N := 11) hx hb hts i6 hown hK hP 0 rfl rfl 2 (by decide) (hts (.fieldLink RX6 13 "TwoMetalsModel" "realms" "[J") (List.mem_of_getElem? (i := 2) rfl)) (fun _ h9 => h9) rfl dX6_moveSack_54 ?_
    refine lv_iload hx hb dX6_moveSack_57 (lv_at hl 0 rfl) ?_
    obtain ⟨hi8, hm⟩ := ck_in hm
    refine va_lald hx hb hK hP 2 1 rfl rfl hi8 dX6_moveSack_59 ?_
    refine lv_lmul hx hb dX6_moveSack_60 ?_
    refine lv_ladd hx hb dX6_moveSack_61 ?_
    refine va_last hx hb hK hP (hDa _) hS 2 1 rfl rfl hi7 dX6_moveSack_62 (fun H locs hP _ hS => ?_)
    have hP : va_P (dC, dI) vwCl ((o_X6 cy h0 a0 (ob_L u6 2 (vp_updL (u6.2 2) (x1 + (4 : Int32)).toNatClampNeg ((u6.2 2 (x1 + (4 : Int32)).toNatClampNeg) + (s0 * (u6.2 2 x1.toNatClampNeg))))))) H := hP
    obtain ⟨u9, hP, hm⟩ := bn_ob (P := fun zz => va_P (dC, dI) vwCl ((o_X6 cy h0 a0 zz)) H) hm hP
    refine lv_aload_n hx hb dX6_moveSack_63 rfl (lv_at hl 2 rfl) ?_
    refine va_get (D := (dC, dI)) (ci := 6) (v := .ref (a0 3)) (C := RX6) (T := TX6) (N := 11) hx hb hts i6 hown hK hP 0 rfl rfl 3 (by decide) (hts (.fieldLink RX6 17 "TwoMetalsModel" "markets" "[J") (List.mem_of_getElem? (i := 3) rfl)) (fun _ h9 => h9) rfl dX6_moveSack_64 ?_
    refine lv_iconst (v := (1 : Int32)) hx hb dX6_moveSack_67 (by decide) ?_
    refine lv_dup2_11 hx hb dX6_moveSack_68 rfl rfl ?_
    obtain ⟨hi10, hm⟩ := ck_in hm
    refine va_lald hx hb hK hP 3 1 rfl rfl hi10 dX6_moveSack_69 ?_
    refine lv_lload_n hx hb dX6_moveSack_70 rfl (lv_at hl 1 rfl) ?_
    refine lv_aload_n hx hb dX6_moveSack_71 rfl (lv_at hl 2 rfl) ?_
    refine va_get (D := (dC, dI)) (ci := 6) (v := .ref (a0 2)) (C := RX6) (T := TX6) (N := 11) hx hb hts i6 hown hK hP 0 rfl rfl 2 (by decide) (hts (.fieldLink RX6 13 "TwoMetalsModel" "realms" "[J") (List.mem_of_getElem? (i := 2) rfl)) (fun _ h9 => h9) rfl dX6_moveSack_72 ?_
    refine lv_iload hx hb dX6_moveSack_75 (lv_at hl 0 rfl) ?_
    refine va_lald hx hb hK hP 2 1 rfl rfl hi8 dX6_moveSack_77 ?_
    refine lv_lmul hx hb dX6_moveSack_78 ?_
    refine lv_lsub hx hb dX6_moveSack_79 ?_
    refine va_last hx hb hK hP (hDa _) hS 3 1 rfl rfl hi10 dX6_moveSack_80 (fun H locs hP _ hS => ?_)
    have hP : va_P (dC, dI) vwCl ((o_X6 cy h0 a0 (ob_L u9 3 (vp_updL (u9.2 3) (1 : Int32).toNatClampNeg ((u9.2 3 (1 : Int32).toNatClampNeg) - (s0 * (u9.2 2 x1.toNatClampNeg))))))) H := hP
    obtain ⟨u11, hP, hm⟩ := bn_ob (P := fun zz => va_P (dC, dI) vwCl ((o_X6 cy h0 a0 zz)) H) hm hP
    obtain rfl := Option.some.inj hm
    exact hret 81 ls _ _ dX6_moveSack_81 hP hS
  unfold mX6_moveSack at hm
  refine lv_iload_n hx hb dX6_moveSack_0 rfl (lv_at hl 2 rfl) ?_
  refine lv_iconst (v := (1 : Int32)) hx hb dX6_moveSack_1 (by decide) ?_
  refine lv_icmp_ne (tgt := 9) hx hb dX6_moveSack_2 (by decide) (fun hc => ?_) (fun hc => ?_)
  · replace hm := (if_neg hc).symm.trans hm
    refine lv_ldc2 (v := (-1 : Int64)) hx hb hown (hts (.constantLong RX6 39 (-1)) (List.mem_of_getElem? (i := 1) rfl)) dX6_moveSack_9 ?_
    exact hB12 w0 p1 (-1 : Int64) _ _ ls hm hP hS (lv_sub hl [0, 1] rfl)
  replace hm := (if_pos hc).symm.trans hm
  refine lv_lconst (v := (1 : Int64)) hx hb dX6_moveSack_5 (by decide) ?_
  refine lv_goto (tgt := 12) hx hb dX6_moveSack_6 (by decide) ?_
  exact hB12 w0 p1 (1 : Int64) _ _ ls hm hP hS (lv_sub hl [0, 1] rfl)
set_option maxHeartbeats 4000000 in
set_option maxRecDepth 100000 in
theorem kcX6_goYear (l : Launch) (dC : Nat → ClassId) (dI : Nat → Nat → Nat) (cy : Nat → ClassId) (fu : Nat) (h0 : Nat) (a0 : Nat → Nat) (w0 : ob_T) (sz : Nat) (R : Int32 × ob_T) (hm : mX6_goYear fu w0 = some R) : Met l yX6_goYear wsX6_goYear (rmN 3 72) (va_Pc [.ref h0] (cPre dC dI cy ((o_X6 cy h0 a0 w0)) sz)) (va_Qi (fun (r : Int32) (_ : Unit) => r = R.1) (fun _ => cPost dC dI cy ((o_X6 cy h0 a0 w0)) ((o_X6 cy h0 a0 R.2)) sz) (va_A ((o_X6 cy h0 a0 w0)) sz)) 0 0 (va_A ((o_X6 cy h0 a0 w0)) sz) := by
  refine mt_i (cc := cX6_goYear) (maxL := 6) (by decide) rfl (Nat.le_of_ble_eq_true rfl) rfl ?_
  intro p e s m below meth c Q A hx hb hml hown hts hK hA hD hP hret ls hl
  have hown : s.vm.findClass RX6 = some m.cls := hown
  have hl : lv_has ls 6 [(0, .ref h0)] := hl
  have hDa : ∀ v0 : ob_T, va_D A ((o_X6 cy h0 a0 v0)) := fun _ => va_D_adr hD rfl
  have i6 : ∀ w ∈ wsX60, w ∈ wsX6_goYear := fun _ h => List.mem_cons_of_mem _ (List.mem_append_right _ h)
  have hS : va_S A s.heap s.heap [] := va_S.rf
  have hB307 : ∀ (k248 : ob_T → Int32 → Int32 → Option (Int32 × ob_T)) (_ : ∀ (w0 : ob_T) (l2 : Int32) (l4 : Int32) (H : Heap) (locs : List Loc) (ls : Array Slot), k248 w0 l2 l4 = some R → va_P (dC, dI) vwCl ((o_X6 cy h0 a0 w0)) H → va_S A s.heap H locs → lv_has ls 6 [(0, .ref h0), (2, .int l2), (4, .int l4)] → W p l e (rmN 3 72) s m ([.ref h0] : List Value).toArray below meth c H locs 0 0 Q (F0 m 248 ls [])) (w0 : ob_T) (l2 : Int32) (l4 : Int32) (H : Heap) (locs : List Loc) (ls : Array Slot), bX6_goYear_307 fu k248 w0 l2 l4 = some R → va_P (dC, dI) vwCl ((o_X6 cy h0 a0 w0)) H → va_S A s.heap H locs → lv_has ls 6 [(0, .ref h0), (2, .int l2), (4, .int l4)] → W p l e (rmN 3 72) s m ([.ref h0] : List Value).toArray below meth c H locs 0 0 Q (F0 m 307 ls []) := by
    intro k248 hk248 w0 l2 l4 H locs ls hm hP hS hl
    unfold bX6_goYear_307 at hm
    obtain ⟨x1, e2⟩ : ∃ y : Int32, y = l4 + (1 : Int32) := ⟨_, rfl⟩
    replace hm := bn_at e2 hm
    refine lv_iinc (v := x1) (lv' := [(4, .int x1), (0, .ref h0), (2, .int l2)]) hx hb dX6_goYear_307 hl (k := 2) rfl (by rw [e2]; rfl) (by decide) rfl (fun ls hl => ?_)
    refine lv_goto (tgt := 248) hx hb dX6_goYear_310 (by decide) ?_
    exact hk248 w0 l2 x1 _ _ ls hm hP hS (lv_sub hl [1, 2, 0] rfl)
  have hB248 : ∀ (nn : Nat) (w0 : ob_T) (l2 : Int32) (l4 : Int32) (H : Heap) (locs : List Loc) (ls : Array Slot), bX6_goYear_248 fu nn w0 l2 l4 = some R → va_P (dC, dI) vwCl ((o_X6 cy h0 a0 w0)) H → va_S A s.heap H locs → lv_has ls 6 [(0, .ref h0), (2, .int l2), (4, .int l4)] → W p l e (rmN 3 72) s m ([.ref h0] : List Value).toArray below meth c H locs 0 0 Q (F0 m 248 ls []) := by
    intro nn
    induction nn with
    | zero => intro w0 l2 l4 H locs ls hm; exact no_some ((bX6_goYear_248_0 fu w0 l2 l4).symm.trans hm)
    | succ nn ih =>
      intro w0 l2 l4 H locs ls hm hP hS hl
      replace hm := (bX6_goYear_248_s fu nn w0 l2 l4).symm.trans hm
      refine lv_iload hx hb dX6_goYear_248 (lv_at hl 2 rfl) ?_
      refine lv_bipush (v := (8 : Int32)) hx hb dX6_goYear_250 (by decide) ?_
      refine lv_icmp_ge (tgt := 313) hx hb dX6_goYear_252 (by decide) (fun hc => ?_) (fun hc => ?_)
      · replace hm := (if_pos hc).symm.trans hm
        refine lv_aload_n hx hb dX6_goYear_313 rfl (lv_at hl 0 rfl) ?_
        refine va_get (D := (dC, dI)) (ci := 6) (v := .ref (a0 3)) (C := RX6) (T := TX6) (N := 11) hx hb hts i6 hown hK hP 0 rfl rfl 3 (by decide) (hts (.fieldLink RX6 17 "TwoMetalsModel" "markets" "[J") (List.mem_of_getElem? (i := 3) rfl)) (fun _ h9 => h9) rfl dX6_goYear_314 ?_
        refine lv_iconst (v := (2 : Int32)) hx hb dX6_goYear_317 (by decide) ?_
        refine lv_dup2_11 hx hb dX6_goYear_318 rfl rfl ?_
        obtain ⟨hi3, hm⟩ := ck_in hm
        refine va_lald hx hb hK hP 3 1 rfl rfl hi3 dX6_goYear_319 ?_
        refine lv_lconst (v := (1 : Int64)) hx hb dX6_goYear_320 (by decide) ?_
        refine lv_ladd hx hb dX6_goYear_321 ?_
        refine va_last hx hb hK hP (hDa _) hS 3 1 rfl rfl hi3 dX6_goYear_322 (fun H locs hP _ hS => ?_)
        have hP : va_P (dC, dI) vwCl ((o_X6 cy h0 a0 (ob_L w0 3 (vp_updL (w0.2 3) (2 : Int32).toNatClampNeg ((w0.2 3 (2 : Int32).toNatClampNeg) + (1 : Int64)))))) H := hP
        obtain ⟨u4, hP, hm⟩ := bn_ob (P := fun zz => va_P (dC, dI) vwCl ((o_X6 cy h0 a0 zz)) H) hm hP
        refine lv_iload_n hx hb dX6_goYear_323 rfl (lv_at hl 1 rfl) ?_
        obtain rfl := Option.some.inj hm
        exact hret 324 ls _ _ dX6_goYear_324 hP hS
      replace hm := (if_neg hc).symm.trans hm
      refine lv_aload_n hx hb dX6_goYear_255 rfl (lv_at hl 0 rfl) ?_
      refine lv_iload hx hb dX6_goYear_256 (lv_at hl 2 rfl) ?_
      obtain ⟨r5, hr5, hm⟩ := bn_call hm
      refine ca_vi (wr := []) (wn := (o_X6 cy h0 a0 w0)) ⟨hx, hb, hml, hown, hts⟩ hK hA (hDa _) hP hS [0, 1, 2, 3, 4, 5, 6, 7, 8] [] [0, 1, 2, 3, 4, 5, 6, 7, 8] (fun sz => kcX6_isRealm l dC dI cy fu h0 a0 w0 l4 sz r5 hr5) rfl rfl (by decide) (by decide) (by decide) rfl (cwV 1 hts gX6_goYear_X6_isRealm rfl rfl rfl ⟨rfl, ydX6_isRealm⟩ ⟨Nat.le_of_ble_eq_true rfl, Nat.le_of_ble_eq_true rfl⟩) 6 0 rfl rfl rfl rfl hl.1 rfl (Nat.le_of_ble_eq_true rfl) dX6_goYear_258 ⟨Nat.zero_le _, Nat.zero_le _⟩ (fun H locs hP hS => ?_)
      refine lv_if_eq (tgt := 307) hx hb dX6_goYear_261 (by decide) (fun hc => ?_) (fun hc => ?_)
      · replace hm := (if_pos hc).symm.trans hm
        exact hB307 (bX6_goYear_248 fu nn) ih w0 l2 l4 _ _ ls hm hP hS (lv_sub hl [0, 1, 2] rfl)
      replace hm := (if_neg hc).symm.trans hm
      refine lv_aload_n hx hb dX6_goYear_264 rfl (lv_at hl 0 rfl) ?_
      refine va_get (D := (dC, dI)) (ci := 6) (v := .ref (a0 2)) (C := RX6) (T := TX6) (N := 11) hx hb hts i6 hown hK hP 0 rfl rfl 2 (by decide) (hts (.fieldLink RX6 13 "TwoMetalsModel" "realms" "[J") (List.mem_of_getElem? (i := 6) rfl)) (fun _ h9 => h9) rfl dX6_goYear_265 ?_
      refine lv_bipush (v := (9 : Int32)) hx hb dX6_goYear_268 (by decide) ?_
      refine lv_iload hx hb dX6_goYear_270 (lv_at hl 2 rfl) ?_
      refine lv_imul hx hb dX6_goYear_272 ?_
      refine lv_bipush (v := (8 : Int32)) hx hb dX6_goYear_273 (by decide) ?_
      refine lv_iadd hx hb dX6_goYear_275 ?_
      obtain ⟨hi6, hm⟩ := ck_in hm
      refine va_lald hx hb hK hP 2 1 rfl rfl hi6 dX6_goYear_276 ?_
      refine lv_aload_n hx hb dX6_goYear_277 rfl (lv_at hl 0 rfl) ?_
      refine va_get (D := (dC, dI)) (ci := 6) (v := .ref (a0 2)) (C := RX6) (T := TX6) (N := 11) hx hb hts i6 hown hK hP 0 rfl rfl 2 (by decide) (hts (.fieldLink RX6 13 "TwoMetalsModel" "realms" "[J") (List.mem_of_getElem? (i := 6) rfl)) (fun _ h9 => h9) rfl dX6_goYear_278 ?_
      refine lv_bipush (v := (9 : Int32)) hx hb dX6_goYear_281 (by decide) ?_
      refine lv_iload hx hb dX6_goYear_283 (lv_at hl 2 rfl) ?_
      refine lv_imul hx hb dX6_goYear_285 ?_
      refine lv_iconst (v := (3 : Int32)) hx hb dX6_goYear_286 (by decide) ?_
      refine lv_iadd hx hb dX6_goYear_287 ?_
      obtain ⟨hi7, hm⟩ := ck_in hm
      refine va_lald hx hb hK hP 2 1 rfl rfl hi7 dX6_goYear_288 ?_
      refine W.lcmp hx hb dX6_goYear_289 ?_
      refine lv_if_lt (tgt := 307) hx hb dX6_goYear_290 (by decide) (fun hc => ?_) (fun hc => ?_)
      · replace hm := (if_pos hc).symm.trans hm
        exact hB307 (bX6_goYear_248 fu nn) ih w0 l2 l4 _ _ ls hm hP hS (lv_sub hl [0, 1, 2] rfl)
      replace hm := (if_neg hc).symm.trans hm
      refine lv_aload_n hx hb dX6_goYear_293 rfl (lv_at hl 0 rfl) ?_
      refine va_get (D := (dC, dI)) (ci := 6) (v := .ref (a0 2)) (C := RX6) (T := TX6) (N := 11) hx hb hts i6 hown hK hP 0 rfl rfl 2 (by decide) (hts (.fieldLink RX6 13 "TwoMetalsModel" "realms" "[J") (List.mem_of_getElem? (i := 6) rfl)) (fun _ h9 => h9) rfl dX6_goYear_294 ?_
      refine lv_bipush (v := (9 : Int32)) hx hb dX6_goYear_297 (by decide) ?_
      refine lv_iload hx hb dX6_goYear_299 (lv_at hl 2 rfl) ?_
      refine lv_imul hx hb dX6_goYear_301 ?_
      refine lv_bipush (v := (6 : Int32)) hx hb dX6_goYear_302 (by decide) ?_
      refine lv_iadd hx hb dX6_goYear_304 ?_
      refine lv_lconst (v := (0 : Int64)) hx hb dX6_goYear_305 (by decide) ?_
      obtain ⟨hi8, hm⟩ := ck_in hm
      refine va_last hx hb hK hP (hDa _) hS 2 1 rfl rfl hi8 dX6_goYear_306 (fun H locs hP _ hS => ?_)
      have hP : va_P (dC, dI) vwCl ((o_X6 cy h0 a0 (ob_L w0 2 (vp_updL (w0.2 2) (((9 : Int32) * l4) + (6 : Int32)).toNatClampNeg (0 : Int64))))) H := hP
      obtain ⟨u9, hP, hm⟩ := bn_ob (P := fun zz => va_P (dC, dI) vwCl ((o_X6 cy h0 a0 zz)) H) hm hP
      exact hB307 (bX6_goYear_248 fu nn) ih u9 l2 l4 _ _ ls hm hP hS (lv_sub hl [0, 1, 2] rfl)
  have hB236 : ∀ (k146 : ob_T → Int32 → Int32 → Option (Int32 × ob_T)) (_ : ∀ (w0 : ob_T) (l2 : Int32) (l3 : Int32) (H : Heap) (locs : List Loc) (ls : Array Slot), k146 w0 l2 l3 = some R → va_P (dC, dI) vwCl ((o_X6 cy h0 a0 w0)) H → va_S A s.heap H locs → lv_has ls 6 [(0, .ref h0), (2, .int l2), (3, .int l3)] → W p l e (rmN 3 72) s m ([.ref h0] : List Value).toArray below meth c H locs 0 0 Q (F0 m 146 ls [])) (k155 : ob_T → Int32 → Int32 → Int32 → Option (Int32 × ob_T)) (_ : ∀ (w0 : ob_T) (l2 : Int32) (l3 : Int32) (l4 : Int32) (H : Heap) (locs : List Loc) (ls : Array Slot), k155 w0 l2 l3 l4 = some R → va_P (dC, dI) vwCl ((o_X6 cy h0 a0 w0)) H → va_S A s.heap H locs → lv_has ls 6 [(0, .ref h0), (2, .int l2), (3, .int l3), (4, .int l4)] → W p l e (rmN 3 72) s m ([.ref h0] : List Value).toArray below meth c H locs 0 0 Q (F0 m 155 ls [])) (w0 : ob_T) (l2 : Int32) (l3 : Int32) (l4 : Int32) (H : Heap) (locs : List Loc) (ls : Array Slot), bX6_goYear_236 fu k146 k155 w0 l2 l3 l4 = some R → va_P (dC, dI) vwCl ((o_X6 cy h0 a0 w0)) H → va_S A s.heap H locs → lv_has ls 6 [(0, .ref h0), (2, .int l2), (3, .int l3), (4, .int l4)] → W p l e (rmN 3 72) s m ([.ref h0] : List Value).toArray below meth c H locs 0 0 Q (F0 m 236 ls []) := by
    intro k146 hk146 k155 hk155 w0 l2 l3 l4 H locs ls hm hP hS hl
    unfold bX6_goYear_236 at hm
    obtain ⟨x10, e11⟩ : ∃ y : Int32, y = l4 + (1 : Int32) := ⟨_, rfl⟩
    replace hm := bn_at e11 hm
    refine lv_iinc (v := x10) (lv' := [(4, .int x10), (0, .ref h0), (2, .int l2), (3, .int l3)]) hx hb dX6_goYear_236 hl (k := 3) rfl (by rw [e11]; rfl) (by decide) rfl (fun ls hl => ?_)
    refine lv_goto (tgt := 155) hx hb dX6_goYear_239 (by decide) ?_
    exact hk155 w0 l2 l3 x10 _ _ ls hm hP hS (lv_sub hl [1, 2, 3, 0] rfl)
  have hB205 : ∀ (k146 : ob_T → Int32 → Int32 → Option (Int32 × ob_T)) (_ : ∀ (w0 : ob_T) (l2 : Int32) (l3 : Int32) (H : Heap) (locs : List Loc) (ls : Array Slot), k146 w0 l2 l3 = some R → va_P (dC, dI) vwCl ((o_X6 cy h0 a0 w0)) H → va_S A s.heap H locs → lv_has ls 6 [(0, .ref h0), (2, .int l2), (3, .int l3)] → W p l e (rmN 3 72) s m ([.ref h0] : List Value).toArray below meth c H locs 0 0 Q (F0 m 146 ls [])) (k155 : ob_T → Int32 → Int32 → Int32 → Option (Int32 × ob_T)) (_ : ∀ (w0 : ob_T) (l2 : Int32) (l3 : Int32) (l4 : Int32) (H : Heap) (locs : List Loc) (ls : Array Slot), k155 w0 l2 l3 l4 = some R → va_P (dC, dI) vwCl ((o_X6 cy h0 a0 w0)) H → va_S A s.heap H locs → lv_has ls 6 [(0, .ref h0), (2, .int l2), (3, .int l3), (4, .int l4)] → W p l e (rmN 3 72) s m ([.ref h0] : List Value).toArray below meth c H locs 0 0 Q (F0 m 155 ls [])) (w0 : ob_T) (l2 : Int32) (l3 : Int32) (l4 : Int32) (s0 : Int32) (H : Heap) (locs : List Loc) (ls : Array Slot), bX6_goYear_205 fu k146 k155 w0 l2 l3 l4 s0 = some R → va_P (dC, dI) vwCl ((o_X6 cy h0 a0 w0)) H → va_S A s.heap H locs → lv_has ls 6 [(0, .ref h0), (2, .int l2), (3, .int l3), (4, .int l4)] → W p l e (rmN 3 72) s m ([.ref h0] : List Value).toArray below meth c H locs 0 0 Q (F0 m 205 ls [.int s0]) := by
    intro k146 hk146 k155 hk155 w0 l2 l3 l4 s0 H locs ls hm hP hS hl
    unfold bX6_goYear_205 at hm
    refine lv_istore (lv' := [(5, .int s0), (0, .ref h0), (2, .int l2), (3, .int l3), (4, .int l4)]) hx hb dX6_goYear_205 hl (by decide) rfl (fun ls hl => ?_)
    refine lv_iload hx hb dX6_goYear_207 (lv_at hl 0 rfl) ?_
    refine lv_if_le (tgt := 236) hx hb dX6_goYear_209 (by decide) (fun hc => ?_) (fun hc => ?_)
    · replace hm := (if_pos hc).symm.trans hm
      exact hB236 (k146) hk146 (k155) hk155 w0 l2 l3 l4 _ _ ls hm hP hS (lv_sub hl [1, 2, 3, 4] rfl)
    replace hm := (if_neg hc).symm.trans hm
    refine lv_aload_n hx hb dX6_goYear_212 rfl (lv_at hl 1 rfl) ?_
    refine lv_iload hx hb dX6_goYear_213 (lv_at hl 4 rfl) ?_
    refine lv_iload hx hb dX6_goYear_215 (lv_at hl 0 rfl) ?_
    obtain ⟨r12, hr12, hm⟩ := bn_call hm
    refine ca_vv (wr := []) (wn := (o_X6 cy h0 a0 r12)) ⟨hx, hb, hml, hown, hts⟩ hK hA (hDa _) hP hS [0, 1, 2, 3, 4, 5, 6, 7, 8] [] [0, 1, 2, 3, 4, 5, 6, 7, 8] (fun sz => kcX6_moveSack l dC dI cy fu h0 a0 w0 l4 s0 sz r12 hr12) rfl rfl (by decide) (by decide) (by decide) rfl (cwV 2 hts gX6_goYear_X6_moveSack rfl rfl rfl ⟨rfl, ydX6_moveSack⟩ ⟨Nat.le_of_ble_eq_true rfl, Nat.le_of_ble_eq_true rfl⟩) 6 0 rfl rfl rfl rfl hl.1 rfl (Nat.le_of_ble_eq_true rfl) dX6_goYear_217 ⟨Nat.zero_le _, Nat.zero_le _⟩ (fun H locs hP hS => ?_)
    refine lv_aload_n hx hb dX6_goYear_220 rfl (lv_at hl 1 rfl) ?_
    refine va_get (D := (dC, dI)) (ci := 6) (v := .ref (a0 10)) (C := RX6) (T := TX6) (N := 11) hx hb hts i6 hown hK hP 0 rfl rfl 10 (by decide) (hts (.fieldLink RX6 32 "TwoMetalsModel" "moved" "[I") (List.mem_of_getElem? (i := 5) rfl)) (fun _ h9 => h9) rfl dX6_goYear_221 ?_
    refine lv_iload hx hb dX6_goYear_224 (lv_at hl 4 rfl) ?_
    refine lv_dup2_11 hx hb dX6_goYear_226 rfl rfl ?_
    obtain ⟨hi13, hm⟩ := ck_in hm
    refine va_iald hx hb hK hP 8 0 rfl rfl hi13 dX6_goYear_227 ?_
    refine lv_iconst (v := (1 : Int32)) hx hb dX6_goYear_228 (by decide) ?_
    refine lv_iadd hx hb dX6_goYear_229 ?_
    refine va_iast hx hb hK hP (hDa _) hS 8 0 rfl rfl hi13 dX6_goYear_230 (fun H locs hP _ hS => ?_)
    have hP : va_P (dC, dI) vwCl ((o_X6 cy h0 a0 (ob_I r12 10 (upd (r12.1 10) l4.toNatClampNeg ((r12.1 10 l4.toNatClampNeg) + (1 : Int32)))))) H := hP
    obtain ⟨u14, hP, hm⟩ := bn_ob (P := fun zz => va_P (dC, dI) vwCl ((o_X6 cy h0 a0 zz)) H) hm hP
    obtain ⟨x15, e16⟩ : ∃ y : Int32, y = l2 + (1 : Int32) := ⟨_, rfl⟩
    replace hm := bn_at e16 hm
    refine lv_iinc (v := x15) (lv' := [(2, .int x15), (5, .int s0), (0, .ref h0), (3, .int l3), (4, .int l4)]) hx hb dX6_goYear_231 hl (k := 2) rfl (by rw [e16]; rfl) (by decide) rfl (fun ls hl => ?_)
    refine lv_iconst (v := (1 : Int32)) hx hb dX6_goYear_234 (by decide) ?_
    refine lv_istore_n (lv' := [(3, .int (1 : Int32)), (2, .int x15), (5, .int s0), (0, .ref h0), (4, .int l4)]) hx hb dX6_goYear_235 rfl hl (by decide) rfl (fun ls hl => ?_)
    exact hB236 (k146) hk146 (k155) hk155 u14 x15 (1 : Int32) l4 _ _ ls hm hP hS (lv_sub hl [3, 1, 0, 4] rfl)
  have hB155 : ∀ (k146 : ob_T → Int32 → Int32 → Option (Int32 × ob_T)) (_ : ∀ (w0 : ob_T) (l2 : Int32) (l3 : Int32) (H : Heap) (locs : List Loc) (ls : Array Slot), k146 w0 l2 l3 = some R → va_P (dC, dI) vwCl ((o_X6 cy h0 a0 w0)) H → va_S A s.heap H locs → lv_has ls 6 [(0, .ref h0), (2, .int l2), (3, .int l3)] → W p l e (rmN 3 72) s m ([.ref h0] : List Value).toArray below meth c H locs 0 0 Q (F0 m 146 ls [])) (nn : Nat) (w0 : ob_T) (l2 : Int32) (l3 : Int32) (l4 : Int32) (H : Heap) (locs : List Loc) (ls : Array Slot), bX6_goYear_155 fu k146 nn w0 l2 l3 l4 = some R → va_P (dC, dI) vwCl ((o_X6 cy h0 a0 w0)) H → va_S A s.heap H locs → lv_has ls 6 [(0, .ref h0), (2, .int l2), (3, .int l3), (4, .int l4)] → W p l e (rmN 3 72) s m ([.ref h0] : List Value).toArray below meth c H locs 0 0 Q (F0 m 155 ls []) := by
    intro k146 hk146
    intro nn
    induction nn with
    | zero => intro w0 l2 l3 l4 H locs ls hm; exact no_some ((bX6_goYear_155_0 fu k146 w0 l2 l3 l4).symm.trans hm)
    | succ nn ih =>
      intro w0 l2 l3 l4 H locs ls hm hP hS hl
      replace hm := (bX6_goYear_155_s fu k146 nn w0 l2 l3 l4).symm.trans hm
      refine lv_iload hx hb dX6_goYear_155 (lv_at hl 3 rfl) ?_
      refine lv_bipush (v := (8 : Int32)) hx hb dX6_goYear_157 (by decide) ?_
      refine lv_icmp_ge (tgt := 242) hx hb dX6_goYear_159 (by decide) (fun hc => ?_) (fun hc => ?_)
      · replace hm := (if_pos hc).symm.trans hm
        refine lv_goto (tgt := 146) hx hb dX6_goYear_242 (by decide) ?_
        exact hk146 w0 l2 l3 _ _ ls hm hP hS (lv_sub hl [0, 1, 2] rfl)
      replace hm := (if_neg hc).symm.trans hm
      refine lv_aload_n hx hb dX6_goYear_162 rfl (lv_at hl 0 rfl) ?_
      refine lv_iload hx hb dX6_goYear_163 (lv_at hl 3 rfl) ?_
      obtain ⟨r17, hr17, hm⟩ := bn_call hm
      refine ca_vi (wr := []) (wn := (o_X6 cy h0 a0 w0)) ⟨hx, hb, hml, hown, hts⟩ hK hA (hDa _) hP hS [0, 1, 2, 3, 4, 5, 6, 7, 8] [] [0, 1, 2, 3, 4, 5, 6, 7, 8] (fun sz => kcX6_isRealm l dC dI cy fu h0 a0 w0 l4 sz r17 hr17) rfl rfl (by decide) (by decide) (by decide) rfl (cwV 1 hts gX6_goYear_X6_isRealm rfl rfl rfl ⟨rfl, ydX6_isRealm⟩ ⟨Nat.le_of_ble_eq_true rfl, Nat.le_of_ble_eq_true rfl⟩) 6 0 rfl rfl rfl rfl hl.1 rfl (Nat.le_of_ble_eq_true rfl) dX6_goYear_165 ⟨Nat.zero_le _, Nat.zero_le _⟩ (fun H locs hP hS => ?_)
      refine lv_if_eq (tgt := 204) hx hb dX6_goYear_168 (by decide) (fun hc => ?_) (fun hc => ?_)
      · replace hm := (if_pos hc).symm.trans hm
        refine lv_iconst (v := (0 : Int32)) hx hb dX6_goYear_204 (by decide) ?_
        exact hB205 (k146) hk146 (bX6_goYear_155 fu k146 nn) ih w0 l2 l3 l4 (0 : Int32) _ _ ls hm hP hS (lv_sub hl [0, 1, 2, 3] rfl)
      replace hm := (if_neg hc).symm.trans hm
      refine lv_aload_n hx hb dX6_goYear_171 rfl (lv_at hl 0 rfl) ?_
      refine va_get (D := (dC, dI)) (ci := 6) (v := .ref (a0 10)) (C := RX6) (T := TX6) (N := 11) hx hb hts i6 hown hK hP 0 rfl rfl 10 (by decide) (hts (.fieldLink RX6 32 "TwoMetalsModel" "moved" "[I") (List.mem_of_getElem? (i := 5) rfl)) (fun _ h9 => h9) rfl dX6_goYear_172 ?_
      refine lv_iload hx hb dX6_goYear_175 (lv_at hl 3 rfl) ?_
      obtain ⟨hi18, hm⟩ := ck_in hm
      refine va_iald hx hb hK hP 8 0 rfl rfl hi18 dX6_goYear_177 ?_
      refine lv_i2l (v := (w0.1 10 l4.toNatClampNeg).toInt64) hx hb dX6_goYear_178 rfl ?_
      refine lv_aload_n hx hb dX6_goYear_179 rfl (lv_at hl 0 rfl) ?_
      refine va_get (D := (dC, dI)) (ci := 6) (v := .ref (a0 2)) (C := RX6) (T := TX6) (N := 11) hx hb hts i6 hown hK hP 0 rfl rfl 2 (by decide) (hts (.fieldLink RX6 13 "TwoMetalsModel" "realms" "[J") (List.mem_of_getElem? (i := 6) rfl)) (fun _ h9 => h9) rfl dX6_goYear_180 ?_
      refine lv_bipush (v := (9 : Int32)) hx hb dX6_goYear_183 (by decide) ?_
      refine lv_iload hx hb dX6_goYear_185 (lv_at hl 3 rfl) ?_
      refine lv_imul hx hb dX6_goYear_187 ?_
      refine lv_iconst (v := (5 : Int32)) hx hb dX6_goYear_188 (by decide) ?_
      refine lv_iadd hx hb dX6_goYear_189 ?_
      obtain ⟨hi19, hm⟩ := ck_in hm
      refine va_lald hx hb hK hP 2 1 rfl rfl hi19 dX6_goYear_190 ?_
      refine W.lcmp hx hb dX6_goYear_191 ?_
      refine lv_if_ge (tgt := 204) hx hb dX6_goYear_192 (by decide) (fun hc => ?_) (fun hc => ?_)
      · replace hm := (if_pos hc).symm.trans hm
        refine lv_iconst (v := (0 : Int32)) hx hb dX6_goYear_204 (by decide) ?_
        exact hB205 (k146) hk146 (bX6_goYear_155 fu k146 nn) ih w0 l2 l3 l4 (0 : Int32) _ _ ls hm hP hS (lv_sub hl [0, 1, 2, 3] rfl)
      replace hm := (if_neg hc).symm.trans hm
      refine lv_aload_n hx hb dX6_goYear_195 rfl (lv_at hl 0 rfl) ?_
      refine lv_iload hx hb dX6_goYear_196 (lv_at hl 3 rfl) ?_
      obtain ⟨r20, hr20, hm⟩ := bn_call hm
      refine ca_vi (wr := []) (wn := (o_X6 cy h0 a0 w0)) ⟨hx, hb, hml, hown, hts⟩ hK hA (hDa _) hP hS [0, 1, 2, 3, 4, 5, 6, 7, 8] [] [0, 1, 2, 3, 4, 5, 6, 7, 8] (fun sz => kcX6_movesOf l dC dI cy fu h0 a0 w0 l4 sz r20 hr20) rfl rfl (by decide) (by decide) (by decide) rfl (cwV 1 hts gX6_goYear_X6_movesOf rfl rfl rfl ⟨rfl, ydX6_movesOf⟩ ⟨Nat.le_of_ble_eq_true rfl, Nat.le_of_ble_eq_true rfl⟩) 6 0 rfl rfl rfl rfl hl.1 rfl (Nat.le_of_ble_eq_true rfl) dX6_goYear_198 ⟨Nat.zero_le _, Nat.zero_le _⟩ (fun H locs hP hS => ?_)
      refine lv_goto (tgt := 205) hx hb dX6_goYear_201 (by decide) ?_
      exact hB205 (k146) hk146 (bX6_goYear_155 fu k146 nn) ih w0 l2 l3 l4 r20 _ _ ls hm hP hS (lv_sub hl [0, 1, 2, 3] rfl)
  have hB146 : ∀ (nn : Nat) (w0 : ob_T) (l2 : Int32) (l3 : Int32) (H : Heap) (locs : List Loc) (ls : Array Slot), bX6_goYear_146 fu nn w0 l2 l3 = some R → va_P (dC, dI) vwCl ((o_X6 cy h0 a0 w0)) H → va_S A s.heap H locs → lv_has ls 6 [(0, .ref h0), (2, .int l2), (3, .int l3)] → W p l e (rmN 3 72) s m ([.ref h0] : List Value).toArray below meth c H locs 0 0 Q (F0 m 146 ls []) := by
    intro nn
    induction nn with
    | zero => intro w0 l2 l3 H locs ls hm; exact no_some ((bX6_goYear_146_0 fu w0 l2 l3).symm.trans hm)
    | succ nn ih =>
      intro w0 l2 l3 H locs ls hm hP hS hl
      replace hm := (bX6_goYear_146_s fu nn w0 l2 l3).symm.trans hm
      refine lv_iload_n hx hb dX6_goYear_146 rfl (lv_at hl 2 rfl) ?_
      refine lv_if_eq (tgt := 245) hx hb dX6_goYear_147 (by decide) (fun hc => ?_) (fun hc => ?_)
      · replace hm := (if_pos hc).symm.trans hm
        refine lv_iconst (v := (0 : Int32)) hx hb dX6_goYear_245 (by decide) ?_
        refine lv_istore (lv' := [(4, .int (0 : Int32)), (0, .ref h0), (2, .int l2), (3, .int l3)]) hx hb dX6_goYear_246 hl (by decide) rfl (fun ls hl => ?_)
        exact hB248 fu w0 l2 (0 : Int32) _ _ ls hm hP hS (lv_sub hl [1, 2, 0] rfl)
      replace hm := (if_neg hc).symm.trans hm
      refine lv_iconst (v := (0 : Int32)) hx hb dX6_goYear_150 (by decide) ?_
      refine lv_istore_n (lv' := [(3, .int (0 : Int32)), (0, .ref h0), (2, .int l2)]) hx hb dX6_goYear_151 rfl hl (by decide) rfl (fun ls hl => ?_)
      refine lv_iconst (v := (0 : Int32)) hx hb dX6_goYear_152 (by decide) ?_
      refine lv_istore (lv' := [(4, .int (0 : Int32)), (3, .int (0 : Int32)), (0, .ref h0), (2, .int l2)]) hx hb dX6_goYear_153 hl (by decide) rfl (fun ls hl => ?_)
      exact hB155 (bX6_goYear_146 fu nn) ih fu w0 l2 (0 : Int32) (0 : Int32) _ _ ls hm hP hS (lv_sub hl [2, 3, 1, 0] rfl)
  have hB123 : ∀ (nn : Nat) (w0 : ob_T) (l2 : Int32) (H : Heap) (locs : List Loc) (ls : Array Slot), bX6_goYear_123 fu nn w0 l2 = some R → va_P (dC, dI) vwCl ((o_X6 cy h0 a0 w0)) H → va_S A s.heap H locs → lv_has ls 6 [(0, .ref h0), (2, .int l2)] → W p l e (rmN 3 72) s m ([.ref h0] : List Value).toArray below meth c H locs 0 0 Q (F0 m 123 ls []) := by
    intro nn
    induction nn with
    | zero => intro w0 l2 H locs ls hm; exact no_some ((bX6_goYear_123_0 fu w0 l2).symm.trans hm)
    | succ nn ih =>
      intro w0 l2 H locs ls hm hP hS hl
      replace hm := (bX6_goYear_123_s fu nn w0 l2).symm.trans hm
      refine lv_iload_n hx hb dX6_goYear_123 rfl (lv_at hl 1 rfl) ?_
      refine lv_bipush (v := (8 : Int32)) hx hb dX6_goYear_124 (by decide) ?_
      refine lv_icmp_ge (tgt := 142) hx hb dX6_goYear_126 (by decide) (fun hc => ?_) (fun hc => ?_)
      · replace hm := (if_pos hc).symm.trans hm
        refine lv_iconst (v := (0 : Int32)) hx hb dX6_goYear_142 (by decide) ?_
        refine lv_istore_n (lv' := [(2, .int (0 : Int32)), (0, .ref h0)]) hx hb dX6_goYear_143 rfl hl (by decide) rfl (fun ls hl => ?_)
        refine lv_iconst (v := (1 : Int32)) hx hb dX6_goYear_144 (by decide) ?_
        refine lv_istore_n (lv' := [(3, .int (1 : Int32)), (2, .int (0 : Int32)), (0, .ref h0)]) hx hb dX6_goYear_145 rfl hl (by decide) rfl (fun ls hl => ?_)
        exact hB146 fu w0 (0 : Int32) (1 : Int32) _ _ ls hm hP hS (lv_sub hl [2, 1, 0] rfl)
      replace hm := (if_neg hc).symm.trans hm
      refine lv_aload_n hx hb dX6_goYear_129 rfl (lv_at hl 0 rfl) ?_
      refine va_get (D := (dC, dI)) (ci := 6) (v := .ref (a0 10)) (C := RX6) (T := TX6) (N := 11) hx hb hts i6 hown hK hP 0 rfl rfl 10 (by decide) (hts (.fieldLink RX6 32 "TwoMetalsModel" "moved" "[I") (List.mem_of_getElem? (i := 5) rfl)) (fun _ h9 => h9) rfl dX6_goYear_130 ?_
      refine lv_iload_n hx hb dX6_goYear_133 rfl (lv_at hl 1 rfl) ?_
      refine lv_iconst (v := (0 : Int32)) hx hb dX6_goYear_134 (by decide) ?_
      obtain ⟨hi21, hm⟩ := ck_in hm
      refine va_iast hx hb hK hP (hDa _) hS 8 0 rfl rfl hi21 dX6_goYear_135 (fun H locs hP _ hS => ?_)
      have hP : va_P (dC, dI) vwCl ((o_X6 cy h0 a0 (ob_I w0 10 (upd (w0.1 10) l2.toNatClampNeg (0 : Int32))))) H := hP
      obtain ⟨u22, hP, hm⟩ := bn_ob (P := fun zz => va_P (dC, dI) vwCl ((o_X6 cy h0 a0 zz)) H) hm hP
      obtain ⟨x23, e24⟩ : ∃ y : Int32, y = l2 + (1 : Int32) := ⟨_, rfl⟩
      replace hm := bn_at e24 hm
      refine lv_iinc (v := x23) (lv' := [(2, .int x23), (0, .ref h0)]) hx hb dX6_goYear_136 hl (k := 1) rfl (by rw [e24]; rfl) (by decide) rfl (fun ls hl => ?_)
      refine lv_goto (tgt := 123) hx hb dX6_goYear_139 (by decide) ?_
      exact ih u22 x23 _ _ ls hm hP hS (lv_sub hl [1, 0] rfl)
  have hB121 : ∀ (w0 : ob_T) (H : Heap) (locs : List Loc) (ls : Array Slot), bX6_goYear_121 fu w0 = some R → va_P (dC, dI) vwCl ((o_X6 cy h0 a0 w0)) H → va_S A s.heap H locs → lv_has ls 6 [(0, .ref h0)] → W p l e (rmN 3 72) s m ([.ref h0] : List Value).toArray below meth c H locs 0 0 Q (F0 m 121 ls []) := by
    intro w0 H locs ls hm hP hS hl
    unfold bX6_goYear_121 at hm
    refine lv_iconst (v := (0 : Int32)) hx hb dX6_goYear_121 (by decide) ?_
    refine lv_istore_n (lv' := [(2, .int (0 : Int32)), (0, .ref h0)]) hx hb dX6_goYear_122 rfl hl (by decide) rfl (fun ls hl => ?_)
    exact hB123 fu w0 (0 : Int32) _ _ ls hm hP hS (lv_sub hl [1, 0] rfl)
  have hB64 : ∀ (k5 : ob_T → Int32 → Int32 → Option (Int32 × ob_T)) (_ : ∀ (w0 : ob_T) (l1 : Int32) (l2 : Int32) (H : Heap) (locs : List Loc) (ls : Array Slot), k5 w0 l1 l2 = some R → va_P (dC, dI) vwCl ((o_X6 cy h0 a0 w0)) H → va_S A s.heap H locs → lv_has ls 6 [(0, .ref h0), (1, .int l1), (2, .int l2)] → W p l e (rmN 3 72) s m ([.ref h0] : List Value).toArray below meth c H locs 0 0 Q (F0 m 5 ls [])) (w0 : ob_T) (l2 : Int32) (s0 : Int32) (H : Heap) (locs : List Loc) (ls : Array Slot), bX6_goYear_64 fu k5 w0 l2 s0 = some R → va_P (dC, dI) vwCl ((o_X6 cy h0 a0 w0)) H → va_S A s.heap H locs → lv_has ls 6 [(0, .ref h0), (2, .int l2)] → W p l e (rmN 3 72) s m ([.ref h0] : List Value).toArray below meth c H locs 0 0 Q (F0 m 64 ls [.int s0]) := by
    intro k5 hk5 w0 l2 s0 H locs ls hm hP hS hl
    unfold bX6_goYear_64 at hm
    refine lv_istore_n (lv' := [(1, .int s0), (0, .ref h0), (2, .int l2)]) hx hb dX6_goYear_64 rfl hl (by decide) rfl (fun ls hl => ?_)
    obtain ⟨x25, e26⟩ : ∃ y : Int32, y = l2 + (1 : Int32) := ⟨_, rfl⟩
    replace hm := bn_at e26 hm
    refine lv_iinc (v := x25) (lv' := [(2, .int x25), (1, .int s0), (0, .ref h0)]) hx hb dX6_goYear_65 hl (k := 2) rfl (by rw [e26]; rfl) (by decide) rfl (fun ls hl => ?_)
    refine lv_goto (tgt := 5) hx hb dX6_goYear_68 (by decide) ?_
    exact hk5 w0 s0 x25 _ _ ls hm hP hS (lv_sub hl [2, 1, 0] rfl)
  have hB5 : ∀ (nn : Nat) (w0 : ob_T) (l1 : Int32) (l2 : Int32) (H : Heap) (locs : List Loc) (ls : Array Slot), bX6_goYear_5 fu nn w0 l1 l2 = some R → va_P (dC, dI) vwCl ((o_X6 cy h0 a0 w0)) H → va_S A s.heap H locs → lv_has ls 6 [(0, .ref h0), (1, .int l1), (2, .int l2)] → W p l e (rmN 3 72) s m ([.ref h0] : List Value).toArray below meth c H locs 0 0 Q (F0 m 5 ls []) := by
    intro nn
    induction nn with
    | zero => intro w0 l1 l2 H locs ls hm; exact no_some ((bX6_goYear_5_0 fu w0 l1 l2).symm.trans hm)
    | succ nn ih =>
      intro w0 l1 l2 H locs ls hm hP hS hl
      replace hm := (bX6_goYear_5_s fu nn w0 l1 l2).symm.trans hm
      refine lv_iload_n hx hb dX6_goYear_5 rfl (lv_at hl 2 rfl) ?_
      refine lv_aload_n hx hb dX6_goYear_6 rfl (lv_at hl 0 rfl) ?_
      refine va_get (D := (dC, dI)) (ci := 6) (v := .ref (a0 5)) (C := RX6) (T := TX6) (N := 11) hx hb hts i6 hown hK hP 0 rfl rfl 5 (by decide) (hts (.fieldLink RX6 23 "TwoMetalsModel" "mineMany" "[I") (List.mem_of_getElem? (i := 1) rfl)) (fun _ h9 => h9) rfl dX6_goYear_7 ?_
      refine lv_iconst (v := (0 : Int32)) hx hb dX6_goYear_10 (by decide) ?_
      obtain ⟨hi27, hm⟩ := ck_in hm
      refine va_iald hx hb hK hP 5 0 rfl rfl hi27 dX6_goYear_11 ?_
      refine lv_icmp_ge (tgt := 71) hx hb dX6_goYear_12 (by decide) (fun hc => ?_) (fun hc => ?_)
      · replace hm := (if_pos hc).symm.trans hm
        refine lv_iload_n hx hb dX6_goYear_71 rfl (lv_at hl 1 rfl) ?_
        refine lv_bipush (v := (-4 : Int32)) hx hb dX6_goYear_72 (by decide) ?_
        refine lv_icmp_eq (tgt := 121) hx hb dX6_goYear_74 (by decide) (fun hc => ?_) (fun hc => ?_)
        · replace hm := (if_pos hc).symm.trans hm
          exact hB121 w0 _ _ ls hm hP hS (lv_sub hl [0] rfl)
        replace hm := (if_neg hc).symm.trans hm
        refine lv_aload_n hx hb dX6_goYear_77 rfl (lv_at hl 0 rfl) ?_
        refine va_get (D := (dC, dI)) (ci := 6) (v := .ref (a0 3)) (C := RX6) (T := TX6) (N := 11) hx hb hts i6 hown hK hP 0 rfl rfl 3 (by decide) (hts (.fieldLink RX6 17 "TwoMetalsModel" "markets" "[J") (List.mem_of_getElem? (i := 3) rfl)) (fun _ h9 => h9) rfl dX6_goYear_78 ?_
        refine lv_iconst (v := (0 : Int32)) hx hb dX6_goYear_81 (by decide) ?_
        refine lv_dup2_11 hx hb dX6_goYear_82 rfl rfl ?_
        obtain ⟨hi28, hm⟩ := ck_in hm
        refine va_lald hx hb hK hP 3 1 rfl rfl hi28 dX6_goYear_83 ?_
        refine lv_aload_n hx hb dX6_goYear_84 rfl (lv_at hl 0 rfl) ?_
        refine va_get (D := (dC, dI)) (ci := 6) (v := .ref (a0 6)) (C := RX6) (T := TX6) (N := 11) hx hb hts i6 hown hK hP 0 rfl rfl 6 (by decide) (hts (.fieldLink RX6 26 "TwoMetalsModel" "mines" "[I") (List.mem_of_getElem? (i := 2) rfl)) (fun _ h9 => h9) rfl dX6_goYear_85 ?_
        refine lv_iconst (v := (3 : Int32)) hx hb dX6_goYear_88 (by decide) ?_
        refine lv_iload_n hx hb dX6_goYear_89 rfl (lv_at hl 1 rfl) ?_
        refine lv_imul hx hb dX6_goYear_90 ?_
        refine lv_iconst (v := (1 : Int32)) hx hb dX6_goYear_91 (by decide) ?_
        refine lv_iadd hx hb dX6_goYear_92 ?_
        obtain ⟨hi29, hm⟩ := ck_in hm
        refine va_iald hx hb hK hP 6 0 rfl rfl hi29 dX6_goYear_93 ?_
        refine lv_i2l (v := (w0.1 6 (((3 : Int32) * l1) + (1 : Int32)).toNatClampNeg).toInt64) hx hb dX6_goYear_94 rfl ?_
        refine lv_ladd hx hb dX6_goYear_95 ?_
        refine va_last hx hb hK hP (hDa _) hS 3 1 rfl rfl hi28 dX6_goYear_96 (fun H locs hP _ hS => ?_)
        have hP : va_P (dC, dI) vwCl ((o_X6 cy h0 a0 (ob_L w0 3 (vp_updL (w0.2 3) (0 : Int32).toNatClampNeg ((w0.2 3 (0 : Int32).toNatClampNeg) + ((w0.1 6 (((3 : Int32) * l1) + (1 : Int32)).toNatClampNeg).toInt64)))))) H := hP
        obtain ⟨u30, hP, hm⟩ := bn_ob (P := fun zz => va_P (dC, dI) vwCl ((o_X6 cy h0 a0 zz)) H) hm hP
        refine lv_aload_n hx hb dX6_goYear_97 rfl (lv_at hl 0 rfl) ?_
        refine va_get (D := (dC, dI)) (ci := 6) (v := .ref (a0 3)) (C := RX6) (T := TX6) (N := 11) hx hb hts i6 hown hK hP 0 rfl rfl 3 (by decide) (hts (.fieldLink RX6 17 "TwoMetalsModel" "markets" "[J") (List.mem_of_getElem? (i := 3) rfl)) (fun _ h9 => h9) rfl dX6_goYear_98 ?_
        refine lv_iconst (v := (1 : Int32)) hx hb dX6_goYear_101 (by decide) ?_
        refine lv_dup2_11 hx hb dX6_goYear_102 rfl rfl ?_
        obtain ⟨hi31, hm⟩ := ck_in hm
        refine va_lald hx hb hK hP 3 1 rfl rfl hi31 dX6_goYear_103 ?_
        refine lv_ldc2 (v := (1000 : Int64)) hx hb hown (hts (.constantLong RX6 73 (1000)) (List.mem_of_getElem? (i := 4) rfl)) dX6_goYear_104 ?_
        refine lv_aload_n hx hb dX6_goYear_107 rfl (lv_at hl 0 rfl) ?_
        refine va_get (D := (dC, dI)) (ci := 6) (v := .ref (a0 6)) (C := RX6) (T := TX6) (N := 11) hx hb hts i6 hown hK hP 0 rfl rfl 6 (by decide) (hts (.fieldLink RX6 26 "TwoMetalsModel" "mines" "[I") (List.mem_of_getElem? (i := 2) rfl)) (fun _ h9 => h9) rfl dX6_goYear_108 ?_
        refine lv_iconst (v := (3 : Int32)) hx hb dX6_goYear_111 (by decide) ?_
        refine lv_iload_n hx hb dX6_goYear_112 rfl (lv_at hl 1 rfl) ?_
        refine lv_imul hx hb dX6_goYear_113 ?_
        refine lv_iconst (v := (2 : Int32)) hx hb dX6_goYear_114 (by decide) ?_
        refine lv_iadd hx hb dX6_goYear_115 ?_
        obtain ⟨hi32, hm⟩ := ck_in hm
        refine va_iald hx hb hK hP 6 0 rfl rfl hi32 dX6_goYear_116 ?_
        refine lv_i2l (v := (u30.1 6 (((3 : Int32) * l1) + (2 : Int32)).toNatClampNeg).toInt64) hx hb dX6_goYear_117 rfl ?_
        refine lv_lmul hx hb dX6_goYear_118 ?_
        refine lv_ladd hx hb dX6_goYear_119 ?_
        refine va_last hx hb hK hP (hDa _) hS 3 1 rfl rfl hi31 dX6_goYear_120 (fun H locs hP _ hS => ?_)
        have hP : va_P (dC, dI) vwCl ((o_X6 cy h0 a0 (ob_L u30 3 (vp_updL (u30.2 3) (1 : Int32).toNatClampNeg ((u30.2 3 (1 : Int32).toNatClampNeg) + ((1000 : Int64) * ((u30.1 6 (((3 : Int32) * l1) + (2 : Int32)).toNatClampNeg).toInt64))))))) H := hP
        obtain ⟨u33, hP, hm⟩ := bn_ob (P := fun zz => va_P (dC, dI) vwCl ((o_X6 cy h0 a0 zz)) H) hm hP
        exact hB121 u33 _ _ ls hm hP hS (lv_sub hl [0] rfl)
      replace hm := (if_neg hc).symm.trans hm
      refine lv_aload_n hx hb dX6_goYear_15 rfl (lv_at hl 0 rfl) ?_
      refine va_get (D := (dC, dI)) (ci := 6) (v := .ref (a0 6)) (C := RX6) (T := TX6) (N := 11) hx hb hts i6 hown hK hP 0 rfl rfl 6 (by decide) (hts (.fieldLink RX6 26 "TwoMetalsModel" "mines" "[I") (List.mem_of_getElem? (i := 2) rfl)) (fun _ h9 => h9) rfl dX6_goYear_16 ?_
      refine lv_iconst (v := (3 : Int32)) hx hb dX6_goYear_19 (by decide) ?_
      refine lv_iload_n hx hb dX6_goYear_20 rfl (lv_at hl 2 rfl) ?_
      refine lv_imul hx hb dX6_goYear_21 ?_
      obtain ⟨hi34, hm⟩ := ck_in hm
      refine va_iald hx hb hK hP 6 0 rfl rfl hi34 dX6_goYear_22 ?_
      refine lv_i2l (v := (w0.1 6 ((3 : Int32) * l2).toNatClampNeg).toInt64) hx hb dX6_goYear_23 rfl ?_
      refine lv_aload_n hx hb dX6_goYear_24 rfl (lv_at hl 0 rfl) ?_
      refine va_get (D := (dC, dI)) (ci := 6) (v := .ref (a0 3)) (C := RX6) (T := TX6) (N := 11) hx hb hts i6 hown hK hP 0 rfl rfl 3 (by decide) (hts (.fieldLink RX6 17 "TwoMetalsModel" "markets" "[J") (List.mem_of_getElem? (i := 3) rfl)) (fun _ h9 => h9) rfl dX6_goYear_25 ?_
      refine lv_iconst (v := (2 : Int32)) hx hb dX6_goYear_28 (by decide) ?_
      obtain ⟨hi35, hm⟩ := ck_in hm
      refine va_lald hx hb hK hP 3 1 rfl rfl hi35 dX6_goYear_29 ?_
      refine W.lcmp hx hb dX6_goYear_30 ?_
      refine lv_if_gt (tgt := 63) hx hb dX6_goYear_31 (by decide) (fun hc => ?_) (fun hc => ?_)
      · replace hm := (if_pos hc).symm.trans hm
        refine lv_iload_n hx hb dX6_goYear_63 rfl (lv_at hl 1 rfl) ?_
        exact hB64 (bX6_goYear_5 fu nn) ih w0 l2 l1 _ _ ls hm hP hS (lv_sub hl [0, 2] rfl)
      replace hm := (if_neg hc).symm.trans hm
      refine lv_iload_n hx hb dX6_goYear_34 rfl (lv_at hl 1 rfl) ?_
      refine lv_bipush (v := (-4 : Int32)) hx hb dX6_goYear_35 (by decide) ?_
      refine lv_icmp_eq (tgt := 59) hx hb dX6_goYear_37 (by decide) (fun hc => ?_) (fun hc => ?_)
      · replace hm := (if_pos hc).symm.trans hm
        refine lv_iload_n hx hb dX6_goYear_59 rfl (lv_at hl 2 rfl) ?_
        refine lv_goto (tgt := 64) hx hb dX6_goYear_60 (by decide) ?_
        exact hB64 (bX6_goYear_5 fu nn) ih w0 l2 l2 _ _ ls hm hP hS (lv_sub hl [0, 2] rfl)
      replace hm := (if_neg hc).symm.trans hm
      refine lv_aload_n hx hb dX6_goYear_40 rfl (lv_at hl 0 rfl) ?_
      refine va_get (D := (dC, dI)) (ci := 6) (v := .ref (a0 6)) (C := RX6) (T := TX6) (N := 11) hx hb hts i6 hown hK hP 0 rfl rfl 6 (by decide) (hts (.fieldLink RX6 26 "TwoMetalsModel" "mines" "[I") (List.mem_of_getElem? (i := 2) rfl)) (fun _ h9 => h9) rfl dX6_goYear_41 ?_
      refine lv_iconst (v := (3 : Int32)) hx hb dX6_goYear_44 (by decide) ?_
      refine lv_iload_n hx hb dX6_goYear_45 rfl (lv_at hl 2 rfl) ?_
      refine lv_imul hx hb dX6_goYear_46 ?_
      refine va_iald hx hb hK hP 6 0 rfl rfl hi34 dX6_goYear_47 ?_
      refine lv_aload_n hx hb dX6_goYear_48 rfl (lv_at hl 0 rfl) ?_
      refine va_get (D := (dC, dI)) (ci := 6) (v := .ref (a0 6)) (C := RX6) (T := TX6) (N := 11) hx hb hts i6 hown hK hP 0 rfl rfl 6 (by decide) (hts (.fieldLink RX6 26 "TwoMetalsModel" "mines" "[I") (List.mem_of_getElem? (i := 2) rfl)) (fun _ h9 => h9) rfl dX6_goYear_49 ?_
      refine lv_iconst (v := (3 : Int32)) hx hb dX6_goYear_52 (by decide) ?_
      refine lv_iload_n hx hb dX6_goYear_53 rfl (lv_at hl 1 rfl) ?_
      refine lv_imul hx hb dX6_goYear_54 ?_
      obtain ⟨hi36, hm⟩ := ck_in hm
      refine va_iald hx hb hK hP 6 0 rfl rfl hi36 dX6_goYear_55 ?_
      refine lv_icmp_lt (tgt := 63) hx hb dX6_goYear_56 (by decide) (fun hc => ?_) (fun hc => ?_)
      · replace hm := (if_pos hc).symm.trans hm
        refine lv_iload_n hx hb dX6_goYear_63 rfl (lv_at hl 1 rfl) ?_
        exact hB64 (bX6_goYear_5 fu nn) ih w0 l2 l1 _ _ ls hm hP hS (lv_sub hl [0, 2] rfl)
      replace hm := (if_neg hc).symm.trans hm
      refine lv_iload_n hx hb dX6_goYear_59 rfl (lv_at hl 2 rfl) ?_
      refine lv_goto (tgt := 64) hx hb dX6_goYear_60 (by decide) ?_
      exact hB64 (bX6_goYear_5 fu nn) ih w0 l2 l2 _ _ ls hm hP hS (lv_sub hl [0, 2] rfl)
  unfold mX6_goYear at hm
  refine lv_bipush (v := (-4 : Int32)) hx hb dX6_goYear_0 (by decide) ?_
  refine lv_istore_n (lv' := [(1, .int (-4 : Int32)), (0, .ref h0)]) hx hb dX6_goYear_2 rfl hl (by decide) rfl (fun ls hl => ?_)
  refine lv_iconst (v := (0 : Int32)) hx hb dX6_goYear_3 (by decide) ?_
  refine lv_istore_n (lv' := [(2, .int (0 : Int32)), (1, .int (-4 : Int32)), (0, .ref h0)]) hx hb dX6_goYear_4 rfl hl (by decide) rfl (fun ls hl => ?_)
  exact hB5 fu w0 (-4 : Int32) (0 : Int32) _ _ ls hm hP hS (lv_sub hl [2, 1, 0] rfl)
set_option maxHeartbeats 4000000 in
set_option maxRecDepth 100000 in
theorem kcX6_year (l : Launch) (dC : Nat → ClassId) (dI : Nat → Nat → Nat) (cy : Nat → ClassId) (fu : Nat) (h0 : Nat) (a0 : Nat → Nat) (w0 : ob_T) (sz : Nat) (R : Int32 × ob_T) (hm : mX6_year fu w0 = some R) : Met l yX6_year wsX6_year (rmN 4 97) (va_Pc [.ref h0] (cPre dC dI cy ((o_X6 cy h0 a0 w0)) sz)) (va_Qi (fun (r : Int32) (_ : Unit) => r = R.1) (fun _ => cPost dC dI cy ((o_X6 cy h0 a0 w0)) ((o_X6 cy h0 a0 R.2)) sz) (va_A ((o_X6 cy h0 a0 w0)) sz)) 0 0 (va_A ((o_X6 cy h0 a0 w0)) sz) := by
  refine mt_i (cc := cX6_year) (maxL := 1) (by decide) rfl (Nat.le_of_ble_eq_true rfl) rfl ?_
  intro p e s m below meth c Q A hx hb hml hown hts hK hA hD hP hret ls hl
  have hown : s.vm.findClass RX6 = some m.cls := hown
  have hl : lv_has ls 1 [(0, .ref h0)] := hl
  have hDa : ∀ v0 : ob_T, va_D A ((o_X6 cy h0 a0 v0)) := fun _ => va_D_adr hD rfl
  have hS : va_S A s.heap s.heap [] := va_S.rf
  unfold mX6_year at hm
  refine lv_aload_n hx hb dX6_year_0 rfl (lv_at hl 0 rfl) ?_
  obtain ⟨r1, hr1, hm⟩ := bn_call hm
  refine ca_vi (wr := []) (wn := (o_X6 cy h0 a0 r1.2)) ⟨hx, hb, hml, hown, hts⟩ hK hA (hDa _) hP hS [0, 1, 2, 3, 4, 5, 6, 7, 8] [] [0, 1, 2, 3, 4, 5, 6, 7, 8] (fun sz => kcX6_goYear l dC dI cy fu h0 a0 w0 sz r1 hr1) rfl rfl (by decide) (by decide) (by decide) rfl (cwV 0 hts gX6_year_X6_goYear rfl rfl rfl ⟨rfl, ydX6_goYear⟩ ⟨Nat.le_of_ble_eq_true rfl, Nat.le_of_ble_eq_true rfl⟩) 6 0 rfl rfl rfl rfl hl.1 rfl (Nat.le_of_ble_eq_true rfl) dX6_year_1 ⟨Nat.zero_le _, Nat.zero_le _⟩ (fun H locs hP hS => ?_)
  obtain rfl := Option.some.inj hm
  exact hret 4 ls _ _ dX6_year_4 hP hS
set_option maxHeartbeats 4000000 in
set_option maxRecDepth 100000 in
theorem kcX6_goRest (l : Launch) (dC : Nat → ClassId) (dI : Nat → Nat → Nat) (cy : Nat → ClassId) (fu : Nat) (h0 : Nat) (a0 : Nat → Nat) (w0 : ob_T) (sz : Nat) (R : Int32 × ob_T) (hm : mX6_goRest fu w0 = some R) : Met l yX6_goRest wsX6_goRest (rmN 3 72) (va_Pc [.ref h0] (cPre dC dI cy ((o_X6 cy h0 a0 w0)) sz)) (va_Qi (fun (r : Int32) (_ : Unit) => r = R.1) (fun _ => cPost dC dI cy ((o_X6 cy h0 a0 w0)) ((o_X6 cy h0 a0 R.2)) sz) (va_A ((o_X6 cy h0 a0 w0)) sz)) 0 0 (va_A ((o_X6 cy h0 a0 w0)) sz) := by
  refine mt_i (cc := cX6_goRest) (maxL := 5) (by decide) rfl (Nat.le_of_ble_eq_true rfl) rfl ?_
  intro p e s m below meth c Q A hx hb hml hown hts hK hA hD hP hret ls hl
  have hown : s.vm.findClass RX6 = some m.cls := hown
  have hl : lv_has ls 5 [(0, .ref h0)] := hl
  have hDa : ∀ v0 : ob_T, va_D A ((o_X6 cy h0 a0 v0)) := fun _ => va_D_adr hD rfl
  have hS : va_S A s.heap s.heap [] := va_S.rf
  have hB51 : ∀ (k4 : ob_T → Int32 → Int32 → Option (Int32 × ob_T)) (_ : ∀ (w0 : ob_T) (l1 : Int32) (l2 : Int32) (H : Heap) (locs : List Loc) (ls : Array Slot), k4 w0 l1 l2 = some R → va_P (dC, dI) vwCl ((o_X6 cy h0 a0 w0)) H → va_S A s.heap H locs → lv_has ls 5 [(0, .ref h0), (1, .int l1), (2, .int l2)] → W p l e (rmN 3 72) s m ([.ref h0] : List Value).toArray below meth c H locs 0 0 Q (F0 m 4 ls [])) (k12 : ob_T → Int32 → Int32 → Int32 → Option (Int32 × ob_T)) (_ : ∀ (w0 : ob_T) (l1 : Int32) (l2 : Int32) (l3 : Int32) (H : Heap) (locs : List Loc) (ls : Array Slot), k12 w0 l1 l2 l3 = some R → va_P (dC, dI) vwCl ((o_X6 cy h0 a0 w0)) H → va_S A s.heap H locs → lv_has ls 5 [(0, .ref h0), (1, .int l1), (2, .int l2), (3, .int l3)] → W p l e (rmN 3 72) s m ([.ref h0] : List Value).toArray below meth c H locs 0 0 Q (F0 m 12 ls [])) (w0 : ob_T) (l1 : Int32) (l2 : Int32) (l3 : Int32) (H : Heap) (locs : List Loc) (ls : Array Slot), bX6_goRest_51 fu k4 k12 w0 l1 l2 l3 = some R → va_P (dC, dI) vwCl ((o_X6 cy h0 a0 w0)) H → va_S A s.heap H locs → lv_has ls 5 [(0, .ref h0), (1, .int l1), (2, .int l2), (3, .int l3)] → W p l e (rmN 3 72) s m ([.ref h0] : List Value).toArray below meth c H locs 0 0 Q (F0 m 51 ls []) := by
    intro k4 hk4 k12 hk12 w0 l1 l2 l3 H locs ls hm hP hS hl
    unfold bX6_goRest_51 at hm
    obtain ⟨x1, e2⟩ : ∃ y : Int32, y = l3 + (1 : Int32) := ⟨_, rfl⟩
    replace hm := bn_at e2 hm
    refine lv_iinc (v := x1) (lv' := [(3, .int x1), (0, .ref h0), (1, .int l1), (2, .int l2)]) hx hb dX6_goRest_51 hl (k := 3) rfl (by rw [e2]; rfl) (by decide) rfl (fun ls hl => ?_)
    refine lv_goto (tgt := 12) hx hb dX6_goRest_54 (by decide) ?_
    exact hk12 w0 l1 l2 x1 _ _ ls hm hP hS (lv_sub hl [1, 2, 3, 0] rfl)
  have hB12 : ∀ (k4 : ob_T → Int32 → Int32 → Option (Int32 × ob_T)) (_ : ∀ (w0 : ob_T) (l1 : Int32) (l2 : Int32) (H : Heap) (locs : List Loc) (ls : Array Slot), k4 w0 l1 l2 = some R → va_P (dC, dI) vwCl ((o_X6 cy h0 a0 w0)) H → va_S A s.heap H locs → lv_has ls 5 [(0, .ref h0), (1, .int l1), (2, .int l2)] → W p l e (rmN 3 72) s m ([.ref h0] : List Value).toArray below meth c H locs 0 0 Q (F0 m 4 ls [])) (nn : Nat) (w0 : ob_T) (l1 : Int32) (l2 : Int32) (l3 : Int32) (H : Heap) (locs : List Loc) (ls : Array Slot), bX6_goRest_12 fu k4 nn w0 l1 l2 l3 = some R → va_P (dC, dI) vwCl ((o_X6 cy h0 a0 w0)) H → va_S A s.heap H locs → lv_has ls 5 [(0, .ref h0), (1, .int l1), (2, .int l2), (3, .int l3)] → W p l e (rmN 3 72) s m ([.ref h0] : List Value).toArray below meth c H locs 0 0 Q (F0 m 12 ls []) := by
    intro k4 hk4
    intro nn
    induction nn with
    | zero => intro w0 l1 l2 l3 H locs ls hm; exact no_some ((bX6_goRest_12_0 fu k4 w0 l1 l2 l3).symm.trans hm)
    | succ nn ih =>
      intro w0 l1 l2 l3 H locs ls hm hP hS hl
      replace hm := (bX6_goRest_12_s fu k4 nn w0 l1 l2 l3).symm.trans hm
      refine lv_iload_n hx hb dX6_goRest_12 rfl (lv_at hl 3 rfl) ?_
      refine lv_bipush (v := (8 : Int32)) hx hb dX6_goRest_13 (by decide) ?_
      refine lv_icmp_ge (tgt := 57) hx hb dX6_goRest_15 (by decide) (fun hc => ?_) (fun hc => ?_)
      · replace hm := (if_pos hc).symm.trans hm
        refine lv_goto (tgt := 4) hx hb dX6_goRest_57 (by decide) ?_
        exact hk4 w0 l1 l2 _ _ ls hm hP hS (lv_sub hl [0, 1, 2] rfl)
      replace hm := (if_neg hc).symm.trans hm
      refine lv_aload_n hx hb dX6_goRest_18 rfl (lv_at hl 0 rfl) ?_
      refine lv_iload_n hx hb dX6_goRest_19 rfl (lv_at hl 3 rfl) ?_
      obtain ⟨r3, hr3, hm⟩ := bn_call hm
      refine ca_vi (wr := []) (wn := (o_X6 cy h0 a0 w0)) ⟨hx, hb, hml, hown, hts⟩ hK hA (hDa _) hP hS [0, 1, 2, 3, 4, 5, 6, 7, 8] [] [0, 1, 2, 3, 4, 5, 6, 7, 8] (fun sz => kcX6_movesOf l dC dI cy fu h0 a0 w0 l3 sz r3 hr3) rfl rfl (by decide) (by decide) (by decide) rfl (cwV 1 hts gX6_goRest_X6_movesOf rfl rfl rfl ⟨rfl, ydX6_movesOf⟩ ⟨Nat.le_of_ble_eq_true rfl, Nat.le_of_ble_eq_true rfl⟩) 6 0 rfl rfl rfl rfl hl.1 rfl (Nat.le_of_ble_eq_true rfl) dX6_goRest_20 ⟨Nat.zero_le _, Nat.zero_le _⟩ (fun H locs hP hS => ?_)
      refine lv_istore (lv' := [(4, .int r3), (0, .ref h0), (1, .int l1), (2, .int l2), (3, .int l3)]) hx hb dX6_goRest_23 hl (by decide) rfl (fun ls hl => ?_)
      refine lv_iload hx hb dX6_goRest_25 (lv_at hl 0 rfl) ?_
      refine lv_if_le (tgt := 51) hx hb dX6_goRest_27 (by decide) (fun hc => ?_) (fun hc => ?_)
      · replace hm := (if_pos hc).symm.trans hm
        exact hB51 (k4) hk4 (bX6_goRest_12 fu k4 nn) ih w0 l1 l2 l3 _ _ ls hm hP hS (lv_sub hl [1, 2, 3, 4] rfl)
      replace hm := (if_neg hc).symm.trans hm
      refine lv_iload_n hx hb dX6_goRest_30 rfl (lv_at hl 2 rfl) ?_
      refine lv_ldc (v := (200000 : Int32)) hx hb hown (hts (.constant RX6 137 (200000)) (List.mem_of_getElem? (i := 1) rfl)) dX6_goRest_31 ?_
      refine lv_icmp_ne (tgt := 39) hx hb dX6_goRest_33 (by decide) (fun hc => ?_) (fun hc => ?_)
      · replace hm := (if_neg hc).symm.trans hm
        refine lv_aload_n hx hb dX6_goRest_39 rfl (lv_at hl 1 rfl) ?_
        refine lv_iload_n hx hb dX6_goRest_40 rfl (lv_at hl 4 rfl) ?_
        refine lv_iload hx hb dX6_goRest_41 (lv_at hl 0 rfl) ?_
        obtain ⟨r4, hr4, hm⟩ := bn_call hm
        refine ca_vv (wr := []) (wn := (o_X6 cy h0 a0 r4)) ⟨hx, hb, hml, hown, hts⟩ hK hA (hDa _) hP hS [0, 1, 2, 3, 4, 5, 6, 7, 8] [] [0, 1, 2, 3, 4, 5, 6, 7, 8] (fun sz => kcX6_moveSack l dC dI cy fu h0 a0 w0 l3 r3 sz r4 hr4) rfl rfl (by decide) (by decide) (by decide) rfl (cwV 2 hts gX6_goRest_X6_moveSack rfl rfl rfl ⟨rfl, ydX6_moveSack⟩ ⟨Nat.le_of_ble_eq_true rfl, Nat.le_of_ble_eq_true rfl⟩) 6 0 rfl rfl rfl rfl hl.1 rfl (Nat.le_of_ble_eq_true rfl) dX6_goRest_43 ⟨Nat.zero_le _, Nat.zero_le _⟩ (fun H locs hP hS => ?_)
        obtain ⟨x5, e6⟩ : ∃ y : Int32, y = l1 + (1 : Int32) := ⟨_, rfl⟩
        replace hm := bn_at e6 hm
        refine lv_iinc (v := x5) (lv' := [(1, .int x5), (4, .int r3), (0, .ref h0), (2, .int l2), (3, .int l3)]) hx hb dX6_goRest_46 hl (k := 2) rfl (by rw [e6]; rfl) (by decide) rfl (fun ls hl => ?_)
        refine lv_iconst (v := (1 : Int32)) hx hb dX6_goRest_49 (by decide) ?_
        refine lv_istore_n (lv' := [(2, .int (1 : Int32)), (1, .int x5), (4, .int r3), (0, .ref h0), (3, .int l3)]) hx hb dX6_goRest_50 rfl hl (by decide) rfl (fun ls hl => ?_)
        exact hB51 (k4) hk4 (bX6_goRest_12 fu k4 nn) ih r4 x5 (1 : Int32) l3 _ _ ls hm hP hS (lv_sub hl [3, 1, 0, 4] rfl)
      replace hm := (if_pos hc).symm.trans hm
      refine lv_bipush (v := (-5 : Int32)) hx hb dX6_goRest_36 (by decide) ?_
      obtain rfl := Option.some.inj hm
      exact hret 38 ls _ _ dX6_goRest_38 hP hS
  have hB4 : ∀ (nn : Nat) (w0 : ob_T) (l1 : Int32) (l2 : Int32) (H : Heap) (locs : List Loc) (ls : Array Slot), bX6_goRest_4 fu nn w0 l1 l2 = some R → va_P (dC, dI) vwCl ((o_X6 cy h0 a0 w0)) H → va_S A s.heap H locs → lv_has ls 5 [(0, .ref h0), (1, .int l1), (2, .int l2)] → W p l e (rmN 3 72) s m ([.ref h0] : List Value).toArray below meth c H locs 0 0 Q (F0 m 4 ls []) := by
    intro nn
    induction nn with
    | zero => intro w0 l1 l2 H locs ls hm; exact no_some ((bX6_goRest_4_0 fu w0 l1 l2).symm.trans hm)
    | succ nn ih =>
      intro w0 l1 l2 H locs ls hm hP hS hl
      replace hm := (bX6_goRest_4_s fu nn w0 l1 l2).symm.trans hm
      refine lv_iload_n hx hb dX6_goRest_4 rfl (lv_at hl 2 rfl) ?_
      refine lv_if_eq (tgt := 60) hx hb dX6_goRest_5 (by decide) (fun hc => ?_) (fun hc => ?_)
      · replace hm := (if_pos hc).symm.trans hm
        refine lv_iload_n hx hb dX6_goRest_60 rfl (lv_at hl 1 rfl) ?_
        obtain rfl := Option.some.inj hm
        exact hret 61 ls _ _ dX6_goRest_61 hP hS
      replace hm := (if_neg hc).symm.trans hm
      refine lv_iconst (v := (0 : Int32)) hx hb dX6_goRest_8 (by decide) ?_
      refine lv_istore_n (lv' := [(2, .int (0 : Int32)), (0, .ref h0), (1, .int l1)]) hx hb dX6_goRest_9 rfl hl (by decide) rfl (fun ls hl => ?_)
      refine lv_iconst (v := (0 : Int32)) hx hb dX6_goRest_10 (by decide) ?_
      refine lv_istore_n (lv' := [(3, .int (0 : Int32)), (2, .int (0 : Int32)), (0, .ref h0), (1, .int l1)]) hx hb dX6_goRest_11 rfl hl (by decide) rfl (fun ls hl => ?_)
      exact hB12 (bX6_goRest_4 fu nn) ih fu w0 l1 (0 : Int32) (0 : Int32) _ _ ls hm hP hS (lv_sub hl [2, 3, 1, 0] rfl)
  unfold mX6_goRest at hm
  refine lv_iconst (v := (0 : Int32)) hx hb dX6_goRest_0 (by decide) ?_
  refine lv_istore_n (lv' := [(1, .int (0 : Int32)), (0, .ref h0)]) hx hb dX6_goRest_1 rfl hl (by decide) rfl (fun ls hl => ?_)
  refine lv_iconst (v := (1 : Int32)) hx hb dX6_goRest_2 (by decide) ?_
  refine lv_istore_n (lv' := [(2, .int (1 : Int32)), (1, .int (0 : Int32)), (0, .ref h0)]) hx hb dX6_goRest_3 rfl hl (by decide) rfl (fun ls hl => ?_)
  exact hB4 fu w0 (0 : Int32) (1 : Int32) _ _ ls hm hP hS (lv_sub hl [2, 1, 0] rfl)
set_option maxHeartbeats 4000000 in
set_option maxRecDepth 100000 in
theorem kcX6_rest (l : Launch) (dC : Nat → ClassId) (dI : Nat → Nat → Nat) (cy : Nat → ClassId) (fu : Nat) (h0 : Nat) (a0 : Nat → Nat) (w0 : ob_T) (sz : Nat) (R : Int32 × ob_T) (hm : mX6_rest fu w0 = some R) : Met l yX6_rest wsX6_rest (rmN 4 96) (va_Pc [.ref h0] (cPre dC dI cy ((o_X6 cy h0 a0 w0)) sz)) (va_Qi (fun (r : Int32) (_ : Unit) => r = R.1) (fun _ => cPost dC dI cy ((o_X6 cy h0 a0 w0)) ((o_X6 cy h0 a0 R.2)) sz) (va_A ((o_X6 cy h0 a0 w0)) sz)) 0 0 (va_A ((o_X6 cy h0 a0 w0)) sz) := by
  refine mt_i (cc := cX6_rest) (maxL := 2) (by decide) rfl (Nat.le_of_ble_eq_true rfl) rfl ?_
  intro p e s m below meth c Q A hx hb hml hown hts hK hA hD hP hret ls hl
  have hown : s.vm.findClass RX6 = some m.cls := hown
  have hl : lv_has ls 2 [(0, .ref h0)] := hl
  have hDa : ∀ v0 : ob_T, va_D A ((o_X6 cy h0 a0 v0)) := fun _ => va_D_adr hD rfl
  have hS : va_S A s.heap s.heap [] := va_S.rf
  unfold mX6_rest at hm
  refine lv_aload_n hx hb dX6_rest_0 rfl (lv_at hl 0 rfl) ?_
  refine lv_iconst (v := (0 : Int32)) hx hb dX6_rest_1 (by decide) ?_
  refine lv_iconst (v := (3 : Int32)) hx hb dX6_rest_2 (by decide) ?_
  obtain ⟨r1, hr1, hm⟩ := bn_call hm
  refine ca_vv (wr := []) (wn := (o_X6 cy h0 a0 r1)) ⟨hx, hb, hml, hown, hts⟩ hK hA (hDa _) hP hS [0, 1, 2, 3, 4, 5, 6, 7, 8] [] [0, 1, 2, 3, 4, 5, 6, 7, 8] (fun sz => kcX6_copy l dC dI cy fu h0 a0 w0 (0 : Int32) (3 : Int32) sz r1 hr1) rfl rfl (by decide) (by decide) (by decide) rfl (cwV 2 hts gX6_rest_X6_copy rfl rfl rfl ⟨rfl, ydX6_copy⟩ ⟨Nat.le_of_ble_eq_true rfl, Nat.le_of_ble_eq_true rfl⟩) 6 0 rfl rfl rfl rfl hl.1 rfl (Nat.le_of_ble_eq_true rfl) dX6_rest_3 ⟨Nat.zero_le _, Nat.zero_le _⟩ (fun H locs hP hS => ?_)
  refine lv_aload_n hx hb dX6_rest_6 rfl (lv_at hl 0 rfl) ?_
  obtain ⟨r2, hr2, hm⟩ := bn_call hm
  refine ca_vi (wr := []) (wn := (o_X6 cy h0 a0 r2.2)) ⟨hx, hb, hml, hown, hts⟩ hK hA (hDa _) hP hS [0, 1, 2, 3, 4, 5, 6, 7, 8] [] [0, 1, 2, 3, 4, 5, 6, 7, 8] (fun sz => kcX6_goRest l dC dI cy fu h0 a0 r1 sz r2 hr2) rfl rfl (by decide) (by decide) (by decide) rfl (cwV 0 hts gX6_rest_X6_goRest rfl rfl rfl ⟨rfl, ydX6_goRest⟩ ⟨Nat.le_of_ble_eq_true rfl, Nat.le_of_ble_eq_true rfl⟩) 6 0 rfl rfl rfl rfl hl.1 rfl (Nat.le_of_ble_eq_true rfl) dX6_rest_7 ⟨Nat.zero_le _, Nat.zero_le _⟩ (fun H locs hP hS => ?_)
  refine lv_istore_n (lv' := [(1, .int r2.1), (0, .ref h0)]) hx hb dX6_rest_10 rfl hl (by decide) rfl (fun ls hl => ?_)
  refine lv_iload_n hx hb dX6_rest_11 rfl (lv_at hl 0 rfl) ?_
  refine lv_bipush (v := (-5 : Int32)) hx hb dX6_rest_12 (by decide) ?_
  refine lv_icmp_ne (tgt := 23) hx hb dX6_rest_14 (by decide) (fun hc => ?_) (fun hc => ?_)
  · replace hm := (if_neg hc).symm.trans hm
    refine lv_iload_n hx hb dX6_rest_23 rfl (lv_at hl 0 rfl) ?_
    obtain rfl := Option.some.inj hm
    exact hret 24 ls _ _ dX6_rest_24 hP hS
  replace hm := (if_pos hc).symm.trans hm
  refine lv_aload_n hx hb dX6_rest_17 rfl (lv_at hl 1 rfl) ?_
  refine lv_iconst (v := (3 : Int32)) hx hb dX6_rest_18 (by decide) ?_
  refine lv_iconst (v := (0 : Int32)) hx hb dX6_rest_19 (by decide) ?_
  obtain ⟨r3, hr3, hm⟩ := bn_call hm
  refine ca_vv (wr := []) (wn := (o_X6 cy h0 a0 r3)) ⟨hx, hb, hml, hown, hts⟩ hK hA (hDa _) hP hS [0, 1, 2, 3, 4, 5, 6, 7, 8] [] [0, 1, 2, 3, 4, 5, 6, 7, 8] (fun sz => kcX6_copy l dC dI cy fu h0 a0 r2.2 (3 : Int32) (0 : Int32) sz r3 hr3) rfl rfl (by decide) (by decide) (by decide) rfl (cwV 2 hts gX6_rest_X6_copy rfl rfl rfl ⟨rfl, ydX6_copy⟩ ⟨Nat.le_of_ble_eq_true rfl, Nat.le_of_ble_eq_true rfl⟩) 6 0 rfl rfl rfl rfl hl.1 rfl (Nat.le_of_ble_eq_true rfl) dX6_rest_20 ⟨Nat.zero_le _, Nat.zero_le _⟩ (fun H locs hP hS => ?_)
  refine lv_iload_n hx hb dX6_rest_23 rfl (lv_at hl 0 rfl) ?_
  obtain rfl := Option.some.inj hm
  exact hret 24 ls _ _ dX6_rest_24 hP hS
set_option maxHeartbeats 4000000 in
set_option maxRecDepth 100000 in
theorem kcX6_areYears (l : Launch) (dC : Nat → ClassId) (dI : Nat → Nat → Nat) (cy : Nat → ClassId) (fu : Nat) (p1 : Int32) (sz : Nat) (R : Int32) (hm : mX6_areYears fu p1 = some R) : Met l yX6_areYears wsX6_areYears (rmN 1 25) (va_Pc [.int p1] (cPre dC dI cy (([] : va_W)) sz)) (va_Qi (fun (r : Int32) (_ : Unit) => r = R) (fun _ => cPost dC dI cy (([] : va_W)) (([] : va_W)) sz) (va_A (([] : va_W)) sz)) 0 0 (va_A (([] : va_W)) sz) := by
  refine mt_z (cc := cX6_areYears) (maxL := 1) (by decide) rfl (Nat.le_of_ble_eq_true rfl) rfl ?_
  intro p e s m below meth c Q A hx hb hml hown hts hK hA hD hP hret ls hl
  have hown : s.vm.findClass RX6 = some m.cls := hown
  have hl : lv_has ls 1 [(0, .int p1)] := hl
  have hS : va_S A s.heap s.heap [] := va_S.rf
  unfold mX6_areYears at hm
  refine lv_iload_n hx hb dX6_areYears_0 rfl (lv_at hl 0 rfl) ?_
  refine lv_i2l (v := p1.toInt64) hx hb dX6_areYears_1 rfl ?_
  refine lv_lconst (v := (1 : Int64)) hx hb dX6_areYears_2 (by decide) ?_
  refine lv_ldc2 (v := (100 : Int64)) hx hb hown (hts (.constantLong RX6 141 (100)) (List.mem_of_getElem? (i := 1) rfl)) dX6_areYears_3 ?_
  obtain ⟨r1, hr1, hm⟩ := bn_call hm
  refine ca_si (wr := []) (wn := ([] : va_W)) ⟨hx, hb, hml, hown, hts⟩ hK hA hD hP hS [] [] [] (fun sz => kcX6_in l dC dI cy fu p1.toInt64 (1 : Int64) (100 : Int64) sz r1 hr1) rfl rfl (by decide) (by decide) (by decide) rfl (va_cwS 3 hts gX6_areYears_X6_in rfl rfl rfl ydX6_in ⟨Nat.le_of_ble_eq_true rfl, Nat.le_of_ble_eq_true rfl⟩) rfl hl.1 rfl (Nat.le_of_ble_eq_true rfl) dX6_areYears_6 ⟨Nat.zero_le _, Nat.zero_le _⟩ (fun H locs hP hS => ?_)
  obtain ⟨hn2, hm⟩ := ck_zb hm
  obtain rfl := Option.some.inj hm
  exact hret 9 ls _ _ dX6_areYears_9 hn2 hP hS
set_option maxHeartbeats 4000000 in
set_option maxRecDepth 100000 in
theorem kcX6_gone (l : Launch) (dC : Nat → ClassId) (dI : Nat → Nat → Nat) (cy : Nat → ClassId) (fu : Nat) (h0 : Nat) (a0 : Nat → Nat) (w0 : ob_T) (p1 : Int32) (p2 : Int32) (p3 : Int32) (sz : Nat) (R : Int32 × ob_T) (hm : mX6_gone fu w0 p1 p2 p3 = some R) : Met l yX6_gone wsX6_gone (rmN 4 97) (va_Pc [.ref h0, .int p1, .int p2, .int p3] (cPre dC dI cy ((o_X6 cy h0 a0 w0)) sz)) (va_Qi (fun (r : Int32) (_ : Unit) => r = R.1) (fun _ => cPost dC dI cy ((o_X6 cy h0 a0 w0)) ((o_X6 cy h0 a0 R.2)) sz) (va_A ((o_X6 cy h0 a0 w0)) sz)) 0 0 (va_A ((o_X6 cy h0 a0 w0)) sz) := by
  refine mt_i (cc := cX6_gone) (maxL := 7) (by decide) rfl (Nat.le_of_ble_eq_true rfl) rfl ?_
  intro p e s m below meth c Q A hx hb hml hown hts hK hA hD hP hret ls hl
  have hown : s.vm.findClass RX6 = some m.cls := hown
  have hl : lv_has ls 7 [(0, .ref h0), (1, .int p1), (2, .int p2), (3, .int p3)] := hl
  have hDa : ∀ v0 : ob_T, va_D A ((o_X6 cy h0 a0 v0)) := fun _ => va_D_adr hD rfl
  have i6 : ∀ w ∈ wsX60, w ∈ wsX6_gone := fun _ h => List.mem_cons_of_mem _ (List.mem_append_right _ h)
  have hS : va_S A s.heap s.heap [] := va_S.rf
  have hB137 : ∀ (w0 : ob_T) (l4 : Int32) (H : Heap) (locs : List Loc) (ls : Array Slot), bX6_gone_137 fu w0 l4 = some R → va_P (dC, dI) vwCl ((o_X6 cy h0 a0 w0)) H → va_S A s.heap H locs → lv_has ls 7 [(0, .ref h0), (4, .int l4)] → W p l e (rmN 4 97) s m ([.ref h0, .int p1, .int p2, .int p3] : List Value).toArray below meth c H locs 0 0 Q (F0 m 137 ls []) := by
    intro w0 l4 H locs ls hm hP hS hl
    unfold bX6_gone_137 at hm
    refine lv_aload_n hx hb dX6_gone_137 rfl (lv_at hl 0 rfl) ?_
    refine lv_iconst (v := (3 : Int32)) hx hb dX6_gone_138 (by decide) ?_
    refine lv_iconst (v := (0 : Int32)) hx hb dX6_gone_139 (by decide) ?_
    obtain ⟨r1, hr1, hm⟩ := bn_call hm
    refine ca_vv (wr := []) (wn := (o_X6 cy h0 a0 r1)) ⟨hx, hb, hml, hown, hts⟩ hK hA (hDa _) hP hS [0, 1, 2, 3, 4, 5, 6, 7, 8] [] [0, 1, 2, 3, 4, 5, 6, 7, 8] (fun sz => kcX6_copy l dC dI cy fu h0 a0 w0 (3 : Int32) (0 : Int32) sz r1 hr1) rfl rfl (by decide) (by decide) (by decide) rfl (cwV 2 hts gX6_gone_X6_copy rfl rfl rfl ⟨rfl, ydX6_copy⟩ ⟨Nat.le_of_ble_eq_true rfl, Nat.le_of_ble_eq_true rfl⟩) 6 0 rfl rfl rfl rfl hl.1 rfl (Nat.le_of_ble_eq_true rfl) dX6_gone_140 ⟨Nat.zero_le _, Nat.zero_le _⟩ (fun H locs hP hS => ?_)
    refine lv_iload hx hb dX6_gone_143 (lv_at hl 1 rfl) ?_
    obtain rfl := Option.some.inj hm
    exact hret 145 ls _ _ dX6_gone_145 hP hS
  have hB129 : ∀ (k40 : ob_T → Int32 → Int32 → Int32 → Int32 → Int32 → Option (Int32 × ob_T)) (_ : ∀ (w0 : ob_T) (l1 : Int32) (l2 : Int32) (l3 : Int32) (l4 : Int32) (l5 : Int32) (H : Heap) (locs : List Loc) (ls : Array Slot), k40 w0 l1 l2 l3 l4 l5 = some R → va_P (dC, dI) vwCl ((o_X6 cy h0 a0 w0)) H → va_S A s.heap H locs → lv_has ls 7 [(0, .ref h0), (1, .int l1), (2, .int l2), (3, .int l3), (4, .int l4), (5, .int l5)] → W p l e (rmN 4 97) s m ([.ref h0, .int p1, .int p2, .int p3] : List Value).toArray below meth c H locs 0 0 Q (F0 m 40 ls [])) (w0 : ob_T) (l1 : Int32) (l2 : Int32) (l3 : Int32) (l5 : Int32) (s0 : Int32) (H : Heap) (locs : List Loc) (ls : Array Slot), bX6_gone_129 fu k40 w0 l1 l2 l3 l5 s0 = some R → va_P (dC, dI) vwCl ((o_X6 cy h0 a0 w0)) H → va_S A s.heap H locs → lv_has ls 7 [(0, .ref h0), (1, .int l1), (2, .int l2), (3, .int l3), (5, .int l5)] → W p l e (rmN 4 97) s m ([.ref h0, .int p1, .int p2, .int p3] : List Value).toArray below meth c H locs 0 0 Q (F0 m 129 ls [.int s0]) := by
    intro k40 hk40 w0 l1 l2 l3 l5 s0 H locs ls hm hP hS hl
    unfold bX6_gone_129 at hm
    refine lv_istore (lv' := [(4, .int s0), (0, .ref h0), (1, .int l1), (2, .int l2), (3, .int l3), (5, .int l5)]) hx hb dX6_gone_129 hl (by decide) rfl (fun ls hl => ?_)
    obtain ⟨x2, e3⟩ : ∃ y : Int32, y = l5 + (1 : Int32) := ⟨_, rfl⟩
    replace hm := bn_at e3 hm
    refine lv_iinc (v := x2) (lv' := [(5, .int x2), (4, .int s0), (0, .ref h0), (1, .int l1), (2, .int l2), (3, .int l3)]) hx hb dX6_gone_131 hl (k := 5) rfl (by rw [e3]; rfl) (by decide) rfl (fun ls hl => ?_)
    refine lv_goto (tgt := 40) hx hb dX6_gone_134 (by decide) ?_
    exact hk40 w0 l1 l2 l3 s0 x2 _ _ ls hm hP hS (lv_sub hl [2, 3, 4, 5, 1, 0] rfl)
  have hB115 : ∀ (k40 : ob_T → Int32 → Int32 → Int32 → Int32 → Int32 → Option (Int32 × ob_T)) (_ : ∀ (w0 : ob_T) (l1 : Int32) (l2 : Int32) (l3 : Int32) (l4 : Int32) (l5 : Int32) (H : Heap) (locs : List Loc) (ls : Array Slot), k40 w0 l1 l2 l3 l4 l5 = some R → va_P (dC, dI) vwCl ((o_X6 cy h0 a0 w0)) H → va_S A s.heap H locs → lv_has ls 7 [(0, .ref h0), (1, .int l1), (2, .int l2), (3, .int l3), (4, .int l4), (5, .int l5)] → W p l e (rmN 4 97) s m ([.ref h0, .int p1, .int p2, .int p3] : List Value).toArray below meth c H locs 0 0 Q (F0 m 40 ls [])) (w0 : ob_T) (l1 : Int32) (l2 : Int32) (l3 : Int32) (l4 : Int32) (l5 : Int32) (s0 : Int32) (H : Heap) (locs : List Loc) (ls : Array Slot), bX6_gone_115 fu k40 w0 l1 l2 l3 l4 l5 s0 = some R → va_P (dC, dI) vwCl ((o_X6 cy h0 a0 w0)) H → va_S A s.heap H locs → lv_has ls 7 [(0, .ref h0), (1, .int l1), (2, .int l2), (3, .int l3), (4, .int l4), (5, .int l5)] → W p l e (rmN 4 97) s m ([.ref h0, .int p1, .int p2, .int p3] : List Value).toArray below meth c H locs 0 0 Q (F0 m 115 ls [.int s0]) := by
    intro k40 hk40 w0 l1 l2 l3 l4 l5 s0 H locs ls hm hP hS hl
    unfold bX6_gone_115 at hm
    refine lv_istore (lv' := [(6, .int s0), (0, .ref h0), (1, .int l1), (2, .int l2), (3, .int l3), (4, .int l4), (5, .int l5)]) hx hb dX6_gone_115 hl (by decide) rfl (fun ls hl => ?_)
    refine lv_iload hx hb dX6_gone_117 (lv_at hl 0 rfl) ?_
    refine lv_if_eq (tgt := 127) hx hb dX6_gone_119 (by decide) (fun hc => ?_) (fun hc => ?_)
    · replace hm := (if_pos hc).symm.trans hm
      refine lv_iload hx hb dX6_gone_127 (lv_at hl 5 rfl) ?_
      exact hB129 (k40) hk40 w0 l1 l2 l3 l5 l4 _ _ ls hm hP hS (lv_sub hl [1, 2, 3, 4, 6] rfl)
    replace hm := (if_neg hc).symm.trans hm
    refine lv_iload hx hb dX6_gone_122 (lv_at hl 6 rfl) ?_
    refine lv_goto (tgt := 129) hx hb dX6_gone_124 (by decide) ?_
    exact hB129 (k40) hk40 w0 l1 l2 l3 l5 l5 _ _ ls hm hP hS (lv_sub hl [1, 2, 3, 4, 6] rfl)
  have hB40 : ∀ (nn : Nat) (w0 : ob_T) (l1 : Int32) (l2 : Int32) (l3 : Int32) (l4 : Int32) (l5 : Int32) (H : Heap) (locs : List Loc) (ls : Array Slot), bX6_gone_40 fu nn w0 l1 l2 l3 l4 l5 = some R → va_P (dC, dI) vwCl ((o_X6 cy h0 a0 w0)) H → va_S A s.heap H locs → lv_has ls 7 [(0, .ref h0), (1, .int l1), (2, .int l2), (3, .int l3), (4, .int l4), (5, .int l5)] → W p l e (rmN 4 97) s m ([.ref h0, .int p1, .int p2, .int p3] : List Value).toArray below meth c H locs 0 0 Q (F0 m 40 ls []) := by
    intro nn
    induction nn with
    | zero => intro w0 l1 l2 l3 l4 l5 H locs ls hm; exact no_some ((bX6_gone_40_0 fu w0 l1 l2 l3 l4 l5).symm.trans hm)
    | succ nn ih =>
      intro w0 l1 l2 l3 l4 l5 H locs ls hm hP hS hl
      replace hm := (bX6_gone_40_s fu nn w0 l1 l2 l3 l4 l5).symm.trans hm
      refine lv_iload hx hb dX6_gone_40 (lv_at hl 5 rfl) ?_
      refine lv_iload_n hx hb dX6_gone_42 rfl (lv_at hl 3 rfl) ?_
      refine lv_icmp_gt (tgt := 137) hx hb dX6_gone_43 (by decide) (fun hc => ?_) (fun hc => ?_)
      · replace hm := (if_pos hc).symm.trans hm
        exact hB137 w0 l4 _ _ ls hm hP hS (lv_sub hl [0, 4] rfl)
      replace hm := (if_neg hc).symm.trans hm
      refine lv_iload hx hb dX6_gone_46 (lv_at hl 4 rfl) ?_
      refine lv_bipush (v := (-4 : Int32)) hx hb dX6_gone_48 (by decide) ?_
      refine lv_icmp_ne (tgt := 137) hx hb dX6_gone_50 (by decide) (fun hc => ?_) (fun hc => ?_)
      · replace hm := (if_neg hc).symm.trans hm
        exact hB137 w0 l4 _ _ ls hm hP hS (lv_sub hl [0, 4] rfl)
      replace hm := (if_pos hc).symm.trans hm
      refine lv_aload_n hx hb dX6_gone_53 rfl (lv_at hl 0 rfl) ?_
      obtain ⟨r4, hr4, hm⟩ := bn_call hm
      refine ca_vi (wr := []) (wn := (o_X6 cy h0 a0 r4.2)) ⟨hx, hb, hml, hown, hts⟩ hK hA (hDa _) hP hS [0, 1, 2, 3, 4, 5, 6, 7, 8] [] [0, 1, 2, 3, 4, 5, 6, 7, 8] (fun sz => kcX6_goYear l dC dI cy fu h0 a0 w0 sz r4 hr4) rfl rfl (by decide) (by decide) (by decide) rfl (cwV 0 hts gX6_gone_X6_goYear rfl rfl rfl ⟨rfl, ydX6_goYear⟩ ⟨Nat.le_of_ble_eq_true rfl, Nat.le_of_ble_eq_true rfl⟩) 6 0 rfl rfl rfl rfl hl.1 rfl (Nat.le_of_ble_eq_true rfl) dX6_gone_54 ⟨Nat.zero_le _, Nat.zero_le _⟩ (fun H locs hP hS => ?_)
      refine lv_pop hx hb dX6_gone_57 rfl ?_
      refine lv_iload_n hx hb dX6_gone_58 rfl (lv_at hl 2 rfl) ?_
      refine lv_if_ne (tgt := 86) hx hb dX6_gone_59 (by decide) (fun hc => ?_) (fun hc => ?_)
      · replace hm := (if_neg hc).symm.trans hm
        refine lv_aload_n hx hb dX6_gone_86 rfl (lv_at hl 0 rfl) ?_
        refine va_get (D := (dC, dI)) (ci := 6) (v := .ref (a0 2)) (C := RX6) (T := TX6) (N := 11) hx hb hts i6 hown hK hP 0 rfl rfl 2 (by decide) (hts (.fieldLink RX6 13 "TwoMetalsModel" "realms" "[J") (List.mem_of_getElem? (i := 1) rfl)) (fun _ h9 => h9) rfl dX6_gone_87 ?_
        refine lv_bipush (v := (9 : Int32)) hx hb dX6_gone_90 (by decide) ?_
        refine lv_iload_n hx hb dX6_gone_92 rfl (lv_at hl 1 rfl) ?_
        refine lv_imul hx hb dX6_gone_93 ?_
        refine lv_iconst (v := (4 : Int32)) hx hb dX6_gone_94 (by decide) ?_
        refine lv_iadd hx hb dX6_gone_95 ?_
        obtain ⟨hi5, hm⟩ := ck_in hm
        refine va_lald hx hb hK hP 2 1 rfl rfl hi5 dX6_gone_96 ?_
        refine lv_aload_n hx hb dX6_gone_97 rfl (lv_at hl 0 rfl) ?_
        refine va_get (D := (dC, dI)) (ci := 6) (v := .ref (a0 2)) (C := RX6) (T := TX6) (N := 11) hx hb hts i6 hown hK hP 0 rfl rfl 2 (by decide) (hts (.fieldLink RX6 13 "TwoMetalsModel" "realms" "[J") (List.mem_of_getElem? (i := 1) rfl)) (fun _ h9 => h9) rfl dX6_gone_98 ?_
        refine lv_bipush (v := (9 : Int32)) hx hb dX6_gone_101 (by decide) ?_
        refine lv_iload_n hx hb dX6_gone_103 rfl (lv_at hl 1 rfl) ?_
        refine lv_imul hx hb dX6_gone_104 ?_
        obtain ⟨hi6, hm⟩ := ck_in hm
        refine va_lald hx hb hK hP 2 1 rfl rfl hi6 dX6_gone_105 ?_
        refine W.lcmp hx hb dX6_gone_106 ?_
        refine lv_if_ge (tgt := 114) hx hb dX6_gone_107 (by decide) (fun hc => ?_) (fun hc => ?_)
        · replace hm := (if_pos hc).symm.trans hm
          refine lv_iconst (v := (0 : Int32)) hx hb dX6_gone_114 (by decide) ?_
          exact hB115 (bX6_gone_40 fu nn) ih r4.2 l1 l2 l3 l4 l5 (0 : Int32) _ _ ls hm hP hS (lv_sub hl [0, 1, 2, 3, 4, 5] rfl)
        replace hm := (if_neg hc).symm.trans hm
        refine lv_iconst (v := (1 : Int32)) hx hb dX6_gone_110 (by decide) ?_
        refine lv_goto (tgt := 115) hx hb dX6_gone_111 (by decide) ?_
        exact hB115 (bX6_gone_40 fu nn) ih r4.2 l1 l2 l3 l4 l5 (1 : Int32) _ _ ls hm hP hS (lv_sub hl [0, 1, 2, 3, 4, 5] rfl)
      replace hm := (if_pos hc).symm.trans hm
      refine lv_aload_n hx hb dX6_gone_62 rfl (lv_at hl 0 rfl) ?_
      refine va_get (D := (dC, dI)) (ci := 6) (v := .ref (a0 2)) (C := RX6) (T := TX6) (N := 11) hx hb hts i6 hown hK hP 0 rfl rfl 2 (by decide) (hts (.fieldLink RX6 13 "TwoMetalsModel" "realms" "[J") (List.mem_of_getElem? (i := 1) rfl)) (fun _ h9 => h9) rfl dX6_gone_63 ?_
      refine lv_bipush (v := (9 : Int32)) hx hb dX6_gone_66 (by decide) ?_
      refine lv_iload_n hx hb dX6_gone_68 rfl (lv_at hl 1 rfl) ?_
      refine lv_imul hx hb dX6_gone_69 ?_
      refine lv_iconst (v := (3 : Int32)) hx hb dX6_gone_70 (by decide) ?_
      refine lv_iadd hx hb dX6_gone_71 ?_
      obtain ⟨hi7, hm⟩ := ck_in hm
      refine va_lald hx hb hK hP 2 1 rfl rfl hi7 dX6_gone_72 ?_
      refine lv_lconst (v := (0 : Int64)) hx hb dX6_gone_73 (by decide) ?_
      refine W.lcmp hx hb dX6_gone_74 ?_
      refine lv_if_ne (tgt := 82) hx hb dX6_gone_75 (by decide) (fun hc => ?_) (fun hc => ?_)
      · replace hm := (if_neg hc).symm.trans hm
        refine lv_iconst (v := (0 : Int32)) hx hb dX6_gone_82 (by decide) ?_
        refine lv_goto (tgt := 115) hx hb dX6_gone_83 (by decide) ?_
        exact hB115 (bX6_gone_40 fu nn) ih r4.2 l1 l2 l3 l4 l5 (0 : Int32) _ _ ls hm hP hS (lv_sub hl [0, 1, 2, 3, 4, 5] rfl)
      replace hm := (if_pos hc).symm.trans hm
      refine lv_iconst (v := (1 : Int32)) hx hb dX6_gone_78 (by decide) ?_
      refine lv_goto (tgt := 115) hx hb dX6_gone_79 (by decide) ?_
      exact hB115 (bX6_gone_40 fu nn) ih r4.2 l1 l2 l3 l4 l5 (1 : Int32) _ _ ls hm hP hS (lv_sub hl [0, 1, 2, 3, 4, 5] rfl)
  unfold mX6_gone at hm
  refine lv_aload_n hx hb dX6_gone_0 rfl (lv_at hl 0 rfl) ?_
  refine lv_iload_n hx hb dX6_gone_1 rfl (lv_at hl 1 rfl) ?_
  obtain ⟨r8, hr8, hm⟩ := bn_call hm
  refine ca_vi (wr := []) (wn := (o_X6 cy h0 a0 w0)) ⟨hx, hb, hml, hown, hts⟩ hK hA (hDa _) hP hS [0, 1, 2, 3, 4, 5, 6, 7, 8] [] [0, 1, 2, 3, 4, 5, 6, 7, 8] (fun sz => kcX6_isRealm l dC dI cy fu h0 a0 w0 p1 sz r8 hr8) rfl rfl (by decide) (by decide) (by decide) rfl (cwV 1 hts gX6_gone_X6_isRealm rfl rfl rfl ⟨rfl, ydX6_isRealm⟩ ⟨Nat.le_of_ble_eq_true rfl, Nat.le_of_ble_eq_true rfl⟩) 6 0 rfl rfl rfl rfl hl.1 rfl (Nat.le_of_ble_eq_true rfl) dX6_gone_2 ⟨Nat.zero_le _, Nat.zero_le _⟩ (fun H locs hP hS => ?_)
  refine lv_if_eq (tgt := 25) hx hb dX6_gone_5 (by decide) (fun hc => ?_) (fun hc => ?_)
  · replace hm := (if_pos hc).symm.trans hm
    refine lv_iconst (v := (-1 : Int32)) hx hb dX6_gone_25 (by decide) ?_
    obtain rfl := Option.some.inj hm
    exact hret 26 ls _ _ dX6_gone_26 hP hS
  replace hm := (if_neg hc).symm.trans hm
  refine lv_iload_n hx hb dX6_gone_8 rfl (lv_at hl 2 rfl) ?_
  refine lv_i2l (v := p2.toInt64) hx hb dX6_gone_9 rfl ?_
  refine lv_lconst (v := (0 : Int64)) hx hb dX6_gone_10 (by decide) ?_
  refine lv_lconst (v := (1 : Int64)) hx hb dX6_gone_11 (by decide) ?_
  obtain ⟨r9, hr9, hm⟩ := bn_call hm
  refine ca_si (wr := (o_X6 cy h0 a0 w0)) (wn := (o_X6 cy h0 a0 w0)) ⟨hx, hb, hml, hown, hts⟩ hK hA (hDa _) hP hS [] [0, 1, 2, 3, 4, 5, 6, 7, 8] [0, 1, 2, 3, 4, 5, 6, 7, 8] (fun sz => kcX6_in l dC dI cy fu p2.toInt64 (0 : Int64) (1 : Int64) sz r9 hr9) rfl rfl (by decide) (by decide) (by decide) rfl (va_cwS 3 hts gX6_gone_X6_in rfl rfl rfl ydX6_in ⟨Nat.le_of_ble_eq_true rfl, Nat.le_of_ble_eq_true rfl⟩) rfl hl.1 rfl (Nat.le_of_ble_eq_true rfl) dX6_gone_12 ⟨Nat.zero_le _, Nat.zero_le _⟩ (fun H locs hP hS => ?_)
  refine lv_if_eq (tgt := 25) hx hb dX6_gone_15 (by decide) (fun hc => ?_) (fun hc => ?_)
  · replace hm := (if_pos hc).symm.trans hm
    refine lv_iconst (v := (-1 : Int32)) hx hb dX6_gone_25 (by decide) ?_
    obtain rfl := Option.some.inj hm
    exact hret 26 ls _ _ dX6_gone_26 hP hS
  replace hm := (if_neg hc).symm.trans hm
  refine lv_iload_n hx hb dX6_gone_18 rfl (lv_at hl 3 rfl) ?_
  obtain ⟨r10, hr10, hm⟩ := bn_call hm
  refine ca_si (wr := (o_X6 cy h0 a0 w0)) (wn := (o_X6 cy h0 a0 w0)) ⟨hx, hb, hml, hown, hts⟩ hK hA (hDa _) hP hS [] [0, 1, 2, 3, 4, 5, 6, 7, 8] [0, 1, 2, 3, 4, 5, 6, 7, 8] (fun sz => kcX6_areYears l dC dI cy fu p3 sz r10 hr10) rfl rfl (by decide) (by decide) (by decide) rfl (va_cwS 1 hts gX6_gone_X6_areYears rfl rfl rfl ydX6_areYears ⟨Nat.le_of_ble_eq_true rfl, Nat.le_of_ble_eq_true rfl⟩) rfl hl.1 rfl (Nat.le_of_ble_eq_true rfl) dX6_gone_19 ⟨Nat.zero_le _, Nat.zero_le _⟩ (fun H locs hP hS => ?_)
  refine lv_if_ne (tgt := 27) hx hb dX6_gone_22 (by decide) (fun hc => ?_) (fun hc => ?_)
  · replace hm := (if_neg hc).symm.trans hm
    refine lv_aload_n hx hb dX6_gone_27 rfl (lv_at hl 0 rfl) ?_
    refine lv_iconst (v := (0 : Int32)) hx hb dX6_gone_28 (by decide) ?_
    refine lv_iconst (v := (3 : Int32)) hx hb dX6_gone_29 (by decide) ?_
    obtain ⟨r11, hr11, hm⟩ := bn_call hm
    refine ca_vv (wr := []) (wn := (o_X6 cy h0 a0 r11)) ⟨hx, hb, hml, hown, hts⟩ hK hA (hDa _) hP hS [0, 1, 2, 3, 4, 5, 6, 7, 8] [] [0, 1, 2, 3, 4, 5, 6, 7, 8] (fun sz => kcX6_copy l dC dI cy fu h0 a0 w0 (0 : Int32) (3 : Int32) sz r11 hr11) rfl rfl (by decide) (by decide) (by decide) rfl (cwV 2 hts gX6_gone_X6_copy rfl rfl rfl ⟨rfl, ydX6_copy⟩ ⟨Nat.le_of_ble_eq_true rfl, Nat.le_of_ble_eq_true rfl⟩) 6 0 rfl rfl rfl rfl hl.1 rfl (Nat.le_of_ble_eq_true rfl) dX6_gone_30 ⟨Nat.zero_le _, Nat.zero_le _⟩ (fun H locs hP hS => ?_)
    refine lv_bipush (v := (-4 : Int32)) hx hb dX6_gone_33 (by decide) ?_
    refine lv_istore (lv' := [(4, .int (-4 : Int32)), (0, .ref h0), (1, .int p1), (2, .int p2), (3, .int p3)]) hx hb dX6_gone_35 hl (by decide) rfl (fun ls hl => ?_)
    refine lv_iconst (v := (1 : Int32)) hx hb dX6_gone_37 (by decide) ?_
    refine lv_istore (lv' := [(5, .int (1 : Int32)), (4, .int (-4 : Int32)), (0, .ref h0), (1, .int p1), (2, .int p2), (3, .int p3)]) hx hb dX6_gone_38 hl (by decide) rfl (fun ls hl => ?_)
    exact hB40 fu r11 p1 p2 p3 (-4 : Int32) (1 : Int32) _ _ ls hm hP hS (lv_sub hl [2, 3, 4, 5, 1, 0] rfl)
  replace hm := (if_pos hc).symm.trans hm
  refine lv_iconst (v := (-1 : Int32)) hx hb dX6_gone_25 (by decide) ?_
  obtain rfl := Option.some.inj hm
  exact hret 26 ls _ _ dX6_gone_26 hP hS
set_option maxHeartbeats 4000000 in
set_option maxRecDepth 100000 in
theorem kcX6_stopped (l : Launch) (dC : Nat → ClassId) (dI : Nat → Nat → Nat) (cy : Nat → ClassId) (fu : Nat) (h0 : Nat) (a0 : Nat → Nat) (w0 : ob_T) (p1 : Int32) (p2 : Int32) (sz : Nat) (R : Int32 × ob_T) (hm : mX6_stopped fu w0 p1 p2 = some R) : Met l yX6_stopped wsX6_stopped (rmN 4 97) (va_Pc [.ref h0, .int p1, .int p2] (cPre dC dI cy ((o_X6 cy h0 a0 w0)) sz)) (va_Qi (fun (r : Int32) (_ : Unit) => r = R.1) (fun _ => cPost dC dI cy ((o_X6 cy h0 a0 w0)) ((o_X6 cy h0 a0 R.2)) sz) (va_A ((o_X6 cy h0 a0 w0)) sz)) 0 0 (va_A ((o_X6 cy h0 a0 w0)) sz) := by
  refine mt_i (cc := cX6_stopped) (maxL := 5) (by decide) rfl (Nat.le_of_ble_eq_true rfl) rfl ?_
  intro p e s m below meth c Q A hx hb hml hown hts hK hA hD hP hret ls hl
  have hown : s.vm.findClass RX6 = some m.cls := hown
  have hl : lv_has ls 5 [(0, .ref h0), (1, .int p1), (2, .int p2)] := hl
  have hDa : ∀ v0 : ob_T, va_D A ((o_X6 cy h0 a0 v0)) := fun _ => va_D_adr hD rfl
  have hS : va_S A s.heap s.heap [] := va_S.rf
  have hB78 : ∀ (w0 : ob_T) (l3 : Int32) (H : Heap) (locs : List Loc) (ls : Array Slot), bX6_stopped_78 fu w0 l3 = some R → va_P (dC, dI) vwCl ((o_X6 cy h0 a0 w0)) H → va_S A s.heap H locs → lv_has ls 5 [(0, .ref h0), (3, .int l3)] → W p l e (rmN 4 97) s m ([.ref h0, .int p1, .int p2] : List Value).toArray below meth c H locs 0 0 Q (F0 m 78 ls []) := by
    intro w0 l3 H locs ls hm hP hS hl
    unfold bX6_stopped_78 at hm
    refine lv_aload_n hx hb dX6_stopped_78 rfl (lv_at hl 0 rfl) ?_
    refine lv_iconst (v := (3 : Int32)) hx hb dX6_stopped_79 (by decide) ?_
    refine lv_iconst (v := (0 : Int32)) hx hb dX6_stopped_80 (by decide) ?_
    obtain ⟨r1, hr1, hm⟩ := bn_call hm
    refine ca_vv (wr := []) (wn := (o_X6 cy h0 a0 r1)) ⟨hx, hb, hml, hown, hts⟩ hK hA (hDa _) hP hS [0, 1, 2, 3, 4, 5, 6, 7, 8] [] [0, 1, 2, 3, 4, 5, 6, 7, 8] (fun sz => kcX6_copy l dC dI cy fu h0 a0 w0 (3 : Int32) (0 : Int32) sz r1 hr1) rfl rfl (by decide) (by decide) (by decide) rfl (cwV 2 hts gX6_stopped_X6_copy rfl rfl rfl ⟨rfl, ydX6_copy⟩ ⟨Nat.le_of_ble_eq_true rfl, Nat.le_of_ble_eq_true rfl⟩) 6 0 rfl rfl rfl rfl hl.1 rfl (Nat.le_of_ble_eq_true rfl) dX6_stopped_81 ⟨Nat.zero_le _, Nat.zero_le _⟩ (fun H locs hP hS => ?_)
    refine lv_iload_n hx hb dX6_stopped_84 rfl (lv_at hl 1 rfl) ?_
    obtain rfl := Option.some.inj hm
    exact hret 85 ls _ _ dX6_stopped_85 hP hS
  have hB71 : ∀ (k40 : ob_T → Int32 → Int32 → Int32 → Int32 → Option (Int32 × ob_T)) (_ : ∀ (w0 : ob_T) (l1 : Int32) (l2 : Int32) (l3 : Int32) (l4 : Int32) (H : Heap) (locs : List Loc) (ls : Array Slot), k40 w0 l1 l2 l3 l4 = some R → va_P (dC, dI) vwCl ((o_X6 cy h0 a0 w0)) H → va_S A s.heap H locs → lv_has ls 5 [(0, .ref h0), (1, .int l1), (2, .int l2), (3, .int l3), (4, .int l4)] → W p l e (rmN 4 97) s m ([.ref h0, .int p1, .int p2] : List Value).toArray below meth c H locs 0 0 Q (F0 m 40 ls [])) (w0 : ob_T) (l1 : Int32) (l2 : Int32) (l4 : Int32) (s0 : Int32) (H : Heap) (locs : List Loc) (ls : Array Slot), bX6_stopped_71 fu k40 w0 l1 l2 l4 s0 = some R → va_P (dC, dI) vwCl ((o_X6 cy h0 a0 w0)) H → va_S A s.heap H locs → lv_has ls 5 [(0, .ref h0), (1, .int l1), (2, .int l2), (4, .int l4)] → W p l e (rmN 4 97) s m ([.ref h0, .int p1, .int p2] : List Value).toArray below meth c H locs 0 0 Q (F0 m 71 ls [.int s0]) := by
    intro k40 hk40 w0 l1 l2 l4 s0 H locs ls hm hP hS hl
    unfold bX6_stopped_71 at hm
    refine lv_istore_n (lv' := [(3, .int s0), (0, .ref h0), (1, .int l1), (2, .int l2), (4, .int l4)]) hx hb dX6_stopped_71 rfl hl (by decide) rfl (fun ls hl => ?_)
    obtain ⟨x2, e3⟩ : ∃ y : Int32, y = l4 + (1 : Int32) := ⟨_, rfl⟩
    replace hm := bn_at e3 hm
    refine lv_iinc (v := x2) (lv' := [(4, .int x2), (3, .int s0), (0, .ref h0), (1, .int l1), (2, .int l2)]) hx hb dX6_stopped_72 hl (k := 4) rfl (by rw [e3]; rfl) (by decide) rfl (fun ls hl => ?_)
    refine lv_goto (tgt := 40) hx hb dX6_stopped_75 (by decide) ?_
    exact hk40 w0 l1 l2 s0 x2 _ _ ls hm hP hS (lv_sub hl [2, 3, 4, 1, 0] rfl)
  have hB40 : ∀ (nn : Nat) (w0 : ob_T) (l1 : Int32) (l2 : Int32) (l3 : Int32) (l4 : Int32) (H : Heap) (locs : List Loc) (ls : Array Slot), bX6_stopped_40 fu nn w0 l1 l2 l3 l4 = some R → va_P (dC, dI) vwCl ((o_X6 cy h0 a0 w0)) H → va_S A s.heap H locs → lv_has ls 5 [(0, .ref h0), (1, .int l1), (2, .int l2), (3, .int l3), (4, .int l4)] → W p l e (rmN 4 97) s m ([.ref h0, .int p1, .int p2] : List Value).toArray below meth c H locs 0 0 Q (F0 m 40 ls []) := by
    intro nn
    induction nn with
    | zero => intro w0 l1 l2 l3 l4 H locs ls hm; exact no_some ((bX6_stopped_40_0 fu w0 l1 l2 l3 l4).symm.trans hm)
    | succ nn ih =>
      intro w0 l1 l2 l3 l4 H locs ls hm hP hS hl
      replace hm := (bX6_stopped_40_s fu nn w0 l1 l2 l3 l4).symm.trans hm
      refine lv_iload hx hb dX6_stopped_40 (lv_at hl 4 rfl) ?_
      refine lv_iload_n hx hb dX6_stopped_42 rfl (lv_at hl 2 rfl) ?_
      refine lv_icmp_gt (tgt := 78) hx hb dX6_stopped_43 (by decide) (fun hc => ?_) (fun hc => ?_)
      · replace hm := (if_pos hc).symm.trans hm
        exact hB78 w0 l3 _ _ ls hm hP hS (lv_sub hl [0, 3] rfl)
      replace hm := (if_neg hc).symm.trans hm
      refine lv_iload_n hx hb dX6_stopped_46 rfl (lv_at hl 3 rfl) ?_
      refine lv_bipush (v := (-4 : Int32)) hx hb dX6_stopped_47 (by decide) ?_
      refine lv_icmp_ne (tgt := 78) hx hb dX6_stopped_49 (by decide) (fun hc => ?_) (fun hc => ?_)
      · replace hm := (if_neg hc).symm.trans hm
        exact hB78 w0 l3 _ _ ls hm hP hS (lv_sub hl [0, 3] rfl)
      replace hm := (if_pos hc).symm.trans hm
      refine lv_aload_n hx hb dX6_stopped_52 rfl (lv_at hl 0 rfl) ?_
      obtain ⟨r4, hr4, hm⟩ := bn_call hm
      refine ca_vi (wr := []) (wn := (o_X6 cy h0 a0 r4.2)) ⟨hx, hb, hml, hown, hts⟩ hK hA (hDa _) hP hS [0, 1, 2, 3, 4, 5, 6, 7, 8] [] [0, 1, 2, 3, 4, 5, 6, 7, 8] (fun sz => kcX6_goYear l dC dI cy fu h0 a0 w0 sz r4 hr4) rfl rfl (by decide) (by decide) (by decide) rfl (cwV 0 hts gX6_stopped_X6_goYear rfl rfl rfl ⟨rfl, ydX6_goYear⟩ ⟨Nat.le_of_ble_eq_true rfl, Nat.le_of_ble_eq_true rfl⟩) 6 0 rfl rfl rfl rfl hl.1 rfl (Nat.le_of_ble_eq_true rfl) dX6_stopped_53 ⟨Nat.zero_le _, Nat.zero_le _⟩ (fun H locs hP hS => ?_)
      refine lv_pop hx hb dX6_stopped_56 rfl ?_
      refine lv_aload_n hx hb dX6_stopped_57 rfl (lv_at hl 0 rfl) ?_
      refine lv_iload_n hx hb dX6_stopped_58 rfl (lv_at hl 1 rfl) ?_
      obtain ⟨r5, hr5, hm⟩ := bn_call hm
      refine ca_vi (wr := []) (wn := (o_X6 cy h0 a0 r4.2)) ⟨hx, hb, hml, hown, hts⟩ hK hA (hDa _) hP hS [0, 1, 2, 3, 4, 5, 6, 7, 8] [] [0, 1, 2, 3, 4, 5, 6, 7, 8] (fun sz => kcX6_mints l dC dI cy fu h0 a0 r4.2 l1 sz r5 hr5) rfl rfl (by decide) (by decide) (by decide) rfl (cwV 1 hts gX6_stopped_X6_mints rfl rfl rfl ⟨rfl, ydX6_mints⟩ ⟨Nat.le_of_ble_eq_true rfl, Nat.le_of_ble_eq_true rfl⟩) 6 0 rfl rfl rfl rfl hl.1 rfl (Nat.le_of_ble_eq_true rfl) dX6_stopped_59 ⟨Nat.zero_le _, Nat.zero_le _⟩ (fun H locs hP hS => ?_)
      refine lv_if_eq (tgt := 69) hx hb dX6_stopped_62 (by decide) (fun hc => ?_) (fun hc => ?_)
      · replace hm := (if_pos hc).symm.trans hm
        refine lv_iload hx hb dX6_stopped_69 (lv_at hl 4 rfl) ?_
        exact hB71 (bX6_stopped_40 fu nn) ih r4.2 l1 l2 l4 l4 _ _ ls hm hP hS (lv_sub hl [0, 1, 2, 4] rfl)
      replace hm := (if_neg hc).symm.trans hm
      refine lv_iload_n hx hb dX6_stopped_65 rfl (lv_at hl 3 rfl) ?_
      refine lv_goto (tgt := 71) hx hb dX6_stopped_66 (by decide) ?_
      exact hB71 (bX6_stopped_40 fu nn) ih r4.2 l1 l2 l4 l3 _ _ ls hm hP hS (lv_sub hl [0, 1, 2, 4] rfl)
  unfold mX6_stopped at hm
  refine lv_aload_n hx hb dX6_stopped_0 rfl (lv_at hl 0 rfl) ?_
  refine lv_iload_n hx hb dX6_stopped_1 rfl (lv_at hl 1 rfl) ?_
  obtain ⟨r6, hr6, hm⟩ := bn_call hm
  refine ca_vi (wr := []) (wn := (o_X6 cy h0 a0 w0)) ⟨hx, hb, hml, hown, hts⟩ hK hA (hDa _) hP hS [0, 1, 2, 3, 4, 5, 6, 7, 8] [] [0, 1, 2, 3, 4, 5, 6, 7, 8] (fun sz => kcX6_isRealm l dC dI cy fu h0 a0 w0 p1 sz r6 hr6) rfl rfl (by decide) (by decide) (by decide) rfl (cwV 1 hts gX6_stopped_X6_isRealm rfl rfl rfl ⟨rfl, ydX6_isRealm⟩ ⟨Nat.le_of_ble_eq_true rfl, Nat.le_of_ble_eq_true rfl⟩) 6 0 rfl rfl rfl rfl hl.1 rfl (Nat.le_of_ble_eq_true rfl) dX6_stopped_2 ⟨Nat.zero_le _, Nat.zero_le _⟩ (fun H locs hP hS => ?_)
  refine lv_if_eq (tgt := 15) hx hb dX6_stopped_5 (by decide) (fun hc => ?_) (fun hc => ?_)
  · replace hm := (if_pos hc).symm.trans hm
    refine lv_iconst (v := (-1 : Int32)) hx hb dX6_stopped_15 (by decide) ?_
    obtain rfl := Option.some.inj hm
    exact hret 16 ls _ _ dX6_stopped_16 hP hS
  replace hm := (if_neg hc).symm.trans hm
  refine lv_iload_n hx hb dX6_stopped_8 rfl (lv_at hl 2 rfl) ?_
  obtain ⟨r7, hr7, hm⟩ := bn_call hm
  refine ca_si (wr := (o_X6 cy h0 a0 w0)) (wn := (o_X6 cy h0 a0 w0)) ⟨hx, hb, hml, hown, hts⟩ hK hA (hDa _) hP hS [] [0, 1, 2, 3, 4, 5, 6, 7, 8] [0, 1, 2, 3, 4, 5, 6, 7, 8] (fun sz => kcX6_areYears l dC dI cy fu p2 sz r7 hr7) rfl rfl (by decide) (by decide) (by decide) rfl (va_cwS 1 hts gX6_stopped_X6_areYears rfl rfl rfl ydX6_areYears ⟨Nat.le_of_ble_eq_true rfl, Nat.le_of_ble_eq_true rfl⟩) rfl hl.1 rfl (Nat.le_of_ble_eq_true rfl) dX6_stopped_9 ⟨Nat.zero_le _, Nat.zero_le _⟩ (fun H locs hP hS => ?_)
  refine lv_if_ne (tgt := 17) hx hb dX6_stopped_12 (by decide) (fun hc => ?_) (fun hc => ?_)
  · replace hm := (if_neg hc).symm.trans hm
    refine lv_aload_n hx hb dX6_stopped_17 rfl (lv_at hl 0 rfl) ?_
    refine lv_iload_n hx hb dX6_stopped_18 rfl (lv_at hl 1 rfl) ?_
    obtain ⟨r8, hr8, hm⟩ := bn_call hm
    refine ca_vi (wr := []) (wn := (o_X6 cy h0 a0 w0)) ⟨hx, hb, hml, hown, hts⟩ hK hA (hDa _) hP hS [0, 1, 2, 3, 4, 5, 6, 7, 8] [] [0, 1, 2, 3, 4, 5, 6, 7, 8] (fun sz => kcX6_mints l dC dI cy fu h0 a0 w0 p1 sz r8 hr8) rfl rfl (by decide) (by decide) (by decide) rfl (cwV 1 hts gX6_stopped_X6_mints rfl rfl rfl ⟨rfl, ydX6_mints⟩ ⟨Nat.le_of_ble_eq_true rfl, Nat.le_of_ble_eq_true rfl⟩) 6 0 rfl rfl rfl rfl hl.1 rfl (Nat.le_of_ble_eq_true rfl) dX6_stopped_19 ⟨Nat.zero_le _, Nat.zero_le _⟩ (fun H locs hP hS => ?_)
    refine lv_if_ne (tgt := 28) hx hb dX6_stopped_22 (by decide) (fun hc => ?_) (fun hc => ?_)
    · replace hm := (if_neg hc).symm.trans hm
      refine lv_aload_n hx hb dX6_stopped_28 rfl (lv_at hl 0 rfl) ?_
      refine lv_iconst (v := (0 : Int32)) hx hb dX6_stopped_29 (by decide) ?_
      refine lv_iconst (v := (3 : Int32)) hx hb dX6_stopped_30 (by decide) ?_
      obtain ⟨r9, hr9, hm⟩ := bn_call hm
      refine ca_vv (wr := []) (wn := (o_X6 cy h0 a0 r9)) ⟨hx, hb, hml, hown, hts⟩ hK hA (hDa _) hP hS [0, 1, 2, 3, 4, 5, 6, 7, 8] [] [0, 1, 2, 3, 4, 5, 6, 7, 8] (fun sz => kcX6_copy l dC dI cy fu h0 a0 w0 (0 : Int32) (3 : Int32) sz r9 hr9) rfl rfl (by decide) (by decide) (by decide) rfl (cwV 2 hts gX6_stopped_X6_copy rfl rfl rfl ⟨rfl, ydX6_copy⟩ ⟨Nat.le_of_ble_eq_true rfl, Nat.le_of_ble_eq_true rfl⟩) 6 0 rfl rfl rfl rfl hl.1 rfl (Nat.le_of_ble_eq_true rfl) dX6_stopped_31 ⟨Nat.zero_le _, Nat.zero_le _⟩ (fun H locs hP hS => ?_)
      refine lv_bipush (v := (-4 : Int32)) hx hb dX6_stopped_34 (by decide) ?_
      refine lv_istore_n (lv' := [(3, .int (-4 : Int32)), (0, .ref h0), (1, .int p1), (2, .int p2)]) hx hb dX6_stopped_36 rfl hl (by decide) rfl (fun ls hl => ?_)
      refine lv_iconst (v := (1 : Int32)) hx hb dX6_stopped_37 (by decide) ?_
      refine lv_istore (lv' := [(4, .int (1 : Int32)), (3, .int (-4 : Int32)), (0, .ref h0), (1, .int p1), (2, .int p2)]) hx hb dX6_stopped_38 hl (by decide) rfl (fun ls hl => ?_)
      exact hB40 fu r9 p1 p2 (-4 : Int32) (1 : Int32) _ _ ls hm hP hS (lv_sub hl [2, 3, 4, 1, 0] rfl)
    replace hm := (if_pos hc).symm.trans hm
    refine lv_bipush (v := (-2 : Int32)) hx hb dX6_stopped_25 (by decide) ?_
    obtain rfl := Option.some.inj hm
    exact hret 27 ls _ _ dX6_stopped_27 hP hS
  replace hm := (if_pos hc).symm.trans hm
  refine lv_iconst (v := (-1 : Int32)) hx hb dX6_stopped_15 (by decide) ?_
  obtain rfl := Option.some.inj hm
  exact hret 16 ls _ _ dX6_stopped_16 hP hS
set_option maxHeartbeats 4000000 in
set_option maxRecDepth 100000 in
theorem kcX6_free (l : Launch) (dC : Nat → ClassId) (dI : Nat → Nat → Nat) (cy : Nat → ClassId) (fu : Nat) (h0 : Nat) (a0 : Nat → Nat) (w0 : ob_T) (p1 : Int32) (sz : Nat) (R : Int32 × ob_T) (hm : mX6_free fu w0 p1 = some R) : Met l yX6_free wsX6_free (rmN 4 97) (va_Pc [.ref h0, .int p1] (cPre dC dI cy ((o_X6 cy h0 a0 w0)) sz)) (va_Qi (fun (r : Int32) (_ : Unit) => r = R.1) (fun _ => cPost dC dI cy ((o_X6 cy h0 a0 w0)) ((o_X6 cy h0 a0 R.2)) sz) (va_A ((o_X6 cy h0 a0 w0)) sz)) 0 0 (va_A ((o_X6 cy h0 a0 w0)) sz) := by
  refine mt_i (cc := cX6_free) (maxL := 4) (by decide) rfl (Nat.le_of_ble_eq_true rfl) rfl ?_
  intro p e s m below meth c Q A hx hb hml hown hts hK hA hD hP hret ls hl
  have hown : s.vm.findClass RX6 = some m.cls := hown
  have hl : lv_has ls 4 [(0, .ref h0), (1, .int p1)] := hl
  have hDa : ∀ v0 : ob_T, va_D A ((o_X6 cy h0 a0 v0)) := fun _ => va_D_adr hD rfl
  have hS : va_S A s.heap s.heap [] := va_S.rf
  have hB55 : ∀ (w0 : ob_T) (l2 : Int32) (H : Heap) (locs : List Loc) (ls : Array Slot), bX6_free_55 fu w0 l2 = some R → va_P (dC, dI) vwCl ((o_X6 cy h0 a0 w0)) H → va_S A s.heap H locs → lv_has ls 4 [(0, .ref h0), (2, .int l2)] → W p l e (rmN 4 97) s m ([.ref h0, .int p1] : List Value).toArray below meth c H locs 0 0 Q (F0 m 55 ls []) := by
    intro w0 l2 H locs ls hm hP hS hl
    unfold bX6_free_55 at hm
    refine lv_aload_n hx hb dX6_free_55 rfl (lv_at hl 0 rfl) ?_
    refine lv_iconst (v := (3 : Int32)) hx hb dX6_free_56 (by decide) ?_
    refine lv_iconst (v := (0 : Int32)) hx hb dX6_free_57 (by decide) ?_
    obtain ⟨r1, hr1, hm⟩ := bn_call hm
    refine ca_vv (wr := []) (wn := (o_X6 cy h0 a0 r1)) ⟨hx, hb, hml, hown, hts⟩ hK hA (hDa _) hP hS [0, 1, 2, 3, 4, 5, 6, 7, 8] [] [0, 1, 2, 3, 4, 5, 6, 7, 8] (fun sz => kcX6_copy l dC dI cy fu h0 a0 w0 (3 : Int32) (0 : Int32) sz r1 hr1) rfl rfl (by decide) (by decide) (by decide) rfl (cwV 2 hts gX6_free_X6_copy rfl rfl rfl ⟨rfl, ydX6_copy⟩ ⟨Nat.le_of_ble_eq_true rfl, Nat.le_of_ble_eq_true rfl⟩) 6 0 rfl rfl rfl rfl hl.1 rfl (Nat.le_of_ble_eq_true rfl) dX6_free_58 ⟨Nat.zero_le _, Nat.zero_le _⟩ (fun H locs hP hS => ?_)
    refine lv_iload_n hx hb dX6_free_61 rfl (lv_at hl 1 rfl) ?_
    obtain rfl := Option.some.inj hm
    exact hret 62 ls _ _ dX6_free_62 hP hS
  have hB48 : ∀ (k20 : ob_T → Int32 → Int32 → Int32 → Option (Int32 × ob_T)) (_ : ∀ (w0 : ob_T) (l1 : Int32) (l2 : Int32) (l3 : Int32) (H : Heap) (locs : List Loc) (ls : Array Slot), k20 w0 l1 l2 l3 = some R → va_P (dC, dI) vwCl ((o_X6 cy h0 a0 w0)) H → va_S A s.heap H locs → lv_has ls 4 [(0, .ref h0), (1, .int l1), (2, .int l2), (3, .int l3)] → W p l e (rmN 4 97) s m ([.ref h0, .int p1] : List Value).toArray below meth c H locs 0 0 Q (F0 m 20 ls [])) (w0 : ob_T) (l1 : Int32) (l3 : Int32) (s0 : Int32) (H : Heap) (locs : List Loc) (ls : Array Slot), bX6_free_48 fu k20 w0 l1 l3 s0 = some R → va_P (dC, dI) vwCl ((o_X6 cy h0 a0 w0)) H → va_S A s.heap H locs → lv_has ls 4 [(0, .ref h0), (1, .int l1), (3, .int l3)] → W p l e (rmN 4 97) s m ([.ref h0, .int p1] : List Value).toArray below meth c H locs 0 0 Q (F0 m 48 ls [.int s0]) := by
    intro k20 hk20 w0 l1 l3 s0 H locs ls hm hP hS hl
    unfold bX6_free_48 at hm
    refine lv_istore_n (lv' := [(2, .int s0), (0, .ref h0), (1, .int l1), (3, .int l3)]) hx hb dX6_free_48 rfl hl (by decide) rfl (fun ls hl => ?_)
    obtain ⟨x2, e3⟩ : ∃ y : Int32, y = l3 + (1 : Int32) := ⟨_, rfl⟩
    replace hm := bn_at e3 hm
    refine lv_iinc (v := x2) (lv' := [(3, .int x2), (2, .int s0), (0, .ref h0), (1, .int l1)]) hx hb dX6_free_49 hl (k := 3) rfl (by rw [e3]; rfl) (by decide) rfl (fun ls hl => ?_)
    refine lv_goto (tgt := 20) hx hb dX6_free_52 (by decide) ?_
    exact hk20 w0 l1 s0 x2 _ _ ls hm hP hS (lv_sub hl [2, 3, 1, 0] rfl)
  have hB20 : ∀ (nn : Nat) (w0 : ob_T) (l1 : Int32) (l2 : Int32) (l3 : Int32) (H : Heap) (locs : List Loc) (ls : Array Slot), bX6_free_20 fu nn w0 l1 l2 l3 = some R → va_P (dC, dI) vwCl ((o_X6 cy h0 a0 w0)) H → va_S A s.heap H locs → lv_has ls 4 [(0, .ref h0), (1, .int l1), (2, .int l2), (3, .int l3)] → W p l e (rmN 4 97) s m ([.ref h0, .int p1] : List Value).toArray below meth c H locs 0 0 Q (F0 m 20 ls []) := by
    intro nn
    induction nn with
    | zero => intro w0 l1 l2 l3 H locs ls hm; exact no_some ((bX6_free_20_0 fu w0 l1 l2 l3).symm.trans hm)
    | succ nn ih =>
      intro w0 l1 l2 l3 H locs ls hm hP hS hl
      replace hm := (bX6_free_20_s fu nn w0 l1 l2 l3).symm.trans hm
      refine lv_iload_n hx hb dX6_free_20 rfl (lv_at hl 3 rfl) ?_
      refine lv_iload_n hx hb dX6_free_21 rfl (lv_at hl 1 rfl) ?_
      refine lv_icmp_gt (tgt := 55) hx hb dX6_free_22 (by decide) (fun hc => ?_) (fun hc => ?_)
      · replace hm := (if_pos hc).symm.trans hm
        exact hB55 w0 l2 _ _ ls hm hP hS (lv_sub hl [0, 2] rfl)
      replace hm := (if_neg hc).symm.trans hm
      refine lv_iload_n hx hb dX6_free_25 rfl (lv_at hl 2 rfl) ?_
      refine lv_bipush (v := (-4 : Int32)) hx hb dX6_free_26 (by decide) ?_
      refine lv_icmp_ne (tgt := 55) hx hb dX6_free_28 (by decide) (fun hc => ?_) (fun hc => ?_)
      · replace hm := (if_neg hc).symm.trans hm
        exact hB55 w0 l2 _ _ ls hm hP hS (lv_sub hl [0, 2] rfl)
      replace hm := (if_pos hc).symm.trans hm
      refine lv_aload_n hx hb dX6_free_31 rfl (lv_at hl 0 rfl) ?_
      obtain ⟨r4, hr4, hm⟩ := bn_call hm
      refine ca_vi (wr := []) (wn := (o_X6 cy h0 a0 r4.2)) ⟨hx, hb, hml, hown, hts⟩ hK hA (hDa _) hP hS [0, 1, 2, 3, 4, 5, 6, 7, 8] [] [0, 1, 2, 3, 4, 5, 6, 7, 8] (fun sz => kcX6_goYear l dC dI cy fu h0 a0 w0 sz r4 hr4) rfl rfl (by decide) (by decide) (by decide) rfl (cwV 0 hts gX6_free_X6_goYear rfl rfl rfl ⟨rfl, ydX6_goYear⟩ ⟨Nat.le_of_ble_eq_true rfl, Nat.le_of_ble_eq_true rfl⟩) 6 0 rfl rfl rfl rfl hl.1 rfl (Nat.le_of_ble_eq_true rfl) dX6_free_32 ⟨Nat.zero_le _, Nat.zero_le _⟩ (fun H locs hP hS => ?_)
      refine lv_pop hx hb dX6_free_35 rfl ?_
      refine lv_aload_n hx hb dX6_free_36 rfl (lv_at hl 0 rfl) ?_
      obtain ⟨r5, hr5, hm⟩ := bn_call hm
      refine ca_vi (wr := []) (wn := (o_X6 cy h0 a0 r4.2)) ⟨hx, hb, hml, hown, hts⟩ hK hA (hDa _) hP hS [0, 1, 2, 3, 4, 5, 6, 7, 8] [] [0, 1, 2, 3, 4, 5, 6, 7, 8] (fun sz => kcX6_held l dC dI cy fu h0 a0 r4.2 sz r5 hr5) rfl rfl (by decide) (by decide) (by decide) rfl (cwV 0 hts gX6_free_X6_held rfl rfl rfl ⟨rfl, ydX6_held⟩ ⟨Nat.le_of_ble_eq_true rfl, Nat.le_of_ble_eq_true rfl⟩) 6 0 rfl rfl rfl rfl hl.1 rfl (Nat.le_of_ble_eq_true rfl) dX6_free_37 ⟨Nat.zero_le _, Nat.zero_le _⟩ (fun H locs hP hS => ?_)
      refine lv_if_ne (tgt := 47) hx hb dX6_free_40 (by decide) (fun hc => ?_) (fun hc => ?_)
      · replace hm := (if_neg hc).symm.trans hm
        refine lv_iload_n hx hb dX6_free_47 rfl (lv_at hl 2 rfl) ?_
        exact hB48 (bX6_free_20 fu nn) ih r4.2 l1 l3 l2 _ _ ls hm hP hS (lv_sub hl [0, 1, 3] rfl)
      replace hm := (if_pos hc).symm.trans hm
      refine lv_iload_n hx hb dX6_free_43 rfl (lv_at hl 3 rfl) ?_
      refine lv_goto (tgt := 48) hx hb dX6_free_44 (by decide) ?_
      exact hB48 (bX6_free_20 fu nn) ih r4.2 l1 l3 l3 _ _ ls hm hP hS (lv_sub hl [0, 1, 3] rfl)
  unfold mX6_free at hm
  refine lv_iload_n hx hb dX6_free_0 rfl (lv_at hl 1 rfl) ?_
  obtain ⟨r6, hr6, hm⟩ := bn_call hm
  refine ca_si (wr := (o_X6 cy h0 a0 w0)) (wn := (o_X6 cy h0 a0 w0)) ⟨hx, hb, hml, hown, hts⟩ hK hA (hDa _) hP hS [] [0, 1, 2, 3, 4, 5, 6, 7, 8] [0, 1, 2, 3, 4, 5, 6, 7, 8] (fun sz => kcX6_areYears l dC dI cy fu p1 sz r6 hr6) rfl rfl (by decide) (by decide) (by decide) rfl (va_cwS 1 hts gX6_free_X6_areYears rfl rfl rfl ydX6_areYears ⟨Nat.le_of_ble_eq_true rfl, Nat.le_of_ble_eq_true rfl⟩) rfl hl.1 rfl (Nat.le_of_ble_eq_true rfl) dX6_free_1 ⟨Nat.zero_le _, Nat.zero_le _⟩ (fun H locs hP hS => ?_)
  refine lv_if_ne (tgt := 9) hx hb dX6_free_4 (by decide) (fun hc => ?_) (fun hc => ?_)
  · replace hm := (if_neg hc).symm.trans hm
    refine lv_aload_n hx hb dX6_free_9 rfl (lv_at hl 0 rfl) ?_
    refine lv_iconst (v := (0 : Int32)) hx hb dX6_free_10 (by decide) ?_
    refine lv_iconst (v := (3 : Int32)) hx hb dX6_free_11 (by decide) ?_
    obtain ⟨r7, hr7, hm⟩ := bn_call hm
    refine ca_vv (wr := []) (wn := (o_X6 cy h0 a0 r7)) ⟨hx, hb, hml, hown, hts⟩ hK hA (hDa _) hP hS [0, 1, 2, 3, 4, 5, 6, 7, 8] [] [0, 1, 2, 3, 4, 5, 6, 7, 8] (fun sz => kcX6_copy l dC dI cy fu h0 a0 w0 (0 : Int32) (3 : Int32) sz r7 hr7) rfl rfl (by decide) (by decide) (by decide) rfl (cwV 2 hts gX6_free_X6_copy rfl rfl rfl ⟨rfl, ydX6_copy⟩ ⟨Nat.le_of_ble_eq_true rfl, Nat.le_of_ble_eq_true rfl⟩) 6 0 rfl rfl rfl rfl hl.1 rfl (Nat.le_of_ble_eq_true rfl) dX6_free_12 ⟨Nat.zero_le _, Nat.zero_le _⟩ (fun H locs hP hS => ?_)
    refine lv_bipush (v := (-4 : Int32)) hx hb dX6_free_15 (by decide) ?_
    refine lv_istore_n (lv' := [(2, .int (-4 : Int32)), (0, .ref h0), (1, .int p1)]) hx hb dX6_free_17 rfl hl (by decide) rfl (fun ls hl => ?_)
    refine lv_iconst (v := (1 : Int32)) hx hb dX6_free_18 (by decide) ?_
    refine lv_istore_n (lv' := [(3, .int (1 : Int32)), (2, .int (-4 : Int32)), (0, .ref h0), (1, .int p1)]) hx hb dX6_free_19 rfl hl (by decide) rfl (fun ls hl => ?_)
    exact hB20 fu r7 p1 (-4 : Int32) (1 : Int32) _ _ ls hm hP hS (lv_sub hl [2, 3, 1, 0] rfl)
  replace hm := (if_pos hc).symm.trans hm
  refine lv_iconst (v := (-1 : Int32)) hx hb dX6_free_7 (by decide) ?_
  obtain rfl := Option.some.inj hm
  exact hret 8 ls _ _ dX6_free_8 hP hS
set_option maxHeartbeats 4000000 in
set_option maxRecDepth 100000 in
theorem kcX6_ahead (l : Launch) (dC : Nat → ClassId) (dI : Nat → Nat → Nat) (cy : Nat → ClassId) (fu : Nat) (h0 : Nat) (a0 : Nat → Nat) (w0 : ob_T) (p1 : Int32) (sz : Nat) (R : Int32 × ob_T) (hm : mX6_ahead fu w0 p1 = some R) : Met l yX6_ahead wsX6_ahead (rmN 4 97) (va_Pc [.ref h0, .int p1] (cPre dC dI cy ((o_X6 cy h0 a0 w0)) sz)) (va_Qi (fun (r : Int32) (_ : Unit) => r = R.1) (fun _ => cPost dC dI cy ((o_X6 cy h0 a0 w0)) ((o_X6 cy h0 a0 R.2)) sz) (va_A ((o_X6 cy h0 a0 w0)) sz)) 0 0 (va_A ((o_X6 cy h0 a0 w0)) sz) := by
  refine mt_i (cc := cX6_ahead) (maxL := 3) (by decide) rfl (Nat.le_of_ble_eq_true rfl) rfl ?_
  intro p e s m below meth c Q A hx hb hml hown hts hK hA hD hP hret ls hl
  have hown : s.vm.findClass RX6 = some m.cls := hown
  have hl : lv_has ls 3 [(0, .ref h0), (1, .int p1)] := hl
  have hDa : ∀ v0 : ob_T, va_D A ((o_X6 cy h0 a0 v0)) := fun _ => va_D_adr hD rfl
  have hS : va_S A s.heap s.heap [] := va_S.rf
  have hB17 : ∀ (nn : Nat) (w0 : ob_T) (l1 : Int32) (l2 : Int32) (H : Heap) (locs : List Loc) (ls : Array Slot), bX6_ahead_17 fu nn w0 l1 l2 = some R → va_P (dC, dI) vwCl ((o_X6 cy h0 a0 w0)) H → va_S A s.heap H locs → lv_has ls 3 [(0, .ref h0), (1, .int l1), (2, .int l2)] → W p l e (rmN 4 97) s m ([.ref h0, .int p1] : List Value).toArray below meth c H locs 0 0 Q (F0 m 17 ls []) := by
    intro nn
    induction nn with
    | zero => intro w0 l1 l2 H locs ls hm; exact no_some ((bX6_ahead_17_0 fu w0 l1 l2).symm.trans hm)
    | succ nn ih =>
      intro w0 l1 l2 H locs ls hm hP hS hl
      replace hm := (bX6_ahead_17_s fu nn w0 l1 l2).symm.trans hm
      refine lv_iload_n hx hb dX6_ahead_17 rfl (lv_at hl 2 rfl) ?_
      refine lv_iload_n hx hb dX6_ahead_18 rfl (lv_at hl 1 rfl) ?_
      refine lv_icmp_ge (tgt := 33) hx hb dX6_ahead_19 (by decide) (fun hc => ?_) (fun hc => ?_)
      · replace hm := (if_pos hc).symm.trans hm
        refine lv_aload_n hx hb dX6_ahead_33 rfl (lv_at hl 0 rfl) ?_
        obtain ⟨r1, hr1, hm⟩ := bn_call hm
        refine ca_vl (wr := []) (wn := (o_X6 cy h0 a0 w0)) ⟨hx, hb, hml, hown, hts⟩ hK hA (hDa _) hP hS [0, 1, 2, 3, 4, 5, 6, 7, 8] [] [0, 1, 2, 3, 4, 5, 6, 7, 8] (fun sz => kcX6_ratio l dC dI cy fu h0 a0 w0 sz r1 hr1) rfl rfl (by decide) (by decide) (by decide) rfl (cwV 0 hts gX6_ahead_X6_ratio rfl rfl rfl ⟨rfl, ydX6_ratio⟩ ⟨Nat.le_of_ble_eq_true rfl, Nat.le_of_ble_eq_true rfl⟩) 6 0 rfl rfl rfl rfl hl.1 rfl (Nat.le_of_ble_eq_true rfl) dX6_ahead_34 ⟨Nat.zero_le _, Nat.zero_le _⟩ (fun H locs hP hS => ?_)
        refine lv_l2i (v := r1.toInt32) hx hb dX6_ahead_37 rfl ?_
        refine lv_istore_n (lv' := [(2, .int r1.toInt32), (0, .ref h0), (1, .int l1)]) hx hb dX6_ahead_38 rfl hl (by decide) rfl (fun ls hl => ?_)
        refine lv_aload_n hx hb dX6_ahead_39 rfl (lv_at hl 1 rfl) ?_
        refine lv_iconst (v := (3 : Int32)) hx hb dX6_ahead_40 (by decide) ?_
        refine lv_iconst (v := (0 : Int32)) hx hb dX6_ahead_41 (by decide) ?_
        obtain ⟨r2, hr2, hm⟩ := bn_call hm
        refine ca_vv (wr := []) (wn := (o_X6 cy h0 a0 r2)) ⟨hx, hb, hml, hown, hts⟩ hK hA (hDa _) hP hS [0, 1, 2, 3, 4, 5, 6, 7, 8] [] [0, 1, 2, 3, 4, 5, 6, 7, 8] (fun sz => kcX6_copy l dC dI cy fu h0 a0 w0 (3 : Int32) (0 : Int32) sz r2 hr2) rfl rfl (by decide) (by decide) (by decide) rfl (cwV 2 hts gX6_ahead_X6_copy rfl rfl rfl ⟨rfl, ydX6_copy⟩ ⟨Nat.le_of_ble_eq_true rfl, Nat.le_of_ble_eq_true rfl⟩) 6 0 rfl rfl rfl rfl hl.1 rfl (Nat.le_of_ble_eq_true rfl) dX6_ahead_42 ⟨Nat.zero_le _, Nat.zero_le _⟩ (fun H locs hP hS => ?_)
        refine lv_iload_n hx hb dX6_ahead_45 rfl (lv_at hl 0 rfl) ?_
        obtain rfl := Option.some.inj hm
        exact hret 46 ls _ _ dX6_ahead_46 hP hS
      replace hm := (if_neg hc).symm.trans hm
      refine lv_aload_n hx hb dX6_ahead_22 rfl (lv_at hl 0 rfl) ?_
      obtain ⟨r3, hr3, hm⟩ := bn_call hm
      refine ca_vi (wr := []) (wn := (o_X6 cy h0 a0 r3.2)) ⟨hx, hb, hml, hown, hts⟩ hK hA (hDa _) hP hS [0, 1, 2, 3, 4, 5, 6, 7, 8] [] [0, 1, 2, 3, 4, 5, 6, 7, 8] (fun sz => kcX6_goYear l dC dI cy fu h0 a0 w0 sz r3 hr3) rfl rfl (by decide) (by decide) (by decide) rfl (cwV 0 hts gX6_ahead_X6_goYear rfl rfl rfl ⟨rfl, ydX6_goYear⟩ ⟨Nat.le_of_ble_eq_true rfl, Nat.le_of_ble_eq_true rfl⟩) 6 0 rfl rfl rfl rfl hl.1 rfl (Nat.le_of_ble_eq_true rfl) dX6_ahead_23 ⟨Nat.zero_le _, Nat.zero_le _⟩ (fun H locs hP hS => ?_)
      refine lv_pop hx hb dX6_ahead_26 rfl ?_
      obtain ⟨x4, e5⟩ : ∃ y : Int32, y = l2 + (1 : Int32) := ⟨_, rfl⟩
      replace hm := bn_at e5 hm
      refine lv_iinc (v := x4) (lv' := [(2, .int x4), (0, .ref h0), (1, .int l1)]) hx hb dX6_ahead_27 hl (k := 2) rfl (by rw [e5]; rfl) (by decide) rfl (fun ls hl => ?_)
      refine lv_goto (tgt := 17) hx hb dX6_ahead_30 (by decide) ?_
      exact ih r3.2 l1 x4 _ _ ls hm hP hS (lv_sub hl [1, 2, 0] rfl)
  unfold mX6_ahead at hm
  refine lv_iload_n hx hb dX6_ahead_0 rfl (lv_at hl 1 rfl) ?_
  obtain ⟨r6, hr6, hm⟩ := bn_call hm
  refine ca_si (wr := (o_X6 cy h0 a0 w0)) (wn := (o_X6 cy h0 a0 w0)) ⟨hx, hb, hml, hown, hts⟩ hK hA (hDa _) hP hS [] [0, 1, 2, 3, 4, 5, 6, 7, 8] [0, 1, 2, 3, 4, 5, 6, 7, 8] (fun sz => kcX6_areYears l dC dI cy fu p1 sz r6 hr6) rfl rfl (by decide) (by decide) (by decide) rfl (va_cwS 1 hts gX6_ahead_X6_areYears rfl rfl rfl ydX6_areYears ⟨Nat.le_of_ble_eq_true rfl, Nat.le_of_ble_eq_true rfl⟩) rfl hl.1 rfl (Nat.le_of_ble_eq_true rfl) dX6_ahead_1 ⟨Nat.zero_le _, Nat.zero_le _⟩ (fun H locs hP hS => ?_)
  refine lv_if_ne (tgt := 9) hx hb dX6_ahead_4 (by decide) (fun hc => ?_) (fun hc => ?_)
  · replace hm := (if_neg hc).symm.trans hm
    refine lv_aload_n hx hb dX6_ahead_9 rfl (lv_at hl 0 rfl) ?_
    refine lv_iconst (v := (0 : Int32)) hx hb dX6_ahead_10 (by decide) ?_
    refine lv_iconst (v := (3 : Int32)) hx hb dX6_ahead_11 (by decide) ?_
    obtain ⟨r7, hr7, hm⟩ := bn_call hm
    refine ca_vv (wr := []) (wn := (o_X6 cy h0 a0 r7)) ⟨hx, hb, hml, hown, hts⟩ hK hA (hDa _) hP hS [0, 1, 2, 3, 4, 5, 6, 7, 8] [] [0, 1, 2, 3, 4, 5, 6, 7, 8] (fun sz => kcX6_copy l dC dI cy fu h0 a0 w0 (0 : Int32) (3 : Int32) sz r7 hr7) rfl rfl (by decide) (by decide) (by decide) rfl (cwV 2 hts gX6_ahead_X6_copy rfl rfl rfl ⟨rfl, ydX6_copy⟩ ⟨Nat.le_of_ble_eq_true rfl, Nat.le_of_ble_eq_true rfl⟩) 6 0 rfl rfl rfl rfl hl.1 rfl (Nat.le_of_ble_eq_true rfl) dX6_ahead_12 ⟨Nat.zero_le _, Nat.zero_le _⟩ (fun H locs hP hS => ?_)
    refine lv_iconst (v := (0 : Int32)) hx hb dX6_ahead_15 (by decide) ?_
    refine lv_istore_n (lv' := [(2, .int (0 : Int32)), (0, .ref h0), (1, .int p1)]) hx hb dX6_ahead_16 rfl hl (by decide) rfl (fun ls hl => ?_)
    exact hB17 fu r7 p1 (0 : Int32) _ _ ls hm hP hS (lv_sub hl [1, 2, 0] rfl)
  replace hm := (if_pos hc).symm.trans hm
  refine lv_iconst (v := (-1 : Int32)) hx hb dX6_ahead_7 (by decide) ?_
  obtain rfl := Option.some.inj hm
  exact hret 8 ls _ _ dX6_ahead_8 hP hS
