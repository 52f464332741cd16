set_option maxHeartbeats 4000000 in
set_option maxRecDepth 100000 in
theorem kcX6_debt (l : Launch) (dC : Nat → ClassId) (dI : Nat → Nat → Nat) (cy : Nat → ClassId) (fu : Nat) (h0 : Nat) (a0 : Nat → Nat) (w0 : ob_T) (p1 : Int32) (p2 : Int32) (p3 : Int32) (sz : Nat) (R : Int32) (hm : mX6_debt fu w0 p1 p2 p3 = some R) : Met l yX6_debt wsX6_debt (rmN 2 46) (va_Pc [.ref h0, .int p1, .int p2, .int p3] (cPre dC dI cy ((o_X6 cy h0 a0 w0)) sz)) (va_Qi (fun (r : Int32) (_ : Unit) => r = R) (fun _ => cPost dC dI cy ((o_X6 cy h0 a0 w0)) ((o_X6 cy h0 a0 w0)) sz) (va_A ((o_X6 cy h0 a0 w0)) sz)) 0 0 (va_A ((o_X6 cy h0 a0 w0)) sz) := by
  refine mt_i (cc := cX6_debt) (maxL := 5) (by decide) rfl (Nat.le_of_ble_eq_true rfl) rfl ?_
  intro p e s m below meth c Q A hx hb hml hown hts hK hA hD hP hret ls hl
  have hown : s.vm.findClass RX6 = some m.cls := hown
  have hl : lv_has ls 5 [(0, .ref h0), (1, .int p1), (2, .int p2), (3, .int p3)] := hl
  have hDa : ∀ v0 : ob_T, va_D A ((o_X6 cy h0 a0 v0)) := fun _ => va_D_adr hD rfl
  have i6 : ∀ w ∈ wsX60, w ∈ wsX6_debt := fun _ h => List.mem_cons_of_mem _ (List.mem_append_right _ h)
  have hS : va_S A s.heap s.heap [] := va_S.rf
  have hB65 : ∀ (l1 : Int32) (l2 : Int32) (l3 : Int32) (s0 : Int32) (H : Heap) (locs : List Loc) (ls : Array Slot), bX6_debt_65 fu w0 l1 l2 l3 s0 = some R → va_P (dC, dI) vwCl ((o_X6 cy h0 a0 w0)) H → va_S A s.heap H locs → lv_has ls 5 [(0, .ref h0), (1, .int l1), (2, .int l2), (3, .int l3)] → W p l e (rmN 2 46) s m ([.ref h0, .int p1, .int p2, .int p3] : List Value).toArray below meth c H locs 0 0 Q (F0 m 65 ls [.int s0]) := by
    intro l1 l2 l3 s0 H locs ls hm hP hS hl
    unfold bX6_debt_65 at hm
    refine lv_istore (lv' := [(4, .int s0), (0, .ref h0), (1, .int l1), (2, .int l2), (3, .int l3)]) hx hb dX6_debt_65 hl (by decide) rfl (fun ls hl => ?_)
    refine lv_iload_n hx hb dX6_debt_67 rfl (lv_at hl 4 rfl) ?_
    refine lv_iconst (v := (1 : Int32)) hx hb dX6_debt_68 (by decide) ?_
    refine lv_icmp_ne (tgt := 83) hx hb dX6_debt_69 (by decide) (fun hc => ?_) (fun hc => ?_)
    · replace hm := (if_neg hc).symm.trans hm
      refine lv_iload hx hb dX6_debt_83 (lv_at hl 0 rfl) ?_
      refine lv_if_eq (tgt := 109) hx hb dX6_debt_85 (by decide) (fun hc => ?_) (fun hc => ?_)
      · replace hm := (if_pos hc).symm.trans hm
        refine lv_iload_n hx hb dX6_debt_109 rfl (lv_at hl 3 rfl) ?_
        obtain rfl := Option.some.inj hm
        exact hret 110 ls _ _ dX6_debt_110 hP hS
      replace hm := (if_neg hc).symm.trans hm
      refine lv_iload_n hx hb dX6_debt_88 rfl (lv_at hl 3 rfl) ?_
      refine lv_i2l (v := l2.toInt64) hx hb dX6_debt_89 rfl ?_
      refine lv_aload_n hx hb dX6_debt_90 rfl (lv_at hl 1 rfl) ?_
      obtain ⟨r1, hr1, hm⟩ := bn_call hm
      refine ca_vl (wr := []) (wn := (o_X6 cy h0 a0 w0)) ⟨hx, hb, hml, hown, hts⟩ hK hA (hDa _) hP hS [0, 1, 2, 3, 4, 5, 6, 7, 8] [] [0, 1, 2, 3, 4, 5, 6, 7, 8] (fun sz => kcX6_ratio l dC dI cy fu h0 a0 w0 sz r1 hr1) rfl rfl (by decide) (by decide) (by decide) rfl (cwV 0 hts gX6_debt_X6_ratio rfl rfl rfl ⟨rfl, ydX6_ratio⟩ ⟨Nat.le_of_ble_eq_true rfl, Nat.le_of_ble_eq_true rfl⟩) 6 0 rfl rfl rfl rfl hl.1 rfl (Nat.le_of_ble_eq_true rfl) dX6_debt_91 ⟨Nat.zero_le _, Nat.zero_le _⟩ (fun H locs hP hS => ?_)
      refine lv_lmul hx hb dX6_debt_94 ?_
      refine lv_aload_n hx hb dX6_debt_95 rfl (lv_at hl 1 rfl) ?_
      refine va_get (D := (dC, dI)) (ci := 6) (v := .ref (a0 2)) (C := RX6) (T := TX6) (N := 11) hx hb hts i6 hown hK hP 0 rfl rfl 2 (by decide) (hts (.fieldLink RX6 13 "TwoMetalsModel" "realms" "[J") (List.mem_of_getElem? (i := 2) rfl)) (fun _ h9 => h9) rfl dX6_debt_96 ?_
      refine lv_bipush (v := (9 : Int32)) hx hb dX6_debt_99 (by decide) ?_
      refine lv_iload_n hx hb dX6_debt_101 rfl (lv_at hl 2 rfl) ?_
      refine lv_imul hx hb dX6_debt_102 ?_
      obtain ⟨hi2, hm⟩ := ck_in hm
      refine va_lald hx hb hK hP 2 1 rfl rfl hi2 dX6_debt_103 ?_
      obtain ⟨hz3, hm⟩ := ck_dv hm
      refine lv_ldiv hx hb dX6_debt_104 hz3 ?_
      refine lv_l2i (v := ((l2.toInt64 * r1) / (w0.2 2 ((9 : Int32) * l1).toNatClampNeg)).toInt32) hx hb dX6_debt_105 rfl ?_
      refine lv_goto (tgt := 110) hx hb dX6_debt_106 (by decide) ?_
      obtain rfl := Option.some.inj hm
      exact hret 110 ls _ _ dX6_debt_110 hP hS
    replace hm := (if_pos hc).symm.trans hm
    refine lv_iload hx hb dX6_debt_72 (lv_at hl 0 rfl) ?_
    refine lv_if_eq (tgt := 81) hx hb dX6_debt_74 (by decide) (fun hc => ?_) (fun hc => ?_)
    · replace hm := (if_pos hc).symm.trans hm
      refine lv_iconst (v := (0 : Int32)) hx hb dX6_debt_81 (by decide) ?_
      obtain rfl := Option.some.inj hm
      exact hret 82 ls _ _ dX6_debt_82 hP hS
    replace hm := (if_neg hc).symm.trans hm
    refine lv_iconst (v := (1 : Int32)) hx hb dX6_debt_77 (by decide) ?_
    refine lv_goto (tgt := 82) hx hb dX6_debt_78 (by decide) ?_
    obtain rfl := Option.some.inj hm
    exact hret 82 ls _ _ dX6_debt_82 hP hS
  unfold mX6_debt at hm
  refine lv_aload_n hx hb dX6_debt_0 rfl (lv_at hl 0 rfl) ?_
  refine lv_iload_n hx hb dX6_debt_1 rfl (lv_at hl 1 rfl) ?_
  obtain ⟨r4, hr4, hm⟩ := bn_call hm
  refine ca_vi (wr := []) (wn := (o_X6 cy h0 a0 w0)) ⟨hx, hb, hml, hown, hts⟩ hK hA (hDa _) hP hS [0, 1, 2, 3, 4, 5, 6, 7, 8] [] [0, 1, 2, 3, 4, 5, 6, 7, 8] (fun sz => kcX6_isRealm l dC dI cy fu h0 a0 w0 p1 sz r4 hr4) rfl rfl (by decide) (by decide) (by decide) rfl (cwV 1 hts gX6_debt_X6_isRealm rfl rfl rfl ⟨rfl, ydX6_isRealm⟩ ⟨Nat.le_of_ble_eq_true rfl, Nat.le_of_ble_eq_true rfl⟩) 6 0 rfl rfl rfl rfl hl.1 rfl (Nat.le_of_ble_eq_true rfl) dX6_debt_2 ⟨Nat.zero_le _, Nat.zero_le _⟩ (fun H locs hP hS => ?_)
  refine lv_if_eq (tgt := 30) hx hb dX6_debt_5 (by decide) (fun hc => ?_) (fun hc => ?_)
  · replace hm := (if_pos hc).symm.trans hm
    refine lv_iconst (v := (-1 : Int32)) hx hb dX6_debt_30 (by decide) ?_
    obtain rfl := Option.some.inj hm
    exact hret 31 ls _ _ dX6_debt_31 hP hS
  replace hm := (if_neg hc).symm.trans hm
  refine lv_iload_n hx hb dX6_debt_8 rfl (lv_at hl 2 rfl) ?_
  refine lv_i2l (v := p2.toInt64) hx hb dX6_debt_9 rfl ?_
  refine lv_lconst (v := (1 : Int64)) hx hb dX6_debt_10 (by decide) ?_
  refine lv_ldc2 (v := (100000000 : Int64)) hx hb hown (hts (.constantLong RX6 149 (100000000)) (List.mem_of_getElem? (i := 1) rfl)) dX6_debt_11 ?_
  obtain ⟨r5, hr5, hm⟩ := bn_call hm
  refine ca_si (wr := (o_X6 cy h0 a0 w0)) (wn := (o_X6 cy h0 a0 w0)) ⟨hx, hb, hml, hown, hts⟩ hK hA (hDa _) hP hS [] [0, 1, 2, 3, 4, 5, 6, 7, 8] [0, 1, 2, 3, 4, 5, 6, 7, 8] (fun sz => kcX6_in l dC dI cy fu p2.toInt64 (1 : Int64) (100000000 : Int64) sz r5 hr5) rfl rfl (by decide) (by decide) (by decide) rfl (va_cwS 3 hts gX6_debt_X6_in rfl rfl rfl ydX6_in ⟨Nat.le_of_ble_eq_true rfl, Nat.le_of_ble_eq_true rfl⟩) rfl hl.1 rfl (Nat.le_of_ble_eq_true rfl) dX6_debt_14 ⟨Nat.zero_le _, Nat.zero_le _⟩ (fun H locs hP hS => ?_)
  refine lv_if_eq (tgt := 30) hx hb dX6_debt_17 (by decide) (fun hc => ?_) (fun hc => ?_)
  · replace hm := (if_pos hc).symm.trans hm
    refine lv_iconst (v := (-1 : Int32)) hx hb dX6_debt_30 (by decide) ?_
    obtain rfl := Option.some.inj hm
    exact hret 31 ls _ _ dX6_debt_31 hP hS
  replace hm := (if_neg hc).symm.trans hm
  refine lv_iload_n hx hb dX6_debt_20 rfl (lv_at hl 3 rfl) ?_
  refine lv_i2l (v := p3.toInt64) hx hb dX6_debt_21 rfl ?_
  refine lv_lconst (v := (0 : Int64)) hx hb dX6_debt_22 (by decide) ?_
  refine lv_lconst (v := (1 : Int64)) hx hb dX6_debt_23 (by decide) ?_
  obtain ⟨r6, hr6, hm⟩ := bn_call hm
  refine ca_si (wr := (o_X6 cy h0 a0 w0)) (wn := (o_X6 cy h0 a0 w0)) ⟨hx, hb, hml, hown, hts⟩ hK hA (hDa _) hP hS [] [0, 1, 2, 3, 4, 5, 6, 7, 8] [0, 1, 2, 3, 4, 5, 6, 7, 8] (fun sz => kcX6_in l dC dI cy fu p3.toInt64 (0 : Int64) (1 : Int64) sz r6 hr6) rfl rfl (by decide) (by decide) (by decide) rfl (va_cwS 3 hts gX6_debt_X6_in rfl rfl rfl ydX6_in ⟨Nat.le_of_ble_eq_true rfl, Nat.le_of_ble_eq_true rfl⟩) rfl hl.1 rfl (Nat.le_of_ble_eq_true rfl) dX6_debt_24 ⟨Nat.zero_le _, Nat.zero_le _⟩ (fun H locs hP hS => ?_)
  refine lv_if_ne (tgt := 32) hx hb dX6_debt_27 (by decide) (fun hc => ?_) (fun hc => ?_)
  · replace hm := (if_neg hc).symm.trans hm
    refine lv_aload_n hx hb dX6_debt_32 rfl (lv_at hl 0 rfl) ?_
    refine lv_iload_n hx hb dX6_debt_33 rfl (lv_at hl 1 rfl) ?_
    obtain ⟨r7, hr7, hm⟩ := bn_call hm
    refine ca_vi (wr := []) (wn := (o_X6 cy h0 a0 w0)) ⟨hx, hb, hml, hown, hts⟩ hK hA (hDa _) hP hS [0, 1, 2, 3, 4, 5, 6, 7, 8] [] [0, 1, 2, 3, 4, 5, 6, 7, 8] (fun sz => kcX6_mints l dC dI cy fu h0 a0 w0 p1 sz r7 hr7) rfl rfl (by decide) (by decide) (by decide) rfl (cwV 1 hts gX6_debt_X6_mints rfl rfl rfl ⟨rfl, ydX6_mints⟩ ⟨Nat.le_of_ble_eq_true rfl, Nat.le_of_ble_eq_true rfl⟩) 6 0 rfl rfl rfl rfl hl.1 rfl (Nat.le_of_ble_eq_true rfl) dX6_debt_34 ⟨Nat.zero_le _, Nat.zero_le _⟩ (fun H locs hP hS => ?_)
    refine lv_if_ne (tgt := 43) hx hb dX6_debt_37 (by decide) (fun hc => ?_) (fun hc => ?_)
    · replace hm := (if_neg hc).symm.trans hm
      refine lv_aload_n hx hb dX6_debt_43 rfl (lv_at hl 0 rfl) ?_
      obtain ⟨r8, hr8, hm⟩ := bn_call hm
      refine ca_vl (wr := []) (wn := (o_X6 cy h0 a0 w0)) ⟨hx, hb, hml, hown, hts⟩ hK hA (hDa _) hP hS [0, 1, 2, 3, 4, 5, 6, 7, 8] [] [0, 1, 2, 3, 4, 5, 6, 7, 8] (fun sz => kcX6_ratio l dC dI cy fu h0 a0 w0 sz r8 hr8) rfl rfl (by decide) (by decide) (by decide) rfl (cwV 0 hts gX6_debt_X6_ratio rfl rfl rfl ⟨rfl, ydX6_ratio⟩ ⟨Nat.le_of_ble_eq_true rfl, Nat.le_of_ble_eq_true rfl⟩) 6 0 rfl rfl rfl rfl hl.1 rfl (Nat.le_of_ble_eq_true rfl) dX6_debt_44 ⟨Nat.zero_le _, Nat.zero_le _⟩ (fun H locs hP hS => ?_)
      refine lv_aload_n hx hb dX6_debt_47 rfl (lv_at hl 0 rfl) ?_
      refine va_get (D := (dC, dI)) (ci := 6) (v := .ref (a0 2)) (C := RX6) (T := TX6) (N := 11) hx hb hts i6 hown hK hP 0 rfl rfl 2 (by decide) (hts (.fieldLink RX6 13 "TwoMetalsModel" "realms" "[J") (List.mem_of_getElem? (i := 2) rfl)) (fun _ h9 => h9) rfl dX6_debt_48 ?_
      refine lv_bipush (v := (9 : Int32)) hx hb dX6_debt_51 (by decide) ?_
      refine lv_iload_n hx hb dX6_debt_53 rfl (lv_at hl 1 rfl) ?_
      refine lv_imul hx hb dX6_debt_54 ?_
      obtain ⟨hi9, hm⟩ := ck_in hm
      refine va_lald hx hb hK hP 2 1 rfl rfl hi9 dX6_debt_55 ?_
      refine W.lcmp hx hb dX6_debt_56 ?_
      refine lv_if_ge (tgt := 64) hx hb dX6_debt_57 (by decide) (fun hc => ?_) (fun hc => ?_)
      · replace hm := (if_pos hc).symm.trans hm
        refine lv_iconst (v := (0 : Int32)) hx hb dX6_debt_64 (by decide) ?_
        exact hB65 p1 p2 p3 (0 : Int32) _ _ ls hm hP hS (lv_sub hl [0, 1, 2, 3] rfl)
      replace hm := (if_neg hc).symm.trans hm
      refine lv_iconst (v := (1 : Int32)) hx hb dX6_debt_60 (by decide) ?_
      refine lv_goto (tgt := 65) hx hb dX6_debt_61 (by decide) ?_
      exact hB65 p1 p2 p3 (1 : Int32) _ _ ls hm hP hS (lv_sub hl [0, 1, 2, 3] rfl)
    replace hm := (if_pos hc).symm.trans hm
    refine lv_bipush (v := (-2 : Int32)) hx hb dX6_debt_40 (by decide) ?_
    obtain rfl := Option.some.inj hm
    exact hret 42 ls _ _ dX6_debt_42 hP hS
  replace hm := (if_pos hc).symm.trans hm
  refine lv_iconst (v := (-1 : Int32)) hx hb dX6_debt_30 (by decide) ?_
  obtain rfl := Option.some.inj hm
  exact hret 31 ls _ _ dX6_debt_31 hP hS
set_option maxHeartbeats 4000000 in
set_option maxRecDepth 100000 in
theorem kcX6_minting (l : Launch) (dC : Nat → ClassId) (dI : Nat → Nat → Nat) (cy : Nat → ClassId) (fu : Nat) (h0 : Nat) (a0 : Nat → Nat) (w0 : ob_T) (sz : Nat) (R : Int32) (hm : mX6_minting fu w0 = some R) : Met l yX6_minting wsX6_minting (rmN 2 46) (va_Pc [.ref h0] (cPre dC dI cy ((o_X6 cy h0 a0 w0)) sz)) (va_Qi (fun (r : Int32) (_ : Unit) => r = R) (fun _ => cPost dC dI cy ((o_X6 cy h0 a0 w0)) ((o_X6 cy h0 a0 w0)) sz) (va_A ((o_X6 cy h0 a0 w0)) sz)) 0 0 (va_A ((o_X6 cy h0 a0 w0)) sz) := by
  refine mt_i (cc := cX6_minting) (maxL := 3) (by decide) rfl (Nat.le_of_ble_eq_true rfl) rfl ?_
  intro p e s m below meth c Q A hx hb hml hown hts hK hA hD hP hret ls hl
  have hown : s.vm.findClass RX6 = some m.cls := hown
  have hl : lv_has ls 3 [(0, .ref h0)] := hl
  have hDa : ∀ v0 : ob_T, va_D A ((o_X6 cy h0 a0 v0)) := fun _ => va_D_adr hD rfl
  have hS : va_S A s.heap s.heap [] := va_S.rf
  have hB34 : ∀ (k4 : Int32 → Int32 → Option (Int32)) (_ : ∀ (l1 : Int32) (l2 : Int32) (H : Heap) (locs : List Loc) (ls : Array Slot), k4 l1 l2 = some R → va_P (dC, dI) vwCl ((o_X6 cy h0 a0 w0)) H → va_S A s.heap H locs → lv_has ls 3 [(0, .ref h0), (1, .int l1), (2, .int l2)] → W p l e (rmN 2 46) s m ([.ref h0] : List Value).toArray below meth c H locs 0 0 Q (F0 m 4 ls [])) (l2 : Int32) (s0 : Int32) (s1 : Int32) (H : Heap) (locs : List Loc) (ls : Array Slot), bX6_minting_34 fu w0 k4 l2 s0 s1 = some R → va_P (dC, dI) vwCl ((o_X6 cy h0 a0 w0)) H → va_S A s.heap H locs → lv_has ls 3 [(0, .ref h0), (2, .int l2)] → W p l e (rmN 2 46) s m ([.ref h0] : List Value).toArray below meth c H locs 0 0 Q (F0 m 34 ls [.int s0, .int s1]) := by
    intro k4 hk4 l2 s0 s1 H locs ls hm hP hS hl
    unfold bX6_minting_34 at hm
    refine lv_ior hx hb dX6_minting_34 ?_
    refine lv_topi (fun x1 e2 => ?_)
    replace hm := bn_at e2 hm
    refine lv_istore_n (lv' := [(1, .int x1), (0, .ref h0), (2, .int l2)]) hx hb dX6_minting_35 rfl hl (by decide) rfl (fun ls hl => ?_)
    obtain ⟨x3, e4⟩ : ∃ y : Int32, y = l2 + (1 : Int32) := ⟨_, rfl⟩
    replace hm := bn_at e4 hm
    refine lv_iinc (v := x3) (lv' := [(2, .int x3), (1, .int x1), (0, .ref h0)]) hx hb dX6_minting_36 hl (k := 2) rfl (by rw [e4]; rfl) (by decide) rfl (fun ls hl => ?_)
    refine lv_goto (tgt := 4) hx hb dX6_minting_39 (by decide) ?_
    exact hk4 x1 x3 _ _ ls hm hP hS (lv_sub hl [2, 1, 0] rfl)
  have hB4 : ∀ (nn : Nat) (l1 : Int32) (l2 : Int32) (H : Heap) (locs : List Loc) (ls : Array Slot), bX6_minting_4 fu w0 nn l1 l2 = some R → va_P (dC, dI) vwCl ((o_X6 cy h0 a0 w0)) H → va_S A s.heap H locs → lv_has ls 3 [(0, .ref h0), (1, .int l1), (2, .int l2)] → W p l e (rmN 2 46) s m ([.ref h0] : List Value).toArray below meth c H locs 0 0 Q (F0 m 4 ls []) := by
    intro nn
    induction nn with
    | zero => intro l1 l2 H locs ls hm; exact no_some ((bX6_minting_4_0 fu w0 l1 l2).symm.trans hm)
    | succ nn ih =>
      intro l1 l2 H locs ls hm hP hS hl
      replace hm := (bX6_minting_4_s fu w0 nn l1 l2).symm.trans hm
      refine lv_iload_n hx hb dX6_minting_4 rfl (lv_at hl 2 rfl) ?_
      refine lv_bipush (v := (8 : Int32)) hx hb dX6_minting_5 (by decide) ?_
      refine lv_icmp_ge (tgt := 42) hx hb dX6_minting_7 (by decide) (fun hc => ?_) (fun hc => ?_)
      · replace hm := (if_pos hc).symm.trans hm
        refine lv_iload_n hx hb dX6_minting_42 rfl (lv_at hl 1 rfl) ?_
        obtain rfl := Option.some.inj hm
        exact hret 43 ls _ _ dX6_minting_43 hP hS
      replace hm := (if_neg hc).symm.trans hm
      refine lv_iload_n hx hb dX6_minting_10 rfl (lv_at hl 1 rfl) ?_
      refine lv_aload_n hx hb dX6_minting_11 rfl (lv_at hl 0 rfl) ?_
      refine lv_iload_n hx hb dX6_minting_12 rfl (lv_at hl 2 rfl) ?_
      obtain ⟨r5, hr5, hm⟩ := bn_call hm
      refine ca_vi (wr := []) (wn := (o_X6 cy h0 a0 w0)) ⟨hx, hb, hml, hown, hts⟩ hK hA (hDa _) hP hS [0, 1, 2, 3, 4, 5, 6, 7, 8] [] [0, 1, 2, 3, 4, 5, 6, 7, 8] (fun sz => kcX6_isRealm l dC dI cy fu h0 a0 w0 l2 sz r5 hr5) rfl rfl (by decide) (by decide) (by decide) rfl (cwV 1 hts gX6_minting_X6_isRealm rfl rfl rfl ⟨rfl, ydX6_isRealm⟩ ⟨Nat.le_of_ble_eq_true rfl, Nat.le_of_ble_eq_true rfl⟩) 6 0 rfl rfl rfl rfl hl.1 rfl (Nat.le_of_ble_eq_true rfl) dX6_minting_13 ⟨Nat.zero_le _, Nat.zero_le _⟩ (fun H locs hP hS => ?_)
      refine lv_if_eq (tgt := 33) hx hb dX6_minting_16 (by decide) (fun hc => ?_) (fun hc => ?_)
      · replace hm := (if_pos hc).symm.trans hm
        refine lv_iconst (v := (0 : Int32)) hx hb dX6_minting_33 (by decide) ?_
        exact hB34 (bX6_minting_4 fu w0 nn) ih l2 (0 : Int32) l1 _ _ ls hm hP hS (lv_sub hl [0, 2] rfl)
      replace hm := (if_neg hc).symm.trans hm
      refine lv_aload_n hx hb dX6_minting_19 rfl (lv_at hl 0 rfl) ?_
      refine lv_iload_n hx hb dX6_minting_20 rfl (lv_at hl 2 rfl) ?_
      obtain ⟨r6, hr6, hm⟩ := bn_call hm
      refine ca_vi (wr := []) (wn := (o_X6 cy h0 a0 w0)) ⟨hx, hb, hml, hown, hts⟩ hK hA (hDa _) hP hS [0, 1, 2, 3, 4, 5, 6, 7, 8] [] [0, 1, 2, 3, 4, 5, 6, 7, 8] (fun sz => kcX6_mints l dC dI cy fu h0 a0 w0 l2 sz r6 hr6) rfl rfl (by decide) (by decide) (by decide) rfl (cwV 1 hts gX6_minting_X6_mints rfl rfl rfl ⟨rfl, ydX6_mints⟩ ⟨Nat.le_of_ble_eq_true rfl, Nat.le_of_ble_eq_true rfl⟩) 6 0 rfl rfl rfl rfl hl.1 rfl (Nat.le_of_ble_eq_true rfl) dX6_minting_21 ⟨Nat.zero_le _, Nat.zero_le _⟩ (fun H locs hP hS => ?_)
      refine lv_if_eq (tgt := 33) hx hb dX6_minting_24 (by decide) (fun hc => ?_) (fun hc => ?_)
      · replace hm := (if_pos hc).symm.trans hm
        refine lv_iconst (v := (0 : Int32)) hx hb dX6_minting_33 (by decide) ?_
        exact hB34 (bX6_minting_4 fu w0 nn) ih l2 (0 : Int32) l1 _ _ ls hm hP hS (lv_sub hl [0, 2] rfl)
      replace hm := (if_neg hc).symm.trans hm
      refine lv_iconst (v := (1 : Int32)) hx hb dX6_minting_27 (by decide) ?_
      refine lv_iload_n hx hb dX6_minting_28 rfl (lv_at hl 2 rfl) ?_
      refine lv_ishl hx hb dX6_minting_29 ?_
      refine lv_goto (tgt := 34) hx hb dX6_minting_30 (by decide) ?_
      exact hB34 (bX6_minting_4 fu w0 nn) ih l2 ((1 : Int32) <<< (l2 &&& 31)) l1 _ _ ls hm hP hS (lv_sub hl [0, 2] rfl)
  unfold mX6_minting at hm
  refine lv_iconst (v := (0 : Int32)) hx hb dX6_minting_0 (by decide) ?_
  refine lv_istore_n (lv' := [(1, .int (0 : Int32)), (0, .ref h0)]) hx hb dX6_minting_1 rfl hl (by decide) rfl (fun ls hl => ?_)
  refine lv_iconst (v := (0 : Int32)) hx hb dX6_minting_2 (by decide) ?_
  refine lv_istore_n (lv' := [(2, .int (0 : Int32)), (1, .int (0 : Int32)), (0, .ref h0)]) hx hb dX6_minting_3 rfl hl (by decide) rfl (fun ls hl => ?_)
  exact hB4 fu (0 : Int32) (0 : Int32) _ _ ls hm hP hS (lv_sub hl [2, 1, 0] rfl)
set_option maxHeartbeats 4000000 in
set_option maxRecDepth 100000 in
theorem kcX6_isRatio (l : Launch) (dC : Nat → ClassId) (dI : Nat → Nat → Nat) (cy : Nat → ClassId) (fu : Nat) (p1 : Int32) (sz : Nat) (R : Int32) (hm : mX6_isRatio fu p1 = some R) : Met l yX6_isRatio wsX6_isRatio (rmN 1 25) (va_Pc [.int p1] (cPre dC dI cy (([] : va_W)) sz)) (va_Qi (fun (r : Int32) (_ : Unit) => r = R) (fun _ => cPost dC dI cy (([] : va_W)) (([] : va_W)) sz) (va_A (([] : va_W)) sz)) 0 0 (va_A (([] : va_W)) sz) := by
  refine mt_z (cc := cX6_isRatio) (maxL := 1) (by decide) rfl (Nat.le_of_ble_eq_true rfl) rfl ?_
  intro p e s m below meth c Q A hx hb hml hown hts hK hA hD hP hret ls hl
  have hown : s.vm.findClass RX6 = some m.cls := hown
  have hl : lv_has ls 1 [(0, .int p1)] := hl
  have hS : va_S A s.heap s.heap [] := va_S.rf
  unfold mX6_isRatio at hm
  refine lv_iload_n hx hb dX6_isRatio_0 rfl (lv_at hl 0 rfl) ?_
  refine lv_i2l (v := p1.toInt64) hx hb dX6_isRatio_1 rfl ?_
  refine lv_ldc2 (v := (1000 : Int64)) hx hb hown (hts (.constantLong RX6 73 (1000)) (List.mem_of_getElem? (i := 1) rfl)) dX6_isRatio_2 ?_
  refine lv_ldc2 (v := (99999 : Int64)) hx hb hown (hts (.constantLong RX6 151 (99999)) (List.mem_of_getElem? (i := 2) rfl)) dX6_isRatio_5 ?_
  obtain ⟨r1, hr1, hm⟩ := bn_call hm
  refine ca_si (wr := []) (wn := ([] : va_W)) ⟨hx, hb, hml, hown, hts⟩ hK hA hD hP hS [] [] [] (fun sz => kcX6_in l dC dI cy fu p1.toInt64 (1000 : Int64) (99999 : Int64) sz r1 hr1) rfl rfl (by decide) (by decide) (by decide) rfl (va_cwS 3 hts gX6_isRatio_X6_in rfl rfl rfl ydX6_in ⟨Nat.le_of_ble_eq_true rfl, Nat.le_of_ble_eq_true rfl⟩) rfl hl.1 rfl (Nat.le_of_ble_eq_true rfl) dX6_isRatio_8 ⟨Nat.zero_le _, Nat.zero_le _⟩ (fun H locs hP hS => ?_)
  obtain ⟨hn2, hm⟩ := ck_zb hm
  obtain rfl := Option.some.inj hm
  exact hret 11 ls _ _ dX6_isRatio_11 hn2 hP hS
set_option maxHeartbeats 4000000 in
set_option maxRecDepth 100000 in
theorem kcX6_pactOf (l : Launch) (dC : Nat → ClassId) (dI : Nat → Nat → Nat) (cy : Nat → ClassId) (fu : Nat) (h0 : Nat) (a0 : Nat → Nat) (w0 : ob_T) (p1 : Int32) (p2 : Int32) (p3 : Int32) (sz : Nat) (R : Int32 × ob_T) (hm : mX6_pactOf fu w0 p1 p2 p3 = some R) : Met l yX6_pactOf wsX6_pactOf (rmN 4 96) (va_Pc [.ref h0, .int p1, .int p2, .int p3] (cPre dC dI cy ((o_X6 cy h0 a0 w0)) sz)) (va_Qi (fun (r : Int32) (_ : Unit) => r = R.1) (fun _ => cPost dC dI cy ((o_X6 cy h0 a0 w0)) ((o_X6 cy h0 a0 R.2)) sz) (va_A ((o_X6 cy h0 a0 w0)) sz)) 0 0 (va_A ((o_X6 cy h0 a0 w0)) sz) := by
  refine mt_i (cc := cX6_pactOf) (maxL := 6) (by decide) rfl (Nat.le_of_ble_eq_true rfl) rfl ?_
  intro p e s m below meth c Q A hx hb hml hown hts hK hA hD hP hret ls hl
  have hown : s.vm.findClass RX6 = some m.cls := hown
  have hl : lv_has ls 6 [(0, .ref h0), (1, .int p1), (2, .int p2), (3, .int p3)] := hl
  have hDa : ∀ v0 : ob_T, va_D A ((o_X6 cy h0 a0 v0)) := fun _ => va_D_adr hD rfl
  have i6 : ∀ w ∈ wsX60, w ∈ wsX6_pactOf := fun _ h => List.mem_cons_of_mem _ (List.mem_append_right _ h)
  have hS : va_S A s.heap s.heap [] := va_S.rf
  have hB78 : ∀ (w0 : ob_T) (l4 : Int32) (s0 : Int32) (H : Heap) (locs : List Loc) (ls : Array Slot), bX6_pactOf_78 fu w0 l4 s0 = some R → va_P (dC, dI) vwCl ((o_X6 cy h0 a0 w0)) H → va_S A s.heap H locs → lv_has ls 6 [(0, .ref h0), (4, .int l4)] → W p l e (rmN 4 96) s m ([.ref h0, .int p1, .int p2, .int p3] : List Value).toArray below meth c H locs 0 0 Q (F0 m 78 ls [.int s0]) := by
    intro w0 l4 s0 H locs ls hm hP hS hl
    unfold bX6_pactOf_78 at hm
    refine lv_istore (lv' := [(5, .int s0), (0, .ref h0), (4, .int l4)]) hx hb dX6_pactOf_78 hl (by decide) rfl (fun ls hl => ?_)
    refine lv_aload_n hx hb dX6_pactOf_80 rfl (lv_at hl 1 rfl) ?_
    refine lv_iconst (v := (3 : Int32)) hx hb dX6_pactOf_81 (by decide) ?_
    refine lv_iconst (v := (0 : Int32)) hx hb dX6_pactOf_82 (by decide) ?_
    obtain ⟨r1, hr1, hm⟩ := bn_call hm
    refine ca_vv (wr := []) (wn := (o_X6 cy h0 a0 r1)) ⟨hx, hb, hml, hown, hts⟩ hK hA (hDa _) hP hS [0, 1, 2, 3, 4, 5, 6, 7, 8] [] [0, 1, 2, 3, 4, 5, 6, 7, 8] (fun sz => kcX6_copy l dC dI cy fu h0 a0 w0 (3 : Int32) (0 : Int32) sz r1 hr1) rfl rfl (by decide) (by decide) (by decide) rfl (cwV 2 hts gX6_pactOf_X6_copy rfl rfl rfl ⟨rfl, ydX6_copy⟩ ⟨Nat.le_of_ble_eq_true rfl, Nat.le_of_ble_eq_true rfl⟩) 6 0 rfl rfl rfl rfl hl.1 rfl (Nat.le_of_ble_eq_true rfl) dX6_pactOf_83 ⟨Nat.zero_le _, Nat.zero_le _⟩ (fun H locs hP hS => ?_)
    refine lv_iload hx hb dX6_pactOf_86 (lv_at hl 2 rfl) ?_
    refine lv_bipush (v := (-5 : Int32)) hx hb dX6_pactOf_88 (by decide) ?_
    refine lv_icmp_ne (tgt := 98) hx hb dX6_pactOf_90 (by decide) (fun hc => ?_) (fun hc => ?_)
    · replace hm := (if_neg hc).symm.trans hm
      refine lv_iload hx hb dX6_pactOf_98 (lv_at hl 0 rfl) ?_
      obtain rfl := Option.some.inj hm
      exact hret 100 ls _ _ dX6_pactOf_100 hP hS
    replace hm := (if_pos hc).symm.trans hm
    refine lv_bipush (v := (-5 : Int32)) hx hb dX6_pactOf_93 (by decide) ?_
    refine lv_goto (tgt := 100) hx hb dX6_pactOf_95 (by decide) ?_
    obtain rfl := Option.some.inj hm
    exact hret 100 ls _ _ dX6_pactOf_100 hP hS
  have hB37 : ∀ (k9 : ob_T → Int32 → Int32 → Int32 → Int32 → Option (Int32 × ob_T)) (_ : ∀ (w0 : ob_T) (l1 : Int32) (l2 : Int32) (l3 : Int32) (l4 : Int32) (H : Heap) (locs : List Loc) (ls : Array Slot), k9 w0 l1 l2 l3 l4 = some R → va_P (dC, dI) vwCl ((o_X6 cy h0 a0 w0)) H → va_S A s.heap H locs → lv_has ls 6 [(0, .ref h0), (1, .int l1), (2, .int l2), (3, .int l3), (4, .int l4)] → W p l e (rmN 4 96) s m ([.ref h0, .int p1, .int p2, .int p3] : List Value).toArray below meth c H locs 0 0 Q (F0 m 9 ls [])) (w0 : ob_T) (l1 : Int32) (l2 : Int32) (l3 : Int32) (l4 : Int32) (H : Heap) (locs : List Loc) (ls : Array Slot), bX6_pactOf_37 fu k9 w0 l1 l2 l3 l4 = some R → va_P (dC, dI) vwCl ((o_X6 cy h0 a0 w0)) H → va_S A s.heap H locs → lv_has ls 6 [(0, .ref h0), (1, .int l1), (2, .int l2), (3, .int l3), (4, .int l4)] → W p l e (rmN 4 96) s m ([.ref h0, .int p1, .int p2, .int p3] : List Value).toArray below meth c H locs 0 0 Q (F0 m 37 ls []) := by
    intro k9 hk9 w0 l1 l2 l3 l4 H locs ls hm hP hS hl
    unfold bX6_pactOf_37 at hm
    obtain ⟨x2, e3⟩ : ∃ y : Int32, y = l4 + (1 : Int32) := ⟨_, rfl⟩
    replace hm := bn_at e3 hm
    refine lv_iinc (v := x2) (lv' := [(4, .int x2), (0, .ref h0), (1, .int l1), (2, .int l2), (3, .int l3)]) hx hb dX6_pactOf_37 hl (k := 4) rfl (by rw [e3]; rfl) (by decide) rfl (fun ls hl => ?_)
    refine lv_goto (tgt := 9) hx hb dX6_pactOf_40 (by decide) ?_
    exact hk9 w0 l1 l2 l3 x2 _ _ ls hm hP hS (lv_sub hl [1, 2, 3, 4, 0] rfl)
  have hB9 : ∀ (nn : Nat) (w0 : ob_T) (l1 : Int32) (l2 : Int32) (l3 : Int32) (l4 : Int32) (H : Heap) (locs : List Loc) (ls : Array Slot), bX6_pactOf_9 fu nn w0 l1 l2 l3 l4 = some R → va_P (dC, dI) vwCl ((o_X6 cy h0 a0 w0)) H → va_S A s.heap H locs → lv_has ls 6 [(0, .ref h0), (1, .int l1), (2, .int l2), (3, .int l3), (4, .int l4)] → W p l e (rmN 4 96) s m ([.ref h0, .int p1, .int p2, .int p3] : List Value).toArray below meth c H locs 0 0 Q (F0 m 9 ls []) := by
    intro nn
    induction nn with
    | zero => intro w0 l1 l2 l3 l4 H locs ls hm; exact no_some ((bX6_pactOf_9_0 fu w0 l1 l2 l3 l4).symm.trans hm)
    | succ nn ih =>
      intro w0 l1 l2 l3 l4 H locs ls hm hP hS hl
      replace hm := (bX6_pactOf_9_s fu nn w0 l1 l2 l3 l4).symm.trans hm
      refine lv_iload hx hb dX6_pactOf_9 (lv_at hl 4 rfl) ?_
      refine lv_bipush (v := (8 : Int32)) hx hb dX6_pactOf_11 (by decide) ?_
      refine lv_icmp_ge (tgt := 43) hx hb dX6_pactOf_13 (by decide) (fun hc => ?_) (fun hc => ?_)
      · replace hm := (if_pos hc).symm.trans hm
        refine lv_aload_n hx hb dX6_pactOf_43 rfl (lv_at hl 0 rfl) ?_
        obtain ⟨r4, hr4, hm⟩ := bn_call hm
        refine ca_vi (wr := []) (wn := (o_X6 cy h0 a0 r4.2)) ⟨hx, hb, hml, hown, hts⟩ hK hA (hDa _) hP hS [0, 1, 2, 3, 4, 5, 6, 7, 8] [] [0, 1, 2, 3, 4, 5, 6, 7, 8] (fun sz => kcX6_goRest l dC dI cy fu h0 a0 w0 sz r4 hr4) rfl rfl (by decide) (by decide) (by decide) rfl (cwV 0 hts gX6_pactOf_X6_goRest rfl rfl rfl ⟨rfl, ydX6_goRest⟩ ⟨Nat.le_of_ble_eq_true rfl, Nat.le_of_ble_eq_true rfl⟩) 6 0 rfl rfl rfl rfl hl.1 rfl (Nat.le_of_ble_eq_true rfl) dX6_pactOf_44 ⟨Nat.zero_le _, Nat.zero_le _⟩ (fun H locs hP hS => ?_)
        refine lv_istore (lv' := [(4, .int r4.1), (0, .ref h0), (1, .int l1), (2, .int l2), (3, .int l3)]) hx hb dX6_pactOf_47 hl (by decide) rfl (fun ls hl => ?_)
        refine lv_iload_n hx hb dX6_pactOf_49 rfl (lv_at hl 4 rfl) ?_
        refine lv_iconst (v := (1 : Int32)) hx hb dX6_pactOf_50 (by decide) ?_
        refine lv_icmp_ne (tgt := 62) hx hb dX6_pactOf_51 (by decide) (fun hc => ?_) (fun hc => ?_)
        · replace hm := (if_neg hc).symm.trans hm
          refine lv_iload_n hx hb dX6_pactOf_62 rfl (lv_at hl 2 rfl) ?_
          refine lv_aload_n hx hb dX6_pactOf_63 rfl (lv_at hl 1 rfl) ?_
          obtain ⟨r5, hr5, hm⟩ := bn_call hm
          refine ca_vi (wr := []) (wn := (o_X6 cy h0 a0 r4.2)) ⟨hx, hb, hml, hown, hts⟩ hK hA (hDa _) hP hS [0, 1, 2, 3, 4, 5, 6, 7, 8] [] [0, 1, 2, 3, 4, 5, 6, 7, 8] (fun sz => kcX6_held l dC dI cy fu h0 a0 r4.2 sz r5 hr5) rfl rfl (by decide) (by decide) (by decide) rfl (cwV 0 hts gX6_pactOf_X6_held rfl rfl rfl ⟨rfl, ydX6_held⟩ ⟨Nat.le_of_ble_eq_true rfl, Nat.le_of_ble_eq_true rfl⟩) 6 0 rfl rfl rfl rfl hl.1 rfl (Nat.le_of_ble_eq_true rfl) dX6_pactOf_64 ⟨Nat.zero_le _, Nat.zero_le _⟩ (fun H locs hP hS => ?_)
          refine lv_iconst (v := (-1 : Int32)) hx hb dX6_pactOf_67 (by decide) ?_
          refine lv_ixor hx hb dX6_pactOf_68 ?_
          refine lv_iand hx hb dX6_pactOf_69 ?_
          refine lv_if_ne (tgt := 77) hx hb dX6_pactOf_70 (by decide) (fun hc => ?_) (fun hc => ?_)
          · replace hm := (if_neg hc).symm.trans hm
            refine lv_iconst (v := (0 : Int32)) hx hb dX6_pactOf_77 (by decide) ?_
            exact hB78 r4.2 r4.1 (0 : Int32) _ _ ls hm hP hS (lv_sub hl [1, 0] rfl)
          replace hm := (if_pos hc).symm.trans hm
          refine lv_iconst (v := (1 : Int32)) hx hb dX6_pactOf_73 (by decide) ?_
          refine lv_goto (tgt := 78) hx hb dX6_pactOf_74 (by decide) ?_
          exact hB78 r4.2 r4.1 (1 : Int32) _ _ ls hm hP hS (lv_sub hl [1, 0] rfl)
        replace hm := (if_pos hc).symm.trans hm
        refine lv_aload_n hx hb dX6_pactOf_54 rfl (lv_at hl 1 rfl) ?_
        obtain ⟨r6, hr6, hm⟩ := bn_call hm
        refine ca_vl (wr := []) (wn := (o_X6 cy h0 a0 r4.2)) ⟨hx, hb, hml, hown, hts⟩ hK hA (hDa _) hP hS [0, 1, 2, 3, 4, 5, 6, 7, 8] [] [0, 1, 2, 3, 4, 5, 6, 7, 8] (fun sz => kcX6_ratio l dC dI cy fu h0 a0 r4.2 sz r6 hr6) rfl rfl (by decide) (by decide) (by decide) rfl (cwV 0 hts gX6_pactOf_X6_ratio rfl rfl rfl ⟨rfl, ydX6_ratio⟩ ⟨Nat.le_of_ble_eq_true rfl, Nat.le_of_ble_eq_true rfl⟩) 6 0 rfl rfl rfl rfl hl.1 rfl (Nat.le_of_ble_eq_true rfl) dX6_pactOf_55 ⟨Nat.zero_le _, Nat.zero_le _⟩ (fun H locs hP hS => ?_)
        refine lv_l2i (v := r6.toInt32) hx hb dX6_pactOf_58 rfl ?_
        refine lv_goto (tgt := 78) hx hb dX6_pactOf_59 (by decide) ?_
        exact hB78 r4.2 r4.1 r6.toInt32 _ _ ls hm hP hS (lv_sub hl [1, 0] rfl)
      replace hm := (if_neg hc).symm.trans hm
      refine lv_iload_n hx hb dX6_pactOf_16 rfl (lv_at hl 1 rfl) ?_
      refine lv_iload hx hb dX6_pactOf_17 (lv_at hl 4 rfl) ?_
      obtain ⟨r7, hr7, hm⟩ := bn_call hm
      refine ca_si (wr := (o_X6 cy h0 a0 w0)) (wn := (o_X6 cy h0 a0 w0)) ⟨hx, hb, hml, hown, hts⟩ hK hA (hDa _) hP hS [] [0, 1, 2, 3, 4, 5, 6, 7, 8] [0, 1, 2, 3, 4, 5, 6, 7, 8] (fun sz => kcX6_has l dC dI cy fu l1 l4 sz r7 hr7) rfl rfl (by decide) (by decide) (by decide) rfl (va_cwS 2 hts gX6_pactOf_X6_has rfl rfl rfl ydX6_has ⟨Nat.le_of_ble_eq_true rfl, Nat.le_of_ble_eq_true rfl⟩) rfl hl.1 rfl (Nat.le_of_ble_eq_true rfl) dX6_pactOf_19 ⟨Nat.zero_le _, Nat.zero_le _⟩ (fun H locs hP hS => ?_)
      refine lv_if_eq (tgt := 37) hx hb dX6_pactOf_22 (by decide) (fun hc => ?_) (fun hc => ?_)
      · replace hm := (if_pos hc).symm.trans hm
        exact hB37 (bX6_pactOf_9 fu nn) ih w0 l1 l2 l3 l4 _ _ ls hm hP hS (lv_sub hl [0, 1, 2, 3, 4] rfl)
      replace hm := (if_neg hc).symm.trans hm
      refine lv_aload_n hx hb dX6_pactOf_25 rfl (lv_at hl 0 rfl) ?_
      refine va_get (D := (dC, dI)) (ci := 6) (v := .ref (a0 2)) (C := RX6) (T := TX6) (N := 11) hx hb hts i6 hown hK hP 0 rfl rfl 2 (by decide) (hts (.fieldLink RX6 13 "TwoMetalsModel" "realms" "[J") (List.mem_of_getElem? (i := 1) rfl)) (fun _ h9 => h9) rfl dX6_pactOf_26 ?_
      refine lv_bipush (v := (9 : Int32)) hx hb dX6_pactOf_29 (by decide) ?_
      refine lv_iload hx hb dX6_pactOf_31 (lv_at hl 4 rfl) ?_
      refine lv_imul hx hb dX6_pactOf_33 ?_
      refine lv_iload_n hx hb dX6_pactOf_34 rfl (lv_at hl 2 rfl) ?_
      refine lv_i2l (v := l2.toInt64) hx hb dX6_pactOf_35 rfl ?_
      obtain ⟨hi8, hm⟩ := ck_in hm
      refine va_last hx hb hK hP (hDa _) hS 2 1 rfl rfl hi8 dX6_pactOf_36 (fun H locs hP _ hS => ?_)
      have hP : va_P (dC, dI) vwCl ((o_X6 cy h0 a0 (ob_L w0 2 (vp_updL (w0.2 2) ((9 : Int32) * l4).toNatClampNeg l2.toInt64)))) H := hP
      obtain ⟨u9, hP, hm⟩ := bn_ob (P := fun zz => va_P (dC, dI) vwCl ((o_X6 cy h0 a0 zz)) H) hm hP
      exact hB37 (bX6_pactOf_9 fu nn) ih u9 l1 l2 l3 l4 _ _ ls hm hP hS (lv_sub hl [0, 1, 2, 3, 4] rfl)
  unfold mX6_pactOf at hm
  refine lv_aload_n hx hb dX6_pactOf_0 rfl (lv_at hl 0 rfl) ?_
  refine lv_iconst (v := (0 : Int32)) hx hb dX6_pactOf_1 (by decide) ?_
  refine lv_iconst (v := (3 : Int32)) hx hb dX6_pactOf_2 (by decide) ?_
  obtain ⟨r10, hr10, hm⟩ := bn_call hm
  refine ca_vv (wr := []) (wn := (o_X6 cy h0 a0 r10)) ⟨hx, hb, hml, hown, hts⟩ hK hA (hDa _) hP hS [0, 1, 2, 3, 4, 5, 6, 7, 8] [] [0, 1, 2, 3, 4, 5, 6, 7, 8] (fun sz => kcX6_copy l dC dI cy fu h0 a0 w0 (0 : Int32) (3 : Int32) sz r10 hr10) rfl rfl (by decide) (by decide) (by decide) rfl (cwV 2 hts gX6_pactOf_X6_copy rfl rfl rfl ⟨rfl, ydX6_copy⟩ ⟨Nat.le_of_ble_eq_true rfl, Nat.le_of_ble_eq_true rfl⟩) 6 0 rfl rfl rfl rfl hl.1 rfl (Nat.le_of_ble_eq_true rfl) dX6_pactOf_3 ⟨Nat.zero_le _, Nat.zero_le _⟩ (fun H locs hP hS => ?_)
  refine lv_iconst (v := (0 : Int32)) hx hb dX6_pactOf_6 (by decide) ?_
  refine lv_istore (lv' := [(4, .int (0 : Int32)), (0, .ref h0), (1, .int p1), (2, .int p2), (3, .int p3)]) hx hb dX6_pactOf_7 hl (by decide) rfl (fun ls hl => ?_)
  exact hB9 fu r10 p1 p2 p3 (0 : Int32) _ _ ls hm hP hS (lv_sub hl [1, 2, 3, 4, 0] rfl)
set_option maxHeartbeats 4000000 in
set_option maxRecDepth 100000 in
theorem kcX6_pact (l : Launch) (dC : Nat → ClassId) (dI : Nat → Nat → Nat) (cy : Nat → ClassId) (fu : Nat) (h0 : Nat) (a0 : Nat → Nat) (w0 : ob_T) (p1 : Int32) (p2 : Int32) (p3 : Int32) (sz : Nat) (R : Int32 × ob_T) (hm : mX6_pact fu w0 p1 p2 p3 = some R) : Met l yX6_pact wsX6_pact (rmN 5 121) (va_Pc [.ref h0, .int p1, .int p2, .int p3] (cPre dC dI cy ((o_X6 cy h0 a0 w0)) sz)) (va_Qi (fun (r : Int32) (_ : Unit) => r = R.1) (fun _ => cPost dC dI cy ((o_X6 cy h0 a0 w0)) ((o_X6 cy h0 a0 R.2)) sz) (va_A ((o_X6 cy h0 a0 w0)) sz)) 0 0 (va_A ((o_X6 cy h0 a0 w0)) sz) := by
  refine mt_i (cc := cX6_pact) (maxL := 4) (by decide) rfl (Nat.le_of_ble_eq_true rfl) rfl ?_
  intro p e s m below meth c Q A hx hb hml hown hts hK hA hD hP hret ls hl
  have hown : s.vm.findClass RX6 = some m.cls := hown
  have hl : lv_has ls 4 [(0, .ref h0), (1, .int p1), (2, .int p2), (3, .int p3)] := hl
  have hDa : ∀ v0 : ob_T, va_D A ((o_X6 cy h0 a0 v0)) := fun _ => va_D_adr hD rfl
  have hS : va_S A s.heap s.heap [] := va_S.rf
  unfold mX6_pact at hm
  refine lv_iload_n hx hb dX6_pact_0 rfl (lv_at hl 1 rfl) ?_
  refine lv_if_le (tgt := 32) hx hb dX6_pact_1 (by decide) (fun hc => ?_) (fun hc => ?_)
  · replace hm := (if_pos hc).symm.trans hm
    refine lv_iconst (v := (-1 : Int32)) hx hb dX6_pact_32 (by decide) ?_
    obtain rfl := Option.some.inj hm
    exact hret 33 ls _ _ dX6_pact_33 hP hS
  replace hm := (if_neg hc).symm.trans hm
  refine lv_iload_n hx hb dX6_pact_4 rfl (lv_at hl 1 rfl) ?_
  refine lv_aload_n hx hb dX6_pact_5 rfl (lv_at hl 0 rfl) ?_
  obtain ⟨r1, hr1, hm⟩ := bn_call hm
  refine ca_vi (wr := []) (wn := (o_X6 cy h0 a0 w0)) ⟨hx, hb, hml, hown, hts⟩ hK hA (hDa _) hP hS [0, 1, 2, 3, 4, 5, 6, 7, 8] [] [0, 1, 2, 3, 4, 5, 6, 7, 8] (fun sz => kcX6_minting l dC dI cy fu h0 a0 w0 sz r1 hr1) rfl rfl (by decide) (by decide) (by decide) rfl (cwV 0 hts gX6_pact_X6_minting rfl rfl rfl ⟨rfl, ydX6_minting⟩ ⟨Nat.le_of_ble_eq_true rfl, Nat.le_of_ble_eq_true rfl⟩) 6 0 rfl rfl rfl rfl hl.1 rfl (Nat.le_of_ble_eq_true rfl) dX6_pact_6 ⟨Nat.zero_le _, Nat.zero_le _⟩ (fun H locs hP hS => ?_)
  refine lv_iconst (v := (-1 : Int32)) hx hb dX6_pact_9 (by decide) ?_
  refine lv_ixor hx hb dX6_pact_10 ?_
  refine lv_iand hx hb dX6_pact_11 ?_
  refine lv_if_ne (tgt := 32) hx hb dX6_pact_12 (by decide) (fun hc => ?_) (fun hc => ?_)
  · replace hm := (if_neg hc).symm.trans hm
    refine lv_iconst (v := (-1 : Int32)) hx hb dX6_pact_32 (by decide) ?_
    obtain rfl := Option.some.inj hm
    exact hret 33 ls _ _ dX6_pact_33 hP hS
  replace hm := (if_pos hc).symm.trans hm
  refine lv_iload_n hx hb dX6_pact_15 rfl (lv_at hl 2 rfl) ?_
  obtain ⟨r2, hr2, hm⟩ := bn_call hm
  refine ca_si (wr := (o_X6 cy h0 a0 w0)) (wn := (o_X6 cy h0 a0 w0)) ⟨hx, hb, hml, hown, hts⟩ hK hA (hDa _) hP hS [] [0, 1, 2, 3, 4, 5, 6, 7, 8] [0, 1, 2, 3, 4, 5, 6, 7, 8] (fun sz => kcX6_isRatio l dC dI cy fu p2 sz r2 hr2) rfl rfl (by decide) (by decide) (by decide) rfl (va_cwS 1 hts gX6_pact_X6_isRatio rfl rfl rfl ydX6_isRatio ⟨Nat.le_of_ble_eq_true rfl, Nat.le_of_ble_eq_true rfl⟩) rfl hl.1 rfl (Nat.le_of_ble_eq_true rfl) dX6_pact_16 ⟨Nat.zero_le _, Nat.zero_le _⟩ (fun H locs hP hS => ?_)
  refine lv_if_eq (tgt := 32) hx hb dX6_pact_19 (by decide) (fun hc => ?_) (fun hc => ?_)
  · replace hm := (if_pos hc).symm.trans hm
    refine lv_iconst (v := (-1 : Int32)) hx hb dX6_pact_32 (by decide) ?_
    obtain rfl := Option.some.inj hm
    exact hret 33 ls _ _ dX6_pact_33 hP hS
  replace hm := (if_neg hc).symm.trans hm
  refine lv_iload_n hx hb dX6_pact_22 rfl (lv_at hl 3 rfl) ?_
  refine lv_i2l (v := p3.toInt64) hx hb dX6_pact_23 rfl ?_
  refine lv_lconst (v := (0 : Int64)) hx hb dX6_pact_24 (by decide) ?_
  refine lv_lconst (v := (1 : Int64)) hx hb dX6_pact_25 (by decide) ?_
  obtain ⟨r3, hr3, hm⟩ := bn_call hm
  refine ca_si (wr := (o_X6 cy h0 a0 w0)) (wn := (o_X6 cy h0 a0 w0)) ⟨hx, hb, hml, hown, hts⟩ hK hA (hDa _) hP hS [] [0, 1, 2, 3, 4, 5, 6, 7, 8] [0, 1, 2, 3, 4, 5, 6, 7, 8] (fun sz => kcX6_in l dC dI cy fu p3.toInt64 (0 : Int64) (1 : Int64) sz r3 hr3) rfl rfl (by decide) (by decide) (by decide) rfl (va_cwS 3 hts gX6_pact_X6_in rfl rfl rfl ydX6_in ⟨Nat.le_of_ble_eq_true rfl, Nat.le_of_ble_eq_true rfl⟩) rfl hl.1 rfl (Nat.le_of_ble_eq_true rfl) dX6_pact_26 ⟨Nat.zero_le _, Nat.zero_le _⟩ (fun H locs hP hS => ?_)
  refine lv_if_ne (tgt := 34) hx hb dX6_pact_29 (by decide) (fun hc => ?_) (fun hc => ?_)
  · replace hm := (if_neg hc).symm.trans hm
    refine lv_aload_n hx hb dX6_pact_34 rfl (lv_at hl 0 rfl) ?_
    refine lv_iload_n hx hb dX6_pact_35 rfl (lv_at hl 1 rfl) ?_
    refine lv_iload_n hx hb dX6_pact_36 rfl (lv_at hl 2 rfl) ?_
    refine lv_iload_n hx hb dX6_pact_37 rfl (lv_at hl 3 rfl) ?_
    obtain ⟨r4, hr4, hm⟩ := bn_call hm
    refine ca_vi (wr := []) (wn := (o_X6 cy h0 a0 r4.2)) ⟨hx, hb, hml, hown, hts⟩ hK hA (hDa _) hP hS [0, 1, 2, 3, 4, 5, 6, 7, 8] [] [0, 1, 2, 3, 4, 5, 6, 7, 8] (fun sz => kcX6_pactOf l dC dI cy fu h0 a0 w0 p1 p2 p3 sz r4 hr4) rfl rfl (by decide) (by decide) (by decide) rfl (cwV 3 hts gX6_pact_X6_pactOf rfl rfl rfl ⟨rfl, ydX6_pactOf⟩ ⟨Nat.le_of_ble_eq_true rfl, Nat.le_of_ble_eq_true rfl⟩) 6 0 rfl rfl rfl rfl hl.1 rfl (Nat.le_of_ble_eq_true rfl) dX6_pact_38 ⟨Nat.zero_le _, Nat.zero_le _⟩ (fun H locs hP hS => ?_)
    obtain rfl := Option.some.inj hm
    exact hret 41 ls _ _ dX6_pact_41 hP hS
  replace hm := (if_pos hc).symm.trans hm
  refine lv_iconst (v := (-1 : Int32)) hx hb dX6_pact_32 (by decide) ?_
  obtain rfl := Option.some.inj hm
  exact hret 33 ls _ _ dX6_pact_33 hP hS
set_option maxHeartbeats 4000000 in
set_option maxRecDepth 100000 in
theorem kcX6_fewest (l : Launch) (dC : Nat → ClassId) (dI : Nat → Nat → Nat) (cy : Nat → ClassId) (fu : Nat) (h0 : Nat) (a0 : Nat → Nat) (w0 : ob_T) (p1 : Int32) (sz : Nat) (R : Int32 × ob_T) (hm : mX6_fewest fu w0 p1 = some R) : Met l yX6_fewest wsX6_fewest (rmN 5 121) (va_Pc [.ref h0, .int p1] (cPre dC dI cy ((o_X6 cy h0 a0 w0)) sz)) (va_Qi (fun (r : Int32) (_ : Unit) => r = R.1) (fun _ => cPost dC dI cy ((o_X6 cy h0 a0 w0)) ((o_X6 cy h0 a0 R.2)) sz) (va_A ((o_X6 cy h0 a0 w0)) sz)) 0 0 (va_A ((o_X6 cy h0 a0 w0)) sz) := by
  refine mt_i (cc := cX6_fewest) (maxL := 6) (by decide) rfl (Nat.le_of_ble_eq_true rfl) rfl ?_
  intro p e s m below meth c Q A hx hb hml hown hts hK hA hD hP hret ls hl
  have hown : s.vm.findClass RX6 = some m.cls := hown
  have hl : lv_has ls 6 [(0, .ref h0), (1, .int p1)] := hl
  have hDa : ∀ v0 : ob_T, va_D A ((o_X6 cy h0 a0 v0)) := fun _ => va_D_adr hD rfl
  have hS : va_S A s.heap s.heap [] := va_S.rf
  have hB85 : ∀ (k20 : ob_T → Int32 → Int32 → Int32 → Int32 → Option (Int32 × ob_T)) (_ : ∀ (w0 : ob_T) (l1 : Int32) (l2 : Int32) (l3 : Int32) (l4 : Int32) (H : Heap) (locs : List Loc) (ls : Array Slot), k20 w0 l1 l2 l3 l4 = some R → va_P (dC, dI) vwCl ((o_X6 cy h0 a0 w0)) H → va_S A s.heap H locs → lv_has ls 6 [(0, .ref h0), (1, .int l1), (2, .int l2), (3, .int l3), (4, .int l4)] → W p l e (rmN 5 121) s m ([.ref h0, .int p1] : List Value).toArray below meth c H locs 0 0 Q (F0 m 20 ls [])) (w0 : ob_T) (l1 : Int32) (l2 : Int32) (l4 : Int32) (s0 : Int32) (H : Heap) (locs : List Loc) (ls : Array Slot), bX6_fewest_85 fu k20 w0 l1 l2 l4 s0 = some R → va_P (dC, dI) vwCl ((o_X6 cy h0 a0 w0)) H → va_S A s.heap H locs → lv_has ls 6 [(0, .ref h0), (1, .int l1), (2, .int l2), (4, .int l4)] → W p l e (rmN 5 121) s m ([.ref h0, .int p1] : List Value).toArray below meth c H locs 0 0 Q (F0 m 85 ls [.int s0]) := by
    intro k20 hk20 w0 l1 l2 l4 s0 H locs ls hm hP hS hl
    unfold bX6_fewest_85 at hm
    refine lv_istore_n (lv' := [(3, .int s0), (0, .ref h0), (1, .int l1), (2, .int l2), (4, .int l4)]) hx hb dX6_fewest_85 rfl hl (by decide) rfl (fun ls hl => ?_)
    obtain ⟨x1, e2⟩ : ∃ y : Int32, y = l4 + (1 : Int32) := ⟨_, rfl⟩
    replace hm := bn_at e2 hm
    refine lv_iinc (v := x1) (lv' := [(4, .int x1), (3, .int s0), (0, .ref h0), (1, .int l1), (2, .int l2)]) hx hb dX6_fewest_86 hl (k := 4) rfl (by rw [e2]; rfl) (by decide) rfl (fun ls hl => ?_)
    refine lv_goto (tgt := 20) hx hb dX6_fewest_89 (by decide) ?_
    exact hk20 w0 l1 l2 s0 x1 _ _ ls hm hP hS (lv_sub hl [2, 3, 4, 1, 0] rfl)
  have hB60 : ∀ (k20 : ob_T → Int32 → Int32 → Int32 → Int32 → Option (Int32 × ob_T)) (_ : ∀ (w0 : ob_T) (l1 : Int32) (l2 : Int32) (l3 : Int32) (l4 : Int32) (H : Heap) (locs : List Loc) (ls : Array Slot), k20 w0 l1 l2 l3 l4 = some R → va_P (dC, dI) vwCl ((o_X6 cy h0 a0 w0)) H → va_S A s.heap H locs → lv_has ls 6 [(0, .ref h0), (1, .int l1), (2, .int l2), (3, .int l3), (4, .int l4)] → W p l e (rmN 5 121) s m ([.ref h0, .int p1] : List Value).toArray below meth c H locs 0 0 Q (F0 m 20 ls [])) (w0 : ob_T) (l1 : Int32) (l2 : Int32) (l3 : Int32) (l4 : Int32) (s0 : Int32) (H : Heap) (locs : List Loc) (ls : Array Slot), bX6_fewest_60 fu k20 w0 l1 l2 l3 l4 s0 = some R → va_P (dC, dI) vwCl ((o_X6 cy h0 a0 w0)) H → va_S A s.heap H locs → lv_has ls 6 [(0, .ref h0), (1, .int l1), (2, .int l2), (3, .int l3), (4, .int l4)] → W p l e (rmN 5 121) s m ([.ref h0, .int p1] : List Value).toArray below meth c H locs 0 0 Q (F0 m 60 ls [.int s0]) := by
    intro k20 hk20 w0 l1 l2 l3 l4 s0 H locs ls hm hP hS hl
    unfold bX6_fewest_60 at hm
    refine lv_istore (lv' := [(5, .int s0), (0, .ref h0), (1, .int l1), (2, .int l2), (3, .int l3), (4, .int l4)]) hx hb dX6_fewest_60 hl (by decide) rfl (fun ls hl => ?_)
    refine lv_iload hx hb dX6_fewest_62 (lv_at hl 0 rfl) ?_
    refine lv_if_eq (tgt := 84) hx hb dX6_fewest_64 (by decide) (fun hc => ?_) (fun hc => ?_)
    · replace hm := (if_pos hc).symm.trans hm
      refine lv_iload_n hx hb dX6_fewest_84 rfl (lv_at hl 4 rfl) ?_
      exact hB85 (k20) hk20 w0 l1 l2 l4 l3 _ _ ls hm hP hS (lv_sub hl [1, 2, 3, 5] rfl)
    replace hm := (if_neg hc).symm.trans hm
    refine lv_aload_n hx hb dX6_fewest_67 rfl (lv_at hl 1 rfl) ?_
    refine lv_iload hx hb dX6_fewest_68 (lv_at hl 5 rfl) ?_
    refine lv_iload_n hx hb dX6_fewest_70 rfl (lv_at hl 2 rfl) ?_
    refine lv_iconst (v := (0 : Int32)) hx hb dX6_fewest_71 (by decide) ?_
    obtain ⟨r3, hr3, hm⟩ := bn_call hm
    refine ca_vi (wr := []) (wn := (o_X6 cy h0 a0 r3.2)) ⟨hx, hb, hml, hown, hts⟩ hK hA (hDa _) hP hS [0, 1, 2, 3, 4, 5, 6, 7, 8] [] [0, 1, 2, 3, 4, 5, 6, 7, 8] (fun sz => kcX6_pactOf l dC dI cy fu h0 a0 w0 l4 l1 (0 : Int32) sz r3 hr3) rfl rfl (by decide) (by decide) (by decide) rfl (cwV 3 hts gX6_fewest_X6_pactOf rfl rfl rfl ⟨rfl, ydX6_pactOf⟩ ⟨Nat.le_of_ble_eq_true rfl, Nat.le_of_ble_eq_true rfl⟩) 6 0 rfl rfl rfl rfl hl.1 rfl (Nat.le_of_ble_eq_true rfl) dX6_fewest_72 ⟨Nat.zero_le _, Nat.zero_le _⟩ (fun H locs hP hS => ?_)
    refine lv_iconst (v := (1 : Int32)) hx hb dX6_fewest_75 (by decide) ?_
    refine lv_icmp_ne (tgt := 84) hx hb dX6_fewest_76 (by decide) (fun hc => ?_) (fun hc => ?_)
    · replace hm := (if_neg hc).symm.trans hm
      refine lv_iload_n hx hb dX6_fewest_84 rfl (lv_at hl 4 rfl) ?_
      exact hB85 (k20) hk20 r3.2 l1 l2 l4 l3 _ _ ls hm hP hS (lv_sub hl [1, 2, 3, 5] rfl)
    replace hm := (if_pos hc).symm.trans hm
    refine lv_iload hx hb dX6_fewest_79 (lv_at hl 5 rfl) ?_
    refine lv_goto (tgt := 85) hx hb dX6_fewest_81 (by decide) ?_
    exact hB85 (k20) hk20 r3.2 l1 l2 l4 l4 _ _ ls hm hP hS (lv_sub hl [1, 2, 3, 5] rfl)
  have hB20 : ∀ (nn : Nat) (w0 : ob_T) (l1 : Int32) (l2 : Int32) (l3 : Int32) (l4 : Int32) (H : Heap) (locs : List Loc) (ls : Array Slot), bX6_fewest_20 fu nn w0 l1 l2 l3 l4 = some R → va_P (dC, dI) vwCl ((o_X6 cy h0 a0 w0)) H → va_S A s.heap H locs → lv_has ls 6 [(0, .ref h0), (1, .int l1), (2, .int l2), (3, .int l3), (4, .int l4)] → W p l e (rmN 5 121) s m ([.ref h0, .int p1] : List Value).toArray below meth c H locs 0 0 Q (F0 m 20 ls []) := by
    intro nn
    induction nn with
    | zero => intro w0 l1 l2 l3 l4 H locs ls hm; exact no_some ((bX6_fewest_20_0 fu w0 l1 l2 l3 l4).symm.trans hm)
    | succ nn ih =>
      intro w0 l1 l2 l3 l4 H locs ls hm hP hS hl
      replace hm := (bX6_fewest_20_s fu nn w0 l1 l2 l3 l4).symm.trans hm
      refine lv_iload hx hb dX6_fewest_20 (lv_at hl 4 rfl) ?_
      refine lv_sipush (v := (256 : Int32)) hx hb dX6_fewest_22 (by decide) ?_
      refine lv_icmp_ge (tgt := 92) hx hb dX6_fewest_25 (by decide) (fun hc => ?_) (fun hc => ?_)
      · replace hm := (if_pos hc).symm.trans hm
        refine lv_iload_n hx hb dX6_fewest_92 rfl (lv_at hl 3 rfl) ?_
        obtain rfl := Option.some.inj hm
        exact hret 93 ls _ _ dX6_fewest_93 hP hS
      replace hm := (if_neg hc).symm.trans hm
      refine lv_iload hx hb dX6_fewest_28 (lv_at hl 4 rfl) ?_
      refine lv_iload_n hx hb dX6_fewest_30 rfl (lv_at hl 2 rfl) ?_
      refine lv_iconst (v := (-1 : Int32)) hx hb dX6_fewest_31 (by decide) ?_
      refine lv_ixor hx hb dX6_fewest_32 ?_
      refine lv_iand hx hb dX6_fewest_33 ?_
      refine lv_if_ne (tgt := 59) hx hb dX6_fewest_34 (by decide) (fun hc => ?_) (fun hc => ?_)
      · replace hm := (if_neg hc).symm.trans hm
        refine lv_iconst (v := (0 : Int32)) hx hb dX6_fewest_59 (by decide) ?_
        exact hB60 (bX6_fewest_20 fu nn) ih w0 l1 l2 l3 l4 (0 : Int32) _ _ ls hm hP hS (lv_sub hl [0, 1, 2, 3, 4] rfl)
      replace hm := (if_pos hc).symm.trans hm
      refine lv_iload_n hx hb dX6_fewest_37 rfl (lv_at hl 3 rfl) ?_
      refine lv_bipush (v := (-4 : Int32)) hx hb dX6_fewest_38 (by decide) ?_
      refine lv_icmp_eq (tgt := 55) hx hb dX6_fewest_40 (by decide) (fun hc => ?_) (fun hc => ?_)
      · replace hm := (if_pos hc).symm.trans hm
        refine lv_iconst (v := (1 : Int32)) hx hb dX6_fewest_55 (by decide) ?_
        refine lv_goto (tgt := 60) hx hb dX6_fewest_56 (by decide) ?_
        exact hB60 (bX6_fewest_20 fu nn) ih w0 l1 l2 l3 l4 (1 : Int32) _ _ ls hm hP hS (lv_sub hl [0, 1, 2, 3, 4] rfl)
      replace hm := (if_neg hc).symm.trans hm
      refine lv_iload hx hb dX6_fewest_43 (lv_at hl 4 rfl) ?_
      obtain ⟨r4, hr4, hm⟩ := bn_call hm
      refine ca_si (wr := (o_X6 cy h0 a0 w0)) (wn := (o_X6 cy h0 a0 w0)) ⟨hx, hb, hml, hown, hts⟩ hK hA (hDa _) hP hS [] [0, 1, 2, 3, 4, 5, 6, 7, 8] [0, 1, 2, 3, 4, 5, 6, 7, 8] (fun sz => kcX6_bits l dC dI cy fu l4 sz r4 hr4) rfl rfl (by decide) (by decide) (by decide) rfl (va_cwS 1 hts gX6_fewest_X6_bits rfl rfl rfl ydX6_bits ⟨Nat.le_of_ble_eq_true rfl, Nat.le_of_ble_eq_true rfl⟩) rfl hl.1 rfl (Nat.le_of_ble_eq_true rfl) dX6_fewest_45 ⟨Nat.zero_le _, Nat.zero_le _⟩ (fun H locs hP hS => ?_)
      refine lv_iload_n hx hb dX6_fewest_48 rfl (lv_at hl 3 rfl) ?_
      obtain ⟨r5, hr5, hm⟩ := bn_call hm
      refine ca_si (wr := (o_X6 cy h0 a0 w0)) (wn := (o_X6 cy h0 a0 w0)) ⟨hx, hb, hml, hown, hts⟩ hK hA (hDa _) hP hS [] [0, 1, 2, 3, 4, 5, 6, 7, 8] [0, 1, 2, 3, 4, 5, 6, 7, 8] (fun sz => kcX6_bits l dC dI cy fu l3 sz r5 hr5) rfl rfl (by decide) (by decide) (by decide) rfl (va_cwS 1 hts gX6_fewest_X6_bits rfl rfl rfl ydX6_bits ⟨Nat.le_of_ble_eq_true rfl, Nat.le_of_ble_eq_true rfl⟩) rfl hl.1 rfl (Nat.le_of_ble_eq_true rfl) dX6_fewest_49 ⟨Nat.zero_le _, Nat.zero_le _⟩ (fun H locs hP hS => ?_)
      refine lv_icmp_ge (tgt := 59) hx hb dX6_fewest_52 (by decide) (fun hc => ?_) (fun hc => ?_)
      · replace hm := (if_pos hc).symm.trans hm
        refine lv_iconst (v := (0 : Int32)) hx hb dX6_fewest_59 (by decide) ?_
        exact hB60 (bX6_fewest_20 fu nn) ih w0 l1 l2 l3 l4 (0 : Int32) _ _ ls hm hP hS (lv_sub hl [0, 1, 2, 3, 4] rfl)
      replace hm := (if_neg hc).symm.trans hm
      refine lv_iconst (v := (1 : Int32)) hx hb dX6_fewest_55 (by decide) ?_
      refine lv_goto (tgt := 60) hx hb dX6_fewest_56 (by decide) ?_
      exact hB60 (bX6_fewest_20 fu nn) ih w0 l1 l2 l3 l4 (1 : Int32) _ _ ls hm hP hS (lv_sub hl [0, 1, 2, 3, 4] rfl)
  unfold mX6_fewest at hm
  refine lv_iload_n hx hb dX6_fewest_0 rfl (lv_at hl 1 rfl) ?_
  obtain ⟨r6, hr6, hm⟩ := bn_call hm
  refine ca_si (wr := (o_X6 cy h0 a0 w0)) (wn := (o_X6 cy h0 a0 w0)) ⟨hx, hb, hml, hown, hts⟩ hK hA (hDa _) hP hS [] [0, 1, 2, 3, 4, 5, 6, 7, 8] [0, 1, 2, 3, 4, 5, 6, 7, 8] (fun sz => kcX6_isRatio l dC dI cy fu p1 sz r6 hr6) rfl rfl (by decide) (by decide) (by decide) rfl (va_cwS 1 hts gX6_fewest_X6_isRatio rfl rfl rfl ydX6_isRatio ⟨Nat.le_of_ble_eq_true rfl, Nat.le_of_ble_eq_true rfl⟩) rfl hl.1 rfl (Nat.le_of_ble_eq_true rfl) dX6_fewest_1 ⟨Nat.zero_le _, Nat.zero_le _⟩ (fun H locs hP hS => ?_)
  refine lv_if_ne (tgt := 9) hx hb dX6_fewest_4 (by decide) (fun hc => ?_) (fun hc => ?_)
  · replace hm := (if_neg hc).symm.trans hm
    refine lv_aload_n hx hb dX6_fewest_9 rfl (lv_at hl 0 rfl) ?_
    obtain ⟨r7, hr7, hm⟩ := bn_call hm
    refine ca_vi (wr := []) (wn := (o_X6 cy h0 a0 w0)) ⟨hx, hb, hml, hown, hts⟩ hK hA (hDa _) hP hS [0, 1, 2, 3, 4, 5, 6, 7, 8] [] [0, 1, 2, 3, 4, 5, 6, 7, 8] (fun sz => kcX6_minting l dC dI cy fu h0 a0 w0 sz r7 hr7) rfl rfl (by decide) (by decide) (by decide) rfl (cwV 0 hts gX6_fewest_X6_minting rfl rfl rfl ⟨rfl, ydX6_minting⟩ ⟨Nat.le_of_ble_eq_true rfl, Nat.le_of_ble_eq_true rfl⟩) 6 0 rfl rfl rfl rfl hl.1 rfl (Nat.le_of_ble_eq_true rfl) dX6_fewest_10 ⟨Nat.zero_le _, Nat.zero_le _⟩ (fun H locs hP hS => ?_)
    refine lv_istore_n (lv' := [(2, .int r7), (0, .ref h0), (1, .int p1)]) hx hb dX6_fewest_13 rfl hl (by decide) rfl (fun ls hl => ?_)
    refine lv_bipush (v := (-4 : Int32)) hx hb dX6_fewest_14 (by decide) ?_
    refine lv_istore_n (lv' := [(3, .int (-4 : Int32)), (2, .int r7), (0, .ref h0), (1, .int p1)]) hx hb dX6_fewest_16 rfl hl (by decide) rfl (fun ls hl => ?_)
    refine lv_iconst (v := (1 : Int32)) hx hb dX6_fewest_17 (by decide) ?_
    refine lv_istore (lv' := [(4, .int (1 : Int32)), (3, .int (-4 : Int32)), (2, .int r7), (0, .ref h0), (1, .int p1)]) hx hb dX6_fewest_18 hl (by decide) rfl (fun ls hl => ?_)
    exact hB20 fu w0 p1 r7 (-4 : Int32) (1 : Int32) _ _ ls hm hP hS (lv_sub hl [3, 4, 2, 1, 0] rfl)
  replace hm := (if_pos hc).symm.trans hm
  refine lv_iconst (v := (-1 : Int32)) hx hb dX6_fewest_7 (by decide) ?_
  obtain rfl := Option.some.inj hm
  exact hret 8 ls _ _ dX6_fewest_8 hP hS
set_option maxHeartbeats 4000000 in
set_option maxRecDepth 100000 in
theorem kcX6_boughtOf (l : Launch) (dC : Nat → ClassId) (dI : Nat → Nat → Nat) (cy : Nat → ClassId) (fu : Nat) (h0 : Nat) (a0 : Nat → Nat) (w0 : ob_T) (p1 : Int64) (p2 : Int32) (sz : Nat) (R : Int32 × ob_T) (hm : mX6_boughtOf fu w0 p1 p2 = some R) : Met l yX6_boughtOf wsX6_boughtOf (rmN 4 96) (va_Pc [.ref h0, .long p1, .int p2] (cPre dC dI cy ((o_X6 cy h0 a0 w0)) sz)) (va_Qi (fun (r : Int32) (_ : Unit) => r = R.1) (fun _ => cPost dC dI cy ((o_X6 cy h0 a0 w0)) ((o_X6 cy h0 a0 R.2)) sz) (va_A ((o_X6 cy h0 a0 w0)) sz)) 0 0 (va_A ((o_X6 cy h0 a0 w0)) sz) := by
  refine mt_i (cc := cX6_boughtOf) (maxL := 6) (by decide) rfl (Nat.le_of_ble_eq_true rfl) rfl ?_
  intro p e s m below meth c Q A hx hb hml hown hts hK hA hD hP hret ls hl
  have hown : s.vm.findClass RX6 = some m.cls := hown
  have hl : lv_has ls 6 [(0, .ref h0), (1, .long p1), (3, .int p2)] := hl
  have hDa : ∀ v0 : ob_T, va_D A ((o_X6 cy h0 a0 v0)) := fun _ => va_D_adr hD rfl
  have i6 : ∀ w ∈ wsX60, w ∈ wsX6_boughtOf := fun _ h => List.mem_cons_of_mem _ (List.mem_append_right _ h)
  have hS : va_S A s.heap s.heap [] := va_S.rf
  have hB46 : ∀ (w0 : ob_T) (l4 : Int32) (s0 : Int32) (H : Heap) (locs : List Loc) (ls : Array Slot), bX6_boughtOf_46 fu w0 l4 s0 = some R → va_P (dC, dI) vwCl ((o_X6 cy h0 a0 w0)) H → va_S A s.heap H locs → lv_has ls 6 [(0, .ref h0), (4, .int l4)] → W p l e (rmN 4 96) s m ([.ref h0, .long p1, .int p2] : List Value).toArray below meth c H locs 0 0 Q (F0 m 46 ls [.int s0]) := by
    intro w0 l4 s0 H locs ls hm hP hS hl
    unfold bX6_boughtOf_46 at hm
    refine lv_istore (lv' := [(5, .int s0), (0, .ref h0), (4, .int l4)]) hx hb dX6_boughtOf_46 hl (by decide) rfl (fun ls hl => ?_)
    refine lv_aload_n hx hb dX6_boughtOf_48 rfl (lv_at hl 1 rfl) ?_
    refine lv_iconst (v := (3 : Int32)) hx hb dX6_boughtOf_49 (by decide) ?_
    refine lv_iconst (v := (0 : Int32)) hx hb dX6_boughtOf_50 (by decide) ?_
    obtain ⟨r1, hr1, hm⟩ := bn_call hm
    refine ca_vv (wr := []) (wn := (o_X6 cy h0 a0 r1)) ⟨hx, hb, hml, hown, hts⟩ hK hA (hDa _) hP hS [0, 1, 2, 3, 4, 5, 6, 7, 8] [] [0, 1, 2, 3, 4, 5, 6, 7, 8] (fun sz => kcX6_copy l dC dI cy fu h0 a0 w0 (3 : Int32) (0 : Int32) sz r1 hr1) rfl rfl (by decide) (by decide) (by decide) rfl (cwV 2 hts gX6_boughtOf_X6_copy rfl rfl rfl ⟨rfl, ydX6_copy⟩ ⟨Nat.le_of_ble_eq_true rfl, Nat.le_of_ble_eq_true rfl⟩) 6 0 rfl rfl rfl rfl hl.1 rfl (Nat.le_of_ble_eq_true rfl) dX6_boughtOf_51 ⟨Nat.zero_le _, Nat.zero_le _⟩ (fun H locs hP hS => ?_)
    refine lv_iload hx hb dX6_boughtOf_54 (lv_at hl 2 rfl) ?_
    refine lv_bipush (v := (-5 : Int32)) hx hb dX6_boughtOf_56 (by decide) ?_
    refine lv_icmp_ne (tgt := 66) hx hb dX6_boughtOf_58 (by decide) (fun hc => ?_) (fun hc => ?_)
    · replace hm := (if_neg hc).symm.trans hm
      refine lv_iload hx hb dX6_boughtOf_66 (lv_at hl 0 rfl) ?_
      obtain rfl := Option.some.inj hm
      exact hret 68 ls _ _ dX6_boughtOf_68 hP hS
    replace hm := (if_pos hc).symm.trans hm
    refine lv_bipush (v := (-5 : Int32)) hx hb dX6_boughtOf_61 (by decide) ?_
    refine lv_goto (tgt := 68) hx hb dX6_boughtOf_63 (by decide) ?_
    obtain rfl := Option.some.inj hm
    exact hret 68 ls _ _ dX6_boughtOf_68 hP hS
  unfold mX6_boughtOf at hm
  refine lv_aload_n hx hb dX6_boughtOf_0 rfl (lv_at hl 0 rfl) ?_
  refine lv_iconst (v := (0 : Int32)) hx hb dX6_boughtOf_1 (by decide) ?_
  refine lv_iconst (v := (3 : Int32)) hx hb dX6_boughtOf_2 (by decide) ?_
  obtain ⟨r2, hr2, hm⟩ := bn_call hm
  refine ca_vv (wr := []) (wn := (o_X6 cy h0 a0 r2)) ⟨hx, hb, hml, hown, hts⟩ hK hA (hDa _) hP hS [0, 1, 2, 3, 4, 5, 6, 7, 8] [] [0, 1, 2, 3, 4, 5, 6, 7, 8] (fun sz => kcX6_copy l dC dI cy fu h0 a0 w0 (0 : Int32) (3 : Int32) sz r2 hr2) rfl rfl (by decide) (by decide) (by decide) rfl (cwV 2 hts gX6_boughtOf_X6_copy rfl rfl rfl ⟨rfl, ydX6_copy⟩ ⟨Nat.le_of_ble_eq_true rfl, Nat.le_of_ble_eq_true rfl⟩) 6 0 rfl rfl rfl rfl hl.1 rfl (Nat.le_of_ble_eq_true rfl) dX6_boughtOf_3 ⟨Nat.zero_le _, Nat.zero_le _⟩ (fun H locs hP hS => ?_)
  refine lv_aload_n hx hb dX6_boughtOf_6 rfl (lv_at hl 0 rfl) ?_
  refine va_get (D := (dC, dI)) (ci := 6) (v := .ref (a0 3)) (C := RX6) (T := TX6) (N := 11) hx hb hts i6 hown hK hP 0 rfl rfl 3 (by decide) (hts (.fieldLink RX6 17 "TwoMetalsModel" "markets" "[J") (List.mem_of_getElem? (i := 1) rfl)) (fun _ h9 => h9) rfl dX6_boughtOf_7 ?_
  refine lv_iconst (v := (0 : Int32)) hx hb dX6_boughtOf_10 (by decide) ?_
  refine lv_dup2_11 hx hb dX6_boughtOf_11 rfl rfl ?_
  obtain ⟨hi3, hm⟩ := ck_in hm
  refine va_lald hx hb hK hP 3 1 rfl rfl hi3 dX6_boughtOf_12 ?_
  refine lv_lload_n hx hb dX6_boughtOf_13 rfl (lv_at hl 1 rfl) ?_
  refine lv_lsub hx hb dX6_boughtOf_14 ?_
  refine va_last hx hb hK hP (hDa _) hS 3 1 rfl rfl hi3 dX6_boughtOf_15 (fun H locs hP _ hS => ?_)
  have hP : va_P (dC, dI) vwCl ((o_X6 cy h0 a0 (ob_L r2 3 (vp_updL (r2.2 3) (0 : Int32).toNatClampNeg ((r2.2 3 (0 : Int32).toNatClampNeg) - p1))))) H := hP
  obtain ⟨u4, hP, hm⟩ := bn_ob (P := fun zz => va_P (dC, dI) vwCl ((o_X6 cy h0 a0 zz)) H) hm hP
  refine lv_aload_n hx hb dX6_boughtOf_16 rfl (lv_at hl 0 rfl) ?_
  obtain ⟨r5, hr5, hm⟩ := bn_call hm
  refine ca_vi (wr := []) (wn := (o_X6 cy h0 a0 r5.2)) ⟨hx, hb, hml, hown, hts⟩ hK hA (hDa _) hP hS [0, 1, 2, 3, 4, 5, 6, 7, 8] [] [0, 1, 2, 3, 4, 5, 6, 7, 8] (fun sz => kcX6_goRest l dC dI cy fu h0 a0 u4 sz r5 hr5) rfl rfl (by decide) (by decide) (by decide) rfl (cwV 0 hts gX6_boughtOf_X6_goRest rfl rfl rfl ⟨rfl, ydX6_goRest⟩ ⟨Nat.le_of_ble_eq_true rfl, Nat.le_of_ble_eq_true rfl⟩) 6 0 rfl rfl rfl rfl hl.1 rfl (Nat.le_of_ble_eq_true rfl) dX6_boughtOf_17 ⟨Nat.zero_le _, Nat.zero_le _⟩ (fun H locs hP hS => ?_)
  refine lv_istore (lv' := [(4, .int r5.1), (0, .ref h0), (1, .long p1), (3, .int p2)]) hx hb dX6_boughtOf_20 hl (by decide) rfl (fun ls hl => ?_)
  refine lv_iload_n hx hb dX6_boughtOf_22 rfl (lv_at hl 3 rfl) ?_
  refine lv_if_ge (tgt := 34) hx hb dX6_boughtOf_23 (by decide) (fun hc => ?_) (fun hc => ?_)
  · replace hm := (if_pos hc).symm.trans hm
    refine lv_aload_n hx hb dX6_boughtOf_34 rfl (lv_at hl 1 rfl) ?_
    refine va_get (D := (dC, dI)) (ci := 6) (v := .ref (a0 2)) (C := RX6) (T := TX6) (N := 11) hx hb hts i6 hown hK hP 0 rfl rfl 2 (by decide) (hts (.fieldLink RX6 13 "TwoMetalsModel" "realms" "[J") (List.mem_of_getElem? (i := 2) rfl)) (fun _ h9 => h9) rfl dX6_boughtOf_35 ?_
    refine lv_bipush (v := (9 : Int32)) hx hb dX6_boughtOf_38 (by decide) ?_
    refine lv_iload_n hx hb dX6_boughtOf_40 rfl (lv_at hl 3 rfl) ?_
    refine lv_imul hx hb dX6_boughtOf_41 ?_
    refine lv_iconst (v := (3 : Int32)) hx hb dX6_boughtOf_42 (by decide) ?_
    refine lv_iadd hx hb dX6_boughtOf_43 ?_
    obtain ⟨hi6, hm⟩ := ck_in hm
    refine va_lald hx hb hK hP 2 1 rfl rfl hi6 dX6_boughtOf_44 ?_
    refine lv_l2i (v := (r5.2.2 2 (((9 : Int32) * p2) + (3 : Int32)).toNatClampNeg).toInt32) hx hb dX6_boughtOf_45 rfl ?_
    exact hB46 r5.2 r5.1 ((r5.2.2 2 (((9 : Int32) * p2) + (3 : Int32)).toNatClampNeg).toInt32) _ _ ls hm hP hS (lv_sub hl [1, 0] rfl)
  replace hm := (if_neg hc).symm.trans hm
  refine lv_aload_n hx hb dX6_boughtOf_26 rfl (lv_at hl 1 rfl) ?_
  obtain ⟨r7, hr7, hm⟩ := bn_call hm
  refine ca_vl (wr := []) (wn := (o_X6 cy h0 a0 r5.2)) ⟨hx, hb, hml, hown, hts⟩ hK hA (hDa _) hP hS [0, 1, 2, 3, 4, 5, 6, 7, 8] [] [0, 1, 2, 3, 4, 5, 6, 7, 8] (fun sz => kcX6_ratio l dC dI cy fu h0 a0 r5.2 sz r7 hr7) rfl rfl (by decide) (by decide) (by decide) rfl (cwV 0 hts gX6_boughtOf_X6_ratio rfl rfl rfl ⟨rfl, ydX6_ratio⟩ ⟨Nat.le_of_ble_eq_true rfl, Nat.le_of_ble_eq_true rfl⟩) 6 0 rfl rfl rfl rfl hl.1 rfl (Nat.le_of_ble_eq_true rfl) dX6_boughtOf_27 ⟨Nat.zero_le _, Nat.zero_le _⟩ (fun H locs hP hS => ?_)
  refine lv_l2i (v := r7.toInt32) hx hb dX6_boughtOf_30 rfl ?_
  refine lv_goto (tgt := 46) hx hb dX6_boughtOf_31 (by decide) ?_
  exact hB46 r5.2 r5.1 r7.toInt32 _ _ ls hm hP hS (lv_sub hl [1, 0] rfl)
set_option maxHeartbeats 4000000 in
set_option maxRecDepth 100000 in
theorem kcX6_bought (l : Launch) (dC : Nat → ClassId) (dI : Nat → Nat → Nat) (cy : Nat → ClassId) (fu : Nat) (h0 : Nat) (a0 : Nat → Nat) (w0 : ob_T) (p1 : Int32) (p2 : Int32) (sz : Nat) (R : Int32 × ob_T) (hm : mX6_bought fu w0 p1 p2 = some R) : Met l yX6_bought wsX6_bought (rmN 5 121) (va_Pc [.ref h0, .int p1, .int p2] (cPre dC dI cy ((o_X6 cy h0 a0 w0)) sz)) (va_Qi (fun (r : Int32) (_ : Unit) => r = R.1) (fun _ => cPost dC dI cy ((o_X6 cy h0 a0 w0)) ((o_X6 cy h0 a0 R.2)) sz) (va_A ((o_X6 cy h0 a0 w0)) sz)) 0 0 (va_A ((o_X6 cy h0 a0 w0)) sz) := by
  refine mt_i (cc := cX6_bought) (maxL := 3) (by decide) rfl (Nat.le_of_ble_eq_true rfl) rfl ?_
  intro p e s m below meth c Q A hx hb hml hown hts hK hA hD hP hret ls hl
  have hown : s.vm.findClass RX6 = some m.cls := hown
  have hl : lv_has ls 3 [(0, .ref h0), (1, .int p1), (2, .int p2)] := hl
  have hDa : ∀ v0 : ob_T, va_D A ((o_X6 cy h0 a0 v0)) := fun _ => va_D_adr hD rfl
  have i6 : ∀ w ∈ wsX60, w ∈ wsX6_bought := fun _ h => List.mem_cons_of_mem _ (List.mem_append_right _ h)
  have hS : va_S A s.heap s.heap [] := va_S.rf
  have hB30 : ∀ (w0 : ob_T) (l1 : Int32) (l2 : Int32) (H : Heap) (locs : List Loc) (ls : Array Slot), bX6_bought_30 fu w0 l1 l2 = some R → va_P (dC, dI) vwCl ((o_X6 cy h0 a0 w0)) H → va_S A s.heap H locs → lv_has ls 3 [(0, .ref h0), (1, .int l1), (2, .int l2)] → W p l e (rmN 5 121) s m ([.ref h0, .int p1, .int p2] : List Value).toArray below meth c H locs 0 0 Q (F0 m 30 ls []) := by
    intro w0 l1 l2 H locs ls hm hP hS hl
    unfold bX6_bought_30 at hm
    refine lv_aload_n hx hb dX6_bought_30 rfl (lv_at hl 0 rfl) ?_
    refine lv_iload_n hx hb dX6_bought_31 rfl (lv_at hl 1 rfl) ?_
    refine lv_i2l (v := l1.toInt64) hx hb dX6_bought_32 rfl ?_
    refine lv_iload_n hx hb dX6_bought_33 rfl (lv_at hl 2 rfl) ?_
    obtain ⟨r1, hr1, hm⟩ := bn_call hm
    refine ca_vi (wr := []) (wn := (o_X6 cy h0 a0 r1.2)) ⟨hx, hb, hml, hown, hts⟩ hK hA (hDa _) hP hS [0, 1, 2, 3, 4, 5, 6, 7, 8] [] [0, 1, 2, 3, 4, 5, 6, 7, 8] (fun sz => kcX6_boughtOf l dC dI cy fu h0 a0 w0 l1.toInt64 l2 sz r1 hr1) rfl rfl (by decide) (by decide) (by decide) rfl (cwV 2 hts gX6_bought_X6_boughtOf rfl rfl rfl ⟨rfl, ydX6_boughtOf⟩ ⟨Nat.le_of_ble_eq_true rfl, Nat.le_of_ble_eq_true rfl⟩) 6 0 rfl rfl rfl rfl hl.1 rfl (Nat.le_of_ble_eq_true rfl) dX6_bought_34 ⟨Nat.zero_le _, Nat.zero_le _⟩ (fun H locs hP hS => ?_)
    obtain rfl := Option.some.inj hm
    exact hret 37 ls _ _ dX6_bought_37 hP hS
  unfold mX6_bought at hm
  refine lv_iload_n hx hb dX6_bought_0 rfl (lv_at hl 1 rfl) ?_
  refine lv_i2l (v := p1.toInt64) hx hb dX6_bought_1 rfl ?_
  refine lv_lconst (v := (0 : Int64)) hx hb dX6_bought_2 (by decide) ?_
  refine lv_aload_n hx hb dX6_bought_3 rfl (lv_at hl 0 rfl) ?_
  refine va_get (D := (dC, dI)) (ci := 6) (v := .ref (a0 3)) (C := RX6) (T := TX6) (N := 11) hx hb hts i6 hown hK hP 0 rfl rfl 3 (by decide) (hts (.fieldLink RX6 17 "TwoMetalsModel" "markets" "[J") (List.mem_of_getElem? (i := 1) rfl)) (fun _ h9 => h9) rfl dX6_bought_4 ?_
  refine lv_iconst (v := (0 : Int32)) hx hb dX6_bought_7 (by decide) ?_
  obtain ⟨hi2, hm⟩ := ck_in hm
  refine va_lald hx hb hK hP 3 1 rfl rfl hi2 dX6_bought_8 ?_
  obtain ⟨r3, hr3, hm⟩ := bn_call hm
  refine ca_si (wr := (o_X6 cy h0 a0 w0)) (wn := (o_X6 cy h0 a0 w0)) ⟨hx, hb, hml, hown, hts⟩ hK hA (hDa _) hP hS [] [0, 1, 2, 3, 4, 5, 6, 7, 8] [0, 1, 2, 3, 4, 5, 6, 7, 8] (fun sz => kcX6_in l dC dI cy fu p1.toInt64 (0 : Int64) (w0.2 3 (0 : Int32).toNatClampNeg) sz r3 hr3) rfl rfl (by decide) (by decide) (by decide) rfl (va_cwS 3 hts gX6_bought_X6_in rfl rfl rfl ydX6_in ⟨Nat.le_of_ble_eq_true rfl, Nat.le_of_ble_eq_true rfl⟩) rfl hl.1 rfl (Nat.le_of_ble_eq_true rfl) dX6_bought_9 ⟨Nat.zero_le _, Nat.zero_le _⟩ (fun H locs hP hS => ?_)
  refine lv_if_eq (tgt := 28) hx hb dX6_bought_12 (by decide) (fun hc => ?_) (fun hc => ?_)
  · replace hm := (if_pos hc).symm.trans hm
    refine lv_iconst (v := (-1 : Int32)) hx hb dX6_bought_28 (by decide) ?_
    obtain rfl := Option.some.inj hm
    exact hret 29 ls _ _ dX6_bought_29 hP hS
  replace hm := (if_neg hc).symm.trans hm
  refine lv_iload_n hx hb dX6_bought_15 rfl (lv_at hl 2 rfl) ?_
  refine lv_iconst (v := (-1 : Int32)) hx hb dX6_bought_16 (by decide) ?_
  refine lv_icmp_eq (tgt := 30) hx hb dX6_bought_17 (by decide) (fun hc => ?_) (fun hc => ?_)
  · replace hm := (if_pos hc).symm.trans hm
    exact hB30 w0 p1 p2 _ _ ls hm hP hS (lv_sub hl [0, 1, 2] rfl)
  replace hm := (if_neg hc).symm.trans hm
  refine lv_aload_n hx hb dX6_bought_20 rfl (lv_at hl 0 rfl) ?_
  refine lv_iload_n hx hb dX6_bought_21 rfl (lv_at hl 2 rfl) ?_
  obtain ⟨r4, hr4, hm⟩ := bn_call hm
  refine ca_vi (wr := []) (wn := (o_X6 cy h0 a0 w0)) ⟨hx, hb, hml, hown, hts⟩ hK hA (hDa _) hP hS [0, 1, 2, 3, 4, 5, 6, 7, 8] [] [0, 1, 2, 3, 4, 5, 6, 7, 8] (fun sz => kcX6_isRealm l dC dI cy fu h0 a0 w0 p2 sz r4 hr4) rfl rfl (by decide) (by decide) (by decide) rfl (cwV 1 hts gX6_bought_X6_isRealm rfl rfl rfl ⟨rfl, ydX6_isRealm⟩ ⟨Nat.le_of_ble_eq_true rfl, Nat.le_of_ble_eq_true rfl⟩) 6 0 rfl rfl rfl rfl hl.1 rfl (Nat.le_of_ble_eq_true rfl) dX6_bought_22 ⟨Nat.zero_le _, Nat.zero_le _⟩ (fun H locs hP hS => ?_)
  refine lv_if_ne (tgt := 30) hx hb dX6_bought_25 (by decide) (fun hc => ?_) (fun hc => ?_)
  · replace hm := (if_neg hc).symm.trans hm
    exact hB30 w0 p1 p2 _ _ ls hm hP hS (lv_sub hl [0, 1, 2] rfl)
  replace hm := (if_pos hc).symm.trans hm
  refine lv_iconst (v := (-1 : Int32)) hx hb dX6_bought_28 (by decide) ?_
  obtain rfl := Option.some.inj hm
  exact hret 29 ls _ _ dX6_bought_29 hP hS
set_option maxHeartbeats 4000000 in
set_option maxRecDepth 100000 in
theorem kcX6_corner (l : Launch) (dC : Nat → ClassId) (dI : Nat → Nat → Nat) (cy : Nat → ClassId) (fu : Nat) (h0 : Nat) (a0 : Nat → Nat) (w0 : ob_T) (p1 : Int32) (sz : Nat) (R : Int32 × ob_T) (hm : mX6_corner fu w0 p1 = some R) : Met l yX6_corner wsX6_corner (rmN 5 121) (va_Pc [.ref h0, .int p1] (cPre dC dI cy ((o_X6 cy h0 a0 w0)) sz)) (va_Qi (fun (r : Int32) (_ : Unit) => r = R.1) (fun _ => cPost dC dI cy ((o_X6 cy h0 a0 w0)) ((o_X6 cy h0 a0 R.2)) sz) (va_A ((o_X6 cy h0 a0 w0)) sz)) 0 0 (va_A ((o_X6 cy h0 a0 w0)) sz) := by
  refine mt_i (cc := cX6_corner) (maxL := 6) (by decide) rfl (Nat.le_of_ble_eq_true rfl) rfl ?_
  intro p e s m below meth c Q A hx hb hml hown hts hK hA hD hP hret ls hl
  have hown : s.vm.findClass RX6 = some m.cls := hown
  have hl : lv_has ls 6 [(0, .ref h0), (1, .int p1)] := hl
  have hDa : ∀ v0 : ob_T, va_D A ((o_X6 cy h0 a0 v0)) := fun _ => va_D_adr hD rfl
  have i6 : ∀ w ∈ wsX60, w ∈ wsX6_corner := fun _ h => List.mem_cons_of_mem _ (List.mem_append_right _ h)
  have hS : va_S A s.heap s.heap [] := va_S.rf
  have hB69 : ∀ (k31 : ob_T → Int32 → Int64 → Int64 → Option (Int32 × ob_T)) (_ : ∀ (w0 : ob_T) (l1 : Int32) (l2 : Int64) (l4 : Int64) (H : Heap) (locs : List Loc) (ls : Array Slot), k31 w0 l1 l2 l4 = some R → va_P (dC, dI) vwCl ((o_X6 cy h0 a0 w0)) H → va_S A s.heap H locs → lv_has ls 6 [(0, .ref h0), (1, .int l1), (2, .long l2), (4, .long l4)] → W p l e (rmN 5 121) s m ([.ref h0, .int p1] : List Value).toArray below meth c H locs 0 0 Q (F0 m 31 ls [])) (w0 : ob_T) (l1 : Int32) (l2 : Int64) (s0 : Int64) (H : Heap) (locs : List Loc) (ls : Array Slot), bX6_corner_69 fu k31 w0 l1 l2 s0 = some R → va_P (dC, dI) vwCl ((o_X6 cy h0 a0 w0)) H → va_S A s.heap H locs → lv_has ls 6 [(0, .ref h0), (1, .int l1), (2, .long l2)] → W p l e (rmN 5 121) s m ([.ref h0, .int p1] : List Value).toArray below meth c H locs 0 0 Q (F0 m 69 ls [.long s0]) := by
    intro k31 hk31 w0 l1 l2 s0 H locs ls hm hP hS hl
    unfold bX6_corner_69 at hm
    refine lv_lstore (lv' := [(4, .long s0), (0, .ref h0), (1, .int l1), (2, .long l2)]) hx hb dX6_corner_69 hl (by decide) rfl (fun ls hl => ?_)
    refine lv_goto (tgt := 31) hx hb dX6_corner_71 (by decide) ?_
    exact hk31 w0 l1 l2 s0 _ _ ls hm hP hS (lv_sub hl [1, 2, 3, 0] rfl)
  have hB31 : ∀ (nn : Nat) (w0 : ob_T) (l1 : Int32) (l2 : Int64) (l4 : Int64) (H : Heap) (locs : List Loc) (ls : Array Slot), bX6_corner_31 fu nn w0 l1 l2 l4 = some R → va_P (dC, dI) vwCl ((o_X6 cy h0 a0 w0)) H → va_S A s.heap H locs → lv_has ls 6 [(0, .ref h0), (1, .int l1), (2, .long l2), (4, .long l4)] → W p l e (rmN 5 121) s m ([.ref h0, .int p1] : List Value).toArray below meth c H locs 0 0 Q (F0 m 31 ls []) := by
    intro nn
    induction nn with
    | zero => intro w0 l1 l2 l4 H locs ls hm; exact no_some ((bX6_corner_31_0 fu w0 l1 l2 l4).symm.trans hm)
    | succ nn ih =>
      intro w0 l1 l2 l4 H locs ls hm hP hS hl
      replace hm := (bX6_corner_31_s fu nn w0 l1 l2 l4).symm.trans hm
      refine lv_lload hx hb dX6_corner_31 (lv_at hl 3 rfl) ?_
      refine lv_lload_n hx hb dX6_corner_33 rfl (lv_at hl 2 rfl) ?_
      refine W.lcmp hx hb dX6_corner_34 ?_
      refine lv_if_ge (tgt := 74) hx hb dX6_corner_35 (by decide) (fun hc => ?_) (fun hc => ?_)
      · replace hm := (if_pos hc).symm.trans hm
        refine lv_aload_n hx hb dX6_corner_74 rfl (lv_at hl 0 rfl) ?_
        refine lv_lload_n hx hb dX6_corner_75 rfl (lv_at hl 2 rfl) ?_
        refine lv_iload_n hx hb dX6_corner_76 rfl (lv_at hl 1 rfl) ?_
        obtain ⟨r1, hr1, hm⟩ := bn_call hm
        refine ca_vi (wr := []) (wn := (o_X6 cy h0 a0 r1.2)) ⟨hx, hb, hml, hown, hts⟩ hK hA (hDa _) hP hS [0, 1, 2, 3, 4, 5, 6, 7, 8] [] [0, 1, 2, 3, 4, 5, 6, 7, 8] (fun sz => kcX6_boughtOf l dC dI cy fu h0 a0 w0 l2 l1 sz r1 hr1) rfl rfl (by decide) (by decide) (by decide) rfl (cwV 2 hts gX6_corner_X6_boughtOf rfl rfl rfl ⟨rfl, ydX6_boughtOf⟩ ⟨Nat.le_of_ble_eq_true rfl, Nat.le_of_ble_eq_true rfl⟩) 6 0 rfl rfl rfl rfl hl.1 rfl (Nat.le_of_ble_eq_true rfl) dX6_corner_77 ⟨Nat.zero_le _, Nat.zero_le _⟩ (fun H locs hP hS => ?_)
        refine lv_if_ne (tgt := 88) hx hb dX6_corner_80 (by decide) (fun hc => ?_) (fun hc => ?_)
        · replace hm := (if_neg hc).symm.trans hm
          refine lv_bipush (v := (-4 : Int32)) hx hb dX6_corner_88 (by decide) ?_
          obtain rfl := Option.some.inj hm
          exact hret 90 ls _ _ dX6_corner_90 hP hS
        replace hm := (if_pos hc).symm.trans hm
        refine lv_lload_n hx hb dX6_corner_83 rfl (lv_at hl 2 rfl) ?_
        refine lv_l2i (v := l2.toInt32) hx hb dX6_corner_84 rfl ?_
        refine lv_goto (tgt := 90) hx hb dX6_corner_85 (by decide) ?_
        obtain rfl := Option.some.inj hm
        exact hret 90 ls _ _ dX6_corner_90 hP hS
      replace hm := (if_neg hc).symm.trans hm
      refine lv_aload_n hx hb dX6_corner_38 rfl (lv_at hl 0 rfl) ?_
      refine lv_lload hx hb dX6_corner_39 (lv_at hl 3 rfl) ?_
      refine lv_iload_n hx hb dX6_corner_41 rfl (lv_at hl 1 rfl) ?_
      obtain ⟨r2, hr2, hm⟩ := bn_call hm
      refine ca_vi (wr := []) (wn := (o_X6 cy h0 a0 r2.2)) ⟨hx, hb, hml, hown, hts⟩ hK hA (hDa _) hP hS [0, 1, 2, 3, 4, 5, 6, 7, 8] [] [0, 1, 2, 3, 4, 5, 6, 7, 8] (fun sz => kcX6_boughtOf l dC dI cy fu h0 a0 w0 l4 l1 sz r2 hr2) rfl rfl (by decide) (by decide) (by decide) rfl (cwV 2 hts gX6_corner_X6_boughtOf rfl rfl rfl ⟨rfl, ydX6_boughtOf⟩ ⟨Nat.le_of_ble_eq_true rfl, Nat.le_of_ble_eq_true rfl⟩) 6 0 rfl rfl rfl rfl hl.1 rfl (Nat.le_of_ble_eq_true rfl) dX6_corner_42 ⟨Nat.zero_le _, Nat.zero_le _⟩ (fun H locs hP hS => ?_)
      refine lv_if_ne (tgt := 52) hx hb dX6_corner_45 (by decide) (fun hc => ?_) (fun hc => ?_)
      · replace hm := (if_neg hc).symm.trans hm
        refine lv_lload hx hb dX6_corner_52 (lv_at hl 3 rfl) ?_
        refine lv_lconst (v := (0 : Int64)) hx hb dX6_corner_54 (by decide) ?_
        refine W.lcmp hx hb dX6_corner_55 ?_
        refine lv_if_ne (tgt := 63) hx hb dX6_corner_56 (by decide) (fun hc => ?_) (fun hc => ?_)
        · replace hm := (if_neg hc).symm.trans hm
          refine lv_ldc2 (v := (2 : Int64)) hx hb hown (hts (.constantLong RX6 174 (2)) (List.mem_of_getElem? (i := 2) rfl)) dX6_corner_63 ?_
          refine lv_lload hx hb dX6_corner_66 (lv_at hl 3 rfl) ?_
          refine lv_lmul hx hb dX6_corner_68 ?_
          exact hB69 (bX6_corner_31 fu nn) ih r2.2 l1 l2 ((2 : Int64) * l4) _ _ ls hm hP hS (lv_sub hl [0, 1, 2] rfl)
        replace hm := (if_pos hc).symm.trans hm
        refine lv_lconst (v := (1 : Int64)) hx hb dX6_corner_59 (by decide) ?_
        refine lv_goto (tgt := 69) hx hb dX6_corner_60 (by decide) ?_
        exact hB69 (bX6_corner_31 fu nn) ih r2.2 l1 l2 (1 : Int64) _ _ ls hm hP hS (lv_sub hl [0, 1, 2] rfl)
      replace hm := (if_pos hc).symm.trans hm
      refine lv_lload hx hb dX6_corner_48 (lv_at hl 3 rfl) ?_
      refine lv_l2i (v := l4.toInt32) hx hb dX6_corner_50 rfl ?_
      obtain rfl := Option.some.inj hm
      exact hret 51 ls _ _ dX6_corner_51 hP hS
  unfold mX6_corner at hm
  refine lv_aload_n hx hb dX6_corner_0 rfl (lv_at hl 0 rfl) ?_
  refine lv_iload_n hx hb dX6_corner_1 rfl (lv_at hl 1 rfl) ?_
  obtain ⟨r3, hr3, hm⟩ := bn_call hm
  refine ca_vi (wr := []) (wn := (o_X6 cy h0 a0 w0)) ⟨hx, hb, hml, hown, hts⟩ hK hA (hDa _) hP hS [0, 1, 2, 3, 4, 5, 6, 7, 8] [] [0, 1, 2, 3, 4, 5, 6, 7, 8] (fun sz => kcX6_isRealm l dC dI cy fu h0 a0 w0 p1 sz r3 hr3) rfl rfl (by decide) (by decide) (by decide) rfl (cwV 1 hts gX6_corner_X6_isRealm rfl rfl rfl ⟨rfl, ydX6_isRealm⟩ ⟨Nat.le_of_ble_eq_true rfl, Nat.le_of_ble_eq_true rfl⟩) 6 0 rfl rfl rfl rfl hl.1 rfl (Nat.le_of_ble_eq_true rfl) dX6_corner_2 ⟨Nat.zero_le _, Nat.zero_le _⟩ (fun H locs hP hS => ?_)
  refine lv_if_ne (tgt := 10) hx hb dX6_corner_5 (by decide) (fun hc => ?_) (fun hc => ?_)
  · replace hm := (if_neg hc).symm.trans hm
    refine lv_aload_n hx hb dX6_corner_10 rfl (lv_at hl 0 rfl) ?_
    refine lv_iload_n hx hb dX6_corner_11 rfl (lv_at hl 1 rfl) ?_
    obtain ⟨r4, hr4, hm⟩ := bn_call hm
    refine ca_vi (wr := []) (wn := (o_X6 cy h0 a0 w0)) ⟨hx, hb, hml, hown, hts⟩ hK hA (hDa _) hP hS [0, 1, 2, 3, 4, 5, 6, 7, 8] [] [0, 1, 2, 3, 4, 5, 6, 7, 8] (fun sz => kcX6_mints l dC dI cy fu h0 a0 w0 p1 sz r4 hr4) rfl rfl (by decide) (by decide) (by decide) rfl (cwV 1 hts gX6_corner_X6_mints rfl rfl rfl ⟨rfl, ydX6_mints⟩ ⟨Nat.le_of_ble_eq_true rfl, Nat.le_of_ble_eq_true rfl⟩) 6 0 rfl rfl rfl rfl hl.1 rfl (Nat.le_of_ble_eq_true rfl) dX6_corner_12 ⟨Nat.zero_le _, Nat.zero_le _⟩ (fun H locs hP hS => ?_)
    refine lv_if_ne (tgt := 21) hx hb dX6_corner_15 (by decide) (fun hc => ?_) (fun hc => ?_)
    · replace hm := (if_neg hc).symm.trans hm
      refine lv_aload_n hx hb dX6_corner_21 rfl (lv_at hl 0 rfl) ?_
      refine va_get (D := (dC, dI)) (ci := 6) (v := .ref (a0 3)) (C := RX6) (T := TX6) (N := 11) hx hb hts i6 hown hK hP 0 rfl rfl 3 (by decide) (hts (.fieldLink RX6 17 "TwoMetalsModel" "markets" "[J") (List.mem_of_getElem? (i := 1) rfl)) (fun _ h9 => h9) rfl dX6_corner_22 ?_
      refine lv_iconst (v := (0 : Int32)) hx hb dX6_corner_25 (by decide) ?_
      obtain ⟨hi5, hm⟩ := ck_in hm
      refine va_lald hx hb hK hP 3 1 rfl rfl hi5 dX6_corner_26 ?_
      refine lv_topl (fun x6 e7 => ?_)
      replace hm := bn_at e7 hm
      refine lv_lstore_n (lv' := [(2, .long x6), (0, .ref h0), (1, .int p1)]) hx hb dX6_corner_27 rfl hl (by decide) rfl (fun ls hl => ?_)
      refine lv_lconst (v := (0 : Int64)) hx hb dX6_corner_28 (by decide) ?_
      refine lv_lstore (lv' := [(4, .long (0 : Int64)), (2, .long x6), (0, .ref h0), (1, .int p1)]) hx hb dX6_corner_29 hl (by decide) rfl (fun ls hl => ?_)
      exact hB31 fu w0 p1 x6 (0 : Int64) _ _ ls hm hP hS (lv_sub hl [2, 3, 1, 0] rfl)
    replace hm := (if_pos hc).symm.trans hm
    refine lv_bipush (v := (-2 : Int32)) hx hb dX6_corner_18 (by decide) ?_
    obtain rfl := Option.some.inj hm
    exact hret 20 ls _ _ dX6_corner_20 hP hS
  replace hm := (if_pos hc).symm.trans hm
  refine lv_iconst (v := (-1 : Int32)) hx hb dX6_corner_8 (by decide) ?_
  obtain rfl := Option.some.inj hm
  exact hret 9 ls _ _ dX6_corner_9 hP hS
set_option maxHeartbeats 4000000 in
set_option maxRecDepth 100000 in
theorem kcX6_move (l : Launch) (dC : Nat → ClassId) (dI : Nat → Nat → Nat) (cy : Nat → ClassId) (fu : Nat) (h0 : Nat) (a0 : Nat → Nat) (w0 : ob_T) (p1 : Int32) (p2 : Int32) (sz : Nat) (R : Int32 × ob_T) (hm : mX6_move fu w0 p1 p2 = some R) : Met l yX6_move wsX6_move (rmN 2 46) (va_Pc [.ref h0, .int p1, .int p2] (cPre dC dI cy ((o_X6 cy h0 a0 w0)) sz)) (va_Qi (fun (r : Int32) (_ : Unit) => r = R.1) (fun _ => cPost dC dI cy ((o_X6 cy h0 a0 w0)) ((o_X6 cy h0 a0 R.2)) sz) (va_A ((o_X6 cy h0 a0 w0)) sz)) 0 0 (va_A ((o_X6 cy h0 a0 w0)) sz) := by
  refine mt_i (cc := cX6_move) (maxL := 4) (by decide) rfl (Nat.le_of_ble_eq_true rfl) rfl ?_
  intro p e s m below meth c Q A hx hb hml hown hts hK hA hD hP hret ls hl
  have hown : s.vm.findClass RX6 = some m.cls := hown
  have hl : lv_has ls 4 [(0, .ref h0), (1, .int p1), (2, .int p2)] := hl
  have hDa : ∀ v0 : ob_T, va_D A ((o_X6 cy h0 a0 v0)) := fun _ => va_D_adr hD rfl
  have i6 : ∀ w ∈ wsX60, w ∈ wsX6_move := fun _ h => List.mem_cons_of_mem _ (List.mem_append_right _ h)
  have hS : va_S A s.heap s.heap [] := va_S.rf
  unfold mX6_move at hm
  refine lv_aload_n hx hb dX6_move_0 rfl (lv_at hl 0 rfl) ?_
  refine lv_iload_n hx hb dX6_move_1 rfl (lv_at hl 1 rfl) ?_
  obtain ⟨r1, hr1, hm⟩ := bn_call hm
  refine ca_vi (wr := []) (wn := (o_X6 cy h0 a0 w0)) ⟨hx, hb, hml, hown, hts⟩ hK hA (hDa _) hP hS [0, 1, 2, 3, 4, 5, 6, 7, 8] [] [0, 1, 2, 3, 4, 5, 6, 7, 8] (fun sz => kcX6_isRealm l dC dI cy fu h0 a0 w0 p1 sz r1 hr1) rfl rfl (by decide) (by decide) (by decide) rfl (cwV 1 hts gX6_move_X6_isRealm rfl rfl rfl ⟨rfl, ydX6_isRealm⟩ ⟨Nat.le_of_ble_eq_true rfl, Nat.le_of_ble_eq_true rfl⟩) 6 0 rfl rfl rfl rfl hl.1 rfl (Nat.le_of_ble_eq_true rfl) dX6_move_2 ⟨Nat.zero_le _, Nat.zero_le _⟩ (fun H locs hP hS => ?_)
  refine lv_if_eq (tgt := 15) hx hb dX6_move_5 (by decide) (fun hc => ?_) (fun hc => ?_)
  · replace hm := (if_pos hc).symm.trans hm
    refine lv_iconst (v := (-1 : Int32)) hx hb dX6_move_15 (by decide) ?_
    obtain rfl := Option.some.inj hm
    exact hret 16 ls _ _ dX6_move_16 hP hS
  replace hm := (if_neg hc).symm.trans hm
  refine lv_iload_n hx hb dX6_move_8 rfl (lv_at hl 2 rfl) ?_
  obtain ⟨r2, hr2, hm⟩ := bn_call hm
  refine ca_si (wr := (o_X6 cy h0 a0 w0)) (wn := (o_X6 cy h0 a0 w0)) ⟨hx, hb, hml, hown, hts⟩ hK hA (hDa _) hP hS [] [0, 1, 2, 3, 4, 5, 6, 7, 8] [0, 1, 2, 3, 4, 5, 6, 7, 8] (fun sz => kcX6_isRatio l dC dI cy fu p2 sz r2 hr2) rfl rfl (by decide) (by decide) (by decide) rfl (va_cwS 1 hts gX6_move_X6_isRatio rfl rfl rfl ydX6_isRatio ⟨Nat.le_of_ble_eq_true rfl, Nat.le_of_ble_eq_true rfl⟩) rfl hl.1 rfl (Nat.le_of_ble_eq_true rfl) dX6_move_9 ⟨Nat.zero_le _, Nat.zero_le _⟩ (fun H locs hP hS => ?_)
  refine lv_if_ne (tgt := 17) hx hb dX6_move_12 (by decide) (fun hc => ?_) (fun hc => ?_)
  · replace hm := (if_neg hc).symm.trans hm
    refine lv_aload_n hx hb dX6_move_17 rfl (lv_at hl 0 rfl) ?_
    refine va_get (D := (dC, dI)) (ci := 6) (v := .ref (a0 2)) (C := RX6) (T := TX6) (N := 11) hx hb hts i6 hown hK hP 0 rfl rfl 2 (by decide) (hts (.fieldLink RX6 13 "TwoMetalsModel" "realms" "[J") (List.mem_of_getElem? (i := 1) rfl)) (fun _ h9 => h9) rfl dX6_move_18 ?_
    refine lv_bipush (v := (9 : Int32)) hx hb dX6_move_21 (by decide) ?_
    refine lv_iload_n hx hb dX6_move_23 rfl (lv_at hl 1 rfl) ?_
    refine lv_imul hx hb dX6_move_24 ?_
    obtain ⟨hi3, hm⟩ := ck_in hm
    refine va_lald hx hb hK hP 2 1 rfl rfl hi3 dX6_move_25 ?_
    refine lv_l2i (v := (w0.2 2 ((9 : Int32) * p1).toNatClampNeg).toInt32) hx hb dX6_move_26 rfl ?_
    refine lv_topi (fun x4 e5 => ?_)
    replace hm := bn_at e5 hm
    refine lv_istore_n (lv' := [(3, .int x4), (0, .ref h0), (1, .int p1), (2, .int p2)]) hx hb dX6_move_27 rfl hl (by decide) rfl (fun ls hl => ?_)
    refine lv_aload_n hx hb dX6_move_28 rfl (lv_at hl 1 rfl) ?_
    refine va_get (D := (dC, dI)) (ci := 6) (v := .ref (a0 2)) (C := RX6) (T := TX6) (N := 11) hx hb hts i6 hown hK hP 0 rfl rfl 2 (by decide) (hts (.fieldLink RX6 13 "TwoMetalsModel" "realms" "[J") (List.mem_of_getElem? (i := 1) rfl)) (fun _ h9 => h9) rfl dX6_move_29 ?_
    refine lv_bipush (v := (9 : Int32)) hx hb dX6_move_32 (by decide) ?_
    refine lv_iload_n hx hb dX6_move_34 rfl (lv_at hl 2 rfl) ?_
    refine lv_imul hx hb dX6_move_35 ?_
    refine lv_iload_n hx hb dX6_move_36 rfl (lv_at hl 3 rfl) ?_
    refine lv_i2l (v := p2.toInt64) hx hb dX6_move_37 rfl ?_
    refine va_last hx hb hK hP (hDa _) hS 2 1 rfl rfl hi3 dX6_move_38 (fun H locs hP _ hS => ?_)
    have hP : va_P (dC, dI) vwCl ((o_X6 cy h0 a0 (ob_L w0 2 (vp_updL (w0.2 2) ((9 : Int32) * p1).toNatClampNeg p2.toInt64)))) H := hP
    obtain ⟨u6, hP, hm⟩ := bn_ob (P := fun zz => va_P (dC, dI) vwCl ((o_X6 cy h0 a0 zz)) H) hm hP
    refine lv_iload_n hx hb dX6_move_39 rfl (lv_at hl 0 rfl) ?_
    obtain rfl := Option.some.inj hm
    exact hret 40 ls _ _ dX6_move_40 hP hS
  replace hm := (if_pos hc).symm.trans hm
  refine lv_iconst (v := (-1 : Int32)) hx hb dX6_move_15 (by decide) ?_
  obtain rfl := Option.some.inj hm
  exact hret 16 ls _ _ dX6_move_16 hP hS
set_option maxHeartbeats 4000000 in
set_option maxRecDepth 100000 in
theorem kcX6_melted (l : Launch) (dC : Nat → ClassId) (dI : Nat → Nat → Nat) (cy : Nat → ClassId) (fu : Nat) (h0 : Nat) (a0 : Nat → Nat) (w0 : ob_T) (sz : Nat) (R : Int32) (hm : mX6_melted fu w0 = some R) : Met l yX6_melted wsX6_melted (rmN 2 46) (va_Pc [.ref h0] (cPre dC dI cy ((o_X6 cy h0 a0 w0)) sz)) (va_Qi (fun (r : Int32) (_ : Unit) => r = R) (fun _ => cPost dC dI cy ((o_X6 cy h0 a0 w0)) ((o_X6 cy h0 a0 w0)) sz) (va_A ((o_X6 cy h0 a0 w0)) sz)) 0 0 (va_A ((o_X6 cy h0 a0 w0)) sz) := by
  refine mt_i (cc := cX6_melted) (maxL := 3) (by decide) rfl (Nat.le_of_ble_eq_true rfl) rfl ?_
  intro p e s m below meth c Q A hx hb hml hown hts hK hA hD hP hret ls hl
  have hown : s.vm.findClass RX6 = some m.cls := hown
  have hl : lv_has ls 3 [(0, .ref h0)] := hl
  have hDa : ∀ v0 : ob_T, va_D A ((o_X6 cy h0 a0 v0)) := fun _ => va_D_adr hD rfl
  have i6 : ∀ w ∈ wsX60, w ∈ wsX6_melted := fun _ h => List.mem_cons_of_mem _ (List.mem_append_right _ h)
  have hS : va_S A s.heap s.heap [] := va_S.rf
  have hB43 : ∀ (k4 : Int32 → Int32 → Option (Int32)) (_ : ∀ (l1 : Int32) (l2 : Int32) (H : Heap) (locs : List Loc) (ls : Array Slot), k4 l1 l2 = some R → va_P (dC, dI) vwCl ((o_X6 cy h0 a0 w0)) H → va_S A s.heap H locs → lv_has ls 3 [(0, .ref h0), (1, .int l1), (2, .int l2)] → W p l e (rmN 2 46) s m ([.ref h0] : List Value).toArray below meth c H locs 0 0 Q (F0 m 4 ls [])) (l2 : Int32) (s0 : Int32) (s1 : Int32) (H : Heap) (locs : List Loc) (ls : Array Slot), bX6_melted_43 fu w0 k4 l2 s0 s1 = some R → va_P (dC, dI) vwCl ((o_X6 cy h0 a0 w0)) H → va_S A s.heap H locs → lv_has ls 3 [(0, .ref h0), (2, .int l2)] → W p l e (rmN 2 46) s m ([.ref h0] : List Value).toArray below meth c H locs 0 0 Q (F0 m 43 ls [.int s0, .int s1]) := by
    intro k4 hk4 l2 s0 s1 H locs ls hm hP hS hl
    unfold bX6_melted_43 at hm
    refine lv_ior hx hb dX6_melted_43 ?_
    refine lv_topi (fun x1 e2 => ?_)
    replace hm := bn_at e2 hm
    refine lv_istore_n (lv' := [(1, .int x1), (0, .ref h0), (2, .int l2)]) hx hb dX6_melted_44 rfl hl (by decide) rfl (fun ls hl => ?_)
    obtain ⟨x3, e4⟩ : ∃ y : Int32, y = l2 + (1 : Int32) := ⟨_, rfl⟩
    replace hm := bn_at e4 hm
    refine lv_iinc (v := x3) (lv' := [(2, .int x3), (1, .int x1), (0, .ref h0)]) hx hb dX6_melted_45 hl (k := 2) rfl (by rw [e4]; rfl) (by decide) rfl (fun ls hl => ?_)
    refine lv_goto (tgt := 4) hx hb dX6_melted_48 (by decide) ?_
    exact hk4 x1 x3 _ _ ls hm hP hS (lv_sub hl [2, 1, 0] rfl)
  have hB4 : ∀ (nn : Nat) (l1 : Int32) (l2 : Int32) (H : Heap) (locs : List Loc) (ls : Array Slot), bX6_melted_4 fu w0 nn l1 l2 = some R → va_P (dC, dI) vwCl ((o_X6 cy h0 a0 w0)) H → va_S A s.heap H locs → lv_has ls 3 [(0, .ref h0), (1, .int l1), (2, .int l2)] → W p l e (rmN 2 46) s m ([.ref h0] : List Value).toArray below meth c H locs 0 0 Q (F0 m 4 ls []) := by
    intro nn
    induction nn with
    | zero => intro l1 l2 H locs ls hm; exact no_some ((bX6_melted_4_0 fu w0 l1 l2).symm.trans hm)
    | succ nn ih =>
      intro l1 l2 H locs ls hm hP hS hl
      replace hm := (bX6_melted_4_s fu w0 nn l1 l2).symm.trans hm
      refine lv_iload_n hx hb dX6_melted_4 rfl (lv_at hl 2 rfl) ?_
      refine lv_bipush (v := (8 : Int32)) hx hb dX6_melted_5 (by decide) ?_
      refine lv_icmp_ge (tgt := 51) hx hb dX6_melted_7 (by decide) (fun hc => ?_) (fun hc => ?_)
      · replace hm := (if_pos hc).symm.trans hm
        refine lv_iload_n hx hb dX6_melted_51 rfl (lv_at hl 1 rfl) ?_
        obtain rfl := Option.some.inj hm
        exact hret 52 ls _ _ dX6_melted_52 hP hS
      replace hm := (if_neg hc).symm.trans hm
      refine lv_iload_n hx hb dX6_melted_10 rfl (lv_at hl 1 rfl) ?_
      refine lv_aload_n hx hb dX6_melted_11 rfl (lv_at hl 0 rfl) ?_
      refine lv_iload_n hx hb dX6_melted_12 rfl (lv_at hl 2 rfl) ?_
      obtain ⟨r5, hr5, hm⟩ := bn_call hm
      refine ca_vi (wr := []) (wn := (o_X6 cy h0 a0 w0)) ⟨hx, hb, hml, hown, hts⟩ hK hA (hDa _) hP hS [0, 1, 2, 3, 4, 5, 6, 7, 8] [] [0, 1, 2, 3, 4, 5, 6, 7, 8] (fun sz => kcX6_isRealm l dC dI cy fu h0 a0 w0 l2 sz r5 hr5) rfl rfl (by decide) (by decide) (by decide) rfl (cwV 1 hts gX6_melted_X6_isRealm rfl rfl rfl ⟨rfl, ydX6_isRealm⟩ ⟨Nat.le_of_ble_eq_true rfl, Nat.le_of_ble_eq_true rfl⟩) 6 0 rfl rfl rfl rfl hl.1 rfl (Nat.le_of_ble_eq_true rfl) dX6_melted_13 ⟨Nat.zero_le _, Nat.zero_le _⟩ (fun H locs hP hS => ?_)
      refine lv_if_eq (tgt := 42) hx hb dX6_melted_16 (by decide) (fun hc => ?_) (fun hc => ?_)
      · replace hm := (if_pos hc).symm.trans hm
        refine lv_iconst (v := (0 : Int32)) hx hb dX6_melted_42 (by decide) ?_
        exact hB43 (bX6_melted_4 fu w0 nn) ih l2 (0 : Int32) l1 _ _ ls hm hP hS (lv_sub hl [0, 2] rfl)
      replace hm := (if_neg hc).symm.trans hm
      refine lv_aload_n hx hb dX6_melted_19 rfl (lv_at hl 0 rfl) ?_
      obtain ⟨r6, hr6, hm⟩ := bn_call hm
      refine ca_vl (wr := []) (wn := (o_X6 cy h0 a0 w0)) ⟨hx, hb, hml, hown, hts⟩ hK hA (hDa _) hP hS [0, 1, 2, 3, 4, 5, 6, 7, 8] [] [0, 1, 2, 3, 4, 5, 6, 7, 8] (fun sz => kcX6_ratio l dC dI cy fu h0 a0 w0 sz r6 hr6) rfl rfl (by decide) (by decide) (by decide) rfl (cwV 0 hts gX6_melted_X6_ratio rfl rfl rfl ⟨rfl, ydX6_ratio⟩ ⟨Nat.le_of_ble_eq_true rfl, Nat.le_of_ble_eq_true rfl⟩) 6 0 rfl rfl rfl rfl hl.1 rfl (Nat.le_of_ble_eq_true rfl) dX6_melted_20 ⟨Nat.zero_le _, Nat.zero_le _⟩ (fun H locs hP hS => ?_)
      refine lv_aload_n hx hb dX6_melted_23 rfl (lv_at hl 0 rfl) ?_
      refine va_get (D := (dC, dI)) (ci := 6) (v := .ref (a0 2)) (C := RX6) (T := TX6) (N := 11) hx hb hts i6 hown hK hP 0 rfl rfl 2 (by decide) (hts (.fieldLink RX6 13 "TwoMetalsModel" "realms" "[J") (List.mem_of_getElem? (i := 1) rfl)) (fun _ h9 => h9) rfl dX6_melted_24 ?_
      refine lv_bipush (v := (9 : Int32)) hx hb dX6_melted_27 (by decide) ?_
      refine lv_iload_n hx hb dX6_melted_29 rfl (lv_at hl 2 rfl) ?_
      refine lv_imul hx hb dX6_melted_30 ?_
      obtain ⟨hi7, hm⟩ := ck_in hm
      refine va_lald hx hb hK hP 2 1 rfl rfl hi7 dX6_melted_31 ?_
      refine W.lcmp hx hb dX6_melted_32 ?_
      refine lv_if_le (tgt := 42) hx hb dX6_melted_33 (by decide) (fun hc => ?_) (fun hc => ?_)
      · replace hm := (if_pos hc).symm.trans hm
        refine lv_iconst (v := (0 : Int32)) hx hb dX6_melted_42 (by decide) ?_
        exact hB43 (bX6_melted_4 fu w0 nn) ih l2 (0 : Int32) l1 _ _ ls hm hP hS (lv_sub hl [0, 2] rfl)
      replace hm := (if_neg hc).symm.trans hm
      refine lv_iconst (v := (1 : Int32)) hx hb dX6_melted_36 (by decide) ?_
      refine lv_iload_n hx hb dX6_melted_37 rfl (lv_at hl 2 rfl) ?_
      refine lv_ishl hx hb dX6_melted_38 ?_
      refine lv_goto (tgt := 43) hx hb dX6_melted_39 (by decide) ?_
      exact hB43 (bX6_melted_4 fu w0 nn) ih l2 ((1 : Int32) <<< (l2 &&& 31)) l1 _ _ ls hm hP hS (lv_sub hl [0, 2] rfl)
  unfold mX6_melted at hm
  refine lv_iconst (v := (0 : Int32)) hx hb dX6_melted_0 (by decide) ?_
  refine lv_istore_n (lv' := [(1, .int (0 : Int32)), (0, .ref h0)]) hx hb dX6_melted_1 rfl hl (by decide) rfl (fun ls hl => ?_)
  refine lv_iconst (v := (0 : Int32)) hx hb dX6_melted_2 (by decide) ?_
  refine lv_istore_n (lv' := [(2, .int (0 : Int32)), (1, .int (0 : Int32)), (0, .ref h0)]) hx hb dX6_melted_3 rfl hl (by decide) rfl (fun ls hl => ?_)
  exact hB4 fu (0 : Int32) (0 : Int32) _ _ ls hm hP hS (lv_sub hl [2, 1, 0] rfl)
set_option maxHeartbeats 4000000 in
set_option maxRecDepth 100000 in
theorem kcX6_keep (l : Launch) (dC : Nat → ClassId) (dI : Nat → Nat → Nat) (cy : Nat → ClassId) (fu : Nat) (h0 : Nat) (a0 : Nat → Nat) (w0 : ob_T) (sz : Nat) (R : Int32 × ob_T) (hm : mX6_keep fu w0 = some R) : Met l yX6_keep wsX6_keep (rmN 1 23) (va_Pc [.ref h0] (cPre dC dI cy ((o_X6 cy h0 a0 w0)) sz)) (va_Qi (fun (r : Int32) (_ : Unit) => r = R.1) (fun _ => cPost dC dI cy ((o_X6 cy h0 a0 w0)) ((o_X6 cy h0 a0 R.2)) sz) (va_A ((o_X6 cy h0 a0 w0)) sz)) 0 0 (va_A ((o_X6 cy h0 a0 w0)) sz) := by
  refine mt_i (cc := cX6_keep) (maxL := 1) (by decide) rfl (Nat.le_of_ble_eq_true rfl) rfl ?_
  intro p e s m below meth c Q A hx hb hml hown hts hK hA hD hP hret ls hl
  have hown : s.vm.findClass RX6 = some m.cls := hown
  have hl : lv_has ls 1 [(0, .ref h0)] := hl
  have hDa : ∀ v0 : ob_T, va_D A ((o_X6 cy h0 a0 v0)) := fun _ => va_D_adr hD rfl
  have i6 : ∀ w ∈ wsX60, w ∈ wsX6_keep := fun _ h => List.mem_cons_of_mem _ (List.mem_append_right _ h)
  have hS : va_S A s.heap s.heap [] := va_S.rf
  unfold mX6_keep at hm
  refine lv_aload_n hx hb dX6_keep_0 rfl (lv_at hl 0 rfl) ?_
  refine va_get (D := (dC, dI)) (ci := 6) (v := .int (w0.1 7 0)) (C := RX6) (T := TX6) (N := 11) hx hb hts i6 hown hK hP 0 rfl rfl 7 (by decide) (hts (.fieldLink RX6 100 "TwoMetalsModel" "keptMany" "I") (List.mem_of_getElem? (i := 1) rfl)) (fun _ h9 => h9) rfl dX6_keep_1 ?_
  refine lv_iconst (v := (2 : Int32)) hx hb dX6_keep_4 (by decide) ?_
  refine lv_icmp_ne (tgt := 11) hx hb dX6_keep_5 (by decide) (fun hc => ?_) (fun hc => ?_)
  · replace hm := (if_neg hc).symm.trans hm
    refine lv_aload_n hx hb dX6_keep_11 rfl (lv_at hl 0 rfl) ?_
    refine lv_iconst (v := (0 : Int32)) hx hb dX6_keep_12 (by decide) ?_
    refine lv_iconst (v := (1 : Int32)) hx hb dX6_keep_13 (by decide) ?_
    refine lv_aload_n hx hb dX6_keep_14 rfl (lv_at hl 0 rfl) ?_
    refine va_get (D := (dC, dI)) (ci := 6) (v := .int (w0.1 7 0)) (C := RX6) (T := TX6) (N := 11) hx hb hts i6 hown hK hP 0 rfl rfl 7 (by decide) (hts (.fieldLink RX6 100 "TwoMetalsModel" "keptMany" "I") (List.mem_of_getElem? (i := 1) rfl)) (fun _ h9 => h9) rfl dX6_keep_15 ?_
    refine lv_iadd hx hb dX6_keep_18 ?_
    obtain ⟨r1, hr1, hm⟩ := bn_call hm
    refine ca_vv (wr := []) (wn := (o_X6 cy h0 a0 r1)) ⟨hx, hb, hml, hown, hts⟩ hK hA (hDa _) hP hS [0, 1, 2, 3, 4, 5, 6, 7, 8] [] [0, 1, 2, 3, 4, 5, 6, 7, 8] (fun sz => kcX6_copy l dC dI cy fu h0 a0 w0 (0 : Int32) ((1 : Int32) + (w0.1 7 0)) sz r1 hr1) rfl rfl (by decide) (by decide) (by decide) rfl (cwV 2 hts gX6_keep_X6_copy rfl rfl rfl ⟨rfl, ydX6_copy⟩ ⟨Nat.le_of_ble_eq_true rfl, Nat.le_of_ble_eq_true rfl⟩) 6 0 rfl rfl rfl rfl hl.1 rfl (Nat.le_of_ble_eq_true rfl) dX6_keep_19 ⟨Nat.zero_le _, Nat.zero_le _⟩ (fun H locs hP hS => ?_)
    refine lv_aload_n hx hb dX6_keep_22 rfl (lv_at hl 0 rfl) ?_
    refine lv_dup hx hb dX6_keep_23 rfl ?_
    refine va_get (D := (dC, dI)) (ci := 6) (v := .int (r1.1 7 0)) (C := RX6) (T := TX6) (N := 11) hx hb hts i6 hown hK hP 0 rfl rfl 7 (by decide) (hts (.fieldLink RX6 100 "TwoMetalsModel" "keptMany" "I") (List.mem_of_getElem? (i := 1) rfl)) (fun _ h9 => h9) rfl dX6_keep_24 ?_
    refine lv_iconst (v := (1 : Int32)) hx hb dX6_keep_27 (by decide) ?_
    refine lv_iadd hx hb dX6_keep_28 ?_
    refine va_put (D := (dC, dI)) (ci := 6) (v := .int ((r1.1 7 0) + (1 : Int32))) (ty := .int) (C := RX6) (T := TX6) (N := 11) hx hb hts i6 tyX6 tyX6_ok nmX6 hown hK hP (hDa _) hS 0 rfl rfl 7 (by decide) (hts (.fieldLink RX6 100 "TwoMetalsModel" "keptMany" "I") (List.mem_of_getElem? (i := 1) rfl)) (fun _ h9 => h9) rfl (tyX6_ok 7 (by decide)) rfl rfl (Nat.le_of_ble_eq_true rfl) dX6_keep_29 (fun H locs hP _ hS => ?_)
    have hP : va_P (dC, dI) vwCl ((o_X6 cy h0 a0 (ob_I r1 7 (fun _ => (r1.1 7 0) + (1 : Int32))))) H := hP
    obtain ⟨u2, hP, hm⟩ := bn_ob (P := fun zz => va_P (dC, dI) vwCl ((o_X6 cy h0 a0 zz)) H) hm hP
    refine lv_aload_n hx hb dX6_keep_32 rfl (lv_at hl 0 rfl) ?_
    refine va_get (D := (dC, dI)) (ci := 6) (v := .int (u2.1 7 0)) (C := RX6) (T := TX6) (N := 11) hx hb hts i6 hown hK hP 0 rfl rfl 7 (by decide) (hts (.fieldLink RX6 100 "TwoMetalsModel" "keptMany" "I") (List.mem_of_getElem? (i := 1) rfl)) (fun _ h9 => h9) rfl dX6_keep_33 ?_
    obtain rfl := Option.some.inj hm
    exact hret 36 ls _ _ dX6_keep_36 hP hS
  replace hm := (if_pos hc).symm.trans hm
  refine lv_bipush (v := (-3 : Int32)) hx hb dX6_keep_8 (by decide) ?_
  obtain rfl := Option.some.inj hm
  exact hret 10 ls _ _ dX6_keep_10 hP hS
set_option maxHeartbeats 4000000 in
set_option maxRecDepth 100000 in
theorem kcX6_back (l : Launch) (dC : Nat → ClassId) (dI : Nat → Nat → Nat) (cy : Nat → ClassId) (fu : Nat) (h0 : Nat) (a0 : Nat → Nat) (w0 : ob_T) (sz : Nat) (R : Int32 × ob_T) (hm : mX6_back fu w0 = some R) : Met l yX6_back wsX6_back (rmN 1 23) (va_Pc [.ref h0] (cPre dC dI cy ((o_X6 cy h0 a0 w0)) sz)) (va_Qi (fun (r : Int32) (_ : Unit) => r = R.1) (fun _ => cPost dC dI cy ((o_X6 cy h0 a0 w0)) ((o_X6 cy h0 a0 R.2)) sz) (va_A ((o_X6 cy h0 a0 w0)) sz)) 0 0 (va_A ((o_X6 cy h0 a0 w0)) sz) := by
  refine mt_i (cc := cX6_back) (maxL := 1) (by decide) rfl (Nat.le_of_ble_eq_true rfl) rfl ?_
  intro p e s m below meth c Q A hx hb hml hown hts hK hA hD hP hret ls hl
  have hown : s.vm.findClass RX6 = some m.cls := hown
  have hl : lv_has ls 1 [(0, .ref h0)] := hl
  have hDa : ∀ v0 : ob_T, va_D A ((o_X6 cy h0 a0 v0)) := fun _ => va_D_adr hD rfl
  have i6 : ∀ w ∈ wsX60, w ∈ wsX6_back := fun _ h => List.mem_cons_of_mem _ (List.mem_append_right _ h)
  have hS : va_S A s.heap s.heap [] := va_S.rf
  unfold mX6_back at hm
  refine lv_aload_n hx hb dX6_back_0 rfl (lv_at hl 0 rfl) ?_
  refine va_get (D := (dC, dI)) (ci := 6) (v := .int (w0.1 7 0)) (C := RX6) (T := TX6) (N := 11) hx hb hts i6 hown hK hP 0 rfl rfl 7 (by decide) (hts (.fieldLink RX6 100 "TwoMetalsModel" "keptMany" "I") (List.mem_of_getElem? (i := 1) rfl)) (fun _ h9 => h9) rfl dX6_back_1 ?_
  refine lv_if_ne (tgt := 10) hx hb dX6_back_4 (by decide) (fun hc => ?_) (fun hc => ?_)
  · replace hm := (if_neg hc).symm.trans hm
    refine lv_aload_n hx hb dX6_back_10 rfl (lv_at hl 0 rfl) ?_
    refine lv_dup hx hb dX6_back_11 rfl ?_
    refine va_get (D := (dC, dI)) (ci := 6) (v := .int (w0.1 7 0)) (C := RX6) (T := TX6) (N := 11) hx hb hts i6 hown hK hP 0 rfl rfl 7 (by decide) (hts (.fieldLink RX6 100 "TwoMetalsModel" "keptMany" "I") (List.mem_of_getElem? (i := 1) rfl)) (fun _ h9 => h9) rfl dX6_back_12 ?_
    refine lv_iconst (v := (1 : Int32)) hx hb dX6_back_15 (by decide) ?_
    refine lv_isub hx hb dX6_back_16 ?_
    refine va_put (D := (dC, dI)) (ci := 6) (v := .int ((w0.1 7 0) - (1 : Int32))) (ty := .int) (C := RX6) (T := TX6) (N := 11) hx hb hts i6 tyX6 tyX6_ok nmX6 hown hK hP (hDa _) hS 0 rfl rfl 7 (by decide) (hts (.fieldLink RX6 100 "TwoMetalsModel" "keptMany" "I") (List.mem_of_getElem? (i := 1) rfl)) (fun _ h9 => h9) rfl (tyX6_ok 7 (by decide)) rfl rfl (Nat.le_of_ble_eq_true rfl) dX6_back_17 (fun H locs hP _ hS => ?_)
    have hP : va_P (dC, dI) vwCl ((o_X6 cy h0 a0 (ob_I w0 7 (fun _ => (w0.1 7 0) - (1 : Int32))))) H := hP
    obtain ⟨u1, hP, hm⟩ := bn_ob (P := fun zz => va_P (dC, dI) vwCl ((o_X6 cy h0 a0 zz)) H) hm hP
    refine lv_aload_n hx hb dX6_back_20 rfl (lv_at hl 0 rfl) ?_
    refine lv_iconst (v := (1 : Int32)) hx hb dX6_back_21 (by decide) ?_
    refine lv_aload_n hx hb dX6_back_22 rfl (lv_at hl 0 rfl) ?_
    refine va_get (D := (dC, dI)) (ci := 6) (v := .int (u1.1 7 0)) (C := RX6) (T := TX6) (N := 11) hx hb hts i6 hown hK hP 0 rfl rfl 7 (by decide) (hts (.fieldLink RX6 100 "TwoMetalsModel" "keptMany" "I") (List.mem_of_getElem? (i := 1) rfl)) (fun _ h9 => h9) rfl dX6_back_23 ?_
    refine lv_iadd hx hb dX6_back_26 ?_
    refine lv_iconst (v := (0 : Int32)) hx hb dX6_back_27 (by decide) ?_
    obtain ⟨r2, hr2, hm⟩ := bn_call hm
    refine ca_vv (wr := []) (wn := (o_X6 cy h0 a0 r2)) ⟨hx, hb, hml, hown, hts⟩ hK hA (hDa _) hP hS [0, 1, 2, 3, 4, 5, 6, 7, 8] [] [0, 1, 2, 3, 4, 5, 6, 7, 8] (fun sz => kcX6_copy l dC dI cy fu h0 a0 u1 ((1 : Int32) + (u1.1 7 0)) (0 : Int32) sz r2 hr2) rfl rfl (by decide) (by decide) (by decide) rfl (cwV 2 hts gX6_back_X6_copy rfl rfl rfl ⟨rfl, ydX6_copy⟩ ⟨Nat.le_of_ble_eq_true rfl, Nat.le_of_ble_eq_true rfl⟩) 6 0 rfl rfl rfl rfl hl.1 rfl (Nat.le_of_ble_eq_true rfl) dX6_back_28 ⟨Nat.zero_le _, Nat.zero_le _⟩ (fun H locs hP hS => ?_)
    refine lv_aload_n hx hb dX6_back_31 rfl (lv_at hl 0 rfl) ?_
    refine va_get (D := (dC, dI)) (ci := 6) (v := .int (r2.1 7 0)) (C := RX6) (T := TX6) (N := 11) hx hb hts i6 hown hK hP 0 rfl rfl 7 (by decide) (hts (.fieldLink RX6 100 "TwoMetalsModel" "keptMany" "I") (List.mem_of_getElem? (i := 1) rfl)) (fun _ h9 => h9) rfl dX6_back_32 ?_
    obtain rfl := Option.some.inj hm
    exact hret 35 ls _ _ dX6_back_35 hP hS
  replace hm := (if_pos hc).symm.trans hm
  refine lv_bipush (v := (-2 : Int32)) hx hb dX6_back_7 (by decide) ?_
  obtain rfl := Option.some.inj hm
  exact hret 9 ls _ _ dX6_back_9 hP hS
set_option maxHeartbeats 4000000 in
set_option maxRecDepth 100000 in
theorem kcX6_count (l : Launch) (dC : Nat → ClassId) (dI : Nat → Nat → Nat) (cy : Nat → ClassId) (fu : Nat) (h0 : Nat) (a0 : Nat → Nat) (w0 : ob_T) (p1 : Int32) (sz : Nat) (R : Int32) (hm : mX6_count fu w0 p1 = some R) : Met l yX6_count wsX6_count (rmN 3 69) (va_Pc [.ref h0, .int p1] (cPre dC dI cy ((o_X6 cy h0 a0 w0)) sz)) (va_Qi (fun (r : Int32) (_ : Unit) => r = R) (fun _ => cPost dC dI cy ((o_X6 cy h0 a0 w0)) ((o_X6 cy h0 a0 w0)) sz) (va_A ((o_X6 cy h0 a0 w0)) sz)) 0 0 (va_A ((o_X6 cy h0 a0 w0)) sz) := by
  refine mt_i (cc := cX6_count) (maxL := 5) (by decide) rfl (Nat.le_of_ble_eq_true rfl) rfl ?_
  intro p e s m below meth c Q A hx hb hml hown hts hK hA hD hP hret ls hl
  have hown : s.vm.findClass RX6 = some m.cls := hown
  have hl : lv_has ls 5 [(0, .ref h0), (1, .int p1)] := hl
  have hDa : ∀ v0 : ob_T, va_D A ((o_X6 cy h0 a0 v0)) := fun _ => va_D_adr hD rfl
  have i6 : ∀ w ∈ wsX60, w ∈ wsX6_count := fun _ h => List.mem_cons_of_mem _ (List.mem_append_right _ h)
  have hS : va_S A s.heap s.heap [] := va_S.rf
  have hB64 : ∀ (nn : Nat) (l2 : Int64) (l4 : Int32) (H : Heap) (locs : List Loc) (ls : Array Slot), bX6_count_64 fu w0 nn l2 l4 = some R → va_P (dC, dI) vwCl ((o_X6 cy h0 a0 w0)) H → va_S A s.heap H locs → lv_has ls 5 [(0, .ref h0), (2, .long l2), (4, .int l4)] → W p l e (rmN 3 69) s m ([.ref h0, .int p1] : List Value).toArray below meth c H locs 0 0 Q (F0 m 64 ls []) := by
    intro nn
    induction nn with
    | zero => intro l2 l4 H locs ls hm; exact no_some ((bX6_count_64_0 fu w0 l2 l4).symm.trans hm)
    | succ nn ih =>
      intro l2 l4 H locs ls hm hP hS hl
      replace hm := (bX6_count_64_s fu w0 nn l2 l4).symm.trans hm
      refine lv_iload hx hb dX6_count_64 (lv_at hl 2 rfl) ?_
      refine lv_bipush (v := (8 : Int32)) hx hb dX6_count_66 (by decide) ?_
      refine lv_icmp_ge (tgt := 92) hx hb dX6_count_68 (by decide) (fun hc => ?_) (fun hc => ?_)
      · replace hm := (if_pos hc).symm.trans hm
        refine lv_lload_n hx hb dX6_count_92 rfl (lv_at hl 1 rfl) ?_
        refine lv_l2i (v := l2.toInt32) hx hb dX6_count_93 rfl ?_
        obtain rfl := Option.some.inj hm
        exact hret 94 ls _ _ dX6_count_94 hP hS
      replace hm := (if_neg hc).symm.trans hm
      refine lv_lload_n hx hb dX6_count_71 rfl (lv_at hl 1 rfl) ?_
      refine lv_aload_n hx hb dX6_count_72 rfl (lv_at hl 0 rfl) ?_
      refine va_get (D := (dC, dI)) (ci := 6) (v := .ref (a0 2)) (C := RX6) (T := TX6) (N := 11) hx hb hts i6 hown hK hP 0 rfl rfl 2 (by decide) (hts (.fieldLink RX6 13 "TwoMetalsModel" "realms" "[J") (List.mem_of_getElem? (i := 3) rfl)) (fun _ h9 => h9) rfl dX6_count_73 ?_
      refine lv_bipush (v := (9 : Int32)) hx hb dX6_count_76 (by decide) ?_
      refine lv_iload hx hb dX6_count_78 (lv_at hl 2 rfl) ?_
      refine lv_imul hx hb dX6_count_80 ?_
      refine lv_iconst (v := (3 : Int32)) hx hb dX6_count_81 (by decide) ?_
      refine lv_iadd hx hb dX6_count_82 ?_
      obtain ⟨hi1, hm⟩ := ck_in hm
      refine va_lald hx hb hK hP 2 1 rfl rfl hi1 dX6_count_83 ?_
      refine lv_ladd hx hb dX6_count_84 ?_
      refine lv_topl (fun x2 e3 => ?_)
      replace hm := bn_at e3 hm
      refine lv_lstore_n (lv' := [(2, .long x2), (0, .ref h0), (4, .int l4)]) hx hb dX6_count_85 rfl hl (by decide) rfl (fun ls hl => ?_)
      obtain ⟨x4, e5⟩ : ∃ y : Int32, y = l4 + (1 : Int32) := ⟨_, rfl⟩
      replace hm := bn_at e5 hm
      refine lv_iinc (v := x4) (lv' := [(4, .int x4), (2, .long x2), (0, .ref h0)]) hx hb dX6_count_86 hl (k := 2) rfl (by rw [e5]; rfl) (by decide) rfl (fun ls hl => ?_)
      refine lv_goto (tgt := 64) hx hb dX6_count_89 (by decide) ?_
      exact ih x2 x4 _ _ ls hm hP hS (lv_sub hl [2, 1, 0] rfl)
  unfold mX6_count at hm
  refine lv_aload_n hx hb dX6_count_0 rfl (lv_at hl 0 rfl) ?_
  refine va_get (D := (dC, dI)) (ci := 6) (v := .ref (a0 3)) (C := RX6) (T := TX6) (N := 11) hx hb hts i6 hown hK hP 0 rfl rfl 3 (by decide) (hts (.fieldLink RX6 17 "TwoMetalsModel" "markets" "[J") (List.mem_of_getElem? (i := 1) rfl)) (fun _ h9 => h9) rfl dX6_count_1 ?_
  refine lv_iconst (v := (0 : Int32)) hx hb dX6_count_4 (by decide) ?_
  obtain ⟨hi6, hm⟩ := ck_in hm
  refine va_lald hx hb hK hP 3 1 rfl rfl hi6 dX6_count_5 ?_
  refine lv_topl (fun x7 e8 => ?_)
  replace hm := bn_at e8 hm
  refine lv_lstore_n (lv' := [(2, .long x7), (0, .ref h0), (1, .int p1)]) hx hb dX6_count_6 rfl hl (by decide) rfl (fun ls hl => ?_)
  refine lv_iload_n hx hb dX6_count_7 rfl (lv_at hl 2 rfl) ?_
  by_cases hv9 : p1 = (0 : Int32)
  · replace hm := (if_pos hv9).symm.trans hm
    refine W.eq (g2 := F0 m 8 ls (.int (0 : Int32) :: [])) (by rw [hv9]) ?_
    refine lv_tableIn (tgt := 44) hx hb dX6_count_8 (by decide) (by decide) rfl (by decide) ?_
    refine lv_aload_n hx hb dX6_count_44 rfl (lv_at hl 1 rfl) ?_
    refine lv_iconst (v := (0 : Int32)) hx hb dX6_count_45 (by decide) ?_
    obtain ⟨r10, hr10, hm⟩ := bn_call hm
    refine ca_vi (wr := []) (wn := (o_X6 cy h0 a0 w0)) ⟨hx, hb, hml, hown, hts⟩ hK hA (hDa _) hP hS [0, 1, 2, 3, 4, 5, 6, 7, 8] [] [0, 1, 2, 3, 4, 5, 6, 7, 8] (fun sz => kcX6_realmMany l dC dI cy fu h0 a0 w0 (0 : Int32) sz r10 hr10) rfl rfl (by decide) (by decide) (by decide) rfl (cwV 1 hts gX6_count_X6_realmMany rfl rfl rfl ⟨rfl, ydX6_realmMany⟩ ⟨Nat.le_of_ble_eq_true rfl, Nat.le_of_ble_eq_true rfl⟩) 6 0 rfl rfl rfl rfl hl.1 rfl (Nat.le_of_ble_eq_true rfl) dX6_count_46 ⟨Nat.zero_le _, Nat.zero_le _⟩ (fun H locs hP hS => ?_)
    obtain rfl := Option.some.inj hm
    exact hret 49 ls _ _ dX6_count_49 hP hS
  replace hm := (if_neg hv9).symm.trans hm
  by_cases hv11 : p1 = (1 : Int32)
  · replace hm := (if_pos hv11).symm.trans hm
    refine W.eq (g2 := F0 m 8 ls (.int (1 : Int32) :: [])) (by rw [hv11]) ?_
    refine lv_tableIn (tgt := 50) hx hb dX6_count_8 (by decide) (by decide) rfl (by decide) ?_
    refine lv_aload_n hx hb dX6_count_50 rfl (lv_at hl 1 rfl) ?_
    refine va_get (D := (dC, dI)) (ci := 6) (v := .int (w0.1 0 0)) (C := RX6) (T := TX6) (N := 11) hx hb hts i6 hown hK hP 0 rfl rfl 0 (by decide) (hts (.fieldLink RX6 47 "TwoMetalsModel" "length" "I") (List.mem_of_getElem? (i := 2) rfl)) (fun _ h9 => h9) rfl dX6_count_51 ?_
    obtain rfl := Option.some.inj hm
    exact hret 54 ls _ _ dX6_count_54 hP hS
  replace hm := (if_neg hv11).symm.trans hm
  by_cases hv12 : p1 = (2 : Int32)
  · replace hm := (if_pos hv12).symm.trans hm
    refine W.eq (g2 := F0 m 8 ls (.int (2 : Int32) :: [])) (by rw [hv12]) ?_
    refine lv_tableIn (tgt := 55) hx hb dX6_count_8 (by decide) (by decide) rfl (by decide) ?_
    refine lv_aload_n hx hb dX6_count_55 rfl (lv_at hl 1 rfl) ?_
    refine lv_iconst (v := (1 : Int32)) hx hb dX6_count_56 (by decide) ?_
    obtain ⟨r13, hr13, hm⟩ := bn_call hm
    refine ca_vi (wr := []) (wn := (o_X6 cy h0 a0 w0)) ⟨hx, hb, hml, hown, hts⟩ hK hA (hDa _) hP hS [0, 1, 2, 3, 4, 5, 6, 7, 8] [] [0, 1, 2, 3, 4, 5, 6, 7, 8] (fun sz => kcX6_realmMany l dC dI cy fu h0 a0 w0 (1 : Int32) sz r13 hr13) rfl rfl (by decide) (by decide) (by decide) rfl (cwV 1 hts gX6_count_X6_realmMany rfl rfl rfl ⟨rfl, ydX6_realmMany⟩ ⟨Nat.le_of_ble_eq_true rfl, Nat.le_of_ble_eq_true rfl⟩) 6 0 rfl rfl rfl rfl hl.1 rfl (Nat.le_of_ble_eq_true rfl) dX6_count_57 ⟨Nat.zero_le _, Nat.zero_le _⟩ (fun H locs hP hS => ?_)
    obtain rfl := Option.some.inj hm
    exact hret 60 ls _ _ dX6_count_60 hP hS
  replace hm := (if_neg hv12).symm.trans hm
  by_cases hv14 : p1 = (3 : Int32)
  · replace hm := (if_pos hv14).symm.trans hm
    refine W.eq (g2 := F0 m 8 ls (.int (3 : Int32) :: [])) (by rw [hv14]) ?_
    refine lv_tableIn (tgt := 61) hx hb dX6_count_8 (by decide) (by decide) rfl (by decide) ?_
    refine lv_iconst (v := (0 : Int32)) hx hb dX6_count_61 (by decide) ?_
    refine lv_istore (lv' := [(4, .int (0 : Int32)), (2, .long x7), (0, .ref h0), (1, .int p1)]) hx hb dX6_count_62 hl (by decide) rfl (fun ls hl => ?_)
    exact hB64 fu x7 (0 : Int32) _ _ ls hm hP hS (lv_sub hl [2, 1, 0] rfl)
  replace hm := (if_neg hv14).symm.trans hm
  by_cases hv15 : p1 = (4 : Int32)
  · replace hm := (if_pos hv15).symm.trans hm
    refine W.eq (g2 := F0 m 8 ls (.int (4 : Int32) :: [])) (by rw [hv15]) ?_
    refine lv_tableIn (tgt := 95) hx hb dX6_count_8 (by decide) (by decide) rfl (by decide) ?_
    refine lv_aload_n hx hb dX6_count_95 rfl (lv_at hl 1 rfl) ?_
    refine va_get (D := (dC, dI)) (ci := 6) (v := .int (w0.1 7 0)) (C := RX6) (T := TX6) (N := 11) hx hb hts i6 hown hK hP 0 rfl rfl 7 (by decide) (hts (.fieldLink RX6 100 "TwoMetalsModel" "keptMany" "I") (List.mem_of_getElem? (i := 4) rfl)) (fun _ h9 => h9) rfl dX6_count_96 ?_
    obtain rfl := Option.some.inj hm
    exact hret 99 ls _ _ dX6_count_99 hP hS
  replace hm := (if_neg hv15).symm.trans hm
  refine lv_tableOut (tgt := 100) hx hb dX6_count_8 (by
      have hv9 := sw_ne hv9 (z := 0) rfl
      have hv11 := sw_ne hv11 (z := 1) rfl
      have hv12 := sw_ne hv12 (z := 2) rfl
      have hv14 := sw_ne hv14 (z := 3) rfl
      have hv15 := sw_ne hv15 (z := 4) rfl
      omega) (by decide) ?_
  refine lv_iconst (v := (-1 : Int32)) hx hb dX6_count_100 (by decide) ?_
  obtain rfl := Option.some.inj hm
  exact hret 101 ls _ _ dX6_count_101 hP hS
