set_option maxHeartbeats 4000000 in
set_option maxRecDepth 100000 in
theorem kcX5_free (l : Launch) (dC : Nat → ClassId) (dI : Nat → Nat → Nat) (cy : Nat → ClassId) (fu : Nat) (h0 : Nat) (a0 : Nat → Nat) (w0 : ob_T) (a1 : Nat → Nat) (w1 : ob_T) (a2 : Nat → Nat) (w2 : ob_T) (a3 : Nat → Nat) (w3 : ob_T) (a4 : Nat → Nat) (w4 : ob_T) (p1 : Int32) (sz : Nat) (R : Int32 × ob_T × ob_T) (hm : mX5_free fu w0 w1 w2 w3 w4 p1 = some R) : Met l yX5_free wsX5_free (rmN 5 122) (va_Pc [.ref h0, .int p1] (cPre dC dI cy ((o_X5 cy h0 a0 w0) ++ (o_X1 cy (a0 2) a1 w1) ++ (o_X4 cy (a0 4) a2 w2) ++ (o_X4 cy (a0 5) a3 w3) ++ (o_X0 cy (a0 3) a4 w4)) sz)) (va_Qi (fun (r : Int32) (_ : Unit) => r = R.1) (fun _ => cPost dC dI cy ((o_X5 cy h0 a0 w0) ++ (o_X1 cy (a0 2) a1 w1) ++ (o_X4 cy (a0 4) a2 w2) ++ (o_X4 cy (a0 5) a3 w3) ++ (o_X0 cy (a0 3) a4 w4)) ((o_X5 cy h0 a0 w0) ++ (o_X1 cy (a0 2) a1 R.2.1) ++ (o_X4 cy (a0 4) a2 w2) ++ (o_X4 cy (a0 5) a3 R.2.2) ++ (o_X0 cy (a0 3) a4 w4)) sz) (va_A ((o_X5 cy h0 a0 w0) ++ (o_X1 cy (a0 2) a1 w1) ++ (o_X4 cy (a0 4) a2 w2) ++ (o_X4 cy (a0 5) a3 w3) ++ (o_X0 cy (a0 3) a4 w4)) sz)) 0 0 (va_A ((o_X5 cy h0 a0 w0) ++ (o_X1 cy (a0 2) a1 w1) ++ (o_X4 cy (a0 4) a2 w2) ++ (o_X4 cy (a0 5) a3 w3) ++ (o_X0 cy (a0 3) a4 w4)) sz) := by
  refine mt_i (cc := cX5_free) (maxL := 3) (by decide) rfl (Nat.le_of_ble_eq_true rfl) rfl ?_
  intro p e s m below meth c Q A hx hb hml hown hts hK hA hD hP hret ls hl
  have hown : s.vm.findClass RX5 = some m.cls := hown
  have hl : lv_has ls 3 [(0, .ref h0), (1, .int p1)] := hl
  have hDa : ∀ v0 v1 v2 v3 v4 : ob_T, va_D A ((o_X5 cy h0 a0 v0) ++ (o_X1 cy (a0 2) a1 v1) ++ (o_X4 cy (a0 4) a2 v2) ++ (o_X4 cy (a0 5) a3 v3) ++ (o_X0 cy (a0 3) a4 v4)) := fun _ _ _ _ _ => va_D_adr hD rfl
  have i5 : ∀ w ∈ wsX50, w ∈ wsX5_free := fun _ h => List.mem_cons_of_mem _ (List.mem_append_left _ (List.mem_append_left _ (List.mem_append_left _ (List.mem_append_right _ h))))
  have hS : va_S A s.heap s.heap [] := va_S.rf
  have hB22 : ∀ (nn : Nat) (w1 : ob_T) (w3 : ob_T) (l1 : Int32) (l2 : Int32) (H : Heap) (locs : List Loc) (ls : Array Slot), bX5_free_22 fu w0 w2 w4 nn w1 w3 l1 l2 = some R → va_P (dC, dI) vwCl ((o_X5 cy h0 a0 w0) ++ (o_X1 cy (a0 2) a1 w1) ++ (o_X4 cy (a0 4) a2 w2) ++ (o_X4 cy (a0 5) a3 w3) ++ (o_X0 cy (a0 3) a4 w4)) H → va_S A s.heap H locs → lv_has ls 3 [(0, .ref h0), (1, .int l1), (2, .int l2)] → W p l e (rmN 5 122) s m ([.ref h0, .int p1] : List Value).toArray below meth c H locs 0 0 Q (F0 m 22 ls []) := by
    intro nn
    induction nn with
    | zero => intro w1 w3 l1 l2 H locs ls hm; exact no_some ((bX5_free_22_0 fu w0 w2 w4 w1 w3 l1 l2).symm.trans hm)
    | succ nn ih =>
      intro w1 w3 l1 l2 H locs ls hm hP hS hl
      replace hm := (bX5_free_22_s fu w0 w2 w4 nn w1 w3 l1 l2).symm.trans hm
      refine lv_iload_n hx hb dX5_free_22 rfl (lv_at hl 2 rfl) ?_
      refine lv_iload_n hx hb dX5_free_23 rfl (lv_at hl 1 rfl) ?_
      refine lv_icmp_gt (tgt := 61) hx hb dX5_free_24 (by decide) (fun hc => ?_) (fun hc => ?_)
      · replace hm := (if_pos hc).symm.trans hm
        refine lv_bipush (v := (-4 : Int32)) hx hb dX5_free_61 (by decide) ?_
        obtain rfl := Option.some.inj hm
        exact hret 63 ls _ _ dX5_free_63 hP hS
      replace hm := (if_neg hc).symm.trans hm
      refine lv_aload_n hx hb dX5_free_27 rfl (lv_at hl 0 rfl) ?_
      refine va_get (D := (dC, dI)) (ci := 5) (v := .ref (a0 2)) (C := RX5) (T := TX5) (N := 8) hx hb hts i5 hown hK hP 0 rfl rfl 2 (by decide) (hts (.fieldLink RX5 26 "TwoMetals" "mover" "LTwoMetals$Mover;") (List.mem_of_getElem? (i := 3) rfl)) (fun _ h9 => h9) rfl dX5_free_28 ?_
      refine lv_aload_n hx hb dX5_free_31 rfl (lv_at hl 0 rfl) ?_
      refine va_get (D := (dC, dI)) (ci := 5) (v := .ref (a0 5)) (C := RX5) (T := TX5) (N := 8) hx hb hts i5 hown hK hP 0 rfl rfl 5 (by decide) (hts (.fieldLink RX5 44 "TwoMetals" "trial" "LTwoMetals$World;") (List.mem_of_getElem? (i := 1) rfl)) (fun _ h9 => h9) rfl dX5_free_32 ?_
      refine lv_aload_n hx hb dX5_free_35 rfl (lv_at hl 0 rfl) ?_
      refine va_get (D := (dC, dI)) (ci := 5) (v := .ref (a0 3)) (C := RX5) (T := TX5) (N := 8) hx hb hts i5 hown hK hP 0 rfl rfl 3 (by decide) (hts (.fieldLink RX5 33 "TwoMetals" "mines" "LTwoMetals$Mines;") (List.mem_of_getElem? (i := 4) rfl)) (fun _ h9 => h9) rfl dX5_free_36 ?_
      obtain ⟨r1, hr1, hm⟩ := bn_call hm
      refine ca_vi (wr := (o_X5 cy h0 a0 w0) ++ (o_X4 cy (a0 4) a2 w2)) (wn := (o_X5 cy h0 a0 w0) ++ (o_X1 cy (a0 2) a1 r1.2.1) ++ (o_X4 cy (a0 4) a2 w2) ++ (o_X4 cy (a0 5) a3 r1.2.2) ++ (o_X0 cy (a0 3) a4 w4)) ⟨hx, hb, hml, hown, hts⟩ hK hA (hDa _ _ _ _ _) hP hS [2, 3, 4, 15, 16, 17, 18, 19, 20, 21, 22, 23, 24, 25, 26, 27, 28] [0, 1, 5, 6, 7, 8, 9, 10, 11, 12, 13, 14] [0, 1, 12, 13, 14, 2, 3, 4, 5, 6, 7, 8, 9, 10, 11, 15, 16, 17, 18, 19, 20, 21, 22, 23, 24, 25, 26, 27, 28] (fun sz => kcX1_passYear l dC dI cy fu (a0 2) a1 w1 (a0 5) a3 w3 (a0 3) a4 w4 sz r1 hr1) rfl rfl (by decide) (by decide) (by decide) rfl (cwV 2 hts gX5_free_X1_passYear rfl rfl rfl ⟨rfl, ydX1_passYear⟩ ⟨Nat.le_of_ble_eq_true rfl, Nat.le_of_ble_eq_true rfl⟩) 1 0 rfl rfl rfl rfl hl.1 rfl (Nat.le_of_ble_eq_true rfl) dX5_free_39 ⟨Nat.zero_le _, Nat.zero_le _⟩ (fun H locs hP hS => ?_)
      refine lv_pop hx hb dX5_free_42 rfl ?_
      refine lv_aload_n hx hb dX5_free_43 rfl (lv_at hl 0 rfl) ?_
      refine va_get (D := (dC, dI)) (ci := 5) (v := .ref (a0 5)) (C := RX5) (T := TX5) (N := 8) hx hb hts i5 hown hK hP 0 rfl rfl 5 (by decide) (hts (.fieldLink RX5 44 "TwoMetals" "trial" "LTwoMetals$World;") (List.mem_of_getElem? (i := 1) rfl)) (fun _ h9 => h9) rfl dX5_free_44 ?_
      obtain ⟨r2, hr2, hm⟩ := bn_call hm
      refine ca_vi (wr := (o_X5 cy h0 a0 w0) ++ (o_X1 cy (a0 2) a1 r1.2.1) ++ (o_X4 cy (a0 4) a2 w2) ++ (o_X0 cy (a0 3) a4 w4)) (wn := (o_X5 cy h0 a0 w0) ++ (o_X1 cy (a0 2) a1 r1.2.1) ++ (o_X4 cy (a0 4) a2 w2) ++ (o_X4 cy (a0 5) a3 r1.2.2) ++ (o_X0 cy (a0 3) a4 w4)) ⟨hx, hb, hml, hown, hts⟩ hK hA (hDa _ _ _ _ _) hP hS [15, 16, 17, 18, 19, 20, 21, 22, 23, 24] [0, 1, 2, 3, 4, 5, 6, 7, 8, 9, 10, 11, 12, 13, 14, 25, 26, 27, 28] [0, 1, 2, 3, 4, 5, 6, 7, 8, 9, 10, 11, 12, 13, 14, 19, 20, 21, 22, 23, 24, 25, 26, 27, 28, 15, 16, 17, 18] (fun sz => kcX4_holders l dC dI cy fu (a0 5) a3 r1.2.2 sz r2 hr2) rfl rfl (by decide) (by decide) (by decide) rfl (cwV 0 hts gX5_free_X4_holders rfl rfl rfl ⟨rfl, ydX4_holders⟩ ⟨Nat.le_of_ble_eq_true rfl, Nat.le_of_ble_eq_true rfl⟩) 4 0 rfl rfl rfl rfl hl.1 rfl (Nat.le_of_ble_eq_true rfl) dX5_free_47 ⟨Nat.zero_le _, Nat.zero_le _⟩ (fun H locs hP hS => ?_)
      refine lv_if_ne (tgt := 55) hx hb dX5_free_50 (by decide) (fun hc => ?_) (fun hc => ?_)
      · replace hm := (if_neg hc).symm.trans hm
        obtain ⟨x3, e4⟩ : ∃ y : Int32, y = l2 + (1 : Int32) := ⟨_, rfl⟩
        replace hm := bn_at e4 hm
        refine lv_iinc (v := x3) (lv' := [(2, .int x3), (0, .ref h0), (1, .int l1)]) hx hb dX5_free_55 hl (k := 2) rfl (by rw [e4]; rfl) (by decide) rfl (fun ls hl => ?_)
        refine lv_goto (tgt := 22) hx hb dX5_free_58 (by decide) ?_
        exact ih r1.2.1 r1.2.2 l1 x3 _ _ ls hm hP hS (lv_sub hl [1, 2, 0] rfl)
      replace hm := (if_pos hc).symm.trans hm
      refine lv_iload_n hx hb dX5_free_53 rfl (lv_at hl 2 rfl) ?_
      obtain rfl := Option.some.inj hm
      exact hret 54 ls _ _ dX5_free_54 hP hS
  unfold mX5_free at hm
  refine lv_iload_n hx hb dX5_free_0 rfl (lv_at hl 1 rfl) ?_
  obtain ⟨r5, hr5, hm⟩ := bn_call hm
  refine ca_si (wr := (o_X5 cy h0 a0 w0) ++ (o_X1 cy (a0 2) a1 w1) ++ (o_X4 cy (a0 4) a2 w2) ++ (o_X4 cy (a0 5) a3 w3) ++ (o_X0 cy (a0 3) a4 w4)) (wn := (o_X5 cy h0 a0 w0) ++ (o_X1 cy (a0 2) a1 w1) ++ (o_X4 cy (a0 4) a2 w2) ++ (o_X4 cy (a0 5) a3 w3) ++ (o_X0 cy (a0 3) a4 w4)) ⟨hx, hb, hml, hown, hts⟩ hK hA (hDa _ _ _ _ _) hP hS [] [0, 1, 2, 3, 4, 5, 6, 7, 8, 9, 10, 11, 12, 13, 14, 15, 16, 17, 18, 19, 20, 21, 22, 23, 24, 25, 26, 27, 28] [0, 1, 2, 3, 4, 5, 6, 7, 8, 9, 10, 11, 12, 13, 14, 15, 16, 17, 18, 19, 20, 21, 22, 23, 24, 25, 26, 27, 28] (fun sz => kcX5_isSpanOfYears l dC dI cy fu p1 sz r5 hr5) rfl rfl (by decide) (by decide) (by decide) rfl (va_cwS 1 hts gX5_free_X5_isSpanOfYears rfl rfl rfl ydX5_isSpanOfYears ⟨Nat.le_of_ble_eq_true rfl, Nat.le_of_ble_eq_true rfl⟩) rfl hl.1 rfl (Nat.le_of_ble_eq_true rfl) dX5_free_1 ⟨Nat.zero_le _, Nat.zero_le _⟩ (fun H locs hP hS => ?_)
  refine lv_if_ne (tgt := 9) hx hb dX5_free_4 (by decide) (fun hc => ?_) (fun hc => ?_)
  · replace hm := (if_neg hc).symm.trans hm
    refine lv_aload_n hx hb dX5_free_9 rfl (lv_at hl 0 rfl) ?_
    refine va_get (D := (dC, dI)) (ci := 5) (v := .ref (a0 5)) (C := RX5) (T := TX5) (N := 8) hx hb hts i5 hown hK hP 0 rfl rfl 5 (by decide) (hts (.fieldLink RX5 44 "TwoMetals" "trial" "LTwoMetals$World;") (List.mem_of_getElem? (i := 1) rfl)) (fun _ h9 => h9) rfl dX5_free_10 ?_
    refine lv_aload_n hx hb dX5_free_13 rfl (lv_at hl 0 rfl) ?_
    refine va_get (D := (dC, dI)) (ci := 5) (v := .ref (a0 4)) (C := RX5) (T := TX5) (N := 8) hx hb hts i5 hown hK hP 0 rfl rfl 4 (by decide) (hts (.fieldLink RX5 40 "TwoMetals" "now" "LTwoMetals$World;") (List.mem_of_getElem? (i := 2) rfl)) (fun _ h9 => h9) rfl dX5_free_14 ?_
    obtain ⟨r6, hr6, hm⟩ := bn_call hm
    refine ca_vv (wr := (o_X5 cy h0 a0 w0) ++ (o_X1 cy (a0 2) a1 w1) ++ (o_X0 cy (a0 3) a4 w4)) (wn := (o_X5 cy h0 a0 w0) ++ (o_X1 cy (a0 2) a1 w1) ++ (o_X4 cy (a0 4) a2 w2) ++ (o_X4 cy (a0 5) a3 r6) ++ (o_X0 cy (a0 3) a4 w4)) ⟨hx, hb, hml, hown, hts⟩ hK hA (hDa _ _ _ _ _) hP hS [15, 16, 17, 18, 19, 20, 21, 22, 23, 24, 5, 6, 7, 8, 9, 10, 11, 12, 13, 14] [0, 1, 2, 3, 4, 25, 26, 27, 28] [0, 1, 2, 3, 4, 19, 20, 21, 22, 23, 24, 25, 26, 27, 28, 9, 10, 11, 12, 13, 14, 15, 16, 17, 18, 5, 6, 7, 8] (fun sz => kcX4_copyFrom l dC dI cy fu (a0 5) a3 w3 (a0 4) a2 w2 sz r6 hr6) rfl rfl (by decide) (by decide) (by decide) rfl (cwV 1 hts gX5_free_X4_copyFrom rfl rfl rfl ⟨rfl, ydX4_copyFrom⟩ ⟨Nat.le_of_ble_eq_true rfl, Nat.le_of_ble_eq_true rfl⟩) 4 0 rfl rfl rfl rfl hl.1 rfl (Nat.le_of_ble_eq_true rfl) dX5_free_17 ⟨Nat.zero_le _, Nat.zero_le _⟩ (fun H locs hP hS => ?_)
    refine lv_iconst (v := (1 : Int32)) hx hb dX5_free_20 (by decide) ?_
    refine lv_istore_n (lv' := [(2, .int (1 : Int32)), (0, .ref h0), (1, .int p1)]) hx hb dX5_free_21 rfl hl (by decide) rfl (fun ls hl => ?_)
    exact hB22 fu w1 r6 p1 (1 : Int32) _ _ ls hm hP hS (lv_sub hl [1, 2, 0] rfl)
  replace hm := (if_pos hc).symm.trans hm
  refine lv_iconst (v := (-1 : Int32)) hx hb dX5_free_7 (by decide) ?_
  obtain rfl := Option.some.inj hm
  exact hret 8 ls _ _ dX5_free_8 hP hS
set_option maxHeartbeats 4000000 in
set_option maxRecDepth 100000 in
theorem kcX5_ahead (l : Launch) (dC : Nat → ClassId) (dI : Nat → Nat → Nat) (cy : Nat → ClassId) (fu : Nat) (h0 : Nat) (a0 : Nat → Nat) (w0 : ob_T) (a1 : Nat → Nat) (w1 : ob_T) (a2 : Nat → Nat) (w2 : ob_T) (a3 : Nat → Nat) (w3 : ob_T) (a4 : Nat → Nat) (w4 : ob_T) (p1 : Int32) (sz : Nat) (R : Int32 × ob_T × ob_T) (hm : mX5_ahead fu w0 w1 w2 w3 w4 p1 = some R) : Met l yX5_ahead wsX5_ahead (rmN 5 122) (va_Pc [.ref h0, .int p1] (cPre dC dI cy ((o_X5 cy h0 a0 w0) ++ (o_X1 cy (a0 2) a1 w1) ++ (o_X4 cy (a0 4) a2 w2) ++ (o_X4 cy (a0 5) a3 w3) ++ (o_X0 cy (a0 3) a4 w4)) sz)) (va_Qi (fun (r : Int32) (_ : Unit) => r = R.1) (fun _ => cPost dC dI cy ((o_X5 cy h0 a0 w0) ++ (o_X1 cy (a0 2) a1 w1) ++ (o_X4 cy (a0 4) a2 w2) ++ (o_X4 cy (a0 5) a3 w3) ++ (o_X0 cy (a0 3) a4 w4)) ((o_X5 cy h0 a0 w0) ++ (o_X1 cy (a0 2) a1 R.2.1) ++ (o_X4 cy (a0 4) a2 w2) ++ (o_X4 cy (a0 5) a3 R.2.2) ++ (o_X0 cy (a0 3) a4 w4)) sz) (va_A ((o_X5 cy h0 a0 w0) ++ (o_X1 cy (a0 2) a1 w1) ++ (o_X4 cy (a0 4) a2 w2) ++ (o_X4 cy (a0 5) a3 w3) ++ (o_X0 cy (a0 3) a4 w4)) sz)) 0 0 (va_A ((o_X5 cy h0 a0 w0) ++ (o_X1 cy (a0 2) a1 w1) ++ (o_X4 cy (a0 4) a2 w2) ++ (o_X4 cy (a0 5) a3 w3) ++ (o_X0 cy (a0 3) a4 w4)) sz) := by
  refine mt_i (cc := cX5_ahead) (maxL := 3) (by decide) rfl (Nat.le_of_ble_eq_true rfl) rfl ?_
  intro p e s m below meth c Q A hx hb hml hown hts hK hA hD hP hret ls hl
  have hown : s.vm.findClass RX5 = some m.cls := hown
  have hl : lv_has ls 3 [(0, .ref h0), (1, .int p1)] := hl
  have hDa : ∀ v0 v1 v2 v3 v4 : ob_T, va_D A ((o_X5 cy h0 a0 v0) ++ (o_X1 cy (a0 2) a1 v1) ++ (o_X4 cy (a0 4) a2 v2) ++ (o_X4 cy (a0 5) a3 v3) ++ (o_X0 cy (a0 3) a4 v4)) := fun _ _ _ _ _ => va_D_adr hD rfl
  have i4 : ∀ w ∈ wsX40, w ∈ wsX5_ahead := fun _ h => List.mem_cons_of_mem _ (List.mem_append_left _ (List.mem_append_left _ (List.mem_append_right _ h)))
  have i5 : ∀ w ∈ wsX50, w ∈ wsX5_ahead := fun _ h => List.mem_cons_of_mem _ (List.mem_append_left _ (List.mem_append_left _ (List.mem_append_left _ (List.mem_append_right _ h))))
  have hS : va_S A s.heap s.heap [] := va_S.rf
  have hB22 : ∀ (nn : Nat) (w1 : ob_T) (w3 : ob_T) (l1 : Int32) (l2 : Int32) (H : Heap) (locs : List Loc) (ls : Array Slot), bX5_ahead_22 fu w0 w2 w4 nn w1 w3 l1 l2 = some R → va_P (dC, dI) vwCl ((o_X5 cy h0 a0 w0) ++ (o_X1 cy (a0 2) a1 w1) ++ (o_X4 cy (a0 4) a2 w2) ++ (o_X4 cy (a0 5) a3 w3) ++ (o_X0 cy (a0 3) a4 w4)) H → va_S A s.heap H locs → lv_has ls 3 [(0, .ref h0), (1, .int l1), (2, .int l2)] → W p l e (rmN 5 122) s m ([.ref h0, .int p1] : List Value).toArray below meth c H locs 0 0 Q (F0 m 22 ls []) := by
    intro nn
    induction nn with
    | zero => intro w1 w3 l1 l2 H locs ls hm; exact no_some ((bX5_ahead_22_0 fu w0 w2 w4 w1 w3 l1 l2).symm.trans hm)
    | succ nn ih =>
      intro w1 w3 l1 l2 H locs ls hm hP hS hl
      replace hm := (bX5_ahead_22_s fu w0 w2 w4 nn w1 w3 l1 l2).symm.trans hm
      refine lv_iload_n hx hb dX5_ahead_22 rfl (lv_at hl 2 rfl) ?_
      refine lv_iload_n hx hb dX5_ahead_23 rfl (lv_at hl 1 rfl) ?_
      refine lv_icmp_gt (tgt := 49) hx hb dX5_ahead_24 (by decide) (fun hc => ?_) (fun hc => ?_)
      · replace hm := (if_pos hc).symm.trans hm
        refine lv_aload_n hx hb dX5_ahead_49 rfl (lv_at hl 0 rfl) ?_
        refine va_get (D := (dC, dI)) (ci := 5) (v := .ref (a0 5)) (C := RX5) (T := TX5) (N := 8) hx hb hts i5 hown hK hP 0 rfl rfl 5 (by decide) (hts (.fieldLink RX5 44 "TwoMetals" "trial" "LTwoMetals$World;") (List.mem_of_getElem? (i := 1) rfl)) (fun _ h9 => h9) rfl dX5_ahead_50 ?_
        refine va_get (D := (dC, dI)) (ci := 4) (v := .int (w3.1 15 0)) (C := RX4) (T := TX4) (N := 17) hx hb hts i4 hown hK hP 15 rfl rfl 15 (by decide) (hts (.fieldLink RX5 128 "TwoMetals$World" "price" "I") (List.mem_of_getElem? (i := 5) rfl)) (fun _ h9 => h9) rfl dX5_ahead_53 ?_
        obtain rfl := Option.some.inj hm
        exact hret 56 ls _ _ dX5_ahead_56 hP hS
      replace hm := (if_neg hc).symm.trans hm
      refine lv_aload_n hx hb dX5_ahead_27 rfl (lv_at hl 0 rfl) ?_
      refine va_get (D := (dC, dI)) (ci := 5) (v := .ref (a0 2)) (C := RX5) (T := TX5) (N := 8) hx hb hts i5 hown hK hP 0 rfl rfl 2 (by decide) (hts (.fieldLink RX5 26 "TwoMetals" "mover" "LTwoMetals$Mover;") (List.mem_of_getElem? (i := 3) rfl)) (fun _ h9 => h9) rfl dX5_ahead_28 ?_
      refine lv_aload_n hx hb dX5_ahead_31 rfl (lv_at hl 0 rfl) ?_
      refine va_get (D := (dC, dI)) (ci := 5) (v := .ref (a0 5)) (C := RX5) (T := TX5) (N := 8) hx hb hts i5 hown hK hP 0 rfl rfl 5 (by decide) (hts (.fieldLink RX5 44 "TwoMetals" "trial" "LTwoMetals$World;") (List.mem_of_getElem? (i := 1) rfl)) (fun _ h9 => h9) rfl dX5_ahead_32 ?_
      refine lv_aload_n hx hb dX5_ahead_35 rfl (lv_at hl 0 rfl) ?_
      refine va_get (D := (dC, dI)) (ci := 5) (v := .ref (a0 3)) (C := RX5) (T := TX5) (N := 8) hx hb hts i5 hown hK hP 0 rfl rfl 3 (by decide) (hts (.fieldLink RX5 33 "TwoMetals" "mines" "LTwoMetals$Mines;") (List.mem_of_getElem? (i := 4) rfl)) (fun _ h9 => h9) rfl dX5_ahead_36 ?_
      obtain ⟨r1, hr1, hm⟩ := bn_call hm
      refine ca_vi (wr := (o_X5 cy h0 a0 w0) ++ (o_X4 cy (a0 4) a2 w2)) (wn := (o_X5 cy h0 a0 w0) ++ (o_X1 cy (a0 2) a1 r1.2.1) ++ (o_X4 cy (a0 4) a2 w2) ++ (o_X4 cy (a0 5) a3 r1.2.2) ++ (o_X0 cy (a0 3) a4 w4)) ⟨hx, hb, hml, hown, hts⟩ hK hA (hDa _ _ _ _ _) hP hS [2, 3, 4, 15, 16, 17, 18, 19, 20, 21, 22, 23, 24, 25, 26, 27, 28] [0, 1, 5, 6, 7, 8, 9, 10, 11, 12, 13, 14] [0, 1, 12, 13, 14, 2, 3, 4, 5, 6, 7, 8, 9, 10, 11, 15, 16, 17, 18, 19, 20, 21, 22, 23, 24, 25, 26, 27, 28] (fun sz => kcX1_passYear l dC dI cy fu (a0 2) a1 w1 (a0 5) a3 w3 (a0 3) a4 w4 sz r1 hr1) rfl rfl (by decide) (by decide) (by decide) rfl (cwV 2 hts gX5_ahead_X1_passYear rfl rfl rfl ⟨rfl, ydX1_passYear⟩ ⟨Nat.le_of_ble_eq_true rfl, Nat.le_of_ble_eq_true rfl⟩) 1 0 rfl rfl rfl rfl hl.1 rfl (Nat.le_of_ble_eq_true rfl) dX5_ahead_39 ⟨Nat.zero_le _, Nat.zero_le _⟩ (fun H locs hP hS => ?_)
      refine lv_pop hx hb dX5_ahead_42 rfl ?_
      obtain ⟨x2, e3⟩ : ∃ y : Int32, y = l2 + (1 : Int32) := ⟨_, rfl⟩
      replace hm := bn_at e3 hm
      refine lv_iinc (v := x2) (lv' := [(2, .int x2), (0, .ref h0), (1, .int l1)]) hx hb dX5_ahead_43 hl (k := 2) rfl (by rw [e3]; rfl) (by decide) rfl (fun ls hl => ?_)
      refine lv_goto (tgt := 22) hx hb dX5_ahead_46 (by decide) ?_
      exact ih r1.2.1 r1.2.2 l1 x2 _ _ ls hm hP hS (lv_sub hl [1, 2, 0] rfl)
  unfold mX5_ahead at hm
  refine lv_iload_n hx hb dX5_ahead_0 rfl (lv_at hl 1 rfl) ?_
  obtain ⟨r4, hr4, hm⟩ := bn_call hm
  refine ca_si (wr := (o_X5 cy h0 a0 w0) ++ (o_X1 cy (a0 2) a1 w1) ++ (o_X4 cy (a0 4) a2 w2) ++ (o_X4 cy (a0 5) a3 w3) ++ (o_X0 cy (a0 3) a4 w4)) (wn := (o_X5 cy h0 a0 w0) ++ (o_X1 cy (a0 2) a1 w1) ++ (o_X4 cy (a0 4) a2 w2) ++ (o_X4 cy (a0 5) a3 w3) ++ (o_X0 cy (a0 3) a4 w4)) ⟨hx, hb, hml, hown, hts⟩ hK hA (hDa _ _ _ _ _) hP hS [] [0, 1, 2, 3, 4, 5, 6, 7, 8, 9, 10, 11, 12, 13, 14, 15, 16, 17, 18, 19, 20, 21, 22, 23, 24, 25, 26, 27, 28] [0, 1, 2, 3, 4, 5, 6, 7, 8, 9, 10, 11, 12, 13, 14, 15, 16, 17, 18, 19, 20, 21, 22, 23, 24, 25, 26, 27, 28] (fun sz => kcX5_isSpanOfYears l dC dI cy fu p1 sz r4 hr4) rfl rfl (by decide) (by decide) (by decide) rfl (va_cwS 1 hts gX5_ahead_X5_isSpanOfYears rfl rfl rfl ydX5_isSpanOfYears ⟨Nat.le_of_ble_eq_true rfl, Nat.le_of_ble_eq_true rfl⟩) rfl hl.1 rfl (Nat.le_of_ble_eq_true rfl) dX5_ahead_1 ⟨Nat.zero_le _, Nat.zero_le _⟩ (fun H locs hP hS => ?_)
  refine lv_if_ne (tgt := 9) hx hb dX5_ahead_4 (by decide) (fun hc => ?_) (fun hc => ?_)
  · replace hm := (if_neg hc).symm.trans hm
    refine lv_aload_n hx hb dX5_ahead_9 rfl (lv_at hl 0 rfl) ?_
    refine va_get (D := (dC, dI)) (ci := 5) (v := .ref (a0 5)) (C := RX5) (T := TX5) (N := 8) hx hb hts i5 hown hK hP 0 rfl rfl 5 (by decide) (hts (.fieldLink RX5 44 "TwoMetals" "trial" "LTwoMetals$World;") (List.mem_of_getElem? (i := 1) rfl)) (fun _ h9 => h9) rfl dX5_ahead_10 ?_
    refine lv_aload_n hx hb dX5_ahead_13 rfl (lv_at hl 0 rfl) ?_
    refine va_get (D := (dC, dI)) (ci := 5) (v := .ref (a0 4)) (C := RX5) (T := TX5) (N := 8) hx hb hts i5 hown hK hP 0 rfl rfl 4 (by decide) (hts (.fieldLink RX5 40 "TwoMetals" "now" "LTwoMetals$World;") (List.mem_of_getElem? (i := 2) rfl)) (fun _ h9 => h9) rfl dX5_ahead_14 ?_
    obtain ⟨r5, hr5, hm⟩ := bn_call hm
    refine ca_vv (wr := (o_X5 cy h0 a0 w0) ++ (o_X1 cy (a0 2) a1 w1) ++ (o_X0 cy (a0 3) a4 w4)) (wn := (o_X5 cy h0 a0 w0) ++ (o_X1 cy (a0 2) a1 w1) ++ (o_X4 cy (a0 4) a2 w2) ++ (o_X4 cy (a0 5) a3 r5) ++ (o_X0 cy (a0 3) a4 w4)) ⟨hx, hb, hml, hown, hts⟩ hK hA (hDa _ _ _ _ _) hP hS [15, 16, 17, 18, 19, 20, 21, 22, 23, 24, 5, 6, 7, 8, 9, 10, 11, 12, 13, 14] [0, 1, 2, 3, 4, 25, 26, 27, 28] [0, 1, 2, 3, 4, 19, 20, 21, 22, 23, 24, 25, 26, 27, 28, 9, 10, 11, 12, 13, 14, 15, 16, 17, 18, 5, 6, 7, 8] (fun sz => kcX4_copyFrom l dC dI cy fu (a0 5) a3 w3 (a0 4) a2 w2 sz r5 hr5) rfl rfl (by decide) (by decide) (by decide) rfl (cwV 1 hts gX5_ahead_X4_copyFrom rfl rfl rfl ⟨rfl, ydX4_copyFrom⟩ ⟨Nat.le_of_ble_eq_true rfl, Nat.le_of_ble_eq_true rfl⟩) 4 0 rfl rfl rfl rfl hl.1 rfl (Nat.le_of_ble_eq_true rfl) dX5_ahead_17 ⟨Nat.zero_le _, Nat.zero_le _⟩ (fun H locs hP hS => ?_)
    refine lv_iconst (v := (1 : Int32)) hx hb dX5_ahead_20 (by decide) ?_
    refine lv_istore_n (lv' := [(2, .int (1 : Int32)), (0, .ref h0), (1, .int p1)]) hx hb dX5_ahead_21 rfl hl (by decide) rfl (fun ls hl => ?_)
    exact hB22 fu w1 r5 p1 (1 : Int32) _ _ ls hm hP hS (lv_sub hl [1, 2, 0] rfl)
  replace hm := (if_pos hc).symm.trans hm
  refine lv_iconst (v := (-1 : Int32)) hx hb dX5_ahead_7 (by decide) ?_
  obtain rfl := Option.some.inj hm
  exact hret 8 ls _ _ dX5_ahead_8 hP hS
set_option maxHeartbeats 4000000 in
set_option maxRecDepth 100000 in
theorem kcX5_debt (l : Launch) (dC : Nat → ClassId) (dI : Nat → Nat → Nat) (cy : Nat → ClassId) (fu : Nat) (h0 : Nat) (a0 : Nat → Nat) (w0 : ob_T) (a1 : Nat → Nat) (w1 : ob_T) (p1 : Int32) (p2 : Int32) (p3 : Int32) (sz : Nat) (R : Int32) (hm : mX5_debt fu w0 w1 p1 p2 p3 = some R) : Met l yX5_debt wsX5_debt (rmN 1 30) (va_Pc [.ref h0, .int p1, .int p2, .int p3] (cPre dC dI cy ((o_X5 cy h0 a0 w0) ++ (o_X4 cy (a0 4) a1 w1)) sz)) (va_Qi (fun (r : Int32) (_ : Unit) => r = R) (fun _ => cPost dC dI cy ((o_X5 cy h0 a0 w0) ++ (o_X4 cy (a0 4) a1 w1)) ((o_X5 cy h0 a0 w0) ++ (o_X4 cy (a0 4) a1 w1)) sz) (va_A ((o_X5 cy h0 a0 w0) ++ (o_X4 cy (a0 4) a1 w1)) sz)) 0 0 (va_A ((o_X5 cy h0 a0 w0) ++ (o_X4 cy (a0 4) a1 w1)) sz) := by
  refine mt_i (cc := cX5_debt) (maxL := 5) (by decide) rfl (Nat.le_of_ble_eq_true rfl) rfl ?_
  intro p e s m below meth c Q A hx hb hml hown hts hK hA hD hP hret ls hl
  have hown : s.vm.findClass RX5 = some m.cls := hown
  have hl : lv_has ls 5 [(0, .ref h0), (1, .int p1), (2, .int p2), (3, .int p3)] := hl
  have hDa : ∀ v0 v1 : ob_T, va_D A ((o_X5 cy h0 a0 v0) ++ (o_X4 cy (a0 4) a1 v1)) := fun _ _ => va_D_adr hD rfl
  have i4 : ∀ w ∈ wsX40, w ∈ wsX5_debt := fun _ h => List.mem_cons_of_mem _ (List.mem_append_right _ h)
  have i5 : ∀ w ∈ wsX50, w ∈ wsX5_debt := fun _ h => List.mem_cons_of_mem _ (List.mem_append_left _ (List.mem_append_right _ h))
  have hS : va_S A s.heap s.heap [] := va_S.rf
  have hB69 : ∀ (l1 : Int32) (l2 : Int32) (l3 : Int32) (s0 : Int32) (H : Heap) (locs : List Loc) (ls : Array Slot), bX5_debt_69 fu w0 w1 l1 l2 l3 s0 = some R → va_P (dC, dI) vwCl ((o_X5 cy h0 a0 w0) ++ (o_X4 cy (a0 4) a1 w1)) H → va_S A s.heap H locs → lv_has ls 5 [(0, .ref h0), (1, .int l1), (2, .int l2), (3, .int l3)] → W p l e (rmN 1 30) s m ([.ref h0, .int p1, .int p2, .int p3] : List Value).toArray below meth c H locs 0 0 Q (F0 m 69 ls [.int s0]) := by
    intro l1 l2 l3 s0 H locs ls hm hP hS hl
    unfold bX5_debt_69 at hm
    refine lv_istore (lv' := [(4, .int s0), (0, .ref h0), (1, .int l1), (2, .int l2), (3, .int l3)]) hx hb dX5_debt_69 hl (by decide) rfl (fun ls hl => ?_)
    refine lv_iload_n hx hb dX5_debt_71 rfl (lv_at hl 4 rfl) ?_
    refine lv_iconst (v := (1 : Int32)) hx hb dX5_debt_72 (by decide) ?_
    refine lv_icmp_ne (tgt := 87) hx hb dX5_debt_73 (by decide) (fun hc => ?_) (fun hc => ?_)
    · replace hm := (if_neg hc).symm.trans hm
      refine lv_iload hx hb dX5_debt_87 (lv_at hl 0 rfl) ?_
      refine lv_if_eq (tgt := 122) hx hb dX5_debt_89 (by decide) (fun hc => ?_) (fun hc => ?_)
      · replace hm := (if_pos hc).symm.trans hm
        refine lv_iload_n hx hb dX5_debt_122 rfl (lv_at hl 3 rfl) ?_
        obtain rfl := Option.some.inj hm
        exact hret 123 ls _ _ dX5_debt_123 hP hS
      replace hm := (if_neg hc).symm.trans hm
      refine lv_iload_n hx hb dX5_debt_92 rfl (lv_at hl 3 rfl) ?_
      refine lv_i2l (v := l2.toInt64) hx hb dX5_debt_93 rfl ?_
      refine lv_aload_n hx hb dX5_debt_94 rfl (lv_at hl 1 rfl) ?_
      refine va_get (D := (dC, dI)) (ci := 5) (v := .ref (a0 4)) (C := RX5) (T := TX5) (N := 8) hx hb hts i5 hown hK hP 0 rfl rfl 4 (by decide) (hts (.fieldLink RX5 40 "TwoMetals" "now" "LTwoMetals$World;") (List.mem_of_getElem? (i := 1) rfl)) (fun _ h9 => h9) rfl dX5_debt_95 ?_
      refine va_get (D := (dC, dI)) (ci := 4) (v := .int (w1.1 15 0)) (C := RX4) (T := TX4) (N := 17) hx hb hts i4 hown hK hP 2 rfl rfl 15 (by decide) (hts (.fieldLink RX5 128 "TwoMetals$World" "price" "I") (List.mem_of_getElem? (i := 3) rfl)) (fun _ h9 => h9) rfl dX5_debt_98 ?_
      refine lv_i2l (v := (w1.1 15 0).toInt64) hx hb dX5_debt_101 rfl ?_
      refine lv_lmul hx hb dX5_debt_102 ?_
      refine lv_iconst (v := (1 : Int32)) hx hb dX5_debt_103 (by decide) ?_
      refine lv_aload_n hx hb dX5_debt_104 rfl (lv_at hl 1 rfl) ?_
      refine va_get (D := (dC, dI)) (ci := 5) (v := .ref (a0 4)) (C := RX5) (T := TX5) (N := 8) hx hb hts i5 hown hK hP 0 rfl rfl 4 (by decide) (hts (.fieldLink RX5 40 "TwoMetals" "now" "LTwoMetals$World;") (List.mem_of_getElem? (i := 1) rfl)) (fun _ h9 => h9) rfl dX5_debt_105 ?_
      refine va_get (D := (dC, dI)) (ci := 4) (v := .ref (a1 0)) (C := RX4) (T := TX4) (N := 17) hx hb hts i4 hown hK hP 2 rfl rfl 0 (by decide) (hts (.fieldLink RX5 95 "TwoMetals$World" "law" "[I") (List.mem_of_getElem? (i := 4) rfl)) (fun _ h9 => h9) rfl dX5_debt_108 ?_
      refine lv_iload_n hx hb dX5_debt_111 rfl (lv_at hl 2 rfl) ?_
      obtain ⟨hi1, hm⟩ := ck_in hm
      refine va_iald hx hb hK hP 3 0 rfl rfl hi1 dX5_debt_112 ?_
      refine va_mmax hx hb (hml.trans hl.1.symm) hown (hts (.methodLink RX5 168 Lib.Math.max.name) (List.mem_of_getElem? (i := 5) rfl)) (hts (.static Lib.Math.max.name) (List.mem_of_getElem? (i := 6) rfl)) (hts (.initialized "java/lang/Math") (List.mem_of_getElem? (i := 7) rfl)) (hts (.code Lib.Math.max.name Lib.Math.max.code 2 (some .int)) (List.mem_of_getElem? (i := 8) rfl)) (Nat.le_of_ble_eq_true rfl) (Nat.le_of_ble_eq_true rfl) (Nat.zero_le _) (Nat.zero_le _) dX5_debt_113 ?_
      refine lv_i2l (v := (if (1 : Int32) < (w1.1 0 l1.toNatClampNeg) then (w1.1 0 l1.toNatClampNeg) else (1 : Int32)).toInt64) hx hb dX5_debt_116 rfl ?_
      obtain ⟨hz2, hm⟩ := ck_dv hm
      refine lv_ldiv hx hb dX5_debt_117 hz2 ?_
      refine lv_l2i (v := ((l2.toInt64 * ((w1.1 15 0).toInt64)) / ((if (1 : Int32) < (w1.1 0 l1.toNatClampNeg) then (w1.1 0 l1.toNatClampNeg) else (1 : Int32)).toInt64)).toInt32) hx hb dX5_debt_118 rfl ?_
      refine lv_goto (tgt := 123) hx hb dX5_debt_119 (by decide) ?_
      obtain rfl := Option.some.inj hm
      exact hret 123 ls _ _ dX5_debt_123 hP hS
    replace hm := (if_pos hc).symm.trans hm
    refine lv_iload hx hb dX5_debt_76 (lv_at hl 0 rfl) ?_
    refine lv_if_eq (tgt := 85) hx hb dX5_debt_78 (by decide) (fun hc => ?_) (fun hc => ?_)
    · replace hm := (if_pos hc).symm.trans hm
      refine lv_iconst (v := (0 : Int32)) hx hb dX5_debt_85 (by decide) ?_
      obtain rfl := Option.some.inj hm
      exact hret 86 ls _ _ dX5_debt_86 hP hS
    replace hm := (if_neg hc).symm.trans hm
    refine lv_iconst (v := (1 : Int32)) hx hb dX5_debt_81 (by decide) ?_
    refine lv_goto (tgt := 86) hx hb dX5_debt_82 (by decide) ?_
    obtain rfl := Option.some.inj hm
    exact hret 86 ls _ _ dX5_debt_86 hP hS
  unfold mX5_debt at hm
  refine lv_aload_n hx hb dX5_debt_0 rfl (lv_at hl 0 rfl) ?_
  refine va_get (D := (dC, dI)) (ci := 5) (v := .ref (a0 4)) (C := RX5) (T := TX5) (N := 8) hx hb hts i5 hown hK hP 0 rfl rfl 4 (by decide) (hts (.fieldLink RX5 40 "TwoMetals" "now" "LTwoMetals$World;") (List.mem_of_getElem? (i := 1) rfl)) (fun _ h9 => h9) rfl dX5_debt_1 ?_
  refine lv_iload_n hx hb dX5_debt_4 rfl (lv_at hl 1 rfl) ?_
  obtain ⟨r3, hr3, hm⟩ := bn_call hm
  refine ca_vi (wr := (o_X5 cy h0 a0 w0)) (wn := (o_X5 cy h0 a0 w0) ++ (o_X4 cy (a0 4) a1 w1)) ⟨hx, hb, hml, hown, hts⟩ hK hA (hDa _ _) hP hS [2, 3, 4, 5, 6, 7, 8, 9, 10, 11] [0, 1] [0, 1, 2, 3, 4, 5, 6, 7, 8, 9, 10, 11] (fun sz => kcX4_has l dC dI cy fu (a0 4) a1 w1 p1 sz r3 hr3) rfl rfl (by decide) (by decide) (by decide) rfl (cwV 1 hts gX5_debt_X4_has rfl rfl rfl ⟨rfl, ydX4_has⟩ ⟨Nat.le_of_ble_eq_true rfl, Nat.le_of_ble_eq_true rfl⟩) 4 0 rfl rfl rfl rfl hl.1 rfl (Nat.le_of_ble_eq_true rfl) dX5_debt_5 ⟨Nat.zero_le _, Nat.zero_le _⟩ (fun H locs hP hS => ?_)
  refine lv_if_eq (tgt := 29) hx hb dX5_debt_8 (by decide) (fun hc => ?_) (fun hc => ?_)
  · replace hm := (if_pos hc).symm.trans hm
    refine lv_iconst (v := (-1 : Int32)) hx hb dX5_debt_29 (by decide) ?_
    obtain rfl := Option.some.inj hm
    exact hret 30 ls _ _ dX5_debt_30 hP hS
  replace hm := (if_neg hc).symm.trans hm
  refine lv_iload_n hx hb dX5_debt_11 rfl (lv_at hl 2 rfl) ?_
  refine lv_iconst (v := (1 : Int32)) hx hb dX5_debt_12 (by decide) ?_
  refine lv_icmp_lt (tgt := 29) hx hb dX5_debt_13 (by decide) (fun hc => ?_) (fun hc => ?_)
  · replace hm := (if_pos hc).symm.trans hm
    refine lv_iconst (v := (-1 : Int32)) hx hb dX5_debt_29 (by decide) ?_
    obtain rfl := Option.some.inj hm
    exact hret 30 ls _ _ dX5_debt_30 hP hS
  replace hm := (if_neg hc).symm.trans hm
  refine lv_iload_n hx hb dX5_debt_16 rfl (lv_at hl 2 rfl) ?_
  refine lv_ldc (v := (100000000 : Int32)) hx hb hown (hts (.constant RX5 167 (100000000)) (List.mem_of_getElem? (i := 2) rfl)) dX5_debt_17 ?_
  refine lv_icmp_gt (tgt := 29) hx hb dX5_debt_19 (by decide) (fun hc => ?_) (fun hc => ?_)
  · replace hm := (if_pos hc).symm.trans hm
    refine lv_iconst (v := (-1 : Int32)) hx hb dX5_debt_29 (by decide) ?_
    obtain rfl := Option.some.inj hm
    exact hret 30 ls _ _ dX5_debt_30 hP hS
  replace hm := (if_neg hc).symm.trans hm
  refine lv_iload_n hx hb dX5_debt_22 rfl (lv_at hl 3 rfl) ?_
  obtain ⟨r4, hr4, hm⟩ := bn_call hm
  refine ca_si (wr := (o_X5 cy h0 a0 w0) ++ (o_X4 cy (a0 4) a1 w1)) (wn := (o_X5 cy h0 a0 w0) ++ (o_X4 cy (a0 4) a1 w1)) ⟨hx, hb, hml, hown, hts⟩ hK hA (hDa _ _) hP hS [] [0, 1, 2, 3, 4, 5, 6, 7, 8, 9, 10, 11] [0, 1, 2, 3, 4, 5, 6, 7, 8, 9, 10, 11] (fun sz => kcX5_isZeroOrOne l dC dI cy fu p3 sz r4 hr4) rfl rfl (by decide) (by decide) (by decide) rfl (va_cwS 1 hts gX5_debt_X5_isZeroOrOne rfl rfl rfl ydX5_isZeroOrOne ⟨Nat.le_of_ble_eq_true rfl, Nat.le_of_ble_eq_true rfl⟩) rfl hl.1 rfl (Nat.le_of_ble_eq_true rfl) dX5_debt_23 ⟨Nat.zero_le _, Nat.zero_le _⟩ (fun H locs hP hS => ?_)
  refine lv_if_ne (tgt := 31) hx hb dX5_debt_26 (by decide) (fun hc => ?_) (fun hc => ?_)
  · replace hm := (if_neg hc).symm.trans hm
    refine lv_aload_n hx hb dX5_debt_31 rfl (lv_at hl 0 rfl) ?_
    refine va_get (D := (dC, dI)) (ci := 5) (v := .ref (a0 4)) (C := RX5) (T := TX5) (N := 8) hx hb hts i5 hown hK hP 0 rfl rfl 4 (by decide) (hts (.fieldLink RX5 40 "TwoMetals" "now" "LTwoMetals$World;") (List.mem_of_getElem? (i := 1) rfl)) (fun _ h9 => h9) rfl dX5_debt_32 ?_
    refine lv_iload_n hx hb dX5_debt_35 rfl (lv_at hl 1 rfl) ?_
    obtain ⟨r5, hr5, hm⟩ := bn_call hm
    refine ca_vi (wr := (o_X5 cy h0 a0 w0)) (wn := (o_X5 cy h0 a0 w0) ++ (o_X4 cy (a0 4) a1 w1)) ⟨hx, hb, hml, hown, hts⟩ hK hA (hDa _ _) hP hS [2, 3, 4, 5, 6, 7, 8, 9, 10, 11] [0, 1] [0, 1, 2, 3, 4, 5, 6, 7, 8, 9, 10, 11] (fun sz => kcX4_mints l dC dI cy fu (a0 4) a1 w1 p1 sz r5 hr5) rfl rfl (by decide) (by decide) (by decide) rfl (cwV 1 hts gX5_debt_X4_mints rfl rfl rfl ⟨rfl, ydX4_mints⟩ ⟨Nat.le_of_ble_eq_true rfl, Nat.le_of_ble_eq_true rfl⟩) 4 0 rfl rfl rfl rfl hl.1 rfl (Nat.le_of_ble_eq_true rfl) dX5_debt_36 ⟨Nat.zero_le _, Nat.zero_le _⟩ (fun H locs hP hS => ?_)
    refine lv_if_ne (tgt := 45) hx hb dX5_debt_39 (by decide) (fun hc => ?_) (fun hc => ?_)
    · replace hm := (if_neg hc).symm.trans hm
      refine lv_aload_n hx hb dX5_debt_45 rfl (lv_at hl 0 rfl) ?_
      refine va_get (D := (dC, dI)) (ci := 5) (v := .ref (a0 4)) (C := RX5) (T := TX5) (N := 8) hx hb hts i5 hown hK hP 0 rfl rfl 4 (by decide) (hts (.fieldLink RX5 40 "TwoMetals" "now" "LTwoMetals$World;") (List.mem_of_getElem? (i := 1) rfl)) (fun _ h9 => h9) rfl dX5_debt_46 ?_
      refine va_get (D := (dC, dI)) (ci := 4) (v := .int (w1.1 15 0)) (C := RX4) (T := TX4) (N := 17) hx hb hts i4 hown hK hP 2 rfl rfl 15 (by decide) (hts (.fieldLink RX5 128 "TwoMetals$World" "price" "I") (List.mem_of_getElem? (i := 3) rfl)) (fun _ h9 => h9) rfl dX5_debt_49 ?_
      refine lv_aload_n hx hb dX5_debt_52 rfl (lv_at hl 0 rfl) ?_
      refine va_get (D := (dC, dI)) (ci := 5) (v := .ref (a0 4)) (C := RX5) (T := TX5) (N := 8) hx hb hts i5 hown hK hP 0 rfl rfl 4 (by decide) (hts (.fieldLink RX5 40 "TwoMetals" "now" "LTwoMetals$World;") (List.mem_of_getElem? (i := 1) rfl)) (fun _ h9 => h9) rfl dX5_debt_53 ?_
      refine va_get (D := (dC, dI)) (ci := 4) (v := .ref (a1 0)) (C := RX4) (T := TX4) (N := 17) hx hb hts i4 hown hK hP 2 rfl rfl 0 (by decide) (hts (.fieldLink RX5 95 "TwoMetals$World" "law" "[I") (List.mem_of_getElem? (i := 4) rfl)) (fun _ h9 => h9) rfl dX5_debt_56 ?_
      refine lv_iload_n hx hb dX5_debt_59 rfl (lv_at hl 1 rfl) ?_
      obtain ⟨hi6, hm⟩ := ck_in hm
      refine va_iald hx hb hK hP 3 0 rfl rfl hi6 dX5_debt_60 ?_
      refine lv_icmp_ge (tgt := 68) hx hb dX5_debt_61 (by decide) (fun hc => ?_) (fun hc => ?_)
      · replace hm := (if_pos hc).symm.trans hm
        refine lv_iconst (v := (0 : Int32)) hx hb dX5_debt_68 (by decide) ?_
        exact hB69 p1 p2 p3 (0 : Int32) _ _ ls hm hP hS (lv_sub hl [0, 1, 2, 3] rfl)
      replace hm := (if_neg hc).symm.trans hm
      refine lv_iconst (v := (1 : Int32)) hx hb dX5_debt_64 (by decide) ?_
      refine lv_goto (tgt := 69) hx hb dX5_debt_65 (by decide) ?_
      exact hB69 p1 p2 p3 (1 : Int32) _ _ ls hm hP hS (lv_sub hl [0, 1, 2, 3] rfl)
    replace hm := (if_pos hc).symm.trans hm
    refine lv_bipush (v := (-2 : Int32)) hx hb dX5_debt_42 (by decide) ?_
    obtain rfl := Option.some.inj hm
    exact hret 44 ls _ _ dX5_debt_44 hP hS
  replace hm := (if_pos hc).symm.trans hm
  refine lv_iconst (v := (-1 : Int32)) hx hb dX5_debt_29 (by decide) ?_
  obtain rfl := Option.some.inj hm
  exact hret 30 ls _ _ dX5_debt_30 hP hS
set_option maxHeartbeats 4000000 in
set_option maxRecDepth 100000 in
theorem kcX5_isLaw (l : Launch) (dC : Nat → ClassId) (dI : Nat → Nat → Nat) (cy : Nat → ClassId) (fu : Nat) (p1 : Int32) (sz : Nat) (R : Int32) (hm : mX5_isLaw fu p1 = some R) : Met l yX5_isLaw wsX5_isLaw (rmN 0 0) (va_Pc [.int p1] (cPre dC dI cy (([] : va_W)) sz)) (va_Qi (fun (r : Int32) (_ : Unit) => r = R) (fun _ => cPost dC dI cy (([] : va_W)) (([] : va_W)) sz) (va_A (([] : va_W)) sz)) 0 0 (va_A (([] : va_W)) sz) := by
  refine mt_z (cc := cX5_isLaw) (maxL := 1) (by decide) rfl (Nat.le_of_ble_eq_true rfl) rfl ?_
  intro p e s m below meth c Q A hx hb hml hown hts hK hA hD hP hret ls hl
  have hown : s.vm.findClass RX5 = some m.cls := hown
  have hl : lv_has ls 1 [(0, .int p1)] := hl
  have hS : va_S A s.heap s.heap [] := va_S.rf
  unfold mX5_isLaw at hm
  refine lv_iload_n hx hb dX5_isLaw_0 rfl (lv_at hl 0 rfl) ?_
  refine lv_sipush (v := (1000 : Int32)) hx hb dX5_isLaw_1 (by decide) ?_
  refine lv_icmp_lt (tgt := 17) hx hb dX5_isLaw_4 (by decide) (fun hc => ?_) (fun hc => ?_)
  · replace hm := (if_pos hc).symm.trans hm
    refine lv_iconst (v := (0 : Int32)) hx hb dX5_isLaw_17 (by decide) ?_
    obtain rfl := Option.some.inj hm
    exact hret 18 ls _ _ dX5_isLaw_18 nar_0 hP hS
  replace hm := (if_neg hc).symm.trans hm
  refine lv_iload_n hx hb dX5_isLaw_7 rfl (lv_at hl 0 rfl) ?_
  refine lv_ldc (v := (99999 : Int32)) hx hb hown (hts (.constant RX5 203 (99999)) (List.mem_of_getElem? (i := 1) rfl)) dX5_isLaw_8 ?_
  refine lv_icmp_gt (tgt := 17) hx hb dX5_isLaw_10 (by decide) (fun hc => ?_) (fun hc => ?_)
  · replace hm := (if_pos hc).symm.trans hm
    refine lv_iconst (v := (0 : Int32)) hx hb dX5_isLaw_17 (by decide) ?_
    obtain rfl := Option.some.inj hm
    exact hret 18 ls _ _ dX5_isLaw_18 nar_0 hP hS
  replace hm := (if_neg hc).symm.trans hm
  refine lv_iconst (v := (1 : Int32)) hx hb dX5_isLaw_13 (by decide) ?_
  refine lv_goto (tgt := 18) hx hb dX5_isLaw_14 (by decide) ?_
  obtain rfl := Option.some.inj hm
  exact hret 18 ls _ _ dX5_isLaw_18 nar_1 hP hS
set_option maxHeartbeats 4000000 in
set_option maxRecDepth 100000 in
theorem kcX5_tryPact (l : Launch) (dC : Nat → ClassId) (dI : Nat → Nat → Nat) (cy : Nat → ClassId) (fu : Nat) (h0 : Nat) (a0 : Nat → Nat) (w0 : ob_T) (a1 : Nat → Nat) (w1 : ob_T) (a2 : Nat → Nat) (w2 : ob_T) (a3 : Nat → Nat) (w3 : ob_T) (p1 : Int32) (p2 : Int32) (sz : Nat) (R : Int32 × ob_T × ob_T) (hm : mX5_tryPact fu w0 w1 w2 w3 p1 p2 = some R) : Met l yX5_tryPact wsX5_tryPact (rmN 5 121) (va_Pc [.ref h0, .int p1, .int p2] (cPre dC dI cy ((o_X5 cy h0 a0 w0) ++ (o_X1 cy (a0 2) a1 w1) ++ (o_X4 cy (a0 4) a2 w2) ++ (o_X4 cy (a0 5) a3 w3)) sz)) (va_Qi (fun (r : Int32) (_ : Unit) => r = R.1) (fun _ => cPost dC dI cy ((o_X5 cy h0 a0 w0) ++ (o_X1 cy (a0 2) a1 w1) ++ (o_X4 cy (a0 4) a2 w2) ++ (o_X4 cy (a0 5) a3 w3)) ((o_X5 cy h0 a0 w0) ++ (o_X1 cy (a0 2) a1 R.2.1) ++ (o_X4 cy (a0 4) a2 w2) ++ (o_X4 cy (a0 5) a3 R.2.2)) sz) (va_A ((o_X5 cy h0 a0 w0) ++ (o_X1 cy (a0 2) a1 w1) ++ (o_X4 cy (a0 4) a2 w2) ++ (o_X4 cy (a0 5) a3 w3)) sz)) 0 0 (va_A ((o_X5 cy h0 a0 w0) ++ (o_X1 cy (a0 2) a1 w1) ++ (o_X4 cy (a0 4) a2 w2) ++ (o_X4 cy (a0 5) a3 w3)) sz) := by
  refine mt_i (cc := cX5_tryPact) (maxL := 4) (by decide) rfl (Nat.le_of_ble_eq_true rfl) rfl ?_
  intro p e s m below meth c Q A hx hb hml hown hts hK hA hD hP hret ls hl
  have hown : s.vm.findClass RX5 = some m.cls := hown
  have hl : lv_has ls 4 [(0, .ref h0), (1, .int p1), (2, .int p2)] := hl
  have hDa : ∀ v0 v1 v2 v3 : ob_T, va_D A ((o_X5 cy h0 a0 v0) ++ (o_X1 cy (a0 2) a1 v1) ++ (o_X4 cy (a0 4) a2 v2) ++ (o_X4 cy (a0 5) a3 v3)) := fun _ _ _ _ => va_D_adr hD rfl
  have i5 : ∀ w ∈ wsX50, w ∈ wsX5_tryPact := fun _ h => List.mem_cons_of_mem _ (List.mem_append_left _ (List.mem_append_left _ (List.mem_append_right _ h)))
  have hS : va_S A s.heap s.heap [] := va_S.rf
  have hB37 : ∀ (k13 : ob_T → ob_T → Int32 → Int32 → Int32 → Option (Int32 × ob_T × ob_T)) (_ : ∀ (w1 : ob_T) (w3 : ob_T) (l1 : Int32) (l2 : Int32) (l3 : Int32) (H : Heap) (locs : List Loc) (ls : Array Slot), k13 w1 w3 l1 l2 l3 = some R → va_P (dC, dI) vwCl ((o_X5 cy h0 a0 w0) ++ (o_X1 cy (a0 2) a1 w1) ++ (o_X4 cy (a0 4) a2 w2) ++ (o_X4 cy (a0 5) a3 w3)) H → va_S A s.heap H locs → lv_has ls 4 [(0, .ref h0), (1, .int l1), (2, .int l2), (3, .int l3)] → W p l e (rmN 5 121) s m ([.ref h0, .int p1, .int p2] : List Value).toArray below meth c H locs 0 0 Q (F0 m 13 ls [])) (w1 : ob_T) (w3 : ob_T) (l1 : Int32) (l2 : Int32) (l3 : Int32) (H : Heap) (locs : List Loc) (ls : Array Slot), bX5_tryPact_37 fu w0 w2 k13 w1 w3 l1 l2 l3 = some R → va_P (dC, dI) vwCl ((o_X5 cy h0 a0 w0) ++ (o_X1 cy (a0 2) a1 w1) ++ (o_X4 cy (a0 4) a2 w2) ++ (o_X4 cy (a0 5) a3 w3)) H → va_S A s.heap H locs → lv_has ls 4 [(0, .ref h0), (1, .int l1), (2, .int l2), (3, .int l3)] → W p l e (rmN 5 121) s m ([.ref h0, .int p1, .int p2] : List Value).toArray below meth c H locs 0 0 Q (F0 m 37 ls []) := by
    intro k13 hk13 w1 w3 l1 l2 l3 H locs ls hm hP hS hl
    unfold bX5_tryPact_37 at hm
    obtain ⟨x1, e2⟩ : ∃ y : Int32, y = l3 + (1 : Int32) := ⟨_, rfl⟩
    replace hm := bn_at e2 hm
    refine lv_iinc (v := x1) (lv' := [(3, .int x1), (0, .ref h0), (1, .int l1), (2, .int l2)]) hx hb dX5_tryPact_37 hl (k := 3) rfl (by rw [e2]; rfl) (by decide) rfl (fun ls hl => ?_)
    refine lv_goto (tgt := 13) hx hb dX5_tryPact_40 (by decide) ?_
    exact hk13 w1 w3 l1 l2 x1 _ _ ls hm hP hS (lv_sub hl [1, 2, 3, 0] rfl)
  have hB13 : ∀ (nn : Nat) (w1 : ob_T) (w3 : ob_T) (l1 : Int32) (l2 : Int32) (l3 : Int32) (H : Heap) (locs : List Loc) (ls : Array Slot), bX5_tryPact_13 fu w0 w2 nn w1 w3 l1 l2 l3 = some R → va_P (dC, dI) vwCl ((o_X5 cy h0 a0 w0) ++ (o_X1 cy (a0 2) a1 w1) ++ (o_X4 cy (a0 4) a2 w2) ++ (o_X4 cy (a0 5) a3 w3)) H → va_S A s.heap H locs → lv_has ls 4 [(0, .ref h0), (1, .int l1), (2, .int l2), (3, .int l3)] → W p l e (rmN 5 121) s m ([.ref h0, .int p1, .int p2] : List Value).toArray below meth c H locs 0 0 Q (F0 m 13 ls []) := by
    intro nn
    induction nn with
    | zero => intro w1 w3 l1 l2 l3 H locs ls hm; exact no_some ((bX5_tryPact_13_0 fu w0 w2 w1 w3 l1 l2 l3).symm.trans hm)
    | succ nn ih =>
      intro w1 w3 l1 l2 l3 H locs ls hm hP hS hl
      replace hm := (bX5_tryPact_13_s fu w0 w2 nn w1 w3 l1 l2 l3).symm.trans hm
      refine lv_iload_n hx hb dX5_tryPact_13 rfl (lv_at hl 3 rfl) ?_
      refine lv_bipush (v := (8 : Int32)) hx hb dX5_tryPact_14 (by decide) ?_
      refine lv_icmp_ge (tgt := 43) hx hb dX5_tryPact_16 (by decide) (fun hc => ?_) (fun hc => ?_)
      · replace hm := (if_pos hc).symm.trans hm
        refine lv_aload_n hx hb dX5_tryPact_43 rfl (lv_at hl 0 rfl) ?_
        refine va_get (D := (dC, dI)) (ci := 5) (v := .ref (a0 2)) (C := RX5) (T := TX5) (N := 8) hx hb hts i5 hown hK hP 0 rfl rfl 2 (by decide) (hts (.fieldLink RX5 26 "TwoMetals" "mover" "LTwoMetals$Mover;") (List.mem_of_getElem? (i := 3) rfl)) (fun _ h9 => h9) rfl dX5_tryPact_44 ?_
        refine lv_aload_n hx hb dX5_tryPact_47 rfl (lv_at hl 0 rfl) ?_
        refine va_get (D := (dC, dI)) (ci := 5) (v := .ref (a0 5)) (C := RX5) (T := TX5) (N := 8) hx hb hts i5 hown hK hP 0 rfl rfl 5 (by decide) (hts (.fieldLink RX5 44 "TwoMetals" "trial" "LTwoMetals$World;") (List.mem_of_getElem? (i := 1) rfl)) (fun _ h9 => h9) rfl dX5_tryPact_48 ?_
        obtain ⟨r3, hr3, hm⟩ := bn_call hm
        refine ca_vi (wr := (o_X5 cy h0 a0 w0) ++ (o_X4 cy (a0 4) a2 w2)) (wn := (o_X5 cy h0 a0 w0) ++ (o_X1 cy (a0 2) a1 r3.2.1) ++ (o_X4 cy (a0 4) a2 w2) ++ (o_X4 cy (a0 5) a3 r3.2.2)) ⟨hx, hb, hml, hown, hts⟩ hK hA (hDa _ _ _ _) hP hS [2, 3, 4, 15, 16, 17, 18, 19, 20, 21, 22, 23, 24] [0, 1, 5, 6, 7, 8, 9, 10, 11, 12, 13, 14] [0, 1, 12, 13, 14, 2, 3, 4, 5, 6, 7, 8, 9, 10, 11, 15, 16, 17, 18, 19, 20, 21, 22, 23, 24] (fun sz => kcX1_settle l dC dI cy fu (a0 2) a1 w1 (a0 5) a3 w3 sz r3 hr3) rfl rfl (by decide) (by decide) (by decide) rfl (cwV 1 hts gX5_tryPact_X1_settle rfl rfl rfl ⟨rfl, ydX1_settle⟩ ⟨Nat.le_of_ble_eq_true rfl, Nat.le_of_ble_eq_true rfl⟩) 1 0 rfl rfl rfl rfl hl.1 rfl (Nat.le_of_ble_eq_true rfl) dX5_tryPact_51 ⟨Nat.zero_le _, Nat.zero_le _⟩ (fun H locs hP hS => ?_)
        obtain rfl := Option.some.inj hm
        exact hret 54 ls _ _ dX5_tryPact_54 hP hS
      replace hm := (if_neg hc).symm.trans hm
      refine lv_iload_n hx hb dX5_tryPact_19 rfl (lv_at hl 1 rfl) ?_
      refine lv_iload_n hx hb dX5_tryPact_20 rfl (lv_at hl 3 rfl) ?_
      refine lv_ishr hx hb dX5_tryPact_21 ?_
      refine lv_iconst (v := (1 : Int32)) hx hb dX5_tryPact_22 (by decide) ?_
      refine lv_iand hx hb dX5_tryPact_23 ?_
      refine lv_iconst (v := (1 : Int32)) hx hb dX5_tryPact_24 (by decide) ?_
      refine lv_icmp_ne (tgt := 37) hx hb dX5_tryPact_25 (by decide) (fun hc => ?_) (fun hc => ?_)
      · replace hm := (if_neg hc).symm.trans hm
        exact hB37 (bX5_tryPact_13 fu w0 w2 nn) ih w1 w3 l1 l2 l3 _ _ ls hm hP hS (lv_sub hl [0, 1, 2, 3] rfl)
      replace hm := (if_pos hc).symm.trans hm
      refine lv_aload_n hx hb dX5_tryPact_28 rfl (lv_at hl 0 rfl) ?_
      refine va_get (D := (dC, dI)) (ci := 5) (v := .ref (a0 5)) (C := RX5) (T := TX5) (N := 8) hx hb hts i5 hown hK hP 0 rfl rfl 5 (by decide) (hts (.fieldLink RX5 44 "TwoMetals" "trial" "LTwoMetals$World;") (List.mem_of_getElem? (i := 1) rfl)) (fun _ h9 => h9) rfl dX5_tryPact_29 ?_
      refine lv_iload_n hx hb dX5_tryPact_32 rfl (lv_at hl 3 rfl) ?_
      refine lv_iload_n hx hb dX5_tryPact_33 rfl (lv_at hl 2 rfl) ?_
      obtain ⟨r4, hr4, hm⟩ := bn_call hm
      refine ca_vv (wr := (o_X5 cy h0 a0 w0) ++ (o_X1 cy (a0 2) a1 w1) ++ (o_X4 cy (a0 4) a2 w2)) (wn := (o_X5 cy h0 a0 w0) ++ (o_X1 cy (a0 2) a1 w1) ++ (o_X4 cy (a0 4) a2 w2) ++ (o_X4 cy (a0 5) a3 r4)) ⟨hx, hb, hml, hown, hts⟩ hK hA (hDa _ _ _ _) hP hS [15, 16, 17, 18, 19, 20, 21, 22, 23, 24] [0, 1, 2, 3, 4, 5, 6, 7, 8, 9, 10, 11, 12, 13, 14] [0, 1, 2, 3, 4, 5, 6, 7, 8, 9, 10, 11, 12, 13, 14, 15, 16, 17, 18, 19, 20, 21, 22, 23, 24] (fun sz => kcX4_setLaw l dC dI cy fu (a0 5) a3 w3 l3 l2 sz r4 hr4) rfl rfl (by decide) (by decide) (by decide) rfl (cwV 2 hts gX5_tryPact_X4_setLaw rfl rfl rfl ⟨rfl, ydX4_setLaw⟩ ⟨Nat.le_of_ble_eq_true rfl, Nat.le_of_ble_eq_true rfl⟩) 4 0 rfl rfl rfl rfl hl.1 rfl (Nat.le_of_ble_eq_true rfl) dX5_tryPact_34 ⟨Nat.zero_le _, Nat.zero_le _⟩ (fun H locs hP hS => ?_)
      exact hB37 (bX5_tryPact_13 fu w0 w2 nn) ih w1 r4 l1 l2 l3 _ _ ls hm hP hS (lv_sub hl [0, 1, 2, 3] rfl)
  unfold mX5_tryPact at hm
  refine lv_aload_n hx hb dX5_tryPact_0 rfl (lv_at hl 0 rfl) ?_
  refine va_get (D := (dC, dI)) (ci := 5) (v := .ref (a0 5)) (C := RX5) (T := TX5) (N := 8) hx hb hts i5 hown hK hP 0 rfl rfl 5 (by decide) (hts (.fieldLink RX5 44 "TwoMetals" "trial" "LTwoMetals$World;") (List.mem_of_getElem? (i := 1) rfl)) (fun _ h9 => h9) rfl dX5_tryPact_1 ?_
  refine lv_aload_n hx hb dX5_tryPact_4 rfl (lv_at hl 0 rfl) ?_
  refine va_get (D := (dC, dI)) (ci := 5) (v := .ref (a0 4)) (C := RX5) (T := TX5) (N := 8) hx hb hts i5 hown hK hP 0 rfl rfl 4 (by decide) (hts (.fieldLink RX5 40 "TwoMetals" "now" "LTwoMetals$World;") (List.mem_of_getElem? (i := 2) rfl)) (fun _ h9 => h9) rfl dX5_tryPact_5 ?_
  obtain ⟨r5, hr5, hm⟩ := bn_call hm
  refine ca_vv (wr := (o_X5 cy h0 a0 w0) ++ (o_X1 cy (a0 2) a1 w1)) (wn := (o_X5 cy h0 a0 w0) ++ (o_X1 cy (a0 2) a1 w1) ++ (o_X4 cy (a0 4) a2 w2) ++ (o_X4 cy (a0 5) a3 r5)) ⟨hx, hb, hml, hown, hts⟩ hK hA (hDa _ _ _ _) hP hS [15, 16, 17, 18, 19, 20, 21, 22, 23, 24, 5, 6, 7, 8, 9, 10, 11, 12, 13, 14] [0, 1, 2, 3, 4] [0, 1, 2, 3, 4, 15, 16, 17, 18, 19, 20, 21, 22, 23, 24, 5, 6, 7, 8, 9, 10, 11, 12, 13, 14] (fun sz => kcX4_copyFrom l dC dI cy fu (a0 5) a3 w3 (a0 4) a2 w2 sz r5 hr5) rfl rfl (by decide) (by decide) (by decide) rfl (cwV 1 hts gX5_tryPact_X4_copyFrom rfl rfl rfl ⟨rfl, ydX4_copyFrom⟩ ⟨Nat.le_of_ble_eq_true rfl, Nat.le_of_ble_eq_true rfl⟩) 4 0 rfl rfl rfl rfl hl.1 rfl (Nat.le_of_ble_eq_true rfl) dX5_tryPact_8 ⟨Nat.zero_le _, Nat.zero_le _⟩ (fun H locs hP hS => ?_)
  refine lv_iconst (v := (0 : Int32)) hx hb dX5_tryPact_11 (by decide) ?_
  refine lv_istore_n (lv' := [(3, .int (0 : Int32)), (0, .ref h0), (1, .int p1), (2, .int p2)]) hx hb dX5_tryPact_12 rfl hl (by decide) rfl (fun ls hl => ?_)
  exact hB13 fu w1 r5 p1 p2 (0 : Int32) _ _ ls hm hP hS (lv_sub hl [1, 2, 3, 0] rfl)
set_option maxHeartbeats 4000000 in
set_option maxRecDepth 100000 in
theorem kcX5_allHold (l : Launch) (dC : Nat → ClassId) (dI : Nat → Nat → Nat) (cy : Nat → ClassId) (fu : Nat) (h0 : Nat) (a0 : Nat → Nat) (w0 : ob_T) (a1 : Nat → Nat) (w1 : ob_T) (p1 : Int32) (sz : Nat) (R : Int32) (hm : mX5_allHold fu w0 w1 p1 = some R) : Met l yX5_allHold wsX5_allHold (rmN 2 44) (va_Pc [.ref h0, .int p1] (cPre dC dI cy ((o_X5 cy h0 a0 w0) ++ (o_X4 cy (a0 5) a1 w1)) sz)) (va_Qi (fun (r : Int32) (_ : Unit) => r = R) (fun _ => cPost dC dI cy ((o_X5 cy h0 a0 w0) ++ (o_X4 cy (a0 5) a1 w1)) ((o_X5 cy h0 a0 w0) ++ (o_X4 cy (a0 5) a1 w1)) sz) (va_A ((o_X5 cy h0 a0 w0) ++ (o_X4 cy (a0 5) a1 w1)) sz)) 0 0 (va_A ((o_X5 cy h0 a0 w0) ++ (o_X4 cy (a0 5) a1 w1)) sz) := by
  refine mt_z (cc := cX5_allHold) (maxL := 2) (by decide) rfl (Nat.le_of_ble_eq_true rfl) rfl ?_
  intro p e s m below meth c Q A hx hb hml hown hts hK hA hD hP hret ls hl
  have hown : s.vm.findClass RX5 = some m.cls := hown
  have hl : lv_has ls 2 [(0, .ref h0), (1, .int p1)] := hl
  have hDa : ∀ v0 v1 : ob_T, va_D A ((o_X5 cy h0 a0 v0) ++ (o_X4 cy (a0 5) a1 v1)) := fun _ _ => va_D_adr hD rfl
  have i5 : ∀ w ∈ wsX50, w ∈ wsX5_allHold := fun _ h => List.mem_cons_of_mem _ (List.mem_append_left _ (List.mem_append_right _ h))
  have hS : va_S A s.heap s.heap [] := va_S.rf
  unfold mX5_allHold at hm
  refine lv_iload_n hx hb dX5_allHold_0 rfl (lv_at hl 1 rfl) ?_
  refine lv_aload_n hx hb dX5_allHold_1 rfl (lv_at hl 0 rfl) ?_
  refine va_get (D := (dC, dI)) (ci := 5) (v := .ref (a0 5)) (C := RX5) (T := TX5) (N := 8) hx hb hts i5 hown hK hP 0 rfl rfl 5 (by decide) (hts (.fieldLink RX5 44 "TwoMetals" "trial" "LTwoMetals$World;") (List.mem_of_getElem? (i := 1) rfl)) (fun _ h9 => h9) rfl dX5_allHold_2 ?_
  obtain ⟨r1, hr1, hm⟩ := bn_call hm
  refine ca_vi (wr := (o_X5 cy h0 a0 w0)) (wn := (o_X5 cy h0 a0 w0) ++ (o_X4 cy (a0 5) a1 w1)) ⟨hx, hb, hml, hown, hts⟩ hK hA (hDa _ _) hP hS [2, 3, 4, 5, 6, 7, 8, 9, 10, 11] [0, 1] [0, 1, 2, 3, 4, 5, 6, 7, 8, 9, 10, 11] (fun sz => kcX4_holders l dC dI cy fu (a0 5) a1 w1 sz r1 hr1) rfl rfl (by decide) (by decide) (by decide) rfl (cwV 0 hts gX5_allHold_X4_holders rfl rfl rfl ⟨rfl, ydX4_holders⟩ ⟨Nat.le_of_ble_eq_true rfl, Nat.le_of_ble_eq_true rfl⟩) 4 0 rfl rfl rfl rfl hl.1 rfl (Nat.le_of_ble_eq_true rfl) dX5_allHold_5 ⟨Nat.zero_le _, Nat.zero_le _⟩ (fun H locs hP hS => ?_)
  refine lv_iconst (v := (-1 : Int32)) hx hb dX5_allHold_8 (by decide) ?_
  refine lv_ixor hx hb dX5_allHold_9 ?_
  refine lv_iand hx hb dX5_allHold_10 ?_
  refine lv_if_ne (tgt := 18) hx hb dX5_allHold_11 (by decide) (fun hc => ?_) (fun hc => ?_)
  · replace hm := (if_neg hc).symm.trans hm
    refine lv_iconst (v := (0 : Int32)) hx hb dX5_allHold_18 (by decide) ?_
    obtain rfl := Option.some.inj hm
    exact hret 19 ls _ _ dX5_allHold_19 nar_0 hP hS
  replace hm := (if_pos hc).symm.trans hm
  refine lv_iconst (v := (1 : Int32)) hx hb dX5_allHold_14 (by decide) ?_
  refine lv_goto (tgt := 19) hx hb dX5_allHold_15 (by decide) ?_
  obtain rfl := Option.some.inj hm
  exact hret 19 ls _ _ dX5_allHold_19 nar_1 hP hS
set_option maxHeartbeats 4000000 in
set_option maxRecDepth 100000 in
theorem kcX5_pact (l : Launch) (dC : Nat → ClassId) (dI : Nat → Nat → Nat) (cy : Nat → ClassId) (fu : Nat) (h0 : Nat) (a0 : Nat → Nat) (w0 : ob_T) (a1 : Nat → Nat) (w1 : ob_T) (a2 : Nat → Nat) (w2 : ob_T) (a3 : Nat → Nat) (w3 : ob_T) (p1 : Int32) (p2 : Int32) (p3 : Int32) (sz : Nat) (R : Int32 × ob_T × ob_T) (hm : mX5_pact fu w0 w1 w2 w3 p1 p2 p3 = some R) : Met l yX5_pact wsX5_pact (rmN 6 144) (va_Pc [.ref h0, .int p1, .int p2, .int p3] (cPre dC dI cy ((o_X5 cy h0 a0 w0) ++ (o_X1 cy (a0 2) a1 w1) ++ (o_X4 cy (a0 4) a2 w2) ++ (o_X4 cy (a0 5) a3 w3)) sz)) (va_Qi (fun (r : Int32) (_ : Unit) => r = R.1) (fun _ => cPost dC dI cy ((o_X5 cy h0 a0 w0) ++ (o_X1 cy (a0 2) a1 w1) ++ (o_X4 cy (a0 4) a2 w2) ++ (o_X4 cy (a0 5) a3 w3)) ((o_X5 cy h0 a0 w0) ++ (o_X1 cy (a0 2) a1 R.2.1) ++ (o_X4 cy (a0 4) a2 w2) ++ (o_X4 cy (a0 5) a3 R.2.2)) sz) (va_A ((o_X5 cy h0 a0 w0) ++ (o_X1 cy (a0 2) a1 w1) ++ (o_X4 cy (a0 4) a2 w2) ++ (o_X4 cy (a0 5) a3 w3)) sz)) 0 0 (va_A ((o_X5 cy h0 a0 w0) ++ (o_X1 cy (a0 2) a1 w1) ++ (o_X4 cy (a0 4) a2 w2) ++ (o_X4 cy (a0 5) a3 w3)) sz) := by
  refine mt_i (cc := cX5_pact) (maxL := 5) (by decide) rfl (Nat.le_of_ble_eq_true rfl) rfl ?_
  intro p e s m below meth c Q A hx hb hml hown hts hK hA hD hP hret ls hl
  have hown : s.vm.findClass RX5 = some m.cls := hown
  have hl : lv_has ls 5 [(0, .ref h0), (1, .int p1), (2, .int p2), (3, .int p3)] := hl
  have hDa : ∀ v0 v1 v2 v3 : ob_T, va_D A ((o_X5 cy h0 a0 v0) ++ (o_X1 cy (a0 2) a1 v1) ++ (o_X4 cy (a0 4) a2 v2) ++ (o_X4 cy (a0 5) a3 v3)) := fun _ _ _ _ => va_D_adr hD rfl
  have i4 : ∀ w ∈ wsX40, w ∈ wsX5_pact := fun _ h => List.mem_cons_of_mem _ (List.mem_append_left _ (List.mem_append_right _ h))
  have i5 : ∀ w ∈ wsX50, w ∈ wsX5_pact := fun _ h => List.mem_cons_of_mem _ (List.mem_append_left _ (List.mem_append_left _ (List.mem_append_right _ h)))
  have hS : va_S A s.heap s.heap [] := va_S.rf
  have hB23 : ∀ (w1 : ob_T) (w3 : ob_T) (l1 : Int32) (l2 : Int32) (l3 : Int32) (s0 : Int32) (H : Heap) (locs : List Loc) (ls : Array Slot), bX5_pact_23 fu w0 w2 w1 w3 l1 l2 l3 s0 = some R → va_P (dC, dI) vwCl ((o_X5 cy h0 a0 w0) ++ (o_X1 cy (a0 2) a1 w1) ++ (o_X4 cy (a0 4) a2 w2) ++ (o_X4 cy (a0 5) a3 w3)) H → va_S A s.heap H locs → lv_has ls 5 [(0, .ref h0), (1, .int l1), (2, .int l2), (3, .int l3)] → W p l e (rmN 6 144) s m ([.ref h0, .int p1, .int p2, .int p3] : List Value).toArray below meth c H locs 0 0 Q (F0 m 23 ls [.int s0]) := by
    intro w1 w3 l1 l2 l3 s0 H locs ls hm hP hS hl
    unfold bX5_pact_23 at hm
    refine lv_istore (lv' := [(4, .int s0), (0, .ref h0), (1, .int l1), (2, .int l2), (3, .int l3)]) hx hb dX5_pact_23 hl (by decide) rfl (fun ls hl => ?_)
    refine lv_iload hx hb dX5_pact_25 (lv_at hl 0 rfl) ?_
    refine lv_if_eq (tgt := 44) hx hb dX5_pact_27 (by decide) (fun hc => ?_) (fun hc => ?_)
    · replace hm := (if_pos hc).symm.trans hm
      refine lv_iconst (v := (-1 : Int32)) hx hb dX5_pact_44 (by decide) ?_
      obtain rfl := Option.some.inj hm
      exact hret 45 ls _ _ dX5_pact_45 hP hS
    replace hm := (if_neg hc).symm.trans hm
    refine lv_iload_n hx hb dX5_pact_30 rfl (lv_at hl 3 rfl) ?_
    obtain ⟨r1, hr1, hm⟩ := bn_call hm
    refine ca_si (wr := (o_X5 cy h0 a0 w0) ++ (o_X1 cy (a0 2) a1 w1) ++ (o_X4 cy (a0 4) a2 w2) ++ (o_X4 cy (a0 5) a3 w3)) (wn := (o_X5 cy h0 a0 w0) ++ (o_X1 cy (a0 2) a1 w1) ++ (o_X4 cy (a0 4) a2 w2) ++ (o_X4 cy (a0 5) a3 w3)) ⟨hx, hb, hml, hown, hts⟩ hK hA (hDa _ _ _ _) hP hS [] [0, 1, 2, 3, 4, 5, 6, 7, 8, 9, 10, 11, 12, 13, 14, 15, 16, 17, 18, 19, 20, 21, 22, 23, 24] [0, 1, 2, 3, 4, 5, 6, 7, 8, 9, 10, 11, 12, 13, 14, 15, 16, 17, 18, 19, 20, 21, 22, 23, 24] (fun sz => kcX5_isLaw l dC dI cy fu l2 sz r1 hr1) rfl rfl (by decide) (by decide) (by decide) rfl (va_cwS 1 hts gX5_pact_X5_isLaw rfl rfl rfl ydX5_isLaw ⟨Nat.le_of_ble_eq_true rfl, Nat.le_of_ble_eq_true rfl⟩) rfl hl.1 rfl (Nat.le_of_ble_eq_true rfl) dX5_pact_31 ⟨Nat.zero_le _, Nat.zero_le _⟩ (fun H locs hP hS => ?_)
    refine lv_if_eq (tgt := 44) hx hb dX5_pact_34 (by decide) (fun hc => ?_) (fun hc => ?_)
    · replace hm := (if_pos hc).symm.trans hm
      refine lv_iconst (v := (-1 : Int32)) hx hb dX5_pact_44 (by decide) ?_
      obtain rfl := Option.some.inj hm
      exact hret 45 ls _ _ dX5_pact_45 hP hS
    replace hm := (if_neg hc).symm.trans hm
    refine lv_iload_n hx hb dX5_pact_37 rfl (lv_at hl 4 rfl) ?_
    obtain ⟨r2, hr2, hm⟩ := bn_call hm
    refine ca_si (wr := (o_X5 cy h0 a0 w0) ++ (o_X1 cy (a0 2) a1 w1) ++ (o_X4 cy (a0 4) a2 w2) ++ (o_X4 cy (a0 5) a3 w3)) (wn := (o_X5 cy h0 a0 w0) ++ (o_X1 cy (a0 2) a1 w1) ++ (o_X4 cy (a0 4) a2 w2) ++ (o_X4 cy (a0 5) a3 w3)) ⟨hx, hb, hml, hown, hts⟩ hK hA (hDa _ _ _ _) hP hS [] [0, 1, 2, 3, 4, 5, 6, 7, 8, 9, 10, 11, 12, 13, 14, 15, 16, 17, 18, 19, 20, 21, 22, 23, 24] [0, 1, 2, 3, 4, 5, 6, 7, 8, 9, 10, 11, 12, 13, 14, 15, 16, 17, 18, 19, 20, 21, 22, 23, 24] (fun sz => kcX5_isZeroOrOne l dC dI cy fu l3 sz r2 hr2) rfl rfl (by decide) (by decide) (by decide) rfl (va_cwS 1 hts gX5_pact_X5_isZeroOrOne rfl rfl rfl ydX5_isZeroOrOne ⟨Nat.le_of_ble_eq_true rfl, Nat.le_of_ble_eq_true rfl⟩) rfl hl.1 rfl (Nat.le_of_ble_eq_true rfl) dX5_pact_38 ⟨Nat.zero_le _, Nat.zero_le _⟩ (fun H locs hP hS => ?_)
    refine lv_if_ne (tgt := 46) hx hb dX5_pact_41 (by decide) (fun hc => ?_) (fun hc => ?_)
    · replace hm := (if_neg hc).symm.trans hm
      refine lv_aload_n hx hb dX5_pact_46 rfl (lv_at hl 1 rfl) ?_
      refine lv_iload_n hx hb dX5_pact_47 rfl (lv_at hl 2 rfl) ?_
      refine lv_iload_n hx hb dX5_pact_48 rfl (lv_at hl 3 rfl) ?_
      obtain ⟨r3, hr3, hm⟩ := bn_call hm
      refine ca_vi (wr := []) (wn := (o_X5 cy h0 a0 w0) ++ (o_X1 cy (a0 2) a1 r3.2.1) ++ (o_X4 cy (a0 4) a2 w2) ++ (o_X4 cy (a0 5) a3 r3.2.2)) ⟨hx, hb, hml, hown, hts⟩ hK hA (hDa _ _ _ _) hP hS [0, 1, 2, 3, 4, 5, 6, 7, 8, 9, 10, 11, 12, 13, 14, 15, 16, 17, 18, 19, 20, 21, 22, 23, 24] [] [0, 1, 2, 3, 4, 5, 6, 7, 8, 9, 10, 11, 12, 13, 14, 15, 16, 17, 18, 19, 20, 21, 22, 23, 24] (fun sz => kcX5_tryPact l dC dI cy fu h0 a0 w0 a1 w1 a2 w2 a3 w3 l1 l2 sz r3 hr3) rfl rfl (by decide) (by decide) (by decide) rfl (cwV 2 hts gX5_pact_X5_tryPact rfl rfl rfl ⟨rfl, ydX5_tryPact⟩ ⟨Nat.le_of_ble_eq_true rfl, Nat.le_of_ble_eq_true rfl⟩) 5 0 rfl rfl rfl rfl hl.1 rfl (Nat.le_of_ble_eq_true rfl) dX5_pact_49 ⟨Nat.zero_le _, Nat.zero_le _⟩ (fun H locs hP hS => ?_)
      refine lv_bipush (v := (-5 : Int32)) hx hb dX5_pact_52 (by decide) ?_
      refine lv_icmp_ne (tgt := 60) hx hb dX5_pact_54 (by decide) (fun hc => ?_) (fun hc => ?_)
      · replace hm := (if_neg hc).symm.trans hm
        refine lv_iload_n hx hb dX5_pact_60 rfl (lv_at hl 4 rfl) ?_
        refine lv_iconst (v := (1 : Int32)) hx hb dX5_pact_61 (by decide) ?_
        refine lv_icmp_ne (tgt := 73) hx hb dX5_pact_62 (by decide) (fun hc => ?_) (fun hc => ?_)
        · replace hm := (if_neg hc).symm.trans hm
          refine lv_aload_n hx hb dX5_pact_73 rfl (lv_at hl 1 rfl) ?_
          refine lv_iload_n hx hb dX5_pact_74 rfl (lv_at hl 2 rfl) ?_
          obtain ⟨r4, hr4, hm⟩ := bn_call hm
          refine ca_vi (wr := (o_X1 cy (a0 2) a1 r3.2.1) ++ (o_X4 cy (a0 4) a2 w2)) (wn := (o_X5 cy h0 a0 w0) ++ (o_X1 cy (a0 2) a1 r3.2.1) ++ (o_X4 cy (a0 4) a2 w2) ++ (o_X4 cy (a0 5) a3 r3.2.2)) ⟨hx, hb, hml, hown, hts⟩ hK hA (hDa _ _ _ _) hP hS [0, 1, 15, 16, 17, 18, 19, 20, 21, 22, 23, 24] [2, 3, 4, 5, 6, 7, 8, 9, 10, 11, 12, 13, 14] [13, 14, 0, 1, 2, 3, 4, 5, 6, 7, 8, 9, 10, 11, 12, 15, 16, 17, 18, 19, 20, 21, 22, 23, 24] (fun sz => kcX5_allHold l dC dI cy fu h0 a0 w0 a3 r3.2.2 l1 sz r4 hr4) rfl rfl (by decide) (by decide) (by decide) rfl (cwV 1 hts gX5_pact_X5_allHold rfl rfl rfl ⟨rfl, ydX5_allHold⟩ ⟨Nat.le_of_ble_eq_true rfl, Nat.le_of_ble_eq_true rfl⟩) 5 0 rfl rfl rfl rfl hl.1 rfl (Nat.le_of_ble_eq_true rfl) dX5_pact_75 ⟨Nat.zero_le _, Nat.zero_le _⟩ (fun H locs hP hS => ?_)
          refine lv_if_eq (tgt := 85) hx hb dX5_pact_78 (by decide) (fun hc => ?_) (fun hc => ?_)
          · replace hm := (if_pos hc).symm.trans hm
            refine lv_iconst (v := (0 : Int32)) hx hb dX5_pact_85 (by decide) ?_
            obtain rfl := Option.some.inj hm
            exact hret 86 ls _ _ dX5_pact_86 hP hS
          replace hm := (if_neg hc).symm.trans hm
          refine lv_iconst (v := (1 : Int32)) hx hb dX5_pact_81 (by decide) ?_
          refine lv_goto (tgt := 86) hx hb dX5_pact_82 (by decide) ?_
          obtain rfl := Option.some.inj hm
          exact hret 86 ls _ _ dX5_pact_86 hP hS
        replace hm := (if_pos hc).symm.trans hm
        refine lv_aload_n hx hb dX5_pact_65 rfl (lv_at hl 1 rfl) ?_
        refine va_get (D := (dC, dI)) (ci := 5) (v := .ref (a0 5)) (C := RX5) (T := TX5) (N := 8) hx hb hts i5 hown hK hP 0 rfl rfl 5 (by decide) (hts (.fieldLink RX5 44 "TwoMetals" "trial" "LTwoMetals$World;") (List.mem_of_getElem? (i := 3) rfl)) (fun _ h9 => h9) rfl dX5_pact_66 ?_
        refine va_get (D := (dC, dI)) (ci := 4) (v := .int (r3.2.2.1 15 0)) (C := RX4) (T := TX4) (N := 17) hx hb hts i4 hown hK hP 15 rfl rfl 15 (by decide) (hts (.fieldLink RX5 128 "TwoMetals$World" "price" "I") (List.mem_of_getElem? (i := 4) rfl)) (fun _ h9 => h9) rfl dX5_pact_69 ?_
        obtain rfl := Option.some.inj hm
        exact hret 72 ls _ _ dX5_pact_72 hP hS
      replace hm := (if_pos hc).symm.trans hm
      refine lv_bipush (v := (-5 : Int32)) hx hb dX5_pact_57 (by decide) ?_
      obtain rfl := Option.some.inj hm
      exact hret 59 ls _ _ dX5_pact_59 hP hS
    replace hm := (if_pos hc).symm.trans hm
    refine lv_iconst (v := (-1 : Int32)) hx hb dX5_pact_44 (by decide) ?_
    obtain rfl := Option.some.inj hm
    exact hret 45 ls _ _ dX5_pact_45 hP hS
  unfold mX5_pact at hm
  refine lv_iload_n hx hb dX5_pact_0 rfl (lv_at hl 1 rfl) ?_
  refine lv_if_eq (tgt := 22) hx hb dX5_pact_1 (by decide) (fun hc => ?_) (fun hc => ?_)
  · replace hm := (if_pos hc).symm.trans hm
    refine lv_iconst (v := (0 : Int32)) hx hb dX5_pact_22 (by decide) ?_
    exact hB23 w1 w3 p1 p2 p3 (0 : Int32) _ _ ls hm hP hS (lv_sub hl [0, 1, 2, 3] rfl)
  replace hm := (if_neg hc).symm.trans hm
  refine lv_iload_n hx hb dX5_pact_4 rfl (lv_at hl 1 rfl) ?_
  refine lv_aload_n hx hb dX5_pact_5 rfl (lv_at hl 0 rfl) ?_
  refine va_get (D := (dC, dI)) (ci := 5) (v := .ref (a0 4)) (C := RX5) (T := TX5) (N := 8) hx hb hts i5 hown hK hP 0 rfl rfl 4 (by decide) (hts (.fieldLink RX5 40 "TwoMetals" "now" "LTwoMetals$World;") (List.mem_of_getElem? (i := 1) rfl)) (fun _ h9 => h9) rfl dX5_pact_6 ?_
  refine va_get (D := (dC, dI)) (ci := 4) (v := .int (w2.1 10 0)) (C := RX4) (T := TX4) (N := 17) hx hb hts i4 hown hK hP 5 rfl rfl 10 (by decide) (hts (.fieldLink RX5 174 "TwoMetals$World" "minting" "I") (List.mem_of_getElem? (i := 2) rfl)) (fun _ h9 => h9) rfl dX5_pact_9 ?_
  refine lv_iconst (v := (-1 : Int32)) hx hb dX5_pact_12 (by decide) ?_
  refine lv_ixor hx hb dX5_pact_13 ?_
  refine lv_iand hx hb dX5_pact_14 ?_
  refine lv_if_ne (tgt := 22) hx hb dX5_pact_15 (by decide) (fun hc => ?_) (fun hc => ?_)
  · replace hm := (if_neg hc).symm.trans hm
    refine lv_iconst (v := (0 : Int32)) hx hb dX5_pact_22 (by decide) ?_
    exact hB23 w1 w3 p1 p2 p3 (0 : Int32) _ _ ls hm hP hS (lv_sub hl [0, 1, 2, 3] rfl)
  replace hm := (if_pos hc).symm.trans hm
  refine lv_iconst (v := (1 : Int32)) hx hb dX5_pact_18 (by decide) ?_
  refine lv_goto (tgt := 23) hx hb dX5_pact_19 (by decide) ?_
  exact hB23 w1 w3 p1 p2 p3 (1 : Int32) _ _ ls hm hP hS (lv_sub hl [0, 1, 2, 3] rfl)
set_option maxHeartbeats 4000000 in
set_option maxRecDepth 100000 in
theorem kcX5_fewest (l : Launch) (dC : Nat → ClassId) (dI : Nat → Nat → Nat) (cy : Nat → ClassId) (fu : Nat) (h0 : Nat) (a0 : Nat → Nat) (w0 : ob_T) (a1 : Nat → Nat) (w1 : ob_T) (a2 : Nat → Nat) (w2 : ob_T) (a3 : Nat → Nat) (w3 : ob_T) (p1 : Int32) (sz : Nat) (R : Int32 × ob_T × ob_T) (hm : mX5_fewest fu w0 w1 w2 w3 p1 = some R) : Met l yX5_fewest wsX5_fewest (rmN 6 144) (va_Pc [.ref h0, .int p1] (cPre dC dI cy ((o_X5 cy h0 a0 w0) ++ (o_X1 cy (a0 2) a1 w1) ++ (o_X4 cy (a0 4) a2 w2) ++ (o_X4 cy (a0 5) a3 w3)) sz)) (va_Qi (fun (r : Int32) (_ : Unit) => r = R.1) (fun _ => cPost dC dI cy ((o_X5 cy h0 a0 w0) ++ (o_X1 cy (a0 2) a1 w1) ++ (o_X4 cy (a0 4) a2 w2) ++ (o_X4 cy (a0 5) a3 w3)) ((o_X5 cy h0 a0 w0) ++ (o_X1 cy (a0 2) a1 R.2.1) ++ (o_X4 cy (a0 4) a2 w2) ++ (o_X4 cy (a0 5) a3 R.2.2)) sz) (va_A ((o_X5 cy h0 a0 w0) ++ (o_X1 cy (a0 2) a1 w1) ++ (o_X4 cy (a0 4) a2 w2) ++ (o_X4 cy (a0 5) a3 w3)) sz)) 0 0 (va_A ((o_X5 cy h0 a0 w0) ++ (o_X1 cy (a0 2) a1 w1) ++ (o_X4 cy (a0 4) a2 w2) ++ (o_X4 cy (a0 5) a3 w3)) sz) := by
  refine mt_i (cc := cX5_fewest) (maxL := 5) (by decide) rfl (Nat.le_of_ble_eq_true rfl) rfl ?_
  intro p e s m below meth c Q A hx hb hml hown hts hK hA hD hP hret ls hl
  have hown : s.vm.findClass RX5 = some m.cls := hown
  have hl : lv_has ls 5 [(0, .ref h0), (1, .int p1)] := hl
  have hDa : ∀ v0 v1 v2 v3 : ob_T, va_D A ((o_X5 cy h0 a0 v0) ++ (o_X1 cy (a0 2) a1 v1) ++ (o_X4 cy (a0 4) a2 v2) ++ (o_X4 cy (a0 5) a3 v3)) := fun _ _ _ _ => va_D_adr hD rfl
  have i4 : ∀ w ∈ wsX40, w ∈ wsX5_fewest := fun _ h => List.mem_cons_of_mem _ (List.mem_append_left _ (List.mem_append_right _ h))
  have i5 : ∀ w ∈ wsX50, w ∈ wsX5_fewest := fun _ h => List.mem_cons_of_mem _ (List.mem_append_left _ (List.mem_append_left _ (List.mem_append_right _ h)))
  have hS : va_S A s.heap s.heap [] := va_S.rf
  have hB81 : ∀ (k11 : ob_T → ob_T → Int32 → Int32 → Option (Int32 × ob_T × ob_T)) (_ : ∀ (w1 : ob_T) (w3 : ob_T) (l1 : Int32) (l2 : Int32) (H : Heap) (locs : List Loc) (ls : Array Slot), k11 w1 w3 l1 l2 = some R → va_P (dC, dI) vwCl ((o_X5 cy h0 a0 w0) ++ (o_X1 cy (a0 2) a1 w1) ++ (o_X4 cy (a0 4) a2 w2) ++ (o_X4 cy (a0 5) a3 w3)) H → va_S A s.heap H locs → lv_has ls 5 [(0, .ref h0), (1, .int l1), (2, .int l2)] → W p l e (rmN 6 144) s m ([.ref h0, .int p1] : List Value).toArray below meth c H locs 0 0 Q (F0 m 11 ls [])) (k19 : ob_T → ob_T → Int32 → Int32 → Int32 → Option (Int32 × ob_T × ob_T)) (_ : ∀ (w1 : ob_T) (w3 : ob_T) (l1 : Int32) (l2 : Int32) (l3 : Int32) (H : Heap) (locs : List Loc) (ls : Array Slot), k19 w1 w3 l1 l2 l3 = some R → va_P (dC, dI) vwCl ((o_X5 cy h0 a0 w0) ++ (o_X1 cy (a0 2) a1 w1) ++ (o_X4 cy (a0 4) a2 w2) ++ (o_X4 cy (a0 5) a3 w3)) H → va_S A s.heap H locs → lv_has ls 5 [(0, .ref h0), (1, .int l1), (2, .int l2), (3, .int l3)] → W p l e (rmN 6 144) s m ([.ref h0, .int p1] : List Value).toArray below meth c H locs 0 0 Q (F0 m 19 ls [])) (w1 : ob_T) (w3 : ob_T) (l1 : Int32) (l2 : Int32) (l3 : Int32) (H : Heap) (locs : List Loc) (ls : Array Slot), bX5_fewest_81 fu w0 w2 k11 k19 w1 w3 l1 l2 l3 = some R → va_P (dC, dI) vwCl ((o_X5 cy h0 a0 w0) ++ (o_X1 cy (a0 2) a1 w1) ++ (o_X4 cy (a0 4) a2 w2) ++ (o_X4 cy (a0 5) a3 w3)) H → va_S A s.heap H locs → lv_has ls 5 [(0, .ref h0), (1, .int l1), (2, .int l2), (3, .int l3)] → W p l e (rmN 6 144) s m ([.ref h0, .int p1] : List Value).toArray below meth c H locs 0 0 Q (F0 m 81 ls []) := by
    intro k11 hk11 k19 hk19 w1 w3 l1 l2 l3 H locs ls hm hP hS hl
    unfold bX5_fewest_81 at hm
    obtain ⟨x1, e2⟩ : ∃ y : Int32, y = l3 + (1 : Int32) := ⟨_, rfl⟩
    replace hm := bn_at e2 hm
    refine lv_iinc (v := x1) (lv' := [(3, .int x1), (0, .ref h0), (1, .int l1), (2, .int l2)]) hx hb dX5_fewest_81 hl (k := 3) rfl (by rw [e2]; rfl) (by decide) rfl (fun ls hl => ?_)
    refine lv_goto (tgt := 19) hx hb dX5_fewest_84 (by decide) ?_
    exact hk19 w1 w3 l1 l2 x1 _ _ ls hm hP hS (lv_sub hl [1, 2, 3, 0] rfl)
  have hB53 : ∀ (k11 : ob_T → ob_T → Int32 → Int32 → Option (Int32 × ob_T × ob_T)) (_ : ∀ (w1 : ob_T) (w3 : ob_T) (l1 : Int32) (l2 : Int32) (H : Heap) (locs : List Loc) (ls : Array Slot), k11 w1 w3 l1 l2 = some R → va_P (dC, dI) vwCl ((o_X5 cy h0 a0 w0) ++ (o_X1 cy (a0 2) a1 w1) ++ (o_X4 cy (a0 4) a2 w2) ++ (o_X4 cy (a0 5) a3 w3)) H → va_S A s.heap H locs → lv_has ls 5 [(0, .ref h0), (1, .int l1), (2, .int l2)] → W p l e (rmN 6 144) s m ([.ref h0, .int p1] : List Value).toArray below meth c H locs 0 0 Q (F0 m 11 ls [])) (k19 : ob_T → ob_T → Int32 → Int32 → Int32 → Option (Int32 × ob_T × ob_T)) (_ : ∀ (w1 : ob_T) (w3 : ob_T) (l1 : Int32) (l2 : Int32) (l3 : Int32) (H : Heap) (locs : List Loc) (ls : Array Slot), k19 w1 w3 l1 l2 l3 = some R → va_P (dC, dI) vwCl ((o_X5 cy h0 a0 w0) ++ (o_X1 cy (a0 2) a1 w1) ++ (o_X4 cy (a0 4) a2 w2) ++ (o_X4 cy (a0 5) a3 w3)) H → va_S A s.heap H locs → lv_has ls 5 [(0, .ref h0), (1, .int l1), (2, .int l2), (3, .int l3)] → W p l e (rmN 6 144) s m ([.ref h0, .int p1] : List Value).toArray below meth c H locs 0 0 Q (F0 m 19 ls [])) (w1 : ob_T) (w3 : ob_T) (l1 : Int32) (l2 : Int32) (l3 : Int32) (s0 : Int32) (H : Heap) (locs : List Loc) (ls : Array Slot), bX5_fewest_53 fu w0 w2 k11 k19 w1 w3 l1 l2 l3 s0 = some R → va_P (dC, dI) vwCl ((o_X5 cy h0 a0 w0) ++ (o_X1 cy (a0 2) a1 w1) ++ (o_X4 cy (a0 4) a2 w2) ++ (o_X4 cy (a0 5) a3 w3)) H → va_S A s.heap H locs → lv_has ls 5 [(0, .ref h0), (1, .int l1), (2, .int l2), (3, .int l3)] → W p l e (rmN 6 144) s m ([.ref h0, .int p1] : List Value).toArray below meth c H locs 0 0 Q (F0 m 53 ls [.int s0]) := by
    intro k11 hk11 k19 hk19 w1 w3 l1 l2 l3 s0 H locs ls hm hP hS hl
    unfold bX5_fewest_53 at hm
    refine lv_istore (lv' := [(4, .int s0), (0, .ref h0), (1, .int l1), (2, .int l2), (3, .int l3)]) hx hb dX5_fewest_53 hl (by decide) rfl (fun ls hl => ?_)
    refine lv_iload hx hb dX5_fewest_55 (lv_at hl 0 rfl) ?_
    refine lv_if_eq (tgt := 81) hx hb dX5_fewest_57 (by decide) (fun hc => ?_) (fun hc => ?_)
    · replace hm := (if_pos hc).symm.trans hm
      exact hB81 (k11) hk11 (k19) hk19 w1 w3 l1 l2 l3 _ _ ls hm hP hS (lv_sub hl [1, 2, 3, 4] rfl)
    replace hm := (if_neg hc).symm.trans hm
    refine lv_aload_n hx hb dX5_fewest_60 rfl (lv_at hl 1 rfl) ?_
    refine lv_iload_n hx hb dX5_fewest_61 rfl (lv_at hl 4 rfl) ?_
    refine lv_iload_n hx hb dX5_fewest_62 rfl (lv_at hl 2 rfl) ?_
    obtain ⟨r3, hr3, hm⟩ := bn_call hm
    refine ca_vi (wr := []) (wn := (o_X5 cy h0 a0 w0) ++ (o_X1 cy (a0 2) a1 r3.2.1) ++ (o_X4 cy (a0 4) a2 w2) ++ (o_X4 cy (a0 5) a3 r3.2.2)) ⟨hx, hb, hml, hown, hts⟩ hK hA (hDa _ _ _ _) hP hS [0, 1, 2, 3, 4, 5, 6, 7, 8, 9, 10, 11, 12, 13, 14, 15, 16, 17, 18, 19, 20, 21, 22, 23, 24] [] [0, 1, 2, 3, 4, 5, 6, 7, 8, 9, 10, 11, 12, 13, 14, 15, 16, 17, 18, 19, 20, 21, 22, 23, 24] (fun sz => kcX5_tryPact l dC dI cy fu h0 a0 w0 a1 w1 a2 w2 a3 w3 l3 l1 sz r3 hr3) rfl rfl (by decide) (by decide) (by decide) rfl (cwV 2 hts gX5_fewest_X5_tryPact rfl rfl rfl ⟨rfl, ydX5_tryPact⟩ ⟨Nat.le_of_ble_eq_true rfl, Nat.le_of_ble_eq_true rfl⟩) 5 0 rfl rfl rfl rfl hl.1 rfl (Nat.le_of_ble_eq_true rfl) dX5_fewest_63 ⟨Nat.zero_le _, Nat.zero_le _⟩ (fun H locs hP hS => ?_)
    refine lv_bipush (v := (-5 : Int32)) hx hb dX5_fewest_66 (by decide) ?_
    refine lv_icmp_eq (tgt := 81) hx hb dX5_fewest_68 (by decide) (fun hc => ?_) (fun hc => ?_)
    · replace hm := (if_pos hc).symm.trans hm
      exact hB81 (k11) hk11 (k19) hk19 r3.2.1 r3.2.2 l1 l2 l3 _ _ ls hm hP hS (lv_sub hl [1, 2, 3, 4] rfl)
    replace hm := (if_neg hc).symm.trans hm
    refine lv_aload_n hx hb dX5_fewest_71 rfl (lv_at hl 1 rfl) ?_
    refine lv_iload_n hx hb dX5_fewest_72 rfl (lv_at hl 4 rfl) ?_
    obtain ⟨r4, hr4, hm⟩ := bn_call hm
    refine ca_vi (wr := (o_X1 cy (a0 2) a1 r3.2.1) ++ (o_X4 cy (a0 4) a2 w2)) (wn := (o_X5 cy h0 a0 w0) ++ (o_X1 cy (a0 2) a1 r3.2.1) ++ (o_X4 cy (a0 4) a2 w2) ++ (o_X4 cy (a0 5) a3 r3.2.2)) ⟨hx, hb, hml, hown, hts⟩ hK hA (hDa _ _ _ _) hP hS [0, 1, 15, 16, 17, 18, 19, 20, 21, 22, 23, 24] [2, 3, 4, 5, 6, 7, 8, 9, 10, 11, 12, 13, 14] [13, 14, 0, 1, 2, 3, 4, 5, 6, 7, 8, 9, 10, 11, 12, 15, 16, 17, 18, 19, 20, 21, 22, 23, 24] (fun sz => kcX5_allHold l dC dI cy fu h0 a0 w0 a3 r3.2.2 l3 sz r4 hr4) rfl rfl (by decide) (by decide) (by decide) rfl (cwV 1 hts gX5_fewest_X5_allHold rfl rfl rfl ⟨rfl, ydX5_allHold⟩ ⟨Nat.le_of_ble_eq_true rfl, Nat.le_of_ble_eq_true rfl⟩) 5 0 rfl rfl rfl rfl hl.1 rfl (Nat.le_of_ble_eq_true rfl) dX5_fewest_73 ⟨Nat.zero_le _, Nat.zero_le _⟩ (fun H locs hP hS => ?_)
    refine lv_if_eq (tgt := 81) hx hb dX5_fewest_76 (by decide) (fun hc => ?_) (fun hc => ?_)
    · replace hm := (if_pos hc).symm.trans hm
      exact hB81 (k11) hk11 (k19) hk19 r3.2.1 r3.2.2 l1 l2 l3 _ _ ls hm hP hS (lv_sub hl [1, 2, 3, 4] rfl)
    replace hm := (if_neg hc).symm.trans hm
    refine lv_iload_n hx hb dX5_fewest_79 rfl (lv_at hl 4 rfl) ?_
    obtain rfl := Option.some.inj hm
    exact hret 80 ls _ _ dX5_fewest_80 hP hS
  have hB19 : ∀ (k11 : ob_T → ob_T → Int32 → Int32 → Option (Int32 × ob_T × ob_T)) (_ : ∀ (w1 : ob_T) (w3 : ob_T) (l1 : Int32) (l2 : Int32) (H : Heap) (locs : List Loc) (ls : Array Slot), k11 w1 w3 l1 l2 = some R → va_P (dC, dI) vwCl ((o_X5 cy h0 a0 w0) ++ (o_X1 cy (a0 2) a1 w1) ++ (o_X4 cy (a0 4) a2 w2) ++ (o_X4 cy (a0 5) a3 w3)) H → va_S A s.heap H locs → lv_has ls 5 [(0, .ref h0), (1, .int l1), (2, .int l2)] → W p l e (rmN 6 144) s m ([.ref h0, .int p1] : List Value).toArray below meth c H locs 0 0 Q (F0 m 11 ls [])) (nn : Nat) (w1 : ob_T) (w3 : ob_T) (l1 : Int32) (l2 : Int32) (l3 : Int32) (H : Heap) (locs : List Loc) (ls : Array Slot), bX5_fewest_19 fu w0 w2 k11 nn w1 w3 l1 l2 l3 = some R → va_P (dC, dI) vwCl ((o_X5 cy h0 a0 w0) ++ (o_X1 cy (a0 2) a1 w1) ++ (o_X4 cy (a0 4) a2 w2) ++ (o_X4 cy (a0 5) a3 w3)) H → va_S A s.heap H locs → lv_has ls 5 [(0, .ref h0), (1, .int l1), (2, .int l2), (3, .int l3)] → W p l e (rmN 6 144) s m ([.ref h0, .int p1] : List Value).toArray below meth c H locs 0 0 Q (F0 m 19 ls []) := by
    intro k11 hk11
    intro nn
    induction nn with
    | zero => intro w1 w3 l1 l2 l3 H locs ls hm; exact no_some ((bX5_fewest_19_0 fu w0 w2 k11 w1 w3 l1 l2 l3).symm.trans hm)
    | succ nn ih =>
      intro w1 w3 l1 l2 l3 H locs ls hm hP hS hl
      replace hm := (bX5_fewest_19_s fu w0 w2 k11 nn w1 w3 l1 l2 l3).symm.trans hm
      refine lv_iload_n hx hb dX5_fewest_19 rfl (lv_at hl 3 rfl) ?_
      refine lv_sipush (v := (256 : Int32)) hx hb dX5_fewest_20 (by decide) ?_
      refine lv_icmp_ge (tgt := 87) hx hb dX5_fewest_23 (by decide) (fun hc => ?_) (fun hc => ?_)
      · replace hm := (if_pos hc).symm.trans hm
        obtain ⟨x5, e6⟩ : ∃ y : Int32, y = l2 + (1 : Int32) := ⟨_, rfl⟩
        replace hm := bn_at e6 hm
        refine lv_iinc (v := x5) (lv' := [(2, .int x5), (0, .ref h0), (1, .int l1), (3, .int l3)]) hx hb dX5_fewest_87 hl (k := 2) rfl (by rw [e6]; rfl) (by decide) rfl (fun ls hl => ?_)
        refine lv_goto (tgt := 11) hx hb dX5_fewest_90 (by decide) ?_
        exact hk11 w1 w3 l1 x5 _ _ ls hm hP hS (lv_sub hl [1, 2, 0] rfl)
      replace hm := (if_neg hc).symm.trans hm
      refine lv_iload_n hx hb dX5_fewest_26 rfl (lv_at hl 3 rfl) ?_
      obtain ⟨r7, hr7, hm⟩ := bn_call hm
      refine ca_si (wr := (o_X5 cy h0 a0 w0) ++ (o_X1 cy (a0 2) a1 w1) ++ (o_X4 cy (a0 4) a2 w2) ++ (o_X4 cy (a0 5) a3 w3)) (wn := (o_X5 cy h0 a0 w0) ++ (o_X1 cy (a0 2) a1 w1) ++ (o_X4 cy (a0 4) a2 w2) ++ (o_X4 cy (a0 5) a3 w3)) ⟨hx, hb, hml, hown, hts⟩ hK hA (hDa _ _ _ _) hP hS [] [0, 1, 2, 3, 4, 5, 6, 7, 8, 9, 10, 11, 12, 13, 14, 15, 16, 17, 18, 19, 20, 21, 22, 23, 24] [0, 1, 2, 3, 4, 5, 6, 7, 8, 9, 10, 11, 12, 13, 14, 15, 16, 17, 18, 19, 20, 21, 22, 23, 24] (fun sz => kcJ6_bitCount_0f7a4 l dC dI cy fu l3 sz r7 hr7) rfl rfl (by decide) (by decide) (by decide) rfl (va_cwS 1 hts gX5_fewest_J6_bitCount_0f7a4 rfl rfl rfl ydJ6_bitCount_0f7a4 ⟨Nat.le_of_ble_eq_true rfl, Nat.le_of_ble_eq_true rfl⟩) rfl hl.1 rfl (Nat.le_of_ble_eq_true rfl) dX5_fewest_27 ⟨Nat.zero_le _, Nat.zero_le _⟩ (fun H locs hP hS => ?_)
      refine lv_iload_n hx hb dX5_fewest_30 rfl (lv_at hl 2 rfl) ?_
      refine lv_icmp_ne (tgt := 52) hx hb dX5_fewest_31 (by decide) (fun hc => ?_) (fun hc => ?_)
      · replace hm := (if_neg hc).symm.trans hm
        refine lv_iconst (v := (0 : Int32)) hx hb dX5_fewest_52 (by decide) ?_
        exact hB53 (k11) hk11 (bX5_fewest_19 fu w0 w2 k11 nn) ih w1 w3 l1 l2 l3 (0 : Int32) _ _ ls hm hP hS (lv_sub hl [0, 1, 2, 3] rfl)
      replace hm := (if_pos hc).symm.trans hm
      refine lv_iload_n hx hb dX5_fewest_34 rfl (lv_at hl 3 rfl) ?_
      refine lv_aload_n hx hb dX5_fewest_35 rfl (lv_at hl 0 rfl) ?_
      refine va_get (D := (dC, dI)) (ci := 5) (v := .ref (a0 4)) (C := RX5) (T := TX5) (N := 8) hx hb hts i5 hown hK hP 0 rfl rfl 4 (by decide) (hts (.fieldLink RX5 40 "TwoMetals" "now" "LTwoMetals$World;") (List.mem_of_getElem? (i := 1) rfl)) (fun _ h9 => h9) rfl dX5_fewest_36 ?_
      refine va_get (D := (dC, dI)) (ci := 4) (v := .int (w2.1 10 0)) (C := RX4) (T := TX4) (N := 17) hx hb hts i4 hown hK hP 5 rfl rfl 10 (by decide) (hts (.fieldLink RX5 174 "TwoMetals$World" "minting" "I") (List.mem_of_getElem? (i := 2) rfl)) (fun _ h9 => h9) rfl dX5_fewest_39 ?_
      refine lv_iconst (v := (-1 : Int32)) hx hb dX5_fewest_42 (by decide) ?_
      refine lv_ixor hx hb dX5_fewest_43 ?_
      refine lv_iand hx hb dX5_fewest_44 ?_
      refine lv_if_ne (tgt := 52) hx hb dX5_fewest_45 (by decide) (fun hc => ?_) (fun hc => ?_)
      · replace hm := (if_neg hc).symm.trans hm
        refine lv_iconst (v := (0 : Int32)) hx hb dX5_fewest_52 (by decide) ?_
        exact hB53 (k11) hk11 (bX5_fewest_19 fu w0 w2 k11 nn) ih w1 w3 l1 l2 l3 (0 : Int32) _ _ ls hm hP hS (lv_sub hl [0, 1, 2, 3] rfl)
      replace hm := (if_pos hc).symm.trans hm
      refine lv_iconst (v := (1 : Int32)) hx hb dX5_fewest_48 (by decide) ?_
      refine lv_goto (tgt := 53) hx hb dX5_fewest_49 (by decide) ?_
      exact hB53 (k11) hk11 (bX5_fewest_19 fu w0 w2 k11 nn) ih w1 w3 l1 l2 l3 (1 : Int32) _ _ ls hm hP hS (lv_sub hl [0, 1, 2, 3] rfl)
  have hB11 : ∀ (nn : Nat) (w1 : ob_T) (w3 : ob_T) (l1 : Int32) (l2 : Int32) (H : Heap) (locs : List Loc) (ls : Array Slot), bX5_fewest_11 fu w0 w2 nn w1 w3 l1 l2 = some R → va_P (dC, dI) vwCl ((o_X5 cy h0 a0 w0) ++ (o_X1 cy (a0 2) a1 w1) ++ (o_X4 cy (a0 4) a2 w2) ++ (o_X4 cy (a0 5) a3 w3)) H → va_S A s.heap H locs → lv_has ls 5 [(0, .ref h0), (1, .int l1), (2, .int l2)] → W p l e (rmN 6 144) s m ([.ref h0, .int p1] : List Value).toArray below meth c H locs 0 0 Q (F0 m 11 ls []) := by
    intro nn
    induction nn with
    | zero => intro w1 w3 l1 l2 H locs ls hm; exact no_some ((bX5_fewest_11_0 fu w0 w2 w1 w3 l1 l2).symm.trans hm)
    | succ nn ih =>
      intro w1 w3 l1 l2 H locs ls hm hP hS hl
      replace hm := (bX5_fewest_11_s fu w0 w2 nn w1 w3 l1 l2).symm.trans hm
      refine lv_iload_n hx hb dX5_fewest_11 rfl (lv_at hl 2 rfl) ?_
      refine lv_bipush (v := (8 : Int32)) hx hb dX5_fewest_12 (by decide) ?_
      refine lv_icmp_gt (tgt := 93) hx hb dX5_fewest_14 (by decide) (fun hc => ?_) (fun hc => ?_)
      · replace hm := (if_pos hc).symm.trans hm
        refine lv_bipush (v := (-4 : Int32)) hx hb dX5_fewest_93 (by decide) ?_
        obtain rfl := Option.some.inj hm
        exact hret 95 ls _ _ dX5_fewest_95 hP hS
      replace hm := (if_neg hc).symm.trans hm
      refine lv_iconst (v := (1 : Int32)) hx hb dX5_fewest_17 (by decide) ?_
      refine lv_istore_n (lv' := [(3, .int (1 : Int32)), (0, .ref h0), (1, .int l1), (2, .int l2)]) hx hb dX5_fewest_18 rfl hl (by decide) rfl (fun ls hl => ?_)
      exact hB19 (bX5_fewest_11 fu w0 w2 nn) ih fu w1 w3 l1 l2 (1 : Int32) _ _ ls hm hP hS (lv_sub hl [1, 2, 3, 0] rfl)
  unfold mX5_fewest at hm
  refine lv_iload_n hx hb dX5_fewest_0 rfl (lv_at hl 1 rfl) ?_
  obtain ⟨r8, hr8, hm⟩ := bn_call hm
  refine ca_si (wr := (o_X5 cy h0 a0 w0) ++ (o_X1 cy (a0 2) a1 w1) ++ (o_X4 cy (a0 4) a2 w2) ++ (o_X4 cy (a0 5) a3 w3)) (wn := (o_X5 cy h0 a0 w0) ++ (o_X1 cy (a0 2) a1 w1) ++ (o_X4 cy (a0 4) a2 w2) ++ (o_X4 cy (a0 5) a3 w3)) ⟨hx, hb, hml, hown, hts⟩ hK hA (hDa _ _ _ _) hP hS [] [0, 1, 2, 3, 4, 5, 6, 7, 8, 9, 10, 11, 12, 13, 14, 15, 16, 17, 18, 19, 20, 21, 22, 23, 24] [0, 1, 2, 3, 4, 5, 6, 7, 8, 9, 10, 11, 12, 13, 14, 15, 16, 17, 18, 19, 20, 21, 22, 23, 24] (fun sz => kcX5_isLaw l dC dI cy fu p1 sz r8 hr8) rfl rfl (by decide) (by decide) (by decide) rfl (va_cwS 1 hts gX5_fewest_X5_isLaw rfl rfl rfl ydX5_isLaw ⟨Nat.le_of_ble_eq_true rfl, Nat.le_of_ble_eq_true rfl⟩) rfl hl.1 rfl (Nat.le_of_ble_eq_true rfl) dX5_fewest_1 ⟨Nat.zero_le _, Nat.zero_le _⟩ (fun H locs hP hS => ?_)
  refine lv_if_ne (tgt := 9) hx hb dX5_fewest_4 (by decide) (fun hc => ?_) (fun hc => ?_)
  · replace hm := (if_neg hc).symm.trans hm
    refine lv_iconst (v := (1 : Int32)) hx hb dX5_fewest_9 (by decide) ?_
    refine lv_istore_n (lv' := [(2, .int (1 : Int32)), (0, .ref h0), (1, .int p1)]) hx hb dX5_fewest_10 rfl hl (by decide) rfl (fun ls hl => ?_)
    exact hB11 fu w1 w3 p1 (1 : Int32) _ _ ls hm hP hS (lv_sub hl [1, 2, 0] rfl)
  replace hm := (if_pos hc).symm.trans hm
  refine lv_iconst (v := (-1 : Int32)) hx hb dX5_fewest_7 (by decide) ?_
  obtain rfl := Option.some.inj hm
  exact hret 8 ls _ _ dX5_fewest_8 hP hS
set_option maxHeartbeats 4000000 in
set_option maxRecDepth 100000 in
theorem kcX5_tryPurchase (l : Launch) (dC : Nat → ClassId) (dI : Nat → Nat → Nat) (cy : Nat → ClassId) (fu : Nat) (h0 : Nat) (a0 : Nat → Nat) (w0 : ob_T) (a1 : Nat → Nat) (w1 : ob_T) (a2 : Nat → Nat) (w2 : ob_T) (a3 : Nat → Nat) (w3 : ob_T) (p1 : Int32) (sz : Nat) (R : Int32 × ob_T × ob_T) (hm : mX5_tryPurchase fu w0 w1 w2 w3 p1 = some R) : Met l yX5_tryPurchase wsX5_tryPurchase (rmN 5 121) (va_Pc [.ref h0, .int p1] (cPre dC dI cy ((o_X5 cy h0 a0 w0) ++ (o_X1 cy (a0 2) a1 w1) ++ (o_X4 cy (a0 4) a2 w2) ++ (o_X4 cy (a0 5) a3 w3)) sz)) (va_Qi (fun (r : Int32) (_ : Unit) => r = R.1) (fun _ => cPost dC dI cy ((o_X5 cy h0 a0 w0) ++ (o_X1 cy (a0 2) a1 w1) ++ (o_X4 cy (a0 4) a2 w2) ++ (o_X4 cy (a0 5) a3 w3)) ((o_X5 cy h0 a0 w0) ++ (o_X1 cy (a0 2) a1 R.2.1) ++ (o_X4 cy (a0 4) a2 w2) ++ (o_X4 cy (a0 5) a3 R.2.2)) sz) (va_A ((o_X5 cy h0 a0 w0) ++ (o_X1 cy (a0 2) a1 w1) ++ (o_X4 cy (a0 4) a2 w2) ++ (o_X4 cy (a0 5) a3 w3)) sz)) 0 0 (va_A ((o_X5 cy h0 a0 w0) ++ (o_X1 cy (a0 2) a1 w1) ++ (o_X4 cy (a0 4) a2 w2) ++ (o_X4 cy (a0 5) a3 w3)) sz) := by
  refine mt_i (cc := cX5_tryPurchase) (maxL := 2) (by decide) rfl (Nat.le_of_ble_eq_true rfl) rfl ?_
  intro p e s m below meth c Q A hx hb hml hown hts hK hA hD hP hret ls hl
  have hown : s.vm.findClass RX5 = some m.cls := hown
  have hl : lv_has ls 2 [(0, .ref h0), (1, .int p1)] := hl
  have hDa : ∀ v0 v1 v2 v3 : ob_T, va_D A ((o_X5 cy h0 a0 v0) ++ (o_X1 cy (a0 2) a1 v1) ++ (o_X4 cy (a0 4) a2 v2) ++ (o_X4 cy (a0 5) a3 v3)) := fun _ _ _ _ => va_D_adr hD rfl
  have i4 : ∀ w ∈ wsX40, w ∈ wsX5_tryPurchase := fun _ h => List.mem_cons_of_mem _ (List.mem_append_left _ (List.mem_append_right _ h))
  have i5 : ∀ w ∈ wsX50, w ∈ wsX5_tryPurchase := fun _ h => List.mem_cons_of_mem _ (List.mem_append_left _ (List.mem_append_left _ (List.mem_append_right _ h)))
  have hS : va_S A s.heap s.heap [] := va_S.rf
  unfold mX5_tryPurchase at hm
  refine lv_aload_n hx hb dX5_tryPurchase_0 rfl (lv_at hl 0 rfl) ?_
  refine va_get (D := (dC, dI)) (ci := 5) (v := .ref (a0 5)) (C := RX5) (T := TX5) (N := 8) hx hb hts i5 hown hK hP 0 rfl rfl 5 (by decide) (hts (.fieldLink RX5 44 "TwoMetals" "trial" "LTwoMetals$World;") (List.mem_of_getElem? (i := 1) rfl)) (fun _ h9 => h9) rfl dX5_tryPurchase_1 ?_
  refine lv_aload_n hx hb dX5_tryPurchase_4 rfl (lv_at hl 0 rfl) ?_
  refine va_get (D := (dC, dI)) (ci := 5) (v := .ref (a0 4)) (C := RX5) (T := TX5) (N := 8) hx hb hts i5 hown hK hP 0 rfl rfl 4 (by decide) (hts (.fieldLink RX5 40 "TwoMetals" "now" "LTwoMetals$World;") (List.mem_of_getElem? (i := 2) rfl)) (fun _ h9 => h9) rfl dX5_tryPurchase_5 ?_
  obtain ⟨r1, hr1, hm⟩ := bn_call hm
  refine ca_vv (wr := (o_X5 cy h0 a0 w0) ++ (o_X1 cy (a0 2) a1 w1)) (wn := (o_X5 cy h0 a0 w0) ++ (o_X1 cy (a0 2) a1 w1) ++ (o_X4 cy (a0 4) a2 w2) ++ (o_X4 cy (a0 5) a3 r1)) ⟨hx, hb, hml, hown, hts⟩ hK hA (hDa _ _ _ _) hP hS [15, 16, 17, 18, 19, 20, 21, 22, 23, 24, 5, 6, 7, 8, 9, 10, 11, 12, 13, 14] [0, 1, 2, 3, 4] [0, 1, 2, 3, 4, 15, 16, 17, 18, 19, 20, 21, 22, 23, 24, 5, 6, 7, 8, 9, 10, 11, 12, 13, 14] (fun sz => kcX4_copyFrom l dC dI cy fu (a0 5) a3 w3 (a0 4) a2 w2 sz r1 hr1) rfl rfl (by decide) (by decide) (by decide) rfl (cwV 1 hts gX5_tryPurchase_X4_copyFrom rfl rfl rfl ⟨rfl, ydX4_copyFrom⟩ ⟨Nat.le_of_ble_eq_true rfl, Nat.le_of_ble_eq_true rfl⟩) 4 0 rfl rfl rfl rfl hl.1 rfl (Nat.le_of_ble_eq_true rfl) dX5_tryPurchase_8 ⟨Nat.zero_le _, Nat.zero_le _⟩ (fun H locs hP hS => ?_)
  refine lv_aload_n hx hb dX5_tryPurchase_11 rfl (lv_at hl 0 rfl) ?_
  refine va_get (D := (dC, dI)) (ci := 5) (v := .ref (a0 5)) (C := RX5) (T := TX5) (N := 8) hx hb hts i5 hown hK hP 0 rfl rfl 5 (by decide) (hts (.fieldLink RX5 44 "TwoMetals" "trial" "LTwoMetals$World;") (List.mem_of_getElem? (i := 1) rfl)) (fun _ h9 => h9) rfl dX5_tryPurchase_12 ?_
  refine lv_dup hx hb dX5_tryPurchase_15 rfl ?_
  refine va_get (D := (dC, dI)) (ci := 4) (v := .long (r1.2 12 0)) (C := RX4) (T := TX4) (N := 17) hx hb hts i4 hown hK hP 15 rfl rfl 12 (by decide) (hts (.fieldLink RX5 121 "TwoMetals$World" "marketGold" "J") (List.mem_of_getElem? (i := 3) rfl)) (fun _ h9 => h9) rfl dX5_tryPurchase_16 ?_
  refine lv_iload_n hx hb dX5_tryPurchase_19 rfl (lv_at hl 1 rfl) ?_
  refine lv_i2l (v := p1.toInt64) hx hb dX5_tryPurchase_20 rfl ?_
  refine lv_lsub hx hb dX5_tryPurchase_21 ?_
  refine va_put (D := (dC, dI)) (ci := 4) (v := .long ((r1.2 12 0) - p1.toInt64)) (ty := .long) (C := RX4) (T := TX4) (N := 17) hx hb hts i4 tyX4 tyX4_ok nmX4 hown hK hP (hDa _ _ _ _) hS 15 rfl rfl 12 (by decide) (hts (.fieldLink RX5 121 "TwoMetals$World" "marketGold" "J") (List.mem_of_getElem? (i := 3) rfl)) (fun _ h9 => h9) rfl (tyX4_ok 12 (by decide)) rfl rfl (Nat.le_of_ble_eq_true rfl) dX5_tryPurchase_22 (fun H locs hP _ hS => ?_)
  have hP : va_P (dC, dI) vwCl ((o_X5 cy h0 a0 w0) ++ (o_X1 cy (a0 2) a1 w1) ++ (o_X4 cy (a0 4) a2 w2) ++ (o_X4 cy (a0 5) a3 (ob_L r1 12 (fun _ => (r1.2 12 0) - p1.toInt64)))) H := hP
  obtain ⟨u2, hP, hm⟩ := bn_ob (P := fun zz => va_P (dC, dI) vwCl ((o_X5 cy h0 a0 w0) ++ (o_X1 cy (a0 2) a1 w1) ++ (o_X4 cy (a0 4) a2 w2) ++ (o_X4 cy (a0 5) a3 zz)) H) hm hP
  refine lv_aload_n hx hb dX5_tryPurchase_25 rfl (lv_at hl 0 rfl) ?_
  refine va_get (D := (dC, dI)) (ci := 5) (v := .ref (a0 5)) (C := RX5) (T := TX5) (N := 8) hx hb hts i5 hown hK hP 0 rfl rfl 5 (by decide) (hts (.fieldLink RX5 44 "TwoMetals" "trial" "LTwoMetals$World;") (List.mem_of_getElem? (i := 1) rfl)) (fun _ h9 => h9) rfl dX5_tryPurchase_26 ?_
  obtain ⟨r3, hr3, hm⟩ := bn_call hm
  refine ca_vv (wr := (o_X5 cy h0 a0 w0) ++ (o_X1 cy (a0 2) a1 w1) ++ (o_X4 cy (a0 4) a2 w2)) (wn := (o_X5 cy h0 a0 w0) ++ (o_X1 cy (a0 2) a1 w1) ++ (o_X4 cy (a0 4) a2 w2) ++ (o_X4 cy (a0 5) a3 r3)) ⟨hx, hb, hml, hown, hts⟩ hK hA (hDa _ _ _ _) hP hS [15, 16, 17, 18, 19, 20, 21, 22, 23, 24] [0, 1, 2, 3, 4, 5, 6, 7, 8, 9, 10, 11, 12, 13, 14] [0, 1, 2, 3, 4, 5, 6, 7, 8, 9, 10, 11, 12, 13, 14, 15, 16, 17, 18, 19, 20, 21, 22, 23, 24] (fun sz => kcX4_weigh l dC dI cy fu (a0 5) a3 u2 sz r3 hr3) rfl rfl (by decide) (by decide) (by decide) rfl (cwV 0 hts gX5_tryPurchase_X4_weigh rfl rfl rfl ⟨rfl, ydX4_weigh⟩ ⟨Nat.le_of_ble_eq_true rfl, Nat.le_of_ble_eq_true rfl⟩) 4 0 rfl rfl rfl rfl hl.1 rfl (Nat.le_of_ble_eq_true rfl) dX5_tryPurchase_29 ⟨Nat.zero_le _, Nat.zero_le _⟩ (fun H locs hP hS => ?_)
  refine lv_aload_n hx hb dX5_tryPurchase_32 rfl (lv_at hl 0 rfl) ?_
  refine va_get (D := (dC, dI)) (ci := 5) (v := .ref (a0 2)) (C := RX5) (T := TX5) (N := 8) hx hb hts i5 hown hK hP 0 rfl rfl 2 (by decide) (hts (.fieldLink RX5 26 "TwoMetals" "mover" "LTwoMetals$Mover;") (List.mem_of_getElem? (i := 4) rfl)) (fun _ h9 => h9) rfl dX5_tryPurchase_33 ?_
  refine lv_aload_n hx hb dX5_tryPurchase_36 rfl (lv_at hl 0 rfl) ?_
  refine va_get (D := (dC, dI)) (ci := 5) (v := .ref (a0 5)) (C := RX5) (T := TX5) (N := 8) hx hb hts i5 hown hK hP 0 rfl rfl 5 (by decide) (hts (.fieldLink RX5 44 "TwoMetals" "trial" "LTwoMetals$World;") (List.mem_of_getElem? (i := 1) rfl)) (fun _ h9 => h9) rfl dX5_tryPurchase_37 ?_
  obtain ⟨r4, hr4, hm⟩ := bn_call hm
  refine ca_vi (wr := (o_X5 cy h0 a0 w0) ++ (o_X4 cy (a0 4) a2 w2)) (wn := (o_X5 cy h0 a0 w0) ++ (o_X1 cy (a0 2) a1 r4.2.1) ++ (o_X4 cy (a0 4) a2 w2) ++ (o_X4 cy (a0 5) a3 r4.2.2)) ⟨hx, hb, hml, hown, hts⟩ hK hA (hDa _ _ _ _) hP hS [2, 3, 4, 15, 16, 17, 18, 19, 20, 21, 22, 23, 24] [0, 1, 5, 6, 7, 8, 9, 10, 11, 12, 13, 14] [0, 1, 12, 13, 14, 2, 3, 4, 5, 6, 7, 8, 9, 10, 11, 15, 16, 17, 18, 19, 20, 21, 22, 23, 24] (fun sz => kcX1_settle l dC dI cy fu (a0 2) a1 w1 (a0 5) a3 r3 sz r4 hr4) rfl rfl (by decide) (by decide) (by decide) rfl (cwV 1 hts gX5_tryPurchase_X1_settle rfl rfl rfl ⟨rfl, ydX1_settle⟩ ⟨Nat.le_of_ble_eq_true rfl, Nat.le_of_ble_eq_true rfl⟩) 1 0 rfl rfl rfl rfl hl.1 rfl (Nat.le_of_ble_eq_true rfl) dX5_tryPurchase_40 ⟨Nat.zero_le _, Nat.zero_le _⟩ (fun H locs hP hS => ?_)
  obtain rfl := Option.some.inj hm
  exact hret 43 ls _ _ dX5_tryPurchase_43 hP hS
set_option maxHeartbeats 4000000 in
set_option maxRecDepth 100000 in
theorem kcX5_bought (l : Launch) (dC : Nat → ClassId) (dI : Nat → Nat → Nat) (cy : Nat → ClassId) (fu : Nat) (h0 : Nat) (a0 : Nat → Nat) (w0 : ob_T) (a1 : Nat → Nat) (w1 : ob_T) (a2 : Nat → Nat) (w2 : ob_T) (a3 : Nat → Nat) (w3 : ob_T) (p1 : Int32) (p2 : Int32) (sz : Nat) (R : Int32 × ob_T × ob_T) (hm : mX5_bought fu w0 w1 w2 w3 p1 p2 = some R) : Met l yX5_bought wsX5_bought (rmN 6 142) (va_Pc [.ref h0, .int p1, .int p2] (cPre dC dI cy ((o_X5 cy h0 a0 w0) ++ (o_X1 cy (a0 2) a1 w1) ++ (o_X4 cy (a0 4) a2 w2) ++ (o_X4 cy (a0 5) a3 w3)) sz)) (va_Qi (fun (r : Int32) (_ : Unit) => r = R.1) (fun _ => cPost dC dI cy ((o_X5 cy h0 a0 w0) ++ (o_X1 cy (a0 2) a1 w1) ++ (o_X4 cy (a0 4) a2 w2) ++ (o_X4 cy (a0 5) a3 w3)) ((o_X5 cy h0 a0 w0) ++ (o_X1 cy (a0 2) a1 R.2.1) ++ (o_X4 cy (a0 4) a2 w2) ++ (o_X4 cy (a0 5) a3 R.2.2)) sz) (va_A ((o_X5 cy h0 a0 w0) ++ (o_X1 cy (a0 2) a1 w1) ++ (o_X4 cy (a0 4) a2 w2) ++ (o_X4 cy (a0 5) a3 w3)) sz)) 0 0 (va_A ((o_X5 cy h0 a0 w0) ++ (o_X1 cy (a0 2) a1 w1) ++ (o_X4 cy (a0 4) a2 w2) ++ (o_X4 cy (a0 5) a3 w3)) sz) := by
  refine mt_i (cc := cX5_bought) (maxL := 3) (by decide) rfl (Nat.le_of_ble_eq_true rfl) rfl ?_
  intro p e s m below meth c Q A hx hb hml hown hts hK hA hD hP hret ls hl
  have hown : s.vm.findClass RX5 = some m.cls := hown
  have hl : lv_has ls 3 [(0, .ref h0), (1, .int p1), (2, .int p2)] := hl
  have hDa : ∀ v0 v1 v2 v3 : ob_T, va_D A ((o_X5 cy h0 a0 v0) ++ (o_X1 cy (a0 2) a1 v1) ++ (o_X4 cy (a0 4) a2 v2) ++ (o_X4 cy (a0 5) a3 v3)) := fun _ _ _ _ => va_D_adr hD rfl
  have i4 : ∀ w ∈ wsX40, w ∈ wsX5_bought := fun _ h => List.mem_cons_of_mem _ (List.mem_append_left _ (List.mem_append_right _ h))
  have i5 : ∀ w ∈ wsX50, w ∈ wsX5_bought := fun _ h => List.mem_cons_of_mem _ (List.mem_append_left _ (List.mem_append_left _ (List.mem_append_right _ h)))
  have hS : va_S A s.heap s.heap [] := va_S.rf
  have hB35 : ∀ (w1 : ob_T) (w3 : ob_T) (l1 : Int32) (l2 : Int32) (H : Heap) (locs : List Loc) (ls : Array Slot), bX5_bought_35 fu w0 w2 w1 w3 l1 l2 = some R → va_P (dC, dI) vwCl ((o_X5 cy h0 a0 w0) ++ (o_X1 cy (a0 2) a1 w1) ++ (o_X4 cy (a0 4) a2 w2) ++ (o_X4 cy (a0 5) a3 w3)) H → va_S A s.heap H locs → lv_has ls 3 [(0, .ref h0), (1, .int l1), (2, .int l2)] → W p l e (rmN 6 142) s m ([.ref h0, .int p1, .int p2] : List Value).toArray below meth c H locs 0 0 Q (F0 m 35 ls []) := by
    intro w1 w3 l1 l2 H locs ls hm hP hS hl
    unfold bX5_bought_35 at hm
    refine lv_aload_n hx hb dX5_bought_35 rfl (lv_at hl 0 rfl) ?_
    refine lv_iload_n hx hb dX5_bought_36 rfl (lv_at hl 1 rfl) ?_
    obtain ⟨r1, hr1, hm⟩ := bn_call hm
    refine ca_vi (wr := []) (wn := (o_X5 cy h0 a0 w0) ++ (o_X1 cy (a0 2) a1 r1.2.1) ++ (o_X4 cy (a0 4) a2 w2) ++ (o_X4 cy (a0 5) a3 r1.2.2)) ⟨hx, hb, hml, hown, hts⟩ hK hA (hDa _ _ _ _) hP hS [0, 1, 2, 3, 4, 5, 6, 7, 8, 9, 10, 11, 12, 13, 14, 15, 16, 17, 18, 19, 20, 21, 22, 23, 24] [] [0, 1, 2, 3, 4, 5, 6, 7, 8, 9, 10, 11, 12, 13, 14, 15, 16, 17, 18, 19, 20, 21, 22, 23, 24] (fun sz => kcX5_tryPurchase l dC dI cy fu h0 a0 w0 a1 w1 a2 w2 a3 w3 l1 sz r1 hr1) rfl rfl (by decide) (by decide) (by decide) rfl (cwV 1 hts gX5_bought_X5_tryPurchase rfl rfl rfl ⟨rfl, ydX5_tryPurchase⟩ ⟨Nat.le_of_ble_eq_true rfl, Nat.le_of_ble_eq_true rfl⟩) 5 0 rfl rfl rfl rfl hl.1 rfl (Nat.le_of_ble_eq_true rfl) dX5_bought_37 ⟨Nat.zero_le _, Nat.zero_le _⟩ (fun H locs hP hS => ?_)
    refine lv_bipush (v := (-5 : Int32)) hx hb dX5_bought_40 (by decide) ?_
    refine lv_icmp_ne (tgt := 48) hx hb dX5_bought_42 (by decide) (fun hc => ?_) (fun hc => ?_)
    · replace hm := (if_neg hc).symm.trans hm
      refine lv_iload_n hx hb dX5_bought_48 rfl (lv_at hl 2 rfl) ?_
      refine lv_iconst (v := (-1 : Int32)) hx hb dX5_bought_49 (by decide) ?_
      refine lv_icmp_ne (tgt := 63) hx hb dX5_bought_50 (by decide) (fun hc => ?_) (fun hc => ?_)
      · replace hm := (if_neg hc).symm.trans hm
        refine lv_aload_n hx hb dX5_bought_63 rfl (lv_at hl 0 rfl) ?_
        refine va_get (D := (dC, dI)) (ci := 5) (v := .ref (a0 5)) (C := RX5) (T := TX5) (N := 8) hx hb hts i5 hown hK hP 0 rfl rfl 5 (by decide) (hts (.fieldLink RX5 44 "TwoMetals" "trial" "LTwoMetals$World;") (List.mem_of_getElem? (i := 3) rfl)) (fun _ h9 => h9) rfl dX5_bought_64 ?_
        refine va_get (D := (dC, dI)) (ci := 4) (v := .ref (a3 7)) (C := RX4) (T := TX4) (N := 17) hx hb hts i4 hown hK hP 15 rfl rfl 7 (by decide) (hts (.fieldLink RX5 105 "TwoMetals$World" "gold" "[J") (List.mem_of_getElem? (i := 5) rfl)) (fun _ h9 => h9) rfl dX5_bought_67 ?_
        refine lv_iload_n hx hb dX5_bought_70 rfl (lv_at hl 2 rfl) ?_
        obtain ⟨hi2, hm⟩ := ck_in hm
        refine va_lald hx hb hK hP 23 1 rfl rfl hi2 dX5_bought_71 ?_
        refine lv_l2i (v := (r1.2.2.2 7 l2.toNatClampNeg).toInt32) hx hb dX5_bought_72 rfl ?_
        obtain rfl := Option.some.inj hm
        exact hret 73 ls _ _ dX5_bought_73 hP hS
      replace hm := (if_pos hc).symm.trans hm
      refine lv_aload_n hx hb dX5_bought_53 rfl (lv_at hl 0 rfl) ?_
      refine va_get (D := (dC, dI)) (ci := 5) (v := .ref (a0 5)) (C := RX5) (T := TX5) (N := 8) hx hb hts i5 hown hK hP 0 rfl rfl 5 (by decide) (hts (.fieldLink RX5 44 "TwoMetals" "trial" "LTwoMetals$World;") (List.mem_of_getElem? (i := 3) rfl)) (fun _ h9 => h9) rfl dX5_bought_54 ?_
      refine va_get (D := (dC, dI)) (ci := 4) (v := .int (r1.2.2.1 15 0)) (C := RX4) (T := TX4) (N := 17) hx hb hts i4 hown hK hP 15 rfl rfl 15 (by decide) (hts (.fieldLink RX5 128 "TwoMetals$World" "price" "I") (List.mem_of_getElem? (i := 4) rfl)) (fun _ h9 => h9) rfl dX5_bought_57 ?_
      refine lv_goto (tgt := 73) hx hb dX5_bought_60 (by decide) ?_
      obtain rfl := Option.some.inj hm
      exact hret 73 ls _ _ dX5_bought_73 hP hS
    replace hm := (if_pos hc).symm.trans hm
    refine lv_bipush (v := (-5 : Int32)) hx hb dX5_bought_45 (by decide) ?_
    obtain rfl := Option.some.inj hm
    exact hret 47 ls _ _ dX5_bought_47 hP hS
  unfold mX5_bought at hm
  refine lv_iload_n hx hb dX5_bought_0 rfl (lv_at hl 1 rfl) ?_
  refine lv_if_lt (tgt := 33) hx hb dX5_bought_1 (by decide) (fun hc => ?_) (fun hc => ?_)
  · replace hm := (if_pos hc).symm.trans hm
    refine lv_iconst (v := (-1 : Int32)) hx hb dX5_bought_33 (by decide) ?_
    obtain rfl := Option.some.inj hm
    exact hret 34 ls _ _ dX5_bought_34 hP hS
  replace hm := (if_neg hc).symm.trans hm
  refine lv_iload_n hx hb dX5_bought_4 rfl (lv_at hl 1 rfl) ?_
  refine lv_i2l (v := p1.toInt64) hx hb dX5_bought_5 rfl ?_
  refine lv_aload_n hx hb dX5_bought_6 rfl (lv_at hl 0 rfl) ?_
  refine va_get (D := (dC, dI)) (ci := 5) (v := .ref (a0 4)) (C := RX5) (T := TX5) (N := 8) hx hb hts i5 hown hK hP 0 rfl rfl 4 (by decide) (hts (.fieldLink RX5 40 "TwoMetals" "now" "LTwoMetals$World;") (List.mem_of_getElem? (i := 1) rfl)) (fun _ h9 => h9) rfl dX5_bought_7 ?_
  refine va_get (D := (dC, dI)) (ci := 4) (v := .long (w2.2 12 0)) (C := RX4) (T := TX4) (N := 17) hx hb hts i4 hown hK hP 5 rfl rfl 12 (by decide) (hts (.fieldLink RX5 121 "TwoMetals$World" "marketGold" "J") (List.mem_of_getElem? (i := 2) rfl)) (fun _ h9 => h9) rfl dX5_bought_10 ?_
  refine W.lcmp hx hb dX5_bought_13 ?_
  refine lv_if_gt (tgt := 33) hx hb dX5_bought_14 (by decide) (fun hc => ?_) (fun hc => ?_)
  · replace hm := (if_pos hc).symm.trans hm
    refine lv_iconst (v := (-1 : Int32)) hx hb dX5_bought_33 (by decide) ?_
    obtain rfl := Option.some.inj hm
    exact hret 34 ls _ _ dX5_bought_34 hP hS
  replace hm := (if_neg hc).symm.trans hm
  refine lv_iload_n hx hb dX5_bought_17 rfl (lv_at hl 2 rfl) ?_
  refine lv_iconst (v := (-1 : Int32)) hx hb dX5_bought_18 (by decide) ?_
  refine lv_icmp_eq (tgt := 35) hx hb dX5_bought_19 (by decide) (fun hc => ?_) (fun hc => ?_)
  · replace hm := (if_pos hc).symm.trans hm
    exact hB35 w1 w3 p1 p2 _ _ ls hm hP hS (lv_sub hl [0, 1, 2] rfl)
  replace hm := (if_neg hc).symm.trans hm
  refine lv_aload_n hx hb dX5_bought_22 rfl (lv_at hl 0 rfl) ?_
  refine va_get (D := (dC, dI)) (ci := 5) (v := .ref (a0 4)) (C := RX5) (T := TX5) (N := 8) hx hb hts i5 hown hK hP 0 rfl rfl 4 (by decide) (hts (.fieldLink RX5 40 "TwoMetals" "now" "LTwoMetals$World;") (List.mem_of_getElem? (i := 1) rfl)) (fun _ h9 => h9) rfl dX5_bought_23 ?_
  refine lv_iload_n hx hb dX5_bought_26 rfl (lv_at hl 2 rfl) ?_
  obtain ⟨r3, hr3, hm⟩ := bn_call hm
  refine ca_vi (wr := (o_X5 cy h0 a0 w0) ++ (o_X1 cy (a0 2) a1 w1) ++ (o_X4 cy (a0 5) a3 w3)) (wn := (o_X5 cy h0 a0 w0) ++ (o_X1 cy (a0 2) a1 w1) ++ (o_X4 cy (a0 4) a2 w2) ++ (o_X4 cy (a0 5) a3 w3)) ⟨hx, hb, hml, hown, hts⟩ hK hA (hDa _ _ _ _) hP hS [5, 6, 7, 8, 9, 10, 11, 12, 13, 14] [0, 1, 2, 3, 4, 15, 16, 17, 18, 19, 20, 21, 22, 23, 24] [0, 1, 2, 3, 4, 15, 16, 17, 18, 19, 20, 21, 22, 23, 24, 5, 6, 7, 8, 9, 10, 11, 12, 13, 14] (fun sz => kcX4_has l dC dI cy fu (a0 4) a2 w2 p2 sz r3 hr3) rfl rfl (by decide) (by decide) (by decide) rfl (cwV 1 hts gX5_bought_X4_has rfl rfl rfl ⟨rfl, ydX4_has⟩ ⟨Nat.le_of_ble_eq_true rfl, Nat.le_of_ble_eq_true rfl⟩) 4 0 rfl rfl rfl rfl hl.1 rfl (Nat.le_of_ble_eq_true rfl) dX5_bought_27 ⟨Nat.zero_le _, Nat.zero_le _⟩ (fun H locs hP hS => ?_)
  refine lv_if_ne (tgt := 35) hx hb dX5_bought_30 (by decide) (fun hc => ?_) (fun hc => ?_)
  · replace hm := (if_neg hc).symm.trans hm
    exact hB35 w1 w3 p1 p2 _ _ ls hm hP hS (lv_sub hl [0, 1, 2] rfl)
  replace hm := (if_pos hc).symm.trans hm
  refine lv_iconst (v := (-1 : Int32)) hx hb dX5_bought_33 (by decide) ?_
  obtain rfl := Option.some.inj hm
  exact hret 34 ls _ _ dX5_bought_34 hP hS
set_option maxHeartbeats 4000000 in
set_option maxRecDepth 100000 in
theorem kcX5_corner (l : Launch) (dC : Nat → ClassId) (dI : Nat → Nat → Nat) (cy : Nat → ClassId) (fu : Nat) (h0 : Nat) (a0 : Nat → Nat) (w0 : ob_T) (a1 : Nat → Nat) (w1 : ob_T) (a2 : Nat → Nat) (w2 : ob_T) (a3 : Nat → Nat) (w3 : ob_T) (p1 : Int32) (sz : Nat) (R : Int32 × ob_T × ob_T) (hm : mX5_corner fu w0 w1 w2 w3 p1 = some R) : Met l yX5_corner wsX5_corner (rmN 6 142) (va_Pc [.ref h0, .int p1] (cPre dC dI cy ((o_X5 cy h0 a0 w0) ++ (o_X1 cy (a0 2) a1 w1) ++ (o_X4 cy (a0 4) a2 w2) ++ (o_X4 cy (a0 5) a3 w3)) sz)) (va_Qi (fun (r : Int32) (_ : Unit) => r = R.1) (fun _ => cPost dC dI cy ((o_X5 cy h0 a0 w0) ++ (o_X1 cy (a0 2) a1 w1) ++ (o_X4 cy (a0 4) a2 w2) ++ (o_X4 cy (a0 5) a3 w3)) ((o_X5 cy h0 a0 w0) ++ (o_X1 cy (a0 2) a1 R.2.1) ++ (o_X4 cy (a0 4) a2 w2) ++ (o_X4 cy (a0 5) a3 R.2.2)) sz) (va_A ((o_X5 cy h0 a0 w0) ++ (o_X1 cy (a0 2) a1 w1) ++ (o_X4 cy (a0 4) a2 w2) ++ (o_X4 cy (a0 5) a3 w3)) sz)) 0 0 (va_A ((o_X5 cy h0 a0 w0) ++ (o_X1 cy (a0 2) a1 w1) ++ (o_X4 cy (a0 4) a2 w2) ++ (o_X4 cy (a0 5) a3 w3)) sz) := by
  refine mt_i (cc := cX5_corner) (maxL := 6) (by decide) rfl (Nat.le_of_ble_eq_true rfl) rfl ?_
  intro p e s m below meth c Q A hx hb hml hown hts hK hA hD hP hret ls hl
  have hown : s.vm.findClass RX5 = some m.cls := hown
  have hl : lv_has ls 6 [(0, .ref h0), (1, .int p1)] := hl
  have hDa : ∀ v0 v1 v2 v3 : ob_T, va_D A ((o_X5 cy h0 a0 v0) ++ (o_X1 cy (a0 2) a1 v1) ++ (o_X4 cy (a0 4) a2 v2) ++ (o_X4 cy (a0 5) a3 v3)) := fun _ _ _ _ => va_D_adr hD rfl
  have i4 : ∀ w ∈ wsX40, w ∈ wsX5_corner := fun _ h => List.mem_cons_of_mem _ (List.mem_append_left _ (List.mem_append_right _ h))
  have i5 : ∀ w ∈ wsX50, w ∈ wsX5_corner := fun _ h => List.mem_cons_of_mem _ (List.mem_append_left _ (List.mem_append_left _ (List.mem_append_right _ h)))
  have hS : va_S A s.heap s.heap [] := va_S.rf
  have hB92 : ∀ (k38 : ob_T → ob_T → Int32 → Int32 → Int32 → Option (Int32 × ob_T × ob_T)) (_ : ∀ (w1 : ob_T) (w3 : ob_T) (l1 : Int32) (l2 : Int32) (l3 : Int32) (H : Heap) (locs : List Loc) (ls : Array Slot), k38 w1 w3 l1 l2 l3 = some R → va_P (dC, dI) vwCl ((o_X5 cy h0 a0 w0) ++ (o_X1 cy (a0 2) a1 w1) ++ (o_X4 cy (a0 4) a2 w2) ++ (o_X4 cy (a0 5) a3 w3)) H → va_S A s.heap H locs → lv_has ls 6 [(0, .ref h0), (1, .int l1), (2, .int l2), (3, .int l3)] → W p l e (rmN 6 142) s m ([.ref h0, .int p1] : List Value).toArray below meth c H locs 0 0 Q (F0 m 38 ls [])) (w1 : ob_T) (w3 : ob_T) (l1 : Int32) (l2 : Int32) (l3 : Int32) (l5 : Int32) (H : Heap) (locs : List Loc) (ls : Array Slot), bX5_corner_92 fu w0 w2 k38 w1 w3 l1 l2 l3 l5 = some R → va_P (dC, dI) vwCl ((o_X5 cy h0 a0 w0) ++ (o_X1 cy (a0 2) a1 w1) ++ (o_X4 cy (a0 4) a2 w2) ++ (o_X4 cy (a0 5) a3 w3)) H → va_S A s.heap H locs → lv_has ls 6 [(0, .ref h0), (1, .int l1), (2, .int l2), (3, .int l3), (5, .int l5)] → W p l e (rmN 6 142) s m ([.ref h0, .int p1] : List Value).toArray below meth c H locs 0 0 Q (F0 m 92 ls []) := by
    intro k38 hk38 w1 w3 l1 l2 l3 l5 H locs ls hm hP hS hl
    unfold bX5_corner_92 at hm
    refine lv_iload hx hb dX5_corner_92 (lv_at hl 4 rfl) ?_
    refine lv_iload_n hx hb dX5_corner_94 rfl (lv_at hl 2 rfl) ?_
    refine lv_icmp_ne (tgt := 101) hx hb dX5_corner_95 (by decide) (fun hc => ?_) (fun hc => ?_)
    · replace hm := (if_neg hc).symm.trans hm
      obtain ⟨x1, e2⟩ : ∃ y : Int32, y = l3 + (1 : Int32) := ⟨_, rfl⟩
      replace hm := bn_at e2 hm
      refine lv_iinc (v := x1) (lv' := [(3, .int x1), (0, .ref h0), (1, .int l1), (2, .int l2), (5, .int l5)]) hx hb dX5_corner_101 hl (k := 3) rfl (by rw [e2]; rfl) (by decide) rfl (fun ls hl => ?_)
      refine lv_goto (tgt := 38) hx hb dX5_corner_104 (by decide) ?_
      exact hk38 w1 w3 l1 l2 x1 _ _ ls hm hP hS (lv_sub hl [1, 2, 3, 0] rfl)
    replace hm := (if_pos hc).symm.trans hm
    refine lv_bipush (v := (-4 : Int32)) hx hb dX5_corner_98 (by decide) ?_
    obtain rfl := Option.some.inj hm
    exact hret 100 ls _ _ dX5_corner_100 hP hS
  have hB57 : ∀ (k38 : ob_T → ob_T → Int32 → Int32 → Int32 → Option (Int32 × ob_T × ob_T)) (_ : ∀ (w1 : ob_T) (w3 : ob_T) (l1 : Int32) (l2 : Int32) (l3 : Int32) (H : Heap) (locs : List Loc) (ls : Array Slot), k38 w1 w3 l1 l2 l3 = some R → va_P (dC, dI) vwCl ((o_X5 cy h0 a0 w0) ++ (o_X1 cy (a0 2) a1 w1) ++ (o_X4 cy (a0 4) a2 w2) ++ (o_X4 cy (a0 5) a3 w3)) H → va_S A s.heap H locs → lv_has ls 6 [(0, .ref h0), (1, .int l1), (2, .int l2), (3, .int l3)] → W p l e (rmN 6 142) s m ([.ref h0, .int p1] : List Value).toArray below meth c H locs 0 0 Q (F0 m 38 ls [])) (w1 : ob_T) (w3 : ob_T) (l1 : Int32) (l2 : Int32) (l3 : Int32) (s0 : Int32) (H : Heap) (locs : List Loc) (ls : Array Slot), bX5_corner_57 fu w0 w2 k38 w1 w3 l1 l2 l3 s0 = some R → va_P (dC, dI) vwCl ((o_X5 cy h0 a0 w0) ++ (o_X1 cy (a0 2) a1 w1) ++ (o_X4 cy (a0 4) a2 w2) ++ (o_X4 cy (a0 5) a3 w3)) H → va_S A s.heap H locs → lv_has ls 6 [(0, .ref h0), (1, .int l1), (2, .int l2), (3, .int l3)] → W p l e (rmN 6 142) s m ([.ref h0, .int p1] : List Value).toArray below meth c H locs 0 0 Q (F0 m 57 ls [.int s0]) := by
    intro k38 hk38 w1 w3 l1 l2 l3 s0 H locs ls hm hP hS hl
    unfold bX5_corner_57 at hm
    refine lv_istore (lv' := [(4, .int s0), (0, .ref h0), (1, .int l1), (2, .int l2), (3, .int l3)]) hx hb dX5_corner_57 hl (by decide) rfl (fun ls hl => ?_)
    refine lv_iload hx hb dX5_corner_59 (lv_at hl 0 rfl) ?_
    refine lv_iload_n hx hb dX5_corner_61 rfl (lv_at hl 3 rfl) ?_
    refine va_mmin hx hb (hml.trans hl.1.symm) hown (hts (.methodLink RX5 189 Lib.Math.min.name) (List.mem_of_getElem? (i := 3) rfl)) (hts (.static Lib.Math.min.name) (List.mem_of_getElem? (i := 4) rfl)) (hts (.initialized "java/lang/Math") (List.mem_of_getElem? (i := 5) rfl)) (hts (.code Lib.Math.min.name Lib.Math.min.code 2 (some .int)) (List.mem_of_getElem? (i := 6) rfl)) (Nat.le_of_ble_eq_true rfl) (Nat.le_of_ble_eq_true rfl) (Nat.zero_le _) (Nat.zero_le _) dX5_corner_62 ?_
    refine lv_topi (fun x3 e4 => ?_)
    replace hm := bn_at e4 hm
    refine lv_istore (lv' := [(5, .int x3), (4, .int s0), (0, .ref h0), (1, .int l1), (2, .int l2), (3, .int l3)]) hx hb dX5_corner_65 hl (by decide) rfl (fun ls hl => ?_)
    refine lv_aload_n hx hb dX5_corner_67 rfl (lv_at hl 2 rfl) ?_
    refine lv_iload hx hb dX5_corner_68 (lv_at hl 0 rfl) ?_
    obtain ⟨r5, hr5, hm⟩ := bn_call hm
    refine ca_vi (wr := []) (wn := (o_X5 cy h0 a0 w0) ++ (o_X1 cy (a0 2) a1 r5.2.1) ++ (o_X4 cy (a0 4) a2 w2) ++ (o_X4 cy (a0 5) a3 r5.2.2)) ⟨hx, hb, hml, hown, hts⟩ hK hA (hDa _ _ _ _) hP hS [0, 1, 2, 3, 4, 5, 6, 7, 8, 9, 10, 11, 12, 13, 14, 15, 16, 17, 18, 19, 20, 21, 22, 23, 24] [] [0, 1, 2, 3, 4, 5, 6, 7, 8, 9, 10, 11, 12, 13, 14, 15, 16, 17, 18, 19, 20, 21, 22, 23, 24] (fun sz => kcX5_tryPurchase l dC dI cy fu h0 a0 w0 a1 w1 a2 w2 a3 w3 x3 sz r5 hr5) rfl rfl (by decide) (by decide) (by decide) rfl (cwV 1 hts gX5_corner_X5_tryPurchase rfl rfl rfl ⟨rfl, ydX5_tryPurchase⟩ ⟨Nat.le_of_ble_eq_true rfl, Nat.le_of_ble_eq_true rfl⟩) 5 0 rfl rfl rfl rfl hl.1 rfl (Nat.le_of_ble_eq_true rfl) dX5_corner_70 ⟨Nat.zero_le _, Nat.zero_le _⟩ (fun H locs hP hS => ?_)
    refine lv_bipush (v := (-5 : Int32)) hx hb dX5_corner_73 (by decide) ?_
    refine lv_icmp_eq (tgt := 92) hx hb dX5_corner_75 (by decide) (fun hc => ?_) (fun hc => ?_)
    · replace hm := (if_pos hc).symm.trans hm
      exact hB92 (k38) hk38 r5.2.1 r5.2.2 l1 l2 l3 x3 _ _ ls hm hP hS (lv_sub hl [2, 3, 4, 5, 0] rfl)
    replace hm := (if_neg hc).symm.trans hm
    refine lv_aload_n hx hb dX5_corner_78 rfl (lv_at hl 2 rfl) ?_
    refine va_get (D := (dC, dI)) (ci := 5) (v := .ref (a0 5)) (C := RX5) (T := TX5) (N := 8) hx hb hts i5 hown hK hP 0 rfl rfl 5 (by decide) (hts (.fieldLink RX5 44 "TwoMetals" "trial" "LTwoMetals$World;") (List.mem_of_getElem? (i := 7) rfl)) (fun _ h9 => h9) rfl dX5_corner_79 ?_
    refine lv_iload_n hx hb dX5_corner_82 rfl (lv_at hl 3 rfl) ?_
    obtain ⟨r6, hr6, hm⟩ := bn_call hm
    refine ca_vi (wr := (o_X5 cy h0 a0 w0) ++ (o_X1 cy (a0 2) a1 r5.2.1) ++ (o_X4 cy (a0 4) a2 w2)) (wn := (o_X5 cy h0 a0 w0) ++ (o_X1 cy (a0 2) a1 r5.2.1) ++ (o_X4 cy (a0 4) a2 w2) ++ (o_X4 cy (a0 5) a3 r5.2.2)) ⟨hx, hb, hml, hown, hts⟩ hK hA (hDa _ _ _ _) hP hS [15, 16, 17, 18, 19, 20, 21, 22, 23, 24] [0, 1, 2, 3, 4, 5, 6, 7, 8, 9, 10, 11, 12, 13, 14] [0, 1, 2, 3, 4, 5, 6, 7, 8, 9, 10, 11, 12, 13, 14, 15, 16, 17, 18, 19, 20, 21, 22, 23, 24] (fun sz => kcX4_hasGold l dC dI cy fu (a0 5) a3 r5.2.2 l1 sz r6 hr6) rfl rfl (by decide) (by decide) (by decide) rfl (cwV 1 hts gX5_corner_X4_hasGold rfl rfl rfl ⟨rfl, ydX4_hasGold⟩ ⟨Nat.le_of_ble_eq_true rfl, Nat.le_of_ble_eq_true rfl⟩) 4 0 rfl rfl rfl rfl hl.1 rfl (Nat.le_of_ble_eq_true rfl) dX5_corner_83 ⟨Nat.zero_le _, Nat.zero_le _⟩ (fun H locs hP hS => ?_)
    refine lv_if_ne (tgt := 92) hx hb dX5_corner_86 (by decide) (fun hc => ?_) (fun hc => ?_)
    · replace hm := (if_neg hc).symm.trans hm
      exact hB92 (k38) hk38 r5.2.1 r5.2.2 l1 l2 l3 x3 _ _ ls hm hP hS (lv_sub hl [2, 3, 4, 5, 0] rfl)
    replace hm := (if_pos hc).symm.trans hm
    refine lv_iload hx hb dX5_corner_89 (lv_at hl 0 rfl) ?_
    obtain rfl := Option.some.inj hm
    exact hret 91 ls _ _ dX5_corner_91 hP hS
  have hB38 : ∀ (nn : Nat) (w1 : ob_T) (w3 : ob_T) (l1 : Int32) (l2 : Int32) (l3 : Int32) (H : Heap) (locs : List Loc) (ls : Array Slot), bX5_corner_38 fu w0 w2 nn w1 w3 l1 l2 l3 = some R → va_P (dC, dI) vwCl ((o_X5 cy h0 a0 w0) ++ (o_X1 cy (a0 2) a1 w1) ++ (o_X4 cy (a0 4) a2 w2) ++ (o_X4 cy (a0 5) a3 w3)) H → va_S A s.heap H locs → lv_has ls 6 [(0, .ref h0), (1, .int l1), (2, .int l2), (3, .int l3)] → W p l e (rmN 6 142) s m ([.ref h0, .int p1] : List Value).toArray below meth c H locs 0 0 Q (F0 m 38 ls []) := by
    intro nn
    induction nn with
    | zero => intro w1 w3 l1 l2 l3 H locs ls hm; exact no_some ((bX5_corner_38_0 fu w0 w2 w1 w3 l1 l2 l3).symm.trans hm)
    | succ nn ih =>
      intro w1 w3 l1 l2 l3 H locs ls hm hP hS hl
      replace hm := (bX5_corner_38_s fu w0 w2 nn w1 w3 l1 l2 l3).symm.trans hm
      refine lv_iload_n hx hb dX5_corner_38 rfl (lv_at hl 3 rfl) ?_
      refine lv_bipush (v := (32 : Int32)) hx hb dX5_corner_39 (by decide) ?_
      refine lv_icmp_ge (tgt := 107) hx hb dX5_corner_41 (by decide) (fun hc => ?_) (fun hc => ?_)
      · replace hm := (if_pos hc).symm.trans hm
        refine lv_bipush (v := (-4 : Int32)) hx hb dX5_corner_107 (by decide) ?_
        obtain rfl := Option.some.inj hm
        exact hret 109 ls _ _ dX5_corner_109 hP hS
      replace hm := (if_neg hc).symm.trans hm
      refine lv_iload_n hx hb dX5_corner_44 rfl (lv_at hl 3 rfl) ?_
      refine lv_if_ne (tgt := 52) hx hb dX5_corner_45 (by decide) (fun hc => ?_) (fun hc => ?_)
      · replace hm := (if_neg hc).symm.trans hm
        refine lv_iconst (v := (1 : Int32)) hx hb dX5_corner_52 (by decide) ?_
        refine lv_iload_n hx hb dX5_corner_53 rfl (lv_at hl 3 rfl) ?_
        refine lv_iconst (v := (1 : Int32)) hx hb dX5_corner_54 (by decide) ?_
        refine lv_isub hx hb dX5_corner_55 ?_
        refine lv_ishl hx hb dX5_corner_56 ?_
        exact hB57 (bX5_corner_38 fu w0 w2 nn) ih w1 w3 l1 l2 l3 ((1 : Int32) <<< ((l3 - (1 : Int32)) &&& 31)) _ _ ls hm hP hS (lv_sub hl [0, 1, 2, 3] rfl)
      replace hm := (if_pos hc).symm.trans hm
      refine lv_iconst (v := (0 : Int32)) hx hb dX5_corner_48 (by decide) ?_
      refine lv_goto (tgt := 57) hx hb dX5_corner_49 (by decide) ?_
      exact hB57 (bX5_corner_38 fu w0 w2 nn) ih w1 w3 l1 l2 l3 (0 : Int32) _ _ ls hm hP hS (lv_sub hl [0, 1, 2, 3] rfl)
  unfold mX5_corner at hm
  refine lv_aload_n hx hb dX5_corner_0 rfl (lv_at hl 0 rfl) ?_
  refine va_get (D := (dC, dI)) (ci := 5) (v := .ref (a0 4)) (C := RX5) (T := TX5) (N := 8) hx hb hts i5 hown hK hP 0 rfl rfl 4 (by decide) (hts (.fieldLink RX5 40 "TwoMetals" "now" "LTwoMetals$World;") (List.mem_of_getElem? (i := 1) rfl)) (fun _ h9 => h9) rfl dX5_corner_1 ?_
  refine lv_iload_n hx hb dX5_corner_4 rfl (lv_at hl 1 rfl) ?_
  obtain ⟨r7, hr7, hm⟩ := bn_call hm
  refine ca_vi (wr := (o_X5 cy h0 a0 w0) ++ (o_X1 cy (a0 2) a1 w1) ++ (o_X4 cy (a0 5) a3 w3)) (wn := (o_X5 cy h0 a0 w0) ++ (o_X1 cy (a0 2) a1 w1) ++ (o_X4 cy (a0 4) a2 w2) ++ (o_X4 cy (a0 5) a3 w3)) ⟨hx, hb, hml, hown, hts⟩ hK hA (hDa _ _ _ _) hP hS [5, 6, 7, 8, 9, 10, 11, 12, 13, 14] [0, 1, 2, 3, 4, 15, 16, 17, 18, 19, 20, 21, 22, 23, 24] [0, 1, 2, 3, 4, 15, 16, 17, 18, 19, 20, 21, 22, 23, 24, 5, 6, 7, 8, 9, 10, 11, 12, 13, 14] (fun sz => kcX4_has l dC dI cy fu (a0 4) a2 w2 p1 sz r7 hr7) rfl rfl (by decide) (by decide) (by decide) rfl (cwV 1 hts gX5_corner_X4_has rfl rfl rfl ⟨rfl, ydX4_has⟩ ⟨Nat.le_of_ble_eq_true rfl, Nat.le_of_ble_eq_true rfl⟩) 4 0 rfl rfl rfl rfl hl.1 rfl (Nat.le_of_ble_eq_true rfl) dX5_corner_5 ⟨Nat.zero_le _, Nat.zero_le _⟩ (fun H locs hP hS => ?_)
  refine lv_if_ne (tgt := 13) hx hb dX5_corner_8 (by decide) (fun hc => ?_) (fun hc => ?_)
  · replace hm := (if_neg hc).symm.trans hm
    refine lv_aload_n hx hb dX5_corner_13 rfl (lv_at hl 0 rfl) ?_
    refine va_get (D := (dC, dI)) (ci := 5) (v := .ref (a0 4)) (C := RX5) (T := TX5) (N := 8) hx hb hts i5 hown hK hP 0 rfl rfl 4 (by decide) (hts (.fieldLink RX5 40 "TwoMetals" "now" "LTwoMetals$World;") (List.mem_of_getElem? (i := 1) rfl)) (fun _ h9 => h9) rfl dX5_corner_14 ?_
    refine lv_iload_n hx hb dX5_corner_17 rfl (lv_at hl 1 rfl) ?_
    obtain ⟨r8, hr8, hm⟩ := bn_call hm
    refine ca_vi (wr := (o_X5 cy h0 a0 w0) ++ (o_X1 cy (a0 2) a1 w1) ++ (o_X4 cy (a0 5) a3 w3)) (wn := (o_X5 cy h0 a0 w0) ++ (o_X1 cy (a0 2) a1 w1) ++ (o_X4 cy (a0 4) a2 w2) ++ (o_X4 cy (a0 5) a3 w3)) ⟨hx, hb, hml, hown, hts⟩ hK hA (hDa _ _ _ _) hP hS [5, 6, 7, 8, 9, 10, 11, 12, 13, 14] [0, 1, 2, 3, 4, 15, 16, 17, 18, 19, 20, 21, 22, 23, 24] [0, 1, 2, 3, 4, 15, 16, 17, 18, 19, 20, 21, 22, 23, 24, 5, 6, 7, 8, 9, 10, 11, 12, 13, 14] (fun sz => kcX4_mints l dC dI cy fu (a0 4) a2 w2 p1 sz r8 hr8) rfl rfl (by decide) (by decide) (by decide) rfl (cwV 1 hts gX5_corner_X4_mints rfl rfl rfl ⟨rfl, ydX4_mints⟩ ⟨Nat.le_of_ble_eq_true rfl, Nat.le_of_ble_eq_true rfl⟩) 4 0 rfl rfl rfl rfl hl.1 rfl (Nat.le_of_ble_eq_true rfl) dX5_corner_18 ⟨Nat.zero_le _, Nat.zero_le _⟩ (fun H locs hP hS => ?_)
    refine lv_if_ne (tgt := 27) hx hb dX5_corner_21 (by decide) (fun hc => ?_) (fun hc => ?_)
    · replace hm := (if_neg hc).symm.trans hm
      refine lv_aload_n hx hb dX5_corner_27 rfl (lv_at hl 0 rfl) ?_
      refine va_get (D := (dC, dI)) (ci := 5) (v := .ref (a0 4)) (C := RX5) (T := TX5) (N := 8) hx hb hts i5 hown hK hP 0 rfl rfl 4 (by decide) (hts (.fieldLink RX5 40 "TwoMetals" "now" "LTwoMetals$World;") (List.mem_of_getElem? (i := 1) rfl)) (fun _ h9 => h9) rfl dX5_corner_28 ?_
      refine va_get (D := (dC, dI)) (ci := 4) (v := .long (w2.2 12 0)) (C := RX4) (T := TX4) (N := 17) hx hb hts i4 hown hK hP 5 rfl rfl 12 (by decide) (hts (.fieldLink RX5 121 "TwoMetals$World" "marketGold" "J") (List.mem_of_getElem? (i := 2) rfl)) (fun _ h9 => h9) rfl dX5_corner_31 ?_
      refine lv_l2i (v := (w2.2 12 0).toInt32) hx hb dX5_corner_34 rfl ?_
      refine lv_topi (fun x9 e10 => ?_)
      replace hm := bn_at e10 hm
      refine lv_istore_n (lv' := [(2, .int x9), (0, .ref h0), (1, .int p1)]) hx hb dX5_corner_35 rfl hl (by decide) rfl (fun ls hl => ?_)
      refine lv_iconst (v := (0 : Int32)) hx hb dX5_corner_36 (by decide) ?_
      refine lv_istore_n (lv' := [(3, .int (0 : Int32)), (2, .int x9), (0, .ref h0), (1, .int p1)]) hx hb dX5_corner_37 rfl hl (by decide) rfl (fun ls hl => ?_)
      exact hB38 fu w1 w3 p1 x9 (0 : Int32) _ _ ls hm hP hS (lv_sub hl [2, 3, 1, 0] rfl)
    replace hm := (if_pos hc).symm.trans hm
    refine lv_bipush (v := (-2 : Int32)) hx hb dX5_corner_24 (by decide) ?_
    obtain rfl := Option.some.inj hm
    exact hret 26 ls _ _ dX5_corner_26 hP hS
  replace hm := (if_pos hc).symm.trans hm
  refine lv_iconst (v := (-1 : Int32)) hx hb dX5_corner_11 (by decide) ?_
  obtain rfl := Option.some.inj hm
  exact hret 12 ls _ _ dX5_corner_12 hP hS
set_option maxHeartbeats 4000000 in
set_option maxRecDepth 100000 in
theorem kcX5_move (l : Launch) (dC : Nat → ClassId) (dI : Nat → Nat → Nat) (cy : Nat → ClassId) (fu : Nat) (h0 : Nat) (a0 : Nat → Nat) (w0 : ob_T) (a1 : Nat → Nat) (w1 : ob_T) (p1 : Int32) (p2 : Int32) (sz : Nat) (R : Int32 × ob_T) (hm : mX5_move fu w0 w1 p1 p2 = some R) : Met l yX5_move wsX5_move (rmN 2 57) (va_Pc [.ref h0, .int p1, .int p2] (cPre dC dI cy ((o_X5 cy h0 a0 w0) ++ (o_X4 cy (a0 4) a1 w1)) sz)) (va_Qi (fun (r : Int32) (_ : Unit) => r = R.1) (fun _ => cPost dC dI cy ((o_X5 cy h0 a0 w0) ++ (o_X4 cy (a0 4) a1 w1)) ((o_X5 cy h0 a0 w0) ++ (o_X4 cy (a0 4) a1 R.2)) sz) (va_A ((o_X5 cy h0 a0 w0) ++ (o_X4 cy (a0 4) a1 w1)) sz)) 0 0 (va_A ((o_X5 cy h0 a0 w0) ++ (o_X4 cy (a0 4) a1 w1)) sz) := by
  refine mt_i (cc := cX5_move) (maxL := 4) (by decide) rfl (Nat.le_of_ble_eq_true rfl) rfl ?_
  intro p e s m below meth c Q A hx hb hml hown hts hK hA hD hP hret ls hl
  have hown : s.vm.findClass RX5 = some m.cls := hown
  have hl : lv_has ls 4 [(0, .ref h0), (1, .int p1), (2, .int p2)] := hl
  have hDa : ∀ v0 v1 : ob_T, va_D A ((o_X5 cy h0 a0 v0) ++ (o_X4 cy (a0 4) a1 v1)) := fun _ _ => va_D_adr hD rfl
  have i4 : ∀ w ∈ wsX40, w ∈ wsX5_move := fun _ h => List.mem_cons_of_mem _ (List.mem_append_right _ h)
  have i5 : ∀ w ∈ wsX50, w ∈ wsX5_move := fun _ h => List.mem_cons_of_mem _ (List.mem_append_left _ (List.mem_append_right _ h))
  have hS : va_S A s.heap s.heap [] := va_S.rf
  unfold mX5_move at hm
  refine lv_aload_n hx hb dX5_move_0 rfl (lv_at hl 0 rfl) ?_
  refine va_get (D := (dC, dI)) (ci := 5) (v := .ref (a0 4)) (C := RX5) (T := TX5) (N := 8) hx hb hts i5 hown hK hP 0 rfl rfl 4 (by decide) (hts (.fieldLink RX5 40 "TwoMetals" "now" "LTwoMetals$World;") (List.mem_of_getElem? (i := 1) rfl)) (fun _ h9 => h9) rfl dX5_move_1 ?_
  refine lv_iload_n hx hb dX5_move_4 rfl (lv_at hl 1 rfl) ?_
  obtain ⟨r1, hr1, hm⟩ := bn_call hm
  refine ca_vi (wr := (o_X5 cy h0 a0 w0)) (wn := (o_X5 cy h0 a0 w0) ++ (o_X4 cy (a0 4) a1 w1)) ⟨hx, hb, hml, hown, hts⟩ hK hA (hDa _ _) hP hS [2, 3, 4, 5, 6, 7, 8, 9, 10, 11] [0, 1] [0, 1, 2, 3, 4, 5, 6, 7, 8, 9, 10, 11] (fun sz => kcX4_has l dC dI cy fu (a0 4) a1 w1 p1 sz r1 hr1) rfl rfl (by decide) (by decide) (by decide) rfl (cwV 1 hts gX5_move_X4_has rfl rfl rfl ⟨rfl, ydX4_has⟩ ⟨Nat.le_of_ble_eq_true rfl, Nat.le_of_ble_eq_true rfl⟩) 4 0 rfl rfl rfl rfl hl.1 rfl (Nat.le_of_ble_eq_true rfl) dX5_move_5 ⟨Nat.zero_le _, Nat.zero_le _⟩ (fun H locs hP hS => ?_)
  refine lv_if_eq (tgt := 18) hx hb dX5_move_8 (by decide) (fun hc => ?_) (fun hc => ?_)
  · replace hm := (if_pos hc).symm.trans hm
    refine lv_iconst (v := (-1 : Int32)) hx hb dX5_move_18 (by decide) ?_
    obtain rfl := Option.some.inj hm
    exact hret 19 ls _ _ dX5_move_19 hP hS
  replace hm := (if_neg hc).symm.trans hm
  refine lv_iload_n hx hb dX5_move_11 rfl (lv_at hl 2 rfl) ?_
  obtain ⟨r2, hr2, hm⟩ := bn_call hm
  refine ca_si (wr := (o_X5 cy h0 a0 w0) ++ (o_X4 cy (a0 4) a1 w1)) (wn := (o_X5 cy h0 a0 w0) ++ (o_X4 cy (a0 4) a1 w1)) ⟨hx, hb, hml, hown, hts⟩ hK hA (hDa _ _) hP hS [] [0, 1, 2, 3, 4, 5, 6, 7, 8, 9, 10, 11] [0, 1, 2, 3, 4, 5, 6, 7, 8, 9, 10, 11] (fun sz => kcX5_isLaw l dC dI cy fu p2 sz r2 hr2) rfl rfl (by decide) (by decide) (by decide) rfl (va_cwS 1 hts gX5_move_X5_isLaw rfl rfl rfl ydX5_isLaw ⟨Nat.le_of_ble_eq_true rfl, Nat.le_of_ble_eq_true rfl⟩) rfl hl.1 rfl (Nat.le_of_ble_eq_true rfl) dX5_move_12 ⟨Nat.zero_le _, Nat.zero_le _⟩ (fun H locs hP hS => ?_)
  refine lv_if_ne (tgt := 20) hx hb dX5_move_15 (by decide) (fun hc => ?_) (fun hc => ?_)
  · replace hm := (if_neg hc).symm.trans hm
    refine lv_aload_n hx hb dX5_move_20 rfl (lv_at hl 0 rfl) ?_
    refine va_get (D := (dC, dI)) (ci := 5) (v := .ref (a0 4)) (C := RX5) (T := TX5) (N := 8) hx hb hts i5 hown hK hP 0 rfl rfl 4 (by decide) (hts (.fieldLink RX5 40 "TwoMetals" "now" "LTwoMetals$World;") (List.mem_of_getElem? (i := 1) rfl)) (fun _ h9 => h9) rfl dX5_move_21 ?_
    refine va_get (D := (dC, dI)) (ci := 4) (v := .ref (a1 0)) (C := RX4) (T := TX4) (N := 17) hx hb hts i4 hown hK hP 2 rfl rfl 0 (by decide) (hts (.fieldLink RX5 95 "TwoMetals$World" "law" "[I") (List.mem_of_getElem? (i := 2) rfl)) (fun _ h9 => h9) rfl dX5_move_24 ?_
    refine lv_iload_n hx hb dX5_move_27 rfl (lv_at hl 1 rfl) ?_
    obtain ⟨hi3, hm⟩ := ck_in hm
    refine va_iald hx hb hK hP 3 0 rfl rfl hi3 dX5_move_28 ?_
    refine lv_topi (fun x4 e5 => ?_)
    replace hm := bn_at e5 hm
    refine lv_istore_n (lv' := [(3, .int x4), (0, .ref h0), (1, .int p1), (2, .int p2)]) hx hb dX5_move_29 rfl hl (by decide) rfl (fun ls hl => ?_)
    refine lv_aload_n hx hb dX5_move_30 rfl (lv_at hl 1 rfl) ?_
    refine va_get (D := (dC, dI)) (ci := 5) (v := .ref (a0 4)) (C := RX5) (T := TX5) (N := 8) hx hb hts i5 hown hK hP 0 rfl rfl 4 (by decide) (hts (.fieldLink RX5 40 "TwoMetals" "now" "LTwoMetals$World;") (List.mem_of_getElem? (i := 1) rfl)) (fun _ h9 => h9) rfl dX5_move_31 ?_
    refine lv_iload_n hx hb dX5_move_34 rfl (lv_at hl 2 rfl) ?_
    refine lv_iload_n hx hb dX5_move_35 rfl (lv_at hl 3 rfl) ?_
    obtain ⟨r6, hr6, hm⟩ := bn_call hm
    refine ca_vv (wr := (o_X5 cy h0 a0 w0)) (wn := (o_X5 cy h0 a0 w0) ++ (o_X4 cy (a0 4) a1 r6)) ⟨hx, hb, hml, hown, hts⟩ hK hA (hDa _ _) hP hS [2, 3, 4, 5, 6, 7, 8, 9, 10, 11] [0, 1] [0, 1, 2, 3, 4, 5, 6, 7, 8, 9, 10, 11] (fun sz => kcX4_setLaw l dC dI cy fu (a0 4) a1 w1 p1 p2 sz r6 hr6) rfl rfl (by decide) (by decide) (by decide) rfl (cwV 2 hts gX5_move_X4_setLaw rfl rfl rfl ⟨rfl, ydX4_setLaw⟩ ⟨Nat.le_of_ble_eq_true rfl, Nat.le_of_ble_eq_true rfl⟩) 4 0 rfl rfl rfl rfl hl.1 rfl (Nat.le_of_ble_eq_true rfl) dX5_move_36 ⟨Nat.zero_le _, Nat.zero_le _⟩ (fun H locs hP hS => ?_)
    refine lv_iload_n hx hb dX5_move_39 rfl (lv_at hl 0 rfl) ?_
    obtain rfl := Option.some.inj hm
    exact hret 40 ls _ _ dX5_move_40 hP hS
  replace hm := (if_pos hc).symm.trans hm
  refine lv_iconst (v := (-1 : Int32)) hx hb dX5_move_18 (by decide) ?_
  obtain rfl := Option.some.inj hm
  exact hret 19 ls _ _ dX5_move_19 hP hS
set_option maxHeartbeats 4000000 in
set_option maxRecDepth 100000 in
theorem kcX5_melted (l : Launch) (dC : Nat → ClassId) (dI : Nat → Nat → Nat) (cy : Nat → ClassId) (fu : Nat) (h0 : Nat) (a0 : Nat → Nat) (w0 : ob_T) (a1 : Nat → Nat) (w1 : ob_T) (sz : Nat) (R : Int32) (hm : mX5_melted fu w0 w1 = some R) : Met l yX5_melted wsX5_melted (rmN 1 21) (va_Pc [.ref h0] (cPre dC dI cy ((o_X5 cy h0 a0 w0) ++ (o_X4 cy (a0 4) a1 w1)) sz)) (va_Qi (fun (r : Int32) (_ : Unit) => r = R) (fun _ => cPost dC dI cy ((o_X5 cy h0 a0 w0) ++ (o_X4 cy (a0 4) a1 w1)) ((o_X5 cy h0 a0 w0) ++ (o_X4 cy (a0 4) a1 w1)) sz) (va_A ((o_X5 cy h0 a0 w0) ++ (o_X4 cy (a0 4) a1 w1)) sz)) 0 0 (va_A ((o_X5 cy h0 a0 w0) ++ (o_X4 cy (a0 4) a1 w1)) sz) := by
  refine mt_i (cc := cX5_melted) (maxL := 3) (by decide) rfl (Nat.le_of_ble_eq_true rfl) rfl ?_
  intro p e s m below meth c Q A hx hb hml hown hts hK hA hD hP hret ls hl
  have hown : s.vm.findClass RX5 = some m.cls := hown
  have hl : lv_has ls 3 [(0, .ref h0)] := hl
  have hDa : ∀ v0 v1 : ob_T, va_D A ((o_X5 cy h0 a0 v0) ++ (o_X4 cy (a0 4) a1 v1)) := fun _ _ => va_D_adr hD rfl
  have i4 : ∀ w ∈ wsX40, w ∈ wsX5_melted := fun _ h => List.mem_cons_of_mem _ (List.mem_append_right _ h)
  have i5 : ∀ w ∈ wsX50, w ∈ wsX5_melted := fun _ h => List.mem_cons_of_mem _ (List.mem_append_left _ (List.mem_append_right _ h))
  have hS : va_S A s.heap s.heap [] := va_S.rf
  have hB46 : ∀ (k4 : Int32 → Int32 → Option (Int32)) (_ : ∀ (l1 : Int32) (l2 : Int32) (H : Heap) (locs : List Loc) (ls : Array Slot), k4 l1 l2 = some R → va_P (dC, dI) vwCl ((o_X5 cy h0 a0 w0) ++ (o_X4 cy (a0 4) a1 w1)) H → va_S A s.heap H locs → lv_has ls 3 [(0, .ref h0), (1, .int l1), (2, .int l2)] → W p l e (rmN 1 21) s m ([.ref h0] : List Value).toArray below meth c H locs 0 0 Q (F0 m 4 ls [])) (l1 : Int32) (l2 : Int32) (H : Heap) (locs : List Loc) (ls : Array Slot), bX5_melted_46 fu w0 w1 k4 l1 l2 = some R → va_P (dC, dI) vwCl ((o_X5 cy h0 a0 w0) ++ (o_X4 cy (a0 4) a1 w1)) H → va_S A s.heap H locs → lv_has ls 3 [(0, .ref h0), (1, .int l1), (2, .int l2)] → W p l e (rmN 1 21) s m ([.ref h0] : List Value).toArray below meth c H locs 0 0 Q (F0 m 46 ls []) := by
    intro k4 hk4 l1 l2 H locs ls hm hP hS hl
    unfold bX5_melted_46 at hm
    obtain ⟨x1, e2⟩ : ∃ y : Int32, y = l2 + (1 : Int32) := ⟨_, rfl⟩
    replace hm := bn_at e2 hm
    refine lv_iinc (v := x1) (lv' := [(2, .int x1), (0, .ref h0), (1, .int l1)]) hx hb dX5_melted_46 hl (k := 2) rfl (by rw [e2]; rfl) (by decide) rfl (fun ls hl => ?_)
    refine lv_goto (tgt := 4) hx hb dX5_melted_49 (by decide) ?_
    exact hk4 l1 x1 _ _ ls hm hP hS (lv_sub hl [1, 2, 0] rfl)
  have hB4 : ∀ (nn : Nat) (l1 : Int32) (l2 : Int32) (H : Heap) (locs : List Loc) (ls : Array Slot), bX5_melted_4 fu w0 w1 nn l1 l2 = some R → va_P (dC, dI) vwCl ((o_X5 cy h0 a0 w0) ++ (o_X4 cy (a0 4) a1 w1)) H → va_S A s.heap H locs → lv_has ls 3 [(0, .ref h0), (1, .int l1), (2, .int l2)] → W p l e (rmN 1 21) s m ([.ref h0] : List Value).toArray below meth c H locs 0 0 Q (F0 m 4 ls []) := by
    intro nn
    induction nn with
    | zero => intro l1 l2 H locs ls hm; exact no_some ((bX5_melted_4_0 fu w0 w1 l1 l2).symm.trans hm)
    | succ nn ih =>
      intro l1 l2 H locs ls hm hP hS hl
      replace hm := (bX5_melted_4_s fu w0 w1 nn l1 l2).symm.trans hm
      refine lv_iload_n hx hb dX5_melted_4 rfl (lv_at hl 2 rfl) ?_
      refine lv_bipush (v := (8 : Int32)) hx hb dX5_melted_5 (by decide) ?_
      refine lv_icmp_ge (tgt := 52) hx hb dX5_melted_7 (by decide) (fun hc => ?_) (fun hc => ?_)
      · replace hm := (if_pos hc).symm.trans hm
        refine lv_iload_n hx hb dX5_melted_52 rfl (lv_at hl 1 rfl) ?_
        obtain rfl := Option.some.inj hm
        exact hret 53 ls _ _ dX5_melted_53 hP hS
      replace hm := (if_neg hc).symm.trans hm
      refine lv_aload_n hx hb dX5_melted_10 rfl (lv_at hl 0 rfl) ?_
      refine va_get (D := (dC, dI)) (ci := 5) (v := .ref (a0 4)) (C := RX5) (T := TX5) (N := 8) hx hb hts i5 hown hK hP 0 rfl rfl 4 (by decide) (hts (.fieldLink RX5 40 "TwoMetals" "now" "LTwoMetals$World;") (List.mem_of_getElem? (i := 1) rfl)) (fun _ h9 => h9) rfl dX5_melted_11 ?_
      refine lv_iload_n hx hb dX5_melted_14 rfl (lv_at hl 2 rfl) ?_
      obtain ⟨r3, hr3, hm⟩ := bn_call hm
      refine ca_vi (wr := (o_X5 cy h0 a0 w0)) (wn := (o_X5 cy h0 a0 w0) ++ (o_X4 cy (a0 4) a1 w1)) ⟨hx, hb, hml, hown, hts⟩ hK hA (hDa _ _) hP hS [2, 3, 4, 5, 6, 7, 8, 9, 10, 11] [0, 1] [0, 1, 2, 3, 4, 5, 6, 7, 8, 9, 10, 11] (fun sz => kcX4_has l dC dI cy fu (a0 4) a1 w1 l2 sz r3 hr3) rfl rfl (by decide) (by decide) (by decide) rfl (cwV 1 hts gX5_melted_X4_has rfl rfl rfl ⟨rfl, ydX4_has⟩ ⟨Nat.le_of_ble_eq_true rfl, Nat.le_of_ble_eq_true rfl⟩) 4 0 rfl rfl rfl rfl hl.1 rfl (Nat.le_of_ble_eq_true rfl) dX5_melted_15 ⟨Nat.zero_le _, Nat.zero_le _⟩ (fun H locs hP hS => ?_)
      refine lv_if_eq (tgt := 46) hx hb dX5_melted_18 (by decide) (fun hc => ?_) (fun hc => ?_)
      · replace hm := (if_pos hc).symm.trans hm
        exact hB46 (bX5_melted_4 fu w0 w1 nn) ih l1 l2 _ _ ls hm hP hS (lv_sub hl [0, 1, 2] rfl)
      replace hm := (if_neg hc).symm.trans hm
      refine lv_aload_n hx hb dX5_melted_21 rfl (lv_at hl 0 rfl) ?_
      refine va_get (D := (dC, dI)) (ci := 5) (v := .ref (a0 4)) (C := RX5) (T := TX5) (N := 8) hx hb hts i5 hown hK hP 0 rfl rfl 4 (by decide) (hts (.fieldLink RX5 40 "TwoMetals" "now" "LTwoMetals$World;") (List.mem_of_getElem? (i := 1) rfl)) (fun _ h9 => h9) rfl dX5_melted_22 ?_
      refine va_get (D := (dC, dI)) (ci := 4) (v := .int (w1.1 15 0)) (C := RX4) (T := TX4) (N := 17) hx hb hts i4 hown hK hP 2 rfl rfl 15 (by decide) (hts (.fieldLink RX5 128 "TwoMetals$World" "price" "I") (List.mem_of_getElem? (i := 2) rfl)) (fun _ h9 => h9) rfl dX5_melted_25 ?_
      refine lv_aload_n hx hb dX5_melted_28 rfl (lv_at hl 0 rfl) ?_
      refine va_get (D := (dC, dI)) (ci := 5) (v := .ref (a0 4)) (C := RX5) (T := TX5) (N := 8) hx hb hts i5 hown hK hP 0 rfl rfl 4 (by decide) (hts (.fieldLink RX5 40 "TwoMetals" "now" "LTwoMetals$World;") (List.mem_of_getElem? (i := 1) rfl)) (fun _ h9 => h9) rfl dX5_melted_29 ?_
      refine va_get (D := (dC, dI)) (ci := 4) (v := .ref (a1 0)) (C := RX4) (T := TX4) (N := 17) hx hb hts i4 hown hK hP 2 rfl rfl 0 (by decide) (hts (.fieldLink RX5 95 "TwoMetals$World" "law" "[I") (List.mem_of_getElem? (i := 3) rfl)) (fun _ h9 => h9) rfl dX5_melted_32 ?_
      refine lv_iload_n hx hb dX5_melted_35 rfl (lv_at hl 2 rfl) ?_
      obtain ⟨hi4, hm⟩ := ck_in hm
      refine va_iald hx hb hK hP 3 0 rfl rfl hi4 dX5_melted_36 ?_
      refine lv_icmp_le (tgt := 46) hx hb dX5_melted_37 (by decide) (fun hc => ?_) (fun hc => ?_)
      · replace hm := (if_pos hc).symm.trans hm
        exact hB46 (bX5_melted_4 fu w0 w1 nn) ih l1 l2 _ _ ls hm hP hS (lv_sub hl [0, 1, 2] rfl)
      replace hm := (if_neg hc).symm.trans hm
      refine lv_iload_n hx hb dX5_melted_40 rfl (lv_at hl 1 rfl) ?_
      refine lv_iconst (v := (1 : Int32)) hx hb dX5_melted_41 (by decide) ?_
      refine lv_iload_n hx hb dX5_melted_42 rfl (lv_at hl 2 rfl) ?_
      refine lv_ishl hx hb dX5_melted_43 ?_
      refine lv_ior hx hb dX5_melted_44 ?_
      refine lv_topi (fun x5 e6 => ?_)
      replace hm := bn_at e6 hm
      refine lv_istore_n (lv' := [(1, .int x5), (0, .ref h0), (2, .int l2)]) hx hb dX5_melted_45 rfl hl (by decide) rfl (fun ls hl => ?_)
      exact hB46 (bX5_melted_4 fu w0 w1 nn) ih x5 l2 _ _ ls hm hP hS (lv_sub hl [1, 0, 2] rfl)
  unfold mX5_melted at hm
  refine lv_iconst (v := (0 : Int32)) hx hb dX5_melted_0 (by decide) ?_
  refine lv_istore_n (lv' := [(1, .int (0 : Int32)), (0, .ref h0)]) hx hb dX5_melted_1 rfl hl (by decide) rfl (fun ls hl => ?_)
  refine lv_iconst (v := (0 : Int32)) hx hb dX5_melted_2 (by decide) ?_
  refine lv_istore_n (lv' := [(2, .int (0 : Int32)), (1, .int (0 : Int32)), (0, .ref h0)]) hx hb dX5_melted_3 rfl hl (by decide) rfl (fun ls hl => ?_)
  exact hB4 fu (0 : Int32) (0 : Int32) _ _ ls hm hP hS (lv_sub hl [2, 1, 0] rfl)
set_option maxHeartbeats 4000000 in
set_option maxRecDepth 100000 in
theorem kcX5_keep (l : Launch) (dC : Nat → ClassId) (dI : Nat → Nat → Nat) (cy : Nat → ClassId) (fu : Nat) (h0 : Nat) (a0 : Nat → Nat) (w0 : ob_T) (a1 : Nat → Nat) (w1 : ob_T) (a2 : Nat → Nat) (w2 : ob_T) (a3 : Nat → Nat) (w3 : ob_T) (sz : Nat) (R : Int32 × ob_T × ob_T × ob_T) (hm : mX5_keep fu w0 w1 w2 w3 = some R) : Met l yX5_keep wsX5_keep (rmN 2 51) (va_Pc [.ref h0] (cPre dC dI cy ((o_X5 cy h0 a0 w0) ++ (o_X4 cy (a0 4) a1 w1) ++ (o_X4 cy (a0 10) a2 w2) ++ (o_X4 cy (a0 11) a3 w3)) sz)) (va_Qi (fun (r : Int32) (_ : Unit) => r = R.1) (fun _ => cPost dC dI cy ((o_X5 cy h0 a0 w0) ++ (o_X4 cy (a0 4) a1 w1) ++ (o_X4 cy (a0 10) a2 w2) ++ (o_X4 cy (a0 11) a3 w3)) ((o_X5 cy h0 a0 R.2.1) ++ (o_X4 cy (a0 4) a1 w1) ++ (o_X4 cy (a0 10) a2 R.2.2.1) ++ (o_X4 cy (a0 11) a3 R.2.2.2)) sz) (va_A ((o_X5 cy h0 a0 w0) ++ (o_X4 cy (a0 4) a1 w1) ++ (o_X4 cy (a0 10) a2 w2) ++ (o_X4 cy (a0 11) a3 w3)) sz)) 0 0 (va_A ((o_X5 cy h0 a0 w0) ++ (o_X4 cy (a0 4) a1 w1) ++ (o_X4 cy (a0 10) a2 w2) ++ (o_X4 cy (a0 11) a3 w3)) sz) := by
  refine mt_i (cc := cX5_keep) (maxL := 1) (by decide) rfl (Nat.le_of_ble_eq_true rfl) rfl ?_
  intro p e s m below meth c Q A hx hb hml hown hts hK hA hD hP hret ls hl
  have hown : s.vm.findClass RX5 = some m.cls := hown
  have hl : lv_has ls 1 [(0, .ref h0)] := hl
  have hDa : ∀ v0 v1 v2 v3 : ob_T, va_D A ((o_X5 cy h0 a0 v0) ++ (o_X4 cy (a0 4) a1 v1) ++ (o_X4 cy (a0 10) a2 v2) ++ (o_X4 cy (a0 11) a3 v3)) := fun _ _ _ _ => va_D_adr hD rfl
  have i5 : ∀ w ∈ wsX50, w ∈ wsX5_keep := fun _ h => List.mem_cons_of_mem _ (List.mem_append_left _ (List.mem_append_right _ h))
  have hS : va_S A s.heap s.heap [] := va_S.rf
  unfold mX5_keep at hm
  refine lv_aload_n hx hb dX5_keep_0 rfl (lv_at hl 0 rfl) ?_
  refine va_get (D := (dC, dI)) (ci := 5) (v := .int (w0.1 7 0)) (C := RX5) (T := TX5) (N := 8) hx hb hts i5 hown hK hP 0 rfl rfl 7 (by decide) (hts (.fieldLink RX5 51 "TwoMetals" "keptCount" "I") (List.mem_of_getElem? (i := 1) rfl)) (fun _ h9 => h9) rfl dX5_keep_1 ?_
  refine lv_iconst (v := (2 : Int32)) hx hb dX5_keep_4 (by decide) ?_
  refine lv_icmp_lt (tgt := 11) hx hb dX5_keep_5 (by decide) (fun hc => ?_) (fun hc => ?_)
  · replace hm := (if_pos hc).symm.trans hm
    refine lv_aload_n hx hb dX5_keep_11 rfl (lv_at hl 0 rfl) ?_
    refine va_get (D := (dC, dI)) (ci := 5) (v := .ref (a0 6)) (C := RX5) (T := TX5) (N := 8) hx hb hts i5 hown hK hP 0 rfl rfl 6 (by decide) (hts (.fieldLink RX5 47 "TwoMetals" "kept" "[LTwoMetals$World;") (List.mem_of_getElem? (i := 2) rfl)) (fun _ h9 => h9) rfl dX5_keep_12 ?_
    refine lv_aload_n hx hb dX5_keep_15 rfl (lv_at hl 0 rfl) ?_
    refine va_get (D := (dC, dI)) (ci := 5) (v := .int (w0.1 7 0)) (C := RX5) (T := TX5) (N := 8) hx hb hts i5 hown hK hP 0 rfl rfl 7 (by decide) (hts (.fieldLink RX5 51 "TwoMetals" "keptCount" "I") (List.mem_of_getElem? (i := 1) rfl)) (fun _ h9 => h9) rfl dX5_keep_16 ?_
    by_cases hv5 : w0.1 7 0 = (0 : Int32)
    · replace hm := (if_pos hv5).symm.trans hm
      refine va_aldq hx hb hK hP 1 3 rfl rfl (by rw [hv5]; unfold vp_in; decide) dX5_keep_19 ?_
      refine W.eq (g2 := F0 m 20 ls (.ref (a0 10) :: [])) (by rw [hv5]; rfl) ?_
      refine lv_aload_n hx hb dX5_keep_20 rfl (lv_at hl 0 rfl) ?_
      refine va_get (D := (dC, dI)) (ci := 5) (v := .ref (a0 4)) (C := RX5) (T := TX5) (N := 8) hx hb hts i5 hown hK hP 0 rfl rfl 4 (by decide) (hts (.fieldLink RX5 40 "TwoMetals" "now" "LTwoMetals$World;") (List.mem_of_getElem? (i := 3) rfl)) (fun _ h9 => h9) rfl dX5_keep_21 ?_
      obtain ⟨r1, hr1, hm⟩ := bn_call hm
      refine ca_vv (wr := (o_X5 cy h0 a0 w0) ++ (o_X4 cy (a0 11) a3 w3)) (wn := (o_X5 cy h0 a0 w0) ++ (o_X4 cy (a0 4) a1 w1) ++ (o_X4 cy (a0 10) a2 r1) ++ (o_X4 cy (a0 11) a3 w3)) ⟨hx, hb, hml, hown, hts⟩ hK hA (hDa _ _ _ _) hP hS [12, 13, 14, 15, 16, 17, 18, 19, 20, 21, 2, 3, 4, 5, 6, 7, 8, 9, 10, 11] [0, 1, 22, 23, 24, 25, 26, 27, 28, 29, 30, 31] [0, 1, 22, 23, 24, 25, 26, 27, 28, 29, 30, 31, 12, 13, 14, 15, 16, 17, 18, 19, 20, 21, 2, 3, 4, 5, 6, 7, 8, 9, 10, 11] (fun sz => kcX4_copyFrom l dC dI cy fu (a0 10) a2 w2 (a0 4) a1 w1 sz r1 hr1) rfl rfl (by decide) (by decide) (by decide) rfl (cwV 1 hts gX5_keep_X4_copyFrom rfl rfl rfl ⟨rfl, ydX4_copyFrom⟩ ⟨Nat.le_of_ble_eq_true rfl, Nat.le_of_ble_eq_true rfl⟩) 4 0 rfl rfl rfl rfl hl.1 rfl (Nat.le_of_ble_eq_true rfl) dX5_keep_24 ⟨Nat.zero_le _, Nat.zero_le _⟩ (fun H locs hP hS => ?_)
      refine lv_aload_n hx hb dX5_keep_27 rfl (lv_at hl 0 rfl) ?_
      refine lv_dup hx hb dX5_keep_28 rfl ?_
      refine va_get (D := (dC, dI)) (ci := 5) (v := .int (w0.1 7 0)) (C := RX5) (T := TX5) (N := 8) hx hb hts i5 hown hK hP 0 rfl rfl 7 (by decide) (hts (.fieldLink RX5 51 "TwoMetals" "keptCount" "I") (List.mem_of_getElem? (i := 1) rfl)) (fun _ h9 => h9) rfl dX5_keep_29 ?_
      refine lv_iconst (v := (1 : Int32)) hx hb dX5_keep_32 (by decide) ?_
      refine lv_iadd hx hb dX5_keep_33 ?_
      refine va_put (D := (dC, dI)) (ci := 5) (v := .int ((w0.1 7 0) + (1 : Int32))) (ty := .int) (C := RX5) (T := TX5) (N := 8) hx hb hts i5 tyX5 tyX5_ok nmX5 hown hK hP (hDa _ _ _ _) hS 0 rfl rfl 7 (by decide) (hts (.fieldLink RX5 51 "TwoMetals" "keptCount" "I") (List.mem_of_getElem? (i := 1) rfl)) (fun _ h9 => h9) rfl (tyX5_ok 7 (by decide)) rfl rfl (Nat.le_of_ble_eq_true rfl) dX5_keep_34 (fun H locs hP _ hS => ?_)
      have hP : va_P (dC, dI) vwCl ((o_X5 cy h0 a0 (ob_I w0 7 (fun _ => (w0.1 7 0) + (1 : Int32)))) ++ (o_X4 cy (a0 4) a1 w1) ++ (o_X4 cy (a0 10) a2 r1) ++ (o_X4 cy (a0 11) a3 w3)) H := hP
      obtain ⟨u2, hP, hm⟩ := bn_ob (P := fun zz => va_P (dC, dI) vwCl ((o_X5 cy h0 a0 zz) ++ (o_X4 cy (a0 4) a1 w1) ++ (o_X4 cy (a0 10) a2 r1) ++ (o_X4 cy (a0 11) a3 w3)) H) hm hP
      refine lv_aload_n hx hb dX5_keep_37 rfl (lv_at hl 0 rfl) ?_
      refine va_get (D := (dC, dI)) (ci := 5) (v := .int (u2.1 7 0)) (C := RX5) (T := TX5) (N := 8) hx hb hts i5 hown hK hP 0 rfl rfl 7 (by decide) (hts (.fieldLink RX5 51 "TwoMetals" "keptCount" "I") (List.mem_of_getElem? (i := 1) rfl)) (fun _ h9 => h9) rfl dX5_keep_38 ?_
      obtain rfl := Option.some.inj hm
      exact hret 41 ls _ _ dX5_keep_41 hP hS
    replace hm := (if_neg hv5).symm.trans hm
    by_cases hv6 : w0.1 7 0 = (1 : Int32)
    · replace hm := (if_pos hv6).symm.trans hm
      refine va_aldq hx hb hK hP 1 3 rfl rfl (by rw [hv6]; unfold vp_in; decide) dX5_keep_19 ?_
      refine W.eq (g2 := F0 m 20 ls (.ref (a0 11) :: [])) (by rw [hv6]; rfl) ?_
      refine lv_aload_n hx hb dX5_keep_20 rfl (lv_at hl 0 rfl) ?_
      refine va_get (D := (dC, dI)) (ci := 5) (v := .ref (a0 4)) (C := RX5) (T := TX5) (N := 8) hx hb hts i5 hown hK hP 0 rfl rfl 4 (by decide) (hts (.fieldLink RX5 40 "TwoMetals" "now" "LTwoMetals$World;") (List.mem_of_getElem? (i := 3) rfl)) (fun _ h9 => h9) rfl dX5_keep_21 ?_
      obtain ⟨r3, hr3, hm⟩ := bn_call hm
      refine ca_vv (wr := (o_X5 cy h0 a0 w0) ++ (o_X4 cy (a0 10) a2 w2)) (wn := (o_X5 cy h0 a0 w0) ++ (o_X4 cy (a0 4) a1 w1) ++ (o_X4 cy (a0 10) a2 w2) ++ (o_X4 cy (a0 11) a3 r3)) ⟨hx, hb, hml, hown, hts⟩ hK hA (hDa _ _ _ _) hP hS [22, 23, 24, 25, 26, 27, 28, 29, 30, 31, 2, 3, 4, 5, 6, 7, 8, 9, 10, 11] [0, 1, 12, 13, 14, 15, 16, 17, 18, 19, 20, 21] [0, 1, 22, 23, 24, 25, 26, 27, 28, 29, 30, 31, 2, 3, 4, 5, 6, 7, 8, 9, 10, 11, 12, 13, 14, 15, 16, 17, 18, 19, 20, 21] (fun sz => kcX4_copyFrom l dC dI cy fu (a0 11) a3 w3 (a0 4) a1 w1 sz r3 hr3) rfl rfl (by decide) (by decide) (by decide) rfl (cwV 1 hts gX5_keep_X4_copyFrom rfl rfl rfl ⟨rfl, ydX4_copyFrom⟩ ⟨Nat.le_of_ble_eq_true rfl, Nat.le_of_ble_eq_true rfl⟩) 4 0 rfl rfl rfl rfl hl.1 rfl (Nat.le_of_ble_eq_true rfl) dX5_keep_24 ⟨Nat.zero_le _, Nat.zero_le _⟩ (fun H locs hP hS => ?_)
      refine lv_aload_n hx hb dX5_keep_27 rfl (lv_at hl 0 rfl) ?_
      refine lv_dup hx hb dX5_keep_28 rfl ?_
      refine va_get (D := (dC, dI)) (ci := 5) (v := .int (w0.1 7 0)) (C := RX5) (T := TX5) (N := 8) hx hb hts i5 hown hK hP 0 rfl rfl 7 (by decide) (hts (.fieldLink RX5 51 "TwoMetals" "keptCount" "I") (List.mem_of_getElem? (i := 1) rfl)) (fun _ h9 => h9) rfl dX5_keep_29 ?_
      refine lv_iconst (v := (1 : Int32)) hx hb dX5_keep_32 (by decide) ?_
      refine lv_iadd hx hb dX5_keep_33 ?_
      refine va_put (D := (dC, dI)) (ci := 5) (v := .int ((w0.1 7 0) + (1 : Int32))) (ty := .int) (C := RX5) (T := TX5) (N := 8) hx hb hts i5 tyX5 tyX5_ok nmX5 hown hK hP (hDa _ _ _ _) hS 0 rfl rfl 7 (by decide) (hts (.fieldLink RX5 51 "TwoMetals" "keptCount" "I") (List.mem_of_getElem? (i := 1) rfl)) (fun _ h9 => h9) rfl (tyX5_ok 7 (by decide)) rfl rfl (Nat.le_of_ble_eq_true rfl) dX5_keep_34 (fun H locs hP _ hS => ?_)
      have hP : va_P (dC, dI) vwCl ((o_X5 cy h0 a0 (ob_I w0 7 (fun _ => (w0.1 7 0) + (1 : Int32)))) ++ (o_X4 cy (a0 4) a1 w1) ++ (o_X4 cy (a0 10) a2 w2) ++ (o_X4 cy (a0 11) a3 r3)) H := hP
      obtain ⟨u4, hP, hm⟩ := bn_ob (P := fun zz => va_P (dC, dI) vwCl ((o_X5 cy h0 a0 zz) ++ (o_X4 cy (a0 4) a1 w1) ++ (o_X4 cy (a0 10) a2 w2) ++ (o_X4 cy (a0 11) a3 r3)) H) hm hP
      refine lv_aload_n hx hb dX5_keep_37 rfl (lv_at hl 0 rfl) ?_
      refine va_get (D := (dC, dI)) (ci := 5) (v := .int (u4.1 7 0)) (C := RX5) (T := TX5) (N := 8) hx hb hts i5 hown hK hP 0 rfl rfl 7 (by decide) (hts (.fieldLink RX5 51 "TwoMetals" "keptCount" "I") (List.mem_of_getElem? (i := 1) rfl)) (fun _ h9 => h9) rfl dX5_keep_38 ?_
      obtain rfl := Option.some.inj hm
      exact hret 41 ls _ _ dX5_keep_41 hP hS
    replace hm := (if_neg hv6).symm.trans hm
    cases hm
  replace hm := (if_neg hc).symm.trans hm
  refine lv_bipush (v := (-3 : Int32)) hx hb dX5_keep_8 (by decide) ?_
  obtain rfl := Option.some.inj hm
  exact hret 10 ls _ _ dX5_keep_10 hP hS
set_option maxHeartbeats 4000000 in
set_option maxRecDepth 100000 in
theorem kcX5_back (l : Launch) (dC : Nat → ClassId) (dI : Nat → Nat → Nat) (cy : Nat → ClassId) (fu : Nat) (h0 : Nat) (a0 : Nat → Nat) (w0 : ob_T) (a1 : Nat → Nat) (w1 : ob_T) (a2 : Nat → Nat) (w2 : ob_T) (a3 : Nat → Nat) (w3 : ob_T) (sz : Nat) (R : Int32 × ob_T × ob_T) (hm : mX5_back fu w0 w1 w2 w3 = some R) : Met l yX5_back wsX5_back (rmN 2 51) (va_Pc [.ref h0] (cPre dC dI cy ((o_X5 cy h0 a0 w0) ++ (o_X4 cy (a0 4) a1 w1) ++ (o_X4 cy (a0 10) a2 w2) ++ (o_X4 cy (a0 11) a3 w3)) sz)) (va_Qi (fun (r : Int32) (_ : Unit) => r = R.1) (fun _ => cPost dC dI cy ((o_X5 cy h0 a0 w0) ++ (o_X4 cy (a0 4) a1 w1) ++ (o_X4 cy (a0 10) a2 w2) ++ (o_X4 cy (a0 11) a3 w3)) ((o_X5 cy h0 a0 R.2.1) ++ (o_X4 cy (a0 4) a1 R.2.2) ++ (o_X4 cy (a0 10) a2 w2) ++ (o_X4 cy (a0 11) a3 w3)) sz) (va_A ((o_X5 cy h0 a0 w0) ++ (o_X4 cy (a0 4) a1 w1) ++ (o_X4 cy (a0 10) a2 w2) ++ (o_X4 cy (a0 11) a3 w3)) sz)) 0 0 (va_A ((o_X5 cy h0 a0 w0) ++ (o_X4 cy (a0 4) a1 w1) ++ (o_X4 cy (a0 10) a2 w2) ++ (o_X4 cy (a0 11) a3 w3)) sz) := by
  refine mt_i (cc := cX5_back) (maxL := 1) (by decide) rfl (Nat.le_of_ble_eq_true rfl) rfl ?_
  intro p e s m below meth c Q A hx hb hml hown hts hK hA hD hP hret ls hl
  have hown : s.vm.findClass RX5 = some m.cls := hown
  have hl : lv_has ls 1 [(0, .ref h0)] := hl
  have hDa : ∀ v0 v1 v2 v3 : ob_T, va_D A ((o_X5 cy h0 a0 v0) ++ (o_X4 cy (a0 4) a1 v1) ++ (o_X4 cy (a0 10) a2 v2) ++ (o_X4 cy (a0 11) a3 v3)) := fun _ _ _ _ => va_D_adr hD rfl
  have i5 : ∀ w ∈ wsX50, w ∈ wsX5_back := fun _ h => List.mem_cons_of_mem _ (List.mem_append_left _ (List.mem_append_right _ h))
  have hS : va_S A s.heap s.heap [] := va_S.rf
  unfold mX5_back at hm
  refine lv_aload_n hx hb dX5_back_0 rfl (lv_at hl 0 rfl) ?_
  refine va_get (D := (dC, dI)) (ci := 5) (v := .int (w0.1 7 0)) (C := RX5) (T := TX5) (N := 8) hx hb hts i5 hown hK hP 0 rfl rfl 7 (by decide) (hts (.fieldLink RX5 51 "TwoMetals" "keptCount" "I") (List.mem_of_getElem? (i := 1) rfl)) (fun _ h9 => h9) rfl dX5_back_1 ?_
  refine lv_if_gt (tgt := 10) hx hb dX5_back_4 (by decide) (fun hc => ?_) (fun hc => ?_)
  · replace hm := (if_pos hc).symm.trans hm
    refine lv_aload_n hx hb dX5_back_10 rfl (lv_at hl 0 rfl) ?_
    refine lv_dup hx hb dX5_back_11 rfl ?_
    refine va_get (D := (dC, dI)) (ci := 5) (v := .int (w0.1 7 0)) (C := RX5) (T := TX5) (N := 8) hx hb hts i5 hown hK hP 0 rfl rfl 7 (by decide) (hts (.fieldLink RX5 51 "TwoMetals" "keptCount" "I") (List.mem_of_getElem? (i := 1) rfl)) (fun _ h9 => h9) rfl dX5_back_12 ?_
    refine lv_iconst (v := (1 : Int32)) hx hb dX5_back_15 (by decide) ?_
    refine lv_isub hx hb dX5_back_16 ?_
    refine va_put (D := (dC, dI)) (ci := 5) (v := .int ((w0.1 7 0) - (1 : Int32))) (ty := .int) (C := RX5) (T := TX5) (N := 8) hx hb hts i5 tyX5 tyX5_ok nmX5 hown hK hP (hDa _ _ _ _) hS 0 rfl rfl 7 (by decide) (hts (.fieldLink RX5 51 "TwoMetals" "keptCount" "I") (List.mem_of_getElem? (i := 1) rfl)) (fun _ h9 => h9) rfl (tyX5_ok 7 (by decide)) rfl rfl (Nat.le_of_ble_eq_true rfl) dX5_back_17 (fun H locs hP _ hS => ?_)
    have hP : va_P (dC, dI) vwCl ((o_X5 cy h0 a0 (ob_I w0 7 (fun _ => (w0.1 7 0) - (1 : Int32)))) ++ (o_X4 cy (a0 4) a1 w1) ++ (o_X4 cy (a0 10) a2 w2) ++ (o_X4 cy (a0 11) a3 w3)) H := hP
    obtain ⟨u1, hP, hm⟩ := bn_ob (P := fun zz => va_P (dC, dI) vwCl ((o_X5 cy h0 a0 zz) ++ (o_X4 cy (a0 4) a1 w1) ++ (o_X4 cy (a0 10) a2 w2) ++ (o_X4 cy (a0 11) a3 w3)) H) hm hP
    refine lv_aload_n hx hb dX5_back_20 rfl (lv_at hl 0 rfl) ?_
    refine va_get (D := (dC, dI)) (ci := 5) (v := .ref (a0 4)) (C := RX5) (T := TX5) (N := 8) hx hb hts i5 hown hK hP 0 rfl rfl 4 (by decide) (hts (.fieldLink RX5 40 "TwoMetals" "now" "LTwoMetals$World;") (List.mem_of_getElem? (i := 2) rfl)) (fun _ h9 => h9) rfl dX5_back_21 ?_
    refine lv_aload_n hx hb dX5_back_24 rfl (lv_at hl 0 rfl) ?_
    refine va_get (D := (dC, dI)) (ci := 5) (v := .ref (a0 6)) (C := RX5) (T := TX5) (N := 8) hx hb hts i5 hown hK hP 0 rfl rfl 6 (by decide) (hts (.fieldLink RX5 47 "TwoMetals" "kept" "[LTwoMetals$World;") (List.mem_of_getElem? (i := 3) rfl)) (fun _ h9 => h9) rfl dX5_back_25 ?_
    refine lv_aload_n hx hb dX5_back_28 rfl (lv_at hl 0 rfl) ?_
    refine va_get (D := (dC, dI)) (ci := 5) (v := .int (u1.1 7 0)) (C := RX5) (T := TX5) (N := 8) hx hb hts i5 hown hK hP 0 rfl rfl 7 (by decide) (hts (.fieldLink RX5 51 "TwoMetals" "keptCount" "I") (List.mem_of_getElem? (i := 1) rfl)) (fun _ h9 => h9) rfl dX5_back_29 ?_
    by_cases hv4 : u1.1 7 0 = (0 : Int32)
    · replace hm := (if_pos hv4).symm.trans hm
      refine va_aldq hx hb hK hP 1 3 rfl rfl (by rw [hv4]; unfold vp_in; decide) dX5_back_32 ?_
      refine W.eq (g2 := F0 m 33 ls (.ref (a0 10) :: [.ref (a0 4)])) (by rw [hv4]; rfl) ?_
      obtain ⟨r2, hr2, hm⟩ := bn_call hm
      refine ca_vv (wr := (o_X5 cy h0 a0 u1) ++ (o_X4 cy (a0 11) a3 w3)) (wn := (o_X5 cy h0 a0 u1) ++ (o_X4 cy (a0 4) a1 r2) ++ (o_X4 cy (a0 10) a2 w2) ++ (o_X4 cy (a0 11) a3 w3)) ⟨hx, hb, hml, hown, hts⟩ hK hA (hDa _ _ _ _) hP hS [2, 3, 4, 5, 6, 7, 8, 9, 10, 11, 12, 13, 14, 15, 16, 17, 18, 19, 20, 21] [0, 1, 22, 23, 24, 25, 26, 27, 28, 29, 30, 31] [0, 1, 12, 13, 14, 15, 16, 17, 18, 19, 20, 21, 22, 23, 24, 25, 26, 27, 28, 29, 30, 31, 2, 3, 4, 5, 6, 7, 8, 9, 10, 11] (fun sz => kcX4_copyFrom l dC dI cy fu (a0 4) a1 w1 (a0 10) a2 w2 sz r2 hr2) rfl rfl (by decide) (by decide) (by decide) rfl (cwV 1 hts gX5_back_X4_copyFrom rfl rfl rfl ⟨rfl, ydX4_copyFrom⟩ ⟨Nat.le_of_ble_eq_true rfl, Nat.le_of_ble_eq_true rfl⟩) 4 0 rfl rfl rfl rfl hl.1 rfl (Nat.le_of_ble_eq_true rfl) dX5_back_33 ⟨Nat.zero_le _, Nat.zero_le _⟩ (fun H locs hP hS => ?_)
      refine lv_aload_n hx hb dX5_back_36 rfl (lv_at hl 0 rfl) ?_
      refine va_get (D := (dC, dI)) (ci := 5) (v := .int (u1.1 7 0)) (C := RX5) (T := TX5) (N := 8) hx hb hts i5 hown hK hP 0 rfl rfl 7 (by decide) (hts (.fieldLink RX5 51 "TwoMetals" "keptCount" "I") (List.mem_of_getElem? (i := 1) rfl)) (fun _ h9 => h9) rfl dX5_back_37 ?_
      obtain rfl := Option.some.inj hm
      exact hret 40 ls _ _ dX5_back_40 hP hS
    replace hm := (if_neg hv4).symm.trans hm
    by_cases hv5 : u1.1 7 0 = (1 : Int32)
    · replace hm := (if_pos hv5).symm.trans hm
      refine va_aldq hx hb hK hP 1 3 rfl rfl (by rw [hv5]; unfold vp_in; decide) dX5_back_32 ?_
      refine W.eq (g2 := F0 m 33 ls (.ref (a0 11) :: [.ref (a0 4)])) (by rw [hv5]; rfl) ?_
      obtain ⟨r3, hr3, hm⟩ := bn_call hm
      refine ca_vv (wr := (o_X5 cy h0 a0 u1) ++ (o_X4 cy (a0 10) a2 w2)) (wn := (o_X5 cy h0 a0 u1) ++ (o_X4 cy (a0 4) a1 r3) ++ (o_X4 cy (a0 10) a2 w2) ++ (o_X4 cy (a0 11) a3 w3)) ⟨hx, hb, hml, hown, hts⟩ hK hA (hDa _ _ _ _) hP hS [2, 3, 4, 5, 6, 7, 8, 9, 10, 11, 22, 23, 24, 25, 26, 27, 28, 29, 30, 31] [0, 1, 12, 13, 14, 15, 16, 17, 18, 19, 20, 21] [0, 1, 12, 13, 14, 15, 16, 17, 18, 19, 20, 21, 2, 3, 4, 5, 6, 7, 8, 9, 10, 11, 22, 23, 24, 25, 26, 27, 28, 29, 30, 31] (fun sz => kcX4_copyFrom l dC dI cy fu (a0 4) a1 w1 (a0 11) a3 w3 sz r3 hr3) rfl rfl (by decide) (by decide) (by decide) rfl (cwV 1 hts gX5_back_X4_copyFrom rfl rfl rfl ⟨rfl, ydX4_copyFrom⟩ ⟨Nat.le_of_ble_eq_true rfl, Nat.le_of_ble_eq_true rfl⟩) 4 0 rfl rfl rfl rfl hl.1 rfl (Nat.le_of_ble_eq_true rfl) dX5_back_33 ⟨Nat.zero_le _, Nat.zero_le _⟩ (fun H locs hP hS => ?_)
      refine lv_aload_n hx hb dX5_back_36 rfl (lv_at hl 0 rfl) ?_
      refine va_get (D := (dC, dI)) (ci := 5) (v := .int (u1.1 7 0)) (C := RX5) (T := TX5) (N := 8) hx hb hts i5 hown hK hP 0 rfl rfl 7 (by decide) (hts (.fieldLink RX5 51 "TwoMetals" "keptCount" "I") (List.mem_of_getElem? (i := 1) rfl)) (fun _ h9 => h9) rfl dX5_back_37 ?_
      obtain rfl := Option.some.inj hm
      exact hret 40 ls _ _ dX5_back_40 hP hS
    replace hm := (if_neg hv5).symm.trans hm
    cases hm
  replace hm := (if_neg hc).symm.trans hm
  refine lv_bipush (v := (-2 : Int32)) hx hb dX5_back_7 (by decide) ?_
  obtain rfl := Option.some.inj hm
  exact hret 9 ls _ _ dX5_back_9 hP hS
set_option maxHeartbeats 4000000 in
set_option maxRecDepth 100000 in
theorem kcX5_count (l : Launch) (dC : Nat → ClassId) (dI : Nat → Nat → Nat) (cy : Nat → ClassId) (fu : Nat) (h0 : Nat) (a0 : Nat → Nat) (w0 : ob_T) (a1 : Nat → Nat) (w1 : ob_T) (a2 : Nat → Nat) (w2 : ob_T) (p1 : Int32) (sz : Nat) (R : Int32) (hm : mX5_count fu w0 w1 w2 p1 = some R) : Met l yX5_count wsX5_count (rmN 2 44) (va_Pc [.ref h0, .int p1] (cPre dC dI cy ((o_X5 cy h0 a0 w0) ++ (o_X4 cy (a0 4) a1 w1) ++ (o_X3 cy (a0 0) a2 w2)) sz)) (va_Qi (fun (r : Int32) (_ : Unit) => r = R) (fun _ => cPost dC dI cy ((o_X5 cy h0 a0 w0) ++ (o_X4 cy (a0 4) a1 w1) ++ (o_X3 cy (a0 0) a2 w2)) ((o_X5 cy h0 a0 w0) ++ (o_X4 cy (a0 4) a1 w1) ++ (o_X3 cy (a0 0) a2 w2)) sz) (va_A ((o_X5 cy h0 a0 w0) ++ (o_X4 cy (a0 4) a1 w1) ++ (o_X3 cy (a0 0) a2 w2)) sz)) 0 0 (va_A ((o_X5 cy h0 a0 w0) ++ (o_X4 cy (a0 4) a1 w1) ++ (o_X3 cy (a0 0) a2 w2)) sz) := by
  refine mt_i (cc := cX5_count) (maxL := 2) (by decide) rfl (Nat.le_of_ble_eq_true rfl) rfl ?_
  intro p e s m below meth c Q A hx hb hml hown hts hK hA hD hP hret ls hl
  have hown : s.vm.findClass RX5 = some m.cls := hown
  have hl : lv_has ls 2 [(0, .ref h0), (1, .int p1)] := hl
  have hDa : ∀ v0 v1 v2 : ob_T, va_D A ((o_X5 cy h0 a0 v0) ++ (o_X4 cy (a0 4) a1 v1) ++ (o_X3 cy (a0 0) a2 v2)) := fun _ _ _ => va_D_adr hD rfl
  have i3 : ∀ w ∈ wsX30, w ∈ wsX5_count := fun _ h => List.mem_cons_of_mem _ (List.mem_append_right _ h)
  have i4 : ∀ w ∈ wsX40, w ∈ wsX5_count := fun _ h => List.mem_cons_of_mem _ (List.mem_append_left _ (List.mem_append_right _ h))
  have i5 : ∀ w ∈ wsX50, w ∈ wsX5_count := fun _ h => List.mem_cons_of_mem _ (List.mem_append_left _ (List.mem_append_left _ (List.mem_append_right _ h)))
  have hS : va_S A s.heap s.heap [] := va_S.rf
  unfold mX5_count at hm
  refine lv_iload_n hx hb dX5_count_0 rfl (lv_at hl 1 rfl) ?_
  by_cases hv1 : p1 = (0 : Int32)
  · replace hm := (if_pos hv1).symm.trans hm
    refine W.eq (g2 := F0 m 1 ls (.int (0 : Int32) :: [])) (by rw [hv1]) ?_
    refine lv_tableIn (tgt := 36) hx hb dX5_count_1 (by decide) (by decide) rfl (by decide) ?_
    refine lv_aload_n hx hb dX5_count_36 rfl (lv_at hl 0 rfl) ?_
    refine va_get (D := (dC, dI)) (ci := 5) (v := .ref (a0 4)) (C := RX5) (T := TX5) (N := 8) hx hb hts i5 hown hK hP 0 rfl rfl 4 (by decide) (hts (.fieldLink RX5 40 "TwoMetals" "now" "LTwoMetals$World;") (List.mem_of_getElem? (i := 1) rfl)) (fun _ h9 => h9) rfl dX5_count_37 ?_
    refine va_get (D := (dC, dI)) (ci := 4) (v := .int (w1.1 9 0)) (C := RX4) (T := TX4) (N := 17) hx hb hts i4 hown hK hP 2 rfl rfl 9 (by decide) (hts (.fieldLink RX5 81 "TwoMetals$World" "told" "I") (List.mem_of_getElem? (i := 2) rfl)) (fun _ h9 => h9) rfl dX5_count_40 ?_
    obtain ⟨r2, hr2, hm⟩ := bn_call hm
    refine ca_si (wr := (o_X5 cy h0 a0 w0) ++ (o_X4 cy (a0 4) a1 w1) ++ (o_X3 cy (a0 0) a2 w2)) (wn := (o_X5 cy h0 a0 w0) ++ (o_X4 cy (a0 4) a1 w1) ++ (o_X3 cy (a0 0) a2 w2)) ⟨hx, hb, hml, hown, hts⟩ hK hA (hDa _ _ _) hP hS [] [0, 1, 2, 3, 4, 5, 6, 7, 8, 9, 10, 11, 12, 13] [0, 1, 2, 3, 4, 5, 6, 7, 8, 9, 10, 11, 12, 13] (fun sz => kcJ6_bitCount_0f7a4 l dC dI cy fu (w1.1 9 0) sz r2 hr2) rfl rfl (by decide) (by decide) (by decide) rfl (va_cwS 1 hts gX5_count_J6_bitCount_0f7a4 rfl rfl rfl ydJ6_bitCount_0f7a4 ⟨Nat.le_of_ble_eq_true rfl, Nat.le_of_ble_eq_true rfl⟩) rfl hl.1 rfl (Nat.le_of_ble_eq_true rfl) dX5_count_43 ⟨Nat.zero_le _, Nat.zero_le _⟩ (fun H locs hP hS => ?_)
    obtain rfl := Option.some.inj hm
    exact hret 46 ls _ _ dX5_count_46 hP hS
  replace hm := (if_neg hv1).symm.trans hm
  by_cases hv3 : p1 = (1 : Int32)
  · replace hm := (if_pos hv3).symm.trans hm
    refine W.eq (g2 := F0 m 1 ls (.int (1 : Int32) :: [])) (by rw [hv3]) ?_
    refine lv_tableIn (tgt := 47) hx hb dX5_count_1 (by decide) (by decide) rfl (by decide) ?_
    refine lv_aload_n hx hb dX5_count_47 rfl (lv_at hl 0 rfl) ?_
    refine va_get (D := (dC, dI)) (ci := 5) (v := .ref (a0 0)) (C := RX5) (T := TX5) (N := 8) hx hb hts i5 hown hK hP 0 rfl rfl 0 (by decide) (hts (.fieldLink RX5 10 "TwoMetals" "text" "LTwoMetals$Text;") (List.mem_of_getElem? (i := 3) rfl)) (fun _ h9 => h9) rfl dX5_count_48 ?_
    refine va_get (D := (dC, dI)) (ci := 3) (v := .int (w2.1 1 0)) (C := RX3) (T := TX3) (N := 2) hx hb hts i3 hown hK hP 12 rfl rfl 1 (by decide) (hts (.fieldLink RX5 63 "TwoMetals$Text" "length" "I") (List.mem_of_getElem? (i := 4) rfl)) (fun _ h9 => h9) rfl dX5_count_51 ?_
    obtain rfl := Option.some.inj hm
    exact hret 54 ls _ _ dX5_count_54 hP hS
  replace hm := (if_neg hv3).symm.trans hm
  by_cases hv4 : p1 = (2 : Int32)
  · replace hm := (if_pos hv4).symm.trans hm
    refine W.eq (g2 := F0 m 1 ls (.int (2 : Int32) :: [])) (by rw [hv4]) ?_
    refine lv_tableIn (tgt := 55) hx hb dX5_count_1 (by decide) (by decide) rfl (by decide) ?_
    refine lv_aload_n hx hb dX5_count_55 rfl (lv_at hl 0 rfl) ?_
    refine va_get (D := (dC, dI)) (ci := 5) (v := .ref (a0 4)) (C := RX5) (T := TX5) (N := 8) hx hb hts i5 hown hK hP 0 rfl rfl 4 (by decide) (hts (.fieldLink RX5 40 "TwoMetals" "now" "LTwoMetals$World;") (List.mem_of_getElem? (i := 1) rfl)) (fun _ h9 => h9) rfl dX5_count_56 ?_
    refine va_get (D := (dC, dI)) (ci := 4) (v := .int (w1.1 10 0)) (C := RX4) (T := TX4) (N := 17) hx hb hts i4 hown hK hP 2 rfl rfl 10 (by decide) (hts (.fieldLink RX5 174 "TwoMetals$World" "minting" "I") (List.mem_of_getElem? (i := 5) rfl)) (fun _ h9 => h9) rfl dX5_count_59 ?_
    obtain ⟨r5, hr5, hm⟩ := bn_call hm
    refine ca_si (wr := (o_X5 cy h0 a0 w0) ++ (o_X4 cy (a0 4) a1 w1) ++ (o_X3 cy (a0 0) a2 w2)) (wn := (o_X5 cy h0 a0 w0) ++ (o_X4 cy (a0 4) a1 w1) ++ (o_X3 cy (a0 0) a2 w2)) ⟨hx, hb, hml, hown, hts⟩ hK hA (hDa _ _ _) hP hS [] [0, 1, 2, 3, 4, 5, 6, 7, 8, 9, 10, 11, 12, 13] [0, 1, 2, 3, 4, 5, 6, 7, 8, 9, 10, 11, 12, 13] (fun sz => kcJ6_bitCount_0f7a4 l dC dI cy fu (w1.1 10 0) sz r5 hr5) rfl rfl (by decide) (by decide) (by decide) rfl (va_cwS 1 hts gX5_count_J6_bitCount_0f7a4 rfl rfl rfl ydJ6_bitCount_0f7a4 ⟨Nat.le_of_ble_eq_true rfl, Nat.le_of_ble_eq_true rfl⟩) rfl hl.1 rfl (Nat.le_of_ble_eq_true rfl) dX5_count_62 ⟨Nat.zero_le _, Nat.zero_le _⟩ (fun H locs hP hS => ?_)
    obtain rfl := Option.some.inj hm
    exact hret 65 ls _ _ dX5_count_65 hP hS
  replace hm := (if_neg hv4).symm.trans hm
  by_cases hv6 : p1 = (3 : Int32)
  · replace hm := (if_pos hv6).symm.trans hm
    refine W.eq (g2 := F0 m 1 ls (.int (3 : Int32) :: [])) (by rw [hv6]) ?_
    refine lv_tableIn (tgt := 66) hx hb dX5_count_1 (by decide) (by decide) rfl (by decide) ?_
    refine lv_aload_n hx hb dX5_count_66 rfl (lv_at hl 0 rfl) ?_
    refine va_get (D := (dC, dI)) (ci := 5) (v := .ref (a0 4)) (C := RX5) (T := TX5) (N := 8) hx hb hts i5 hown hK hP 0 rfl rfl 4 (by decide) (hts (.fieldLink RX5 40 "TwoMetals" "now" "LTwoMetals$World;") (List.mem_of_getElem? (i := 1) rfl)) (fun _ h9 => h9) rfl dX5_count_67 ?_
    obtain ⟨r7, hr7, hm⟩ := bn_call hm
    refine ca_vl (wr := (o_X5 cy h0 a0 w0) ++ (o_X3 cy (a0 0) a2 w2)) (wn := (o_X5 cy h0 a0 w0) ++ (o_X4 cy (a0 4) a1 w1) ++ (o_X3 cy (a0 0) a2 w2)) ⟨hx, hb, hml, hown, hts⟩ hK hA (hDa _ _ _) hP hS [2, 3, 4, 5, 6, 7, 8, 9, 10, 11] [0, 1, 12, 13] [0, 1, 4, 5, 6, 7, 8, 9, 10, 11, 12, 13, 2, 3] (fun sz => kcX4_goldInAll l dC dI cy fu (a0 4) a1 w1 sz r7 hr7) rfl rfl (by decide) (by decide) (by decide) rfl (cwV 0 hts gX5_count_X4_goldInAll rfl rfl rfl ⟨rfl, ydX4_goldInAll⟩ ⟨Nat.le_of_ble_eq_true rfl, Nat.le_of_ble_eq_true rfl⟩) 4 0 rfl rfl rfl rfl hl.1 rfl (Nat.le_of_ble_eq_true rfl) dX5_count_70 ⟨Nat.zero_le _, Nat.zero_le _⟩ (fun H locs hP hS => ?_)
    refine lv_l2i (v := r7.toInt32) hx hb dX5_count_73 rfl ?_
    obtain rfl := Option.some.inj hm
    exact hret 74 ls _ _ dX5_count_74 hP hS
  replace hm := (if_neg hv6).symm.trans hm
  by_cases hv8 : p1 = (4 : Int32)
  · replace hm := (if_pos hv8).symm.trans hm
    refine W.eq (g2 := F0 m 1 ls (.int (4 : Int32) :: [])) (by rw [hv8]) ?_
    refine lv_tableIn (tgt := 75) hx hb dX5_count_1 (by decide) (by decide) rfl (by decide) ?_
    refine lv_aload_n hx hb dX5_count_75 rfl (lv_at hl 0 rfl) ?_
    refine va_get (D := (dC, dI)) (ci := 5) (v := .int (w0.1 7 0)) (C := RX5) (T := TX5) (N := 8) hx hb hts i5 hown hK hP 0 rfl rfl 7 (by decide) (hts (.fieldLink RX5 51 "TwoMetals" "keptCount" "I") (List.mem_of_getElem? (i := 6) rfl)) (fun _ h9 => h9) rfl dX5_count_76 ?_
    obtain rfl := Option.some.inj hm
    exact hret 79 ls _ _ dX5_count_79 hP hS
  replace hm := (if_neg hv8).symm.trans hm
  refine lv_tableOut (tgt := 80) hx hb dX5_count_1 (by
      have hv1 := sw_ne hv1 (z := 0) rfl
      have hv3 := sw_ne hv3 (z := 1) rfl
      have hv4 := sw_ne hv4 (z := 2) rfl
      have hv6 := sw_ne hv6 (z := 3) rfl
      have hv8 := sw_ne hv8 (z := 4) rfl
      omega) (by decide) ?_
  refine lv_iconst (v := (-1 : Int32)) hx hb dX5_count_80 (by decide) ?_
  obtain rfl := Option.some.inj hm
  exact hret 81 ls _ _ dX5_count_81 hP hS
