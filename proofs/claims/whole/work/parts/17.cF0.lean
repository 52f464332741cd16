set_option maxHeartbeats 4000000 in
set_option maxRecDepth 100000 in
theorem kcX6_in (l : Launch) (dC : Nat → ClassId) (dI : Nat → Nat → Nat) (cy : Nat → ClassId) (fu : Nat) (p1 : Int64) (p2 : Int64) (p3 : Int64) (sz : Nat) (R : Int32) (hm : mX6_in fu p1 p2 p3 = some R) : Met l yX6_in wsX6_in (rmN 0 0) (va_Pc [.long p1, .long p2, .long p3] (cPre dC dI cy (([] : va_W)) sz)) (va_Qi (fun (r : Int32) (_ : Unit) => r = R) (fun _ => cPost dC dI cy (([] : va_W)) (([] : va_W)) sz) (va_A (([] : va_W)) sz)) 0 0 (va_A (([] : va_W)) sz) := by
  refine mt_z (cc := cX6_in) (maxL := 6) (by decide) rfl (Nat.le_of_ble_eq_true rfl) rfl ?_
  intro p e s m below meth c Q A hx hb hml hown hts hK hA hD hP hret ls hl
  have hown : s.vm.findClass RX6 = some m.cls := hown
  have hl : lv_has ls 6 [(0, .long p1), (2, .long p2), (4, .long p3)] := hl
  have hS : va_S A s.heap s.heap [] := va_S.rf
  unfold mX6_in at hm
  refine lv_lload_n hx hb dX6_in_0 rfl (lv_at hl 0 rfl) ?_
  refine lv_lload_n hx hb dX6_in_1 rfl (lv_at hl 1 rfl) ?_
  refine W.lcmp hx hb dX6_in_2 ?_
  refine lv_if_lt (tgt := 17) hx hb dX6_in_3 (by decide) (fun hc => ?_) (fun hc => ?_)
  · replace hm := (if_pos hc).symm.trans hm
    refine lv_iconst (v := (0 : Int32)) hx hb dX6_in_17 (by decide) ?_
    obtain rfl := Option.some.inj hm
    exact hret 18 ls _ _ dX6_in_18 nar_0 hP hS
  replace hm := (if_neg hc).symm.trans hm
  refine lv_lload_n hx hb dX6_in_6 rfl (lv_at hl 0 rfl) ?_
  refine lv_lload hx hb dX6_in_7 (lv_at hl 2 rfl) ?_
  refine W.lcmp hx hb dX6_in_9 ?_
  refine lv_if_gt (tgt := 17) hx hb dX6_in_10 (by decide) (fun hc => ?_) (fun hc => ?_)
  · replace hm := (if_pos hc).symm.trans hm
    refine lv_iconst (v := (0 : Int32)) hx hb dX6_in_17 (by decide) ?_
    obtain rfl := Option.some.inj hm
    exact hret 18 ls _ _ dX6_in_18 nar_0 hP hS
  replace hm := (if_neg hc).symm.trans hm
  refine lv_iconst (v := (1 : Int32)) hx hb dX6_in_13 (by decide) ?_
  refine lv_goto (tgt := 18) hx hb dX6_in_14 (by decide) ?_
  obtain rfl := Option.some.inj hm
  exact hret 18 ls _ _ dX6_in_18 nar_1 hP hS
set_option maxHeartbeats 4000000 in
set_option maxRecDepth 100000 in
theorem kcX6_has (l : Launch) (dC : Nat → ClassId) (dI : Nat → Nat → Nat) (cy : Nat → ClassId) (fu : Nat) (p1 : Int32) (p2 : Int32) (sz : Nat) (R : Int32) (hm : mX6_has fu p1 p2 = some R) : Met l yX6_has wsX6_has (rmN 0 0) (va_Pc [.int p1, .int p2] (cPre dC dI cy (([] : va_W)) sz)) (va_Qi (fun (r : Int32) (_ : Unit) => r = R) (fun _ => cPost dC dI cy (([] : va_W)) (([] : va_W)) sz) (va_A (([] : va_W)) sz)) 0 0 (va_A (([] : va_W)) sz) := by
  refine mt_z (cc := cX6_has) (maxL := 2) (by decide) rfl (Nat.le_of_ble_eq_true rfl) rfl ?_
  intro p e s m below meth c Q A hx hb hml hown hts hK hA hD hP hret ls hl
  have hown : s.vm.findClass RX6 = some m.cls := hown
  have hl : lv_has ls 2 [(0, .int p1), (1, .int p2)] := hl
  have hS : va_S A s.heap s.heap [] := va_S.rf
  unfold mX6_has at hm
  refine lv_iload_n hx hb dX6_has_0 rfl (lv_at hl 0 rfl) ?_
  refine lv_iload_n hx hb dX6_has_1 rfl (lv_at hl 1 rfl) ?_
  refine lv_ishr hx hb dX6_has_2 ?_
  refine lv_iconst (v := (1 : Int32)) hx hb dX6_has_3 (by decide) ?_
  refine lv_iand hx hb dX6_has_4 ?_
  refine lv_iconst (v := (1 : Int32)) hx hb dX6_has_5 (by decide) ?_
  refine lv_icmp_ne (tgt := 13) hx hb dX6_has_6 (by decide) (fun hc => ?_) (fun hc => ?_)
  · replace hm := (if_neg hc).symm.trans hm
    refine lv_iconst (v := (0 : Int32)) hx hb dX6_has_13 (by decide) ?_
    obtain rfl := Option.some.inj hm
    exact hret 14 ls _ _ dX6_has_14 nar_0 hP hS
  replace hm := (if_pos hc).symm.trans hm
  refine lv_iconst (v := (1 : Int32)) hx hb dX6_has_9 (by decide) ?_
  refine lv_goto (tgt := 14) hx hb dX6_has_10 (by decide) ?_
  obtain rfl := Option.some.inj hm
  exact hret 14 ls _ _ dX6_has_14 nar_1 hP hS
set_option maxHeartbeats 4000000 in
set_option maxRecDepth 100000 in
theorem kcX6_bits (l : Launch) (dC : Nat → ClassId) (dI : Nat → Nat → Nat) (cy : Nat → ClassId) (fu : Nat) (p1 : Int32) (sz : Nat) (R : Int32) (hm : mX6_bits fu p1 = some R) : Met l yX6_bits wsX6_bits (rmN 0 0) (va_Pc [.int p1] (cPre dC dI cy (([] : va_W)) sz)) (va_Qi (fun (r : Int32) (_ : Unit) => r = R) (fun _ => cPost dC dI cy (([] : va_W)) (([] : va_W)) sz) (va_A (([] : va_W)) sz)) 0 0 (va_A (([] : va_W)) sz) := by
  refine mt_i (cc := cX6_bits) (maxL := 3) (by decide) rfl (Nat.le_of_ble_eq_true rfl) rfl ?_
  intro p e s m below meth c Q A hx hb hml hown hts hK hA hD hP hret ls hl
  have hown : s.vm.findClass RX6 = some m.cls := hown
  have hl : lv_has ls 3 [(0, .int p1)] := hl
  have hS : va_S A s.heap s.heap [] := va_S.rf
  have hB4 : ∀ (nn : Nat) (l1 : Int32) (l2 : Int32) (H : Heap) (locs : List Loc) (ls : Array Slot), bX6_bits_4 fu nn l1 l2 = some R → va_P (dC, dI) vwCl (([] : va_W)) H → va_S A s.heap H locs → lv_has ls 3 [(1, .int l1), (2, .int l2)] → W p l e (rmN 0 0) s m ([.int p1] : List Value).toArray below meth c H locs 0 0 Q (F0 m 4 ls []) := by
    intro nn
    induction nn with
    | zero => intro l1 l2 H locs ls hm; exact no_some ((bX6_bits_4_0 fu l1 l2).symm.trans hm)
    | succ nn ih =>
      intro l1 l2 H locs ls hm hP hS hl
      replace hm := (bX6_bits_4_s fu nn l1 l2).symm.trans hm
      refine lv_iload_n hx hb dX6_bits_4 rfl (lv_at hl 1 rfl) ?_
      refine lv_if_eq (tgt := 20) hx hb dX6_bits_5 (by decide) (fun hc => ?_) (fun hc => ?_)
      · replace hm := (if_pos hc).symm.trans hm
        refine lv_iload_n hx hb dX6_bits_20 rfl (lv_at hl 0 rfl) ?_
        obtain rfl := Option.some.inj hm
        exact hret 21 ls _ _ dX6_bits_21 hP hS
      replace hm := (if_neg hc).symm.trans hm
      obtain ⟨x1, e2⟩ : ∃ y : Int32, y = l1 + (1 : Int32) := ⟨_, rfl⟩
      replace hm := bn_at e2 hm
      refine lv_iinc (v := x1) (lv' := [(1, .int x1), (2, .int l2)]) hx hb dX6_bits_8 hl (k := 0) rfl (by rw [e2]; rfl) (by decide) rfl (fun ls hl => ?_)
      refine lv_iload_n hx hb dX6_bits_11 rfl (lv_at hl 1 rfl) ?_
      refine lv_iload_n hx hb dX6_bits_12 rfl (lv_at hl 1 rfl) ?_
      refine lv_iconst (v := (1 : Int32)) hx hb dX6_bits_13 (by decide) ?_
      refine lv_isub hx hb dX6_bits_14 ?_
      refine lv_iand hx hb dX6_bits_15 ?_
      refine lv_topi (fun x3 e4 => ?_)
      replace hm := bn_at e4 hm
      refine lv_istore_n (lv' := [(2, .int x3), (1, .int x1)]) hx hb dX6_bits_16 rfl hl (by decide) rfl (fun ls hl => ?_)
      refine lv_goto (tgt := 4) hx hb dX6_bits_17 (by decide) ?_
      exact ih x1 x3 _ _ ls hm hP hS (lv_sub hl [1, 0] rfl)
  unfold mX6_bits at hm
  refine lv_iconst (v := (0 : Int32)) hx hb dX6_bits_0 (by decide) ?_
  refine lv_istore_n (lv' := [(1, .int (0 : Int32)), (0, .int p1)]) hx hb dX6_bits_1 rfl hl (by decide) rfl (fun ls hl => ?_)
  refine lv_iload_n hx hb dX6_bits_2 rfl (lv_at hl 1 rfl) ?_
  refine lv_istore_n (lv' := [(2, .int p1), (1, .int (0 : Int32)), (0, .int p1)]) hx hb dX6_bits_3 rfl hl (by decide) rfl (fun ls hl => ?_)
  exact hB4 fu (0 : Int32) p1 _ _ ls hm hP hS (lv_sub hl [1, 0] rfl)
set_option maxHeartbeats 4000000 in
set_option maxRecDepth 100000 in
theorem kcX6_noWorld (l : Launch) (dC : Nat → ClassId) (dI : Nat → Nat → Nat) (cy : Nat → ClassId) (fu : Nat) (h0 : Nat) (a0 : Nat → Nat) (w0 : ob_T) (p1 : Int32) (p2 : Int32) (sz : Nat) (R : ob_T) (hm : mX6_noWorld fu w0 p1 p2 = some R) : Met l yX6_noWorld wsX6_noWorld (rmN 0 0) (va_Pc [.ref h0, .int p1, .int p2] (cPre dC dI cy ((o_X6 cy h0 a0 w0)) sz)) (va_Qv (fun (_ : Unit) => True) (fun _ => cPost dC dI cy ((o_X6 cy h0 a0 w0)) ((o_X6 cy h0 a0 R)) sz) (va_A ((o_X6 cy h0 a0 w0)) sz)) 0 0 (va_A ((o_X6 cy h0 a0 w0)) sz) := by
  refine mt_v (cc := cX6_noWorld) (maxL := 4) (by decide) rfl (Nat.le_of_ble_eq_true rfl) rfl ?_
  intro p e s m below meth c Q A hx hb hml hown hts hK hA hD hP hret ls hl
  have hown : s.vm.findClass RX6 = some m.cls := hown
  have hl : lv_has ls 4 [(0, .ref h0), (1, .int p1), (2, .int p2)] := hl
  have hDa : ∀ v0 : ob_T, va_D A ((o_X6 cy h0 a0 v0)) := fun _ => va_D_adr hD rfl
  have i6 : ∀ w ∈ wsX60, w ∈ wsX6_noWorld := fun _ h => List.mem_cons_of_mem _ (List.mem_append_right _ h)
  have hS : va_S A s.heap s.heap [] := va_S.rf
  have hB43 : ∀ (nn : Nat) (w0 : ob_T) (l1 : Int32) (l2 : Int32) (l3 : Int32) (H : Heap) (locs : List Loc) (ls : Array Slot), bX6_noWorld_43 fu nn w0 l1 l2 l3 = some R → va_P (dC, dI) vwCl ((o_X6 cy h0 a0 w0)) H → va_S A s.heap H locs → lv_has ls 4 [(0, .ref h0), (1, .int l1), (2, .int l2), (3, .int l3)] → W p l e (rmN 0 0) s m ([.ref h0, .int p1, .int p2] : List Value).toArray below meth c H locs 0 0 Q (F0 m 43 ls []) := by
    intro nn
    induction nn with
    | zero => intro w0 l1 l2 l3 H locs ls hm; exact no_some ((bX6_noWorld_43_0 fu w0 l1 l2 l3).symm.trans hm)
    | succ nn ih =>
      intro w0 l1 l2 l3 H locs ls hm hP hS hl
      replace hm := (bX6_noWorld_43_s fu nn w0 l1 l2 l3).symm.trans hm
      refine lv_iload_n hx hb dX6_noWorld_43 rfl (lv_at hl 3 rfl) ?_
      refine lv_iconst (v := (3 : Int32)) hx hb dX6_noWorld_44 (by decide) ?_
      refine lv_icmp_ge (tgt := 65) hx hb dX6_noWorld_45 (by decide) (fun hc => ?_) (fun hc => ?_)
      · replace hm := (if_pos hc).symm.trans hm
        refine lv_aload_n hx hb dX6_noWorld_65 rfl (lv_at hl 0 rfl) ?_
        refine va_get (D := (dC, dI)) (ci := 6) (v := .ref (a0 4)) (C := RX6) (T := TX6) (N := 11) hx hb hts i6 hown hK hP 0 rfl rfl 4 (by decide) (hts (.fieldLink RX6 20 "TwoMetalsModel" "scarce" "[I") (List.mem_of_getElem? (i := 4) rfl)) (fun _ h9 => h9) rfl dX6_noWorld_66 ?_
        refine lv_iload_n hx hb dX6_noWorld_69 rfl (lv_at hl 2 rfl) ?_
        refine lv_sipush (v := (1000 : Int32)) hx hb dX6_noWorld_70 (by decide) ?_
        obtain ⟨hi1, hm⟩ := ck_in hm
        refine va_iast hx hb hK hP (hDa _) hS 4 0 rfl rfl hi1 dX6_noWorld_73 (fun H locs hP _ hS => ?_)
        have hP : va_P (dC, dI) vwCl ((o_X6 cy h0 a0 (ob_I w0 4 (upd (w0.1 4) l2.toNatClampNeg (1000 : Int32))))) H := hP
        obtain ⟨u2, hP, hm⟩ := bn_ob (P := fun zz => va_P (dC, dI) vwCl ((o_X6 cy h0 a0 zz)) H) hm hP
        refine lv_aload_n hx hb dX6_noWorld_74 rfl (lv_at hl 0 rfl) ?_
        refine va_get (D := (dC, dI)) (ci := 6) (v := .ref (a0 5)) (C := RX6) (T := TX6) (N := 11) hx hb hts i6 hown hK hP 0 rfl rfl 5 (by decide) (hts (.fieldLink RX6 23 "TwoMetalsModel" "mineMany" "[I") (List.mem_of_getElem? (i := 5) rfl)) (fun _ h9 => h9) rfl dX6_noWorld_75 ?_
        refine lv_iload_n hx hb dX6_noWorld_78 rfl (lv_at hl 2 rfl) ?_
        refine lv_iconst (v := (0 : Int32)) hx hb dX6_noWorld_79 (by decide) ?_
        refine va_iast hx hb hK hP (hDa _) hS 5 0 rfl rfl hi1 dX6_noWorld_80 (fun H locs hP _ hS => ?_)
        have hP : va_P (dC, dI) vwCl ((o_X6 cy h0 a0 (ob_I u2 5 (upd (u2.1 5) l2.toNatClampNeg (0 : Int32))))) H := hP
        obtain ⟨u3, hP, hm⟩ := bn_ob (P := fun zz => va_P (dC, dI) vwCl ((o_X6 cy h0 a0 zz)) H) hm hP
        obtain rfl := Option.some.inj hm
        exact hret 81 ls _ _ dX6_noWorld_81 hP hS
      replace hm := (if_neg hc).symm.trans hm
      refine lv_aload_n hx hb dX6_noWorld_48 rfl (lv_at hl 0 rfl) ?_
      refine va_get (D := (dC, dI)) (ci := 6) (v := .ref (a0 3)) (C := RX6) (T := TX6) (N := 11) hx hb hts i6 hown hK hP 0 rfl rfl 3 (by decide) (hts (.fieldLink RX6 17 "TwoMetalsModel" "markets" "[J") (List.mem_of_getElem? (i := 3) rfl)) (fun _ h9 => h9) rfl dX6_noWorld_49 ?_
      refine lv_iconst (v := (3 : Int32)) hx hb dX6_noWorld_52 (by decide) ?_
      refine lv_iload_n hx hb dX6_noWorld_53 rfl (lv_at hl 1 rfl) ?_
      refine lv_imul hx hb dX6_noWorld_54 ?_
      refine lv_iload_n hx hb dX6_noWorld_55 rfl (lv_at hl 3 rfl) ?_
      refine lv_iadd hx hb dX6_noWorld_56 ?_
      refine lv_lconst (v := (0 : Int64)) hx hb dX6_noWorld_57 (by decide) ?_
      obtain ⟨hi4, hm⟩ := ck_in hm
      refine va_last hx hb hK hP (hDa _) hS 3 1 rfl rfl hi4 dX6_noWorld_58 (fun H locs hP _ hS => ?_)
      have hP : va_P (dC, dI) vwCl ((o_X6 cy h0 a0 (ob_L w0 3 (vp_updL (w0.2 3) (((3 : Int32) * l1) + l3).toNatClampNeg (0 : Int64))))) H := hP
      obtain ⟨u5, hP, hm⟩ := bn_ob (P := fun zz => va_P (dC, dI) vwCl ((o_X6 cy h0 a0 zz)) H) hm hP
      obtain ⟨x6, e7⟩ : ∃ y : Int32, y = l3 + (1 : Int32) := ⟨_, rfl⟩
      replace hm := bn_at e7 hm
      refine lv_iinc (v := x6) (lv' := [(3, .int x6), (0, .ref h0), (1, .int l1), (2, .int l2)]) hx hb dX6_noWorld_59 hl (k := 3) rfl (by rw [e7]; rfl) (by decide) rfl (fun ls hl => ?_)
      refine lv_goto (tgt := 43) hx hb dX6_noWorld_62 (by decide) ?_
      exact ih u5 l1 l2 x6 _ _ ls hm hP hS (lv_sub hl [1, 2, 3, 0] rfl)
  have hB34 : ∀ (k2 : ob_T → Int32 → Int32 → Int32 → Option (ob_T)) (_ : ∀ (w0 : ob_T) (l1 : Int32) (l2 : Int32) (l3 : Int32) (H : Heap) (locs : List Loc) (ls : Array Slot), k2 w0 l1 l2 l3 = some R → va_P (dC, dI) vwCl ((o_X6 cy h0 a0 w0)) H → va_S A s.heap H locs → lv_has ls 4 [(0, .ref h0), (1, .int l1), (2, .int l2), (3, .int l3)] → W p l e (rmN 0 0) s m ([.ref h0, .int p1, .int p2] : List Value).toArray below meth c H locs 0 0 Q (F0 m 2 ls [])) (w0 : ob_T) (l1 : Int32) (l2 : Int32) (l3 : Int32) (s0 : Int64) (s1 : Int32) (H : Heap) (locs : List Loc) (ls : Array Slot), bX6_noWorld_34 fu k2 w0 l1 l2 l3 s0 s1 = some R → va_P (dC, dI) vwCl ((o_X6 cy h0 a0 w0)) H → va_S A s.heap H locs → lv_has ls 4 [(0, .ref h0), (1, .int l1), (2, .int l2), (3, .int l3)] → W p l e (rmN 0 0) s m ([.ref h0, .int p1, .int p2] : List Value).toArray below meth c H locs 0 0 Q (F0 m 34 ls [.long s0, .int s1, .ref (a0 2)]) := by
    intro k2 hk2 w0 l1 l2 l3 s0 s1 H locs ls hm hP hS hl
    unfold bX6_noWorld_34 at hm
    obtain ⟨hi8, hm⟩ := ck_in hm
    refine va_last hx hb hK hP (hDa _) hS 2 1 rfl rfl hi8 dX6_noWorld_34 (fun H locs hP _ hS => ?_)
    have hP : va_P (dC, dI) vwCl ((o_X6 cy h0 a0 (ob_L w0 2 (vp_updL (w0.2 2) s1.toNatClampNeg s0)))) H := hP
    obtain ⟨u9, hP, hm⟩ := bn_ob (P := fun zz => va_P (dC, dI) vwCl ((o_X6 cy h0 a0 zz)) H) hm hP
    obtain ⟨x10, e11⟩ : ∃ y : Int32, y = l3 + (1 : Int32) := ⟨_, rfl⟩
    replace hm := bn_at e11 hm
    refine lv_iinc (v := x10) (lv' := [(3, .int x10), (0, .ref h0), (1, .int l1), (2, .int l2)]) hx hb dX6_noWorld_35 hl (k := 3) rfl (by rw [e11]; rfl) (by decide) rfl (fun ls hl => ?_)
    refine lv_goto (tgt := 2) hx hb dX6_noWorld_38 (by decide) ?_
    exact hk2 u9 l1 l2 x10 _ _ ls hm hP hS (lv_sub hl [1, 2, 3, 0] rfl)
  have hB2 : ∀ (nn : Nat) (w0 : ob_T) (l1 : Int32) (l2 : Int32) (l3 : Int32) (H : Heap) (locs : List Loc) (ls : Array Slot), bX6_noWorld_2 fu nn w0 l1 l2 l3 = some R → va_P (dC, dI) vwCl ((o_X6 cy h0 a0 w0)) H → va_S A s.heap H locs → lv_has ls 4 [(0, .ref h0), (1, .int l1), (2, .int l2), (3, .int l3)] → W p l e (rmN 0 0) s m ([.ref h0, .int p1, .int p2] : List Value).toArray below meth c H locs 0 0 Q (F0 m 2 ls []) := by
    intro nn
    induction nn with
    | zero => intro w0 l1 l2 l3 H locs ls hm; exact no_some ((bX6_noWorld_2_0 fu w0 l1 l2 l3).symm.trans hm)
    | succ nn ih =>
      intro w0 l1 l2 l3 H locs ls hm hP hS hl
      replace hm := (bX6_noWorld_2_s fu nn w0 l1 l2 l3).symm.trans hm
      refine lv_iload_n hx hb dX6_noWorld_2 rfl (lv_at hl 3 rfl) ?_
      refine lv_bipush (v := (72 : Int32)) hx hb dX6_noWorld_3 (by decide) ?_
      refine lv_icmp_ge (tgt := 41) hx hb dX6_noWorld_5 (by decide) (fun hc => ?_) (fun hc => ?_)
      · replace hm := (if_pos hc).symm.trans hm
        refine lv_iconst (v := (0 : Int32)) hx hb dX6_noWorld_41 (by decide) ?_
        refine lv_istore_n (lv' := [(3, .int (0 : Int32)), (0, .ref h0), (1, .int l1), (2, .int l2)]) hx hb dX6_noWorld_42 rfl hl (by decide) rfl (fun ls hl => ?_)
        exact hB43 fu w0 l1 l2 (0 : Int32) _ _ ls hm hP hS (lv_sub hl [1, 2, 3, 0] rfl)
      replace hm := (if_neg hc).symm.trans hm
      refine lv_aload_n hx hb dX6_noWorld_8 rfl (lv_at hl 0 rfl) ?_
      refine va_get (D := (dC, dI)) (ci := 6) (v := .ref (a0 2)) (C := RX6) (T := TX6) (N := 11) hx hb hts i6 hown hK hP 0 rfl rfl 2 (by decide) (hts (.fieldLink RX6 13 "TwoMetalsModel" "realms" "[J") (List.mem_of_getElem? (i := 1) rfl)) (fun _ h9 => h9) rfl dX6_noWorld_9 ?_
      refine lv_bipush (v := (72 : Int32)) hx hb dX6_noWorld_12 (by decide) ?_
      refine lv_iload_n hx hb dX6_noWorld_14 rfl (lv_at hl 1 rfl) ?_
      refine lv_imul hx hb dX6_noWorld_15 ?_
      refine lv_iload_n hx hb dX6_noWorld_16 rfl (lv_at hl 3 rfl) ?_
      refine lv_iadd hx hb dX6_noWorld_17 ?_
      refine lv_iload_n hx hb dX6_noWorld_18 rfl (lv_at hl 3 rfl) ?_
      refine lv_bipush (v := (9 : Int32)) hx hb dX6_noWorld_19 (by decide) ?_
      obtain ⟨hz12, hm⟩ := ck_dvi hm
      refine lv_irem hx hb dX6_noWorld_21 hz12 ?_
      refine lv_bipush (v := (8 : Int32)) hx hb dX6_noWorld_22 (by decide) ?_
      refine lv_icmp_ne (tgt := 33) hx hb dX6_noWorld_24 (by decide) (fun hc => ?_) (fun hc => ?_)
      · replace hm := (if_neg hc).symm.trans hm
        refine lv_lconst (v := (0 : Int64)) hx hb dX6_noWorld_33 (by decide) ?_
        exact hB34 (bX6_noWorld_2 fu nn) ih w0 l1 l2 l3 (0 : Int64) (((72 : Int32) * l1) + l3) _ _ ls hm hP hS (lv_sub hl [0, 1, 2, 3] rfl)
      replace hm := (if_pos hc).symm.trans hm
      refine lv_ldc2 (v := (-1 : Int64)) hx hb hown (hts (.constantLong RX6 39 (-1)) (List.mem_of_getElem? (i := 2) rfl)) dX6_noWorld_27 ?_
      refine lv_goto (tgt := 34) hx hb dX6_noWorld_30 (by decide) ?_
      exact hB34 (bX6_noWorld_2 fu nn) ih w0 l1 l2 l3 (-1 : Int64) (((72 : Int32) * l1) + l3) _ _ ls hm hP hS (lv_sub hl [0, 1, 2, 3] rfl)
  unfold mX6_noWorld at hm
  refine lv_iconst (v := (0 : Int32)) hx hb dX6_noWorld_0 (by decide) ?_
  refine lv_istore_n (lv' := [(3, .int (0 : Int32)), (0, .ref h0), (1, .int p1), (2, .int p2)]) hx hb dX6_noWorld_1 rfl hl (by decide) rfl (fun ls hl => ?_)
  exact hB2 fu w0 p1 p2 (0 : Int32) _ _ ls hm hP hS (lv_sub hl [1, 2, 3, 0] rfl)
set_option maxHeartbeats 4000000 in
set_option maxRecDepth 100000 in
theorem kcX6_write (l : Launch) (dC : Nat → ClassId) (dI : Nat → Nat → Nat) (cy : Nat → ClassId) (fu : Nat) (h0 : Nat) (a0 : Nat → Nat) (w0 : ob_T) (p1 : Int32) (p2 : Int64) (sz : Nat) (R : Int32 × ob_T) (hm : mX6_write fu w0 p1 p2 = some R) : Met l yX6_write wsX6_write (rmN 1 25) (va_Pc [.ref h0, .int p1, .long p2] (cPre dC dI cy ((o_X6 cy h0 a0 w0)) sz)) (va_Qi (fun (r : Int32) (_ : Unit) => r = R.1) (fun _ => cPost dC dI cy ((o_X6 cy h0 a0 w0)) ((o_X6 cy h0 a0 R.2)) sz) (va_A ((o_X6 cy h0 a0 w0)) sz)) 0 0 (va_A ((o_X6 cy h0 a0 w0)) sz) := by
  refine mt_i (cc := cX6_write) (maxL := 5) (by decide) rfl (Nat.le_of_ble_eq_true rfl) rfl ?_
  intro p e s m below meth c Q A hx hb hml hown hts hK hA hD hP hret ls hl
  have hown : s.vm.findClass RX6 = some m.cls := hown
  have hl : lv_has ls 5 [(0, .ref h0), (1, .int p1), (2, .long p2)] := hl
  have hDa : ∀ v0 : ob_T, va_D A ((o_X6 cy h0 a0 v0)) := fun _ => va_D_adr hD rfl
  have i6 : ∀ w ∈ wsX60, w ∈ wsX6_write := fun _ h => List.mem_cons_of_mem _ (List.mem_append_right _ h)
  have hS : va_S A s.heap s.heap [] := va_S.rf
  have hB34 : ∀ (nn : Nat) (w0 : ob_T) (l2 : Int64) (l4 : Int32) (H : Heap) (locs : List Loc) (ls : Array Slot), bX6_write_34 fu nn w0 l2 l4 = some R → va_P (dC, dI) vwCl ((o_X6 cy h0 a0 w0)) H → va_S A s.heap H locs → lv_has ls 5 [(0, .ref h0), (2, .long l2), (4, .int l4)] → W p l e (rmN 1 25) s m ([.ref h0, .int p1, .long p2] : List Value).toArray below meth c H locs 0 0 Q (F0 m 34 ls []) := by
    intro nn
    induction nn with
    | zero => intro w0 l2 l4 H locs ls hm; exact no_some ((bX6_write_34_0 fu w0 l2 l4).symm.trans hm)
    | succ nn ih =>
      intro w0 l2 l4 H locs ls hm hP hS hl
      replace hm := (bX6_write_34_s fu nn w0 l2 l4).symm.trans hm
      refine lv_iload hx hb dX6_write_34 (lv_at hl 2 rfl) ?_
      refine lv_if_lt (tgt := 76) hx hb dX6_write_36 (by decide) (fun hc => ?_) (fun hc => ?_)
      · replace hm := (if_pos hc).symm.trans hm
        refine lv_aload_n hx hb dX6_write_76 rfl (lv_at hl 0 rfl) ?_
        refine va_get (D := (dC, dI)) (ci := 6) (v := .int (w0.1 0 0)) (C := RX6) (T := TX6) (N := 11) hx hb hts i6 hown hK hP 0 rfl rfl 0 (by decide) (hts (.fieldLink RX6 47 "TwoMetalsModel" "length" "I") (List.mem_of_getElem? (i := 2) rfl)) (fun _ h9 => h9) rfl dX6_write_77 ?_
        obtain rfl := Option.some.inj hm
        exact hret 80 ls _ _ dX6_write_80 hP hS
      replace hm := (if_neg hc).symm.trans hm
      refine lv_aload_n hx hb dX6_write_39 rfl (lv_at hl 0 rfl) ?_
      refine va_get (D := (dC, dI)) (ci := 6) (v := .ref (a0 1)) (C := RX6) (T := TX6) (N := 11) hx hb hts i6 hown hK hP 0 rfl rfl 1 (by decide) (hts (.fieldLink RX6 7 "TwoMetalsModel" "text" "[I") (List.mem_of_getElem? (i := 3) rfl)) (fun _ h9 => h9) rfl dX6_write_40 ?_
      refine lv_aload_n hx hb dX6_write_43 rfl (lv_at hl 0 rfl) ?_
      refine va_get (D := (dC, dI)) (ci := 6) (v := .int (w0.1 0 0)) (C := RX6) (T := TX6) (N := 11) hx hb hts i6 hown hK hP 0 rfl rfl 0 (by decide) (hts (.fieldLink RX6 47 "TwoMetalsModel" "length" "I") (List.mem_of_getElem? (i := 2) rfl)) (fun _ h9 => h9) rfl dX6_write_44 ?_
      refine lv_lload_n hx hb dX6_write_47 rfl (lv_at hl 1 rfl) ?_
      refine lv_bipush (v := (8 : Int32)) hx hb dX6_write_48 (by decide) ?_
      refine lv_iload hx hb dX6_write_50 (lv_at hl 2 rfl) ?_
      refine lv_imul hx hb dX6_write_52 ?_
      refine lv_lshr (v := l2 >>> (((8 : Int32) * l4).toInt64 &&& 63)) hx hb dX6_write_53 rfl ?_
      refine lv_ldc2 (v := (255 : Int64)) hx hb hown (hts (.constantLong RX6 51 (255)) (List.mem_of_getElem? (i := 4) rfl)) dX6_write_54 ?_
      refine lv_land hx hb dX6_write_57 ?_
      refine lv_l2i (v := ((l2 >>> (((8 : Int32) * l4).toInt64 &&& 63)) &&& (255 : Int64)).toInt32) hx hb dX6_write_58 rfl ?_
      obtain ⟨hi1, hm⟩ := ck_in hm
      refine va_iast hx hb hK hP (hDa _) hS 1 0 rfl rfl hi1 dX6_write_59 (fun H locs hP _ hS => ?_)
      have hP : va_P (dC, dI) vwCl ((o_X6 cy h0 a0 (ob_I w0 1 (upd (w0.1 1) (w0.1 0 0).toNatClampNeg (((l2 >>> (((8 : Int32) * l4).toInt64 &&& 63)) &&& (255 : Int64)).toInt32))))) H := hP
      obtain ⟨u2, hP, hm⟩ := bn_ob (P := fun zz => va_P (dC, dI) vwCl ((o_X6 cy h0 a0 zz)) H) hm hP
      refine lv_aload_n hx hb dX6_write_60 rfl (lv_at hl 0 rfl) ?_
      refine lv_dup hx hb dX6_write_61 rfl ?_
      refine va_get (D := (dC, dI)) (ci := 6) (v := .int (u2.1 0 0)) (C := RX6) (T := TX6) (N := 11) hx hb hts i6 hown hK hP 0 rfl rfl 0 (by decide) (hts (.fieldLink RX6 47 "TwoMetalsModel" "length" "I") (List.mem_of_getElem? (i := 2) rfl)) (fun _ h9 => h9) rfl dX6_write_62 ?_
      refine lv_iconst (v := (1 : Int32)) hx hb dX6_write_65 (by decide) ?_
      refine lv_iadd hx hb dX6_write_66 ?_
      refine va_put (D := (dC, dI)) (ci := 6) (v := .int ((u2.1 0 0) + (1 : Int32))) (ty := .int) (C := RX6) (T := TX6) (N := 11) hx hb hts i6 tyX6 tyX6_ok nmX6 hown hK hP (hDa _) hS 0 rfl rfl 0 (by decide) (hts (.fieldLink RX6 47 "TwoMetalsModel" "length" "I") (List.mem_of_getElem? (i := 2) rfl)) (fun _ h9 => h9) rfl (tyX6_ok 0 (by decide)) rfl rfl (Nat.le_of_ble_eq_true rfl) dX6_write_67 (fun H locs hP _ hS => ?_)
      have hP : va_P (dC, dI) vwCl ((o_X6 cy h0 a0 (ob_I u2 0 (fun _ => (u2.1 0 0) + (1 : Int32))))) H := hP
      obtain ⟨u3, hP, hm⟩ := bn_ob (P := fun zz => va_P (dC, dI) vwCl ((o_X6 cy h0 a0 zz)) H) hm hP
      obtain ⟨x4, e5⟩ : ∃ y : Int32, y = l4 + (-1 : Int32) := ⟨_, rfl⟩
      replace hm := bn_at e5 hm
      refine lv_iinc (v := x4) (lv' := [(4, .int x4), (0, .ref h0), (2, .long l2)]) hx hb dX6_write_70 hl (k := 2) rfl (by rw [e5]; rfl) (by decide) rfl (fun ls hl => ?_)
      refine lv_goto (tgt := 34) hx hb dX6_write_73 (by decide) ?_
      exact ih u3 l2 x4 _ _ ls hm hP hS (lv_sub hl [1, 2, 0] rfl)
  unfold mX6_write at hm
  refine lv_iload_n hx hb dX6_write_0 rfl (lv_at hl 1 rfl) ?_
  refine lv_i2l (v := p1.toInt64) hx hb dX6_write_1 rfl ?_
  refine lv_lconst (v := (1 : Int64)) hx hb dX6_write_2 (by decide) ?_
  refine lv_ldc2 (v := (8 : Int64)) hx hb hown (hts (.constantLong RX6 41 (8)) (List.mem_of_getElem? (i := 1) rfl)) dX6_write_3 ?_
  obtain ⟨r6, hr6, hm⟩ := bn_call hm
  refine ca_si (wr := (o_X6 cy h0 a0 w0)) (wn := (o_X6 cy h0 a0 w0)) ⟨hx, hb, hml, hown, hts⟩ hK hA (hDa _) hP hS [] [0, 1, 2, 3, 4, 5, 6, 7, 8] [0, 1, 2, 3, 4, 5, 6, 7, 8] (fun sz => kcX6_in l dC dI cy fu p1.toInt64 (1 : Int64) (8 : Int64) sz r6 hr6) rfl rfl (by decide) (by decide) (by decide) rfl (va_cwS 3 hts gX6_write_X6_in rfl rfl rfl ydX6_in ⟨Nat.le_of_ble_eq_true rfl, Nat.le_of_ble_eq_true rfl⟩) rfl hl.1 rfl (Nat.le_of_ble_eq_true rfl) dX6_write_6 ⟨Nat.zero_le _, Nat.zero_le _⟩ (fun H locs hP hS => ?_)
  refine lv_if_ne (tgt := 14) hx hb dX6_write_9 (by decide) (fun hc => ?_) (fun hc => ?_)
  · replace hm := (if_neg hc).symm.trans hm
    refine lv_aload_n hx hb dX6_write_14 rfl (lv_at hl 0 rfl) ?_
    refine va_get (D := (dC, dI)) (ci := 6) (v := .int (w0.1 0 0)) (C := RX6) (T := TX6) (N := 11) hx hb hts i6 hown hK hP 0 rfl rfl 0 (by decide) (hts (.fieldLink RX6 47 "TwoMetalsModel" "length" "I") (List.mem_of_getElem? (i := 2) rfl)) (fun _ h9 => h9) rfl dX6_write_15 ?_
    refine lv_iload_n hx hb dX6_write_18 rfl (lv_at hl 1 rfl) ?_
    refine lv_iadd hx hb dX6_write_19 ?_
    refine lv_sipush (v := (400 : Int32)) hx hb dX6_write_20 (by decide) ?_
    refine lv_icmp_le (tgt := 29) hx hb dX6_write_23 (by decide) (fun hc => ?_) (fun hc => ?_)
    · replace hm := (if_pos hc).symm.trans hm
      refine lv_iload_n hx hb dX6_write_29 rfl (lv_at hl 1 rfl) ?_
      refine lv_iconst (v := (1 : Int32)) hx hb dX6_write_30 (by decide) ?_
      refine lv_isub hx hb dX6_write_31 ?_
      refine lv_topi (fun x7 e8 => ?_)
      replace hm := bn_at e8 hm
      refine lv_istore (lv' := [(4, .int x7), (0, .ref h0), (1, .int p1), (2, .long p2)]) hx hb dX6_write_32 hl (by decide) rfl (fun ls hl => ?_)
      exact hB34 fu w0 p2 x7 _ _ ls hm hP hS (lv_sub hl [1, 3, 0] rfl)
    replace hm := (if_neg hc).symm.trans hm
    refine lv_bipush (v := (-3 : Int32)) hx hb dX6_write_26 (by decide) ?_
    obtain rfl := Option.some.inj hm
    exact hret 28 ls _ _ dX6_write_28 hP hS
  replace hm := (if_pos hc).symm.trans hm
  refine lv_iconst (v := (-1 : Int32)) hx hb dX6_write_12 (by decide) ?_
  obtain rfl := Option.some.inj hm
  exact hret 13 ls _ _ dX6_write_13 hP hS
set_option maxHeartbeats 4000000 in
set_option maxRecDepth 100000 in
theorem kcX6_wipe (l : Launch) (dC : Nat → ClassId) (dI : Nat → Nat → Nat) (cy : Nat → ClassId) (fu : Nat) (h0 : Nat) (a0 : Nat → Nat) (w0 : ob_T) (sz : Nat) (R : Int32 × ob_T) (hm : mX6_wipe fu w0 = some R) : Met l yX6_wipe wsX6_wipe (rmN 0 0) (va_Pc [.ref h0] (cPre dC dI cy ((o_X6 cy h0 a0 w0)) sz)) (va_Qi (fun (r : Int32) (_ : Unit) => r = R.1) (fun _ => cPost dC dI cy ((o_X6 cy h0 a0 w0)) ((o_X6 cy h0 a0 R.2)) sz) (va_A ((o_X6 cy h0 a0 w0)) sz)) 0 0 (va_A ((o_X6 cy h0 a0 w0)) sz) := by
  refine mt_i (cc := cX6_wipe) (maxL := 2) (by decide) rfl (Nat.le_of_ble_eq_true rfl) rfl ?_
  intro p e s m below meth c Q A hx hb hml hown hts hK hA hD hP hret ls hl
  have hown : s.vm.findClass RX6 = some m.cls := hown
  have hl : lv_has ls 2 [(0, .ref h0)] := hl
  have hDa : ∀ v0 : ob_T, va_D A ((o_X6 cy h0 a0 v0)) := fun _ => va_D_adr hD rfl
  have i6 : ∀ w ∈ wsX60, w ∈ wsX6_wipe := fun _ h => List.mem_cons_of_mem _ (List.mem_append_right _ h)
  have hS : va_S A s.heap s.heap [] := va_S.rf
  unfold mX6_wipe at hm
  refine lv_aload_n hx hb dX6_wipe_0 rfl (lv_at hl 0 rfl) ?_
  refine va_get (D := (dC, dI)) (ci := 6) (v := .int (w0.1 0 0)) (C := RX6) (T := TX6) (N := 11) hx hb hts i6 hown hK hP 0 rfl rfl 0 (by decide) (hts (.fieldLink RX6 47 "TwoMetalsModel" "length" "I") (List.mem_of_getElem? (i := 1) rfl)) (fun _ h9 => h9) rfl dX6_wipe_1 ?_
  refine lv_topi (fun x1 e2 => ?_)
  replace hm := bn_at e2 hm
  refine lv_istore_n (lv' := [(1, .int x1), (0, .ref h0)]) hx hb dX6_wipe_4 rfl hl (by decide) rfl (fun ls hl => ?_)
  refine lv_aload_n hx hb dX6_wipe_5 rfl (lv_at hl 1 rfl) ?_
  refine lv_iconst (v := (0 : Int32)) hx hb dX6_wipe_6 (by decide) ?_
  refine va_put (D := (dC, dI)) (ci := 6) (v := .int (0 : Int32)) (ty := .int) (C := RX6) (T := TX6) (N := 11) hx hb hts i6 tyX6 tyX6_ok nmX6 hown hK hP (hDa _) hS 0 rfl rfl 0 (by decide) (hts (.fieldLink RX6 47 "TwoMetalsModel" "length" "I") (List.mem_of_getElem? (i := 1) rfl)) (fun _ h9 => h9) rfl (tyX6_ok 0 (by decide)) rfl rfl (Nat.le_of_ble_eq_true rfl) dX6_wipe_7 (fun H locs hP _ hS => ?_)
  have hP : va_P (dC, dI) vwCl ((o_X6 cy h0 a0 (ob_I w0 0 (fun _ => (0 : Int32))))) H := hP
  obtain ⟨u3, hP, hm⟩ := bn_ob (P := fun zz => va_P (dC, dI) vwCl ((o_X6 cy h0 a0 zz)) H) hm hP
  refine lv_iload_n hx hb dX6_wipe_10 rfl (lv_at hl 0 rfl) ?_
  obtain rfl := Option.some.inj hm
  exact hret 11 ls _ _ dX6_wipe_11 hP hS
set_option maxHeartbeats 4000000 in
set_option maxRecDepth 100000 in
theorem kcX6_byteAt (l : Launch) (dC : Nat → ClassId) (dI : Nat → Nat → Nat) (cy : Nat → ClassId) (fu : Nat) (h0 : Nat) (a0 : Nat → Nat) (w0 : ob_T) (p1 : Int32) (sz : Nat) (R : Int32) (hm : mX6_byteAt fu w0 p1 = some R) : Met l yX6_byteAt wsX6_byteAt (rmN 0 0) (va_Pc [.ref h0, .int p1] (cPre dC dI cy ((o_X6 cy h0 a0 w0)) sz)) (va_Qi (fun (r : Int32) (_ : Unit) => r = R) (fun _ => cPost dC dI cy ((o_X6 cy h0 a0 w0)) ((o_X6 cy h0 a0 w0)) sz) (va_A ((o_X6 cy h0 a0 w0)) sz)) 0 0 (va_A ((o_X6 cy h0 a0 w0)) sz) := by
  refine mt_i (cc := cX6_byteAt) (maxL := 2) (by decide) rfl (Nat.le_of_ble_eq_true rfl) rfl ?_
  intro p e s m below meth c Q A hx hb hml hown hts hK hA hD hP hret ls hl
  have hown : s.vm.findClass RX6 = some m.cls := hown
  have hl : lv_has ls 2 [(0, .ref h0), (1, .int p1)] := hl
  have hDa : ∀ v0 : ob_T, va_D A ((o_X6 cy h0 a0 v0)) := fun _ => va_D_adr hD rfl
  have i6 : ∀ w ∈ wsX60, w ∈ wsX6_byteAt := fun _ h => List.mem_cons_of_mem _ (List.mem_append_right _ h)
  have hS : va_S A s.heap s.heap [] := va_S.rf
  unfold mX6_byteAt at hm
  refine lv_iload_n hx hb dX6_byteAt_0 rfl (lv_at hl 1 rfl) ?_
  refine lv_aload_n hx hb dX6_byteAt_1 rfl (lv_at hl 0 rfl) ?_
  refine va_get (D := (dC, dI)) (ci := 6) (v := .int (w0.1 0 0)) (C := RX6) (T := TX6) (N := 11) hx hb hts i6 hown hK hP 0 rfl rfl 0 (by decide) (hts (.fieldLink RX6 47 "TwoMetalsModel" "length" "I") (List.mem_of_getElem? (i := 1) rfl)) (fun _ h9 => h9) rfl dX6_byteAt_2 ?_
  refine lv_icmp_ge (tgt := 17) hx hb dX6_byteAt_5 (by decide) (fun hc => ?_) (fun hc => ?_)
  · replace hm := (if_pos hc).symm.trans hm
    refine lv_iconst (v := (0 : Int32)) hx hb dX6_byteAt_17 (by decide) ?_
    obtain rfl := Option.some.inj hm
    exact hret 18 ls _ _ dX6_byteAt_18 hP hS
  replace hm := (if_neg hc).symm.trans hm
  refine lv_aload_n hx hb dX6_byteAt_8 rfl (lv_at hl 0 rfl) ?_
  refine va_get (D := (dC, dI)) (ci := 6) (v := .ref (a0 1)) (C := RX6) (T := TX6) (N := 11) hx hb hts i6 hown hK hP 0 rfl rfl 1 (by decide) (hts (.fieldLink RX6 7 "TwoMetalsModel" "text" "[I") (List.mem_of_getElem? (i := 2) rfl)) (fun _ h9 => h9) rfl dX6_byteAt_9 ?_
  refine lv_iload_n hx hb dX6_byteAt_12 rfl (lv_at hl 1 rfl) ?_
  obtain ⟨hi1, hm⟩ := ck_in hm
  refine va_iald hx hb hK hP 1 0 rfl rfl hi1 dX6_byteAt_13 ?_
  refine lv_goto (tgt := 18) hx hb dX6_byteAt_14 (by decide) ?_
  obtain rfl := Option.some.inj hm
  exact hret 18 ls _ _ dX6_byteAt_18 hP hS
set_option maxHeartbeats 4000000 in
set_option maxRecDepth 100000 in
theorem kcX6_figures (l : Launch) (dC : Nat → ClassId) (dI : Nat → Nat → Nat) (cy : Nat → ClassId) (fu : Nat) (h0 : Nat) (a0 : Nat → Nat) (w0 : ob_T) (p1 : Int32) (sz : Nat) (R : Int32 × ob_T) (hm : mX6_figures fu w0 p1 = some R) : Met l yX6_figures wsX6_figures (rmN 1 25) (va_Pc [.ref h0, .int p1] (cPre dC dI cy ((o_X6 cy h0 a0 w0)) sz)) (va_Qi (fun (r : Int32) (_ : Unit) => r = R.1) (fun _ => cPost dC dI cy ((o_X6 cy h0 a0 w0)) ((o_X6 cy h0 a0 R.2)) sz) (va_A ((o_X6 cy h0 a0 w0)) sz)) 0 0 (va_A ((o_X6 cy h0 a0 w0)) sz) := by
  refine mt_z (cc := cX6_figures) (maxL := 5) (by decide) rfl (Nat.le_of_ble_eq_true rfl) rfl ?_
  intro p e s m below meth c Q A hx hb hml hown hts hK hA hD hP hret ls hl
  have hown : s.vm.findClass RX6 = some m.cls := hown
  have hl : lv_has ls 5 [(0, .ref h0), (1, .int p1)] := hl
  have hDa : ∀ v0 : ob_T, va_D A ((o_X6 cy h0 a0 v0)) := fun _ => va_D_adr hD rfl
  have i6 : ∀ w ∈ wsX60, w ∈ wsX6_figures := fun _ h => List.mem_cons_of_mem _ (List.mem_append_right _ h)
  have hS : va_S A s.heap s.heap [] := va_S.rf
  have hB108 : ∀ (k2 : ob_T → Int32 → Int32 → Option (Int32 × ob_T)) (_ : ∀ (w0 : ob_T) (l1 : Int32) (l2 : Int32) (H : Heap) (locs : List Loc) (ls : Array Slot), k2 w0 l1 l2 = some R → va_P (dC, dI) vwCl ((o_X6 cy h0 a0 w0)) H → va_S A s.heap H locs → lv_has ls 5 [(0, .ref h0), (1, .int l1), (2, .int l2)] → W p l e (rmN 1 25) s m ([.ref h0, .int p1] : List Value).toArray below meth c H locs 0 0 Q (F0 m 2 ls [])) (w0 : ob_T) (l1 : Int32) (l2 : Int32) (l4 : Int32) (s0 : Int32) (s1 : Int32) (H : Heap) (locs : List Loc) (ls : Array Slot), bX6_figures_108 fu k2 w0 l1 l2 l4 s0 s1 = some R → va_P (dC, dI) vwCl ((o_X6 cy h0 a0 w0)) H → va_S A s.heap H locs → lv_has ls 5 [(0, .ref h0), (1, .int l1), (2, .int l2), (4, .int l4)] → W p l e (rmN 1 25) s m ([.ref h0, .int p1] : List Value).toArray below meth c H locs 0 0 Q (F0 m 108 ls [.int s0, .int s1]) := by
    intro k2 hk2 w0 l1 l2 l4 s0 s1 H locs ls hm hP hS hl
    unfold bX6_figures_108 at hm
    refine lv_icmp_eq (tgt := 113) hx hb dX6_figures_108 (by decide) (fun hc => ?_) (fun hc => ?_)
    · replace hm := (if_pos hc).symm.trans hm
      refine lv_aload_n hx hb dX6_figures_113 rfl (lv_at hl 0 rfl) ?_
      refine va_get (D := (dC, dI)) (ci := 6) (v := .ref (a0 9)) (C := RX6) (T := TX6) (N := 11) hx hb hts i6 hown hK hP 0 rfl rfl 9 (by decide) (hts (.fieldLink RX6 29 "TwoMetalsModel" "numbers" "[I") (List.mem_of_getElem? (i := 5) rfl)) (fun _ h9 => h9) rfl dX6_figures_114 ?_
      refine lv_iload_n hx hb dX6_figures_117 rfl (lv_at hl 2 rfl) ?_
      refine lv_iload hx hb dX6_figures_118 (lv_at hl 3 rfl) ?_
      obtain ⟨hi1, hm⟩ := ck_in hm
      refine va_iast hx hb hK hP (hDa _) hS 7 0 rfl rfl hi1 dX6_figures_120 (fun H locs hP _ hS => ?_)
      have hP : va_P (dC, dI) vwCl ((o_X6 cy h0 a0 (ob_I w0 9 (upd (w0.1 9) l2.toNatClampNeg l4)))) H := hP
      obtain ⟨u2, hP, hm⟩ := bn_ob (P := fun zz => va_P (dC, dI) vwCl ((o_X6 cy h0 a0 zz)) H) hm hP
      refine lv_aload_n hx hb dX6_figures_121 rfl (lv_at hl 0 rfl) ?_
      refine lv_dup hx hb dX6_figures_122 rfl ?_
      refine va_get (D := (dC, dI)) (ci := 6) (v := .int (u2.1 8 0)) (C := RX6) (T := TX6) (N := 11) hx hb hts i6 hown hK hP 0 rfl rfl 8 (by decide) (hts (.fieldLink RX6 53 "TwoMetalsModel" "place" "I") (List.mem_of_getElem? (i := 1) rfl)) (fun _ h9 => h9) rfl dX6_figures_123 ?_
      refine lv_iconst (v := (1 : Int32)) hx hb dX6_figures_126 (by decide) ?_
      refine lv_iadd hx hb dX6_figures_127 ?_
      refine va_put (D := (dC, dI)) (ci := 6) (v := .int ((u2.1 8 0) + (1 : Int32))) (ty := .int) (C := RX6) (T := TX6) (N := 11) hx hb hts i6 tyX6 tyX6_ok nmX6 hown hK hP (hDa _) hS 0 rfl rfl 8 (by decide) (hts (.fieldLink RX6 53 "TwoMetalsModel" "place" "I") (List.mem_of_getElem? (i := 1) rfl)) (fun _ h9 => h9) rfl (tyX6_ok 8 (by decide)) rfl rfl (Nat.le_of_ble_eq_true rfl) dX6_figures_128 (fun H locs hP _ hS => ?_)
      have hP : va_P (dC, dI) vwCl ((o_X6 cy h0 a0 (ob_I u2 8 (fun _ => (u2.1 8 0) + (1 : Int32))))) H := hP
      obtain ⟨u3, hP, hm⟩ := bn_ob (P := fun zz => va_P (dC, dI) vwCl ((o_X6 cy h0 a0 zz)) H) hm hP
      obtain ⟨x4, e5⟩ : ∃ y : Int32, y = l2 + (1 : Int32) := ⟨_, rfl⟩
      replace hm := bn_at e5 hm
      refine lv_iinc (v := x4) (lv' := [(2, .int x4), (0, .ref h0), (1, .int l1), (4, .int l4)]) hx hb dX6_figures_131 hl (k := 2) rfl (by rw [e5]; rfl) (by decide) rfl (fun ls hl => ?_)
      refine lv_goto (tgt := 2) hx hb dX6_figures_134 (by decide) ?_
      exact hk2 u3 l1 x4 _ _ ls hm hP hS (lv_sub hl [1, 2, 0] rfl)
    replace hm := (if_neg hc).symm.trans hm
    refine lv_iconst (v := (0 : Int32)) hx hb dX6_figures_111 (by decide) ?_
    obtain rfl := Option.some.inj hm
    exact hret 112 ls _ _ dX6_figures_112 nar_0 hP hS
  have hB74 : ∀ (k2 : ob_T → Int32 → Int32 → Option (Int32 × ob_T)) (_ : ∀ (w0 : ob_T) (l1 : Int32) (l2 : Int32) (H : Heap) (locs : List Loc) (ls : Array Slot), k2 w0 l1 l2 = some R → va_P (dC, dI) vwCl ((o_X6 cy h0 a0 w0)) H → va_S A s.heap H locs → lv_has ls 5 [(0, .ref h0), (1, .int l1), (2, .int l2)] → W p l e (rmN 1 25) s m ([.ref h0, .int p1] : List Value).toArray below meth c H locs 0 0 Q (F0 m 2 ls [])) (w0 : ob_T) (l1 : Int32) (l2 : Int32) (l3 : Int32) (l4 : Int32) (H : Heap) (locs : List Loc) (ls : Array Slot), bX6_figures_74 fu k2 w0 l1 l2 l3 l4 = some R → va_P (dC, dI) vwCl ((o_X6 cy h0 a0 w0)) H → va_S A s.heap H locs → lv_has ls 5 [(0, .ref h0), (1, .int l1), (2, .int l2), (3, .int l3), (4, .int l4)] → W p l e (rmN 1 25) s m ([.ref h0, .int p1] : List Value).toArray below meth c H locs 0 0 Q (F0 m 74 ls []) := by
    intro k2 hk2 w0 l1 l2 l3 l4 H locs ls hm hP hS hl
    unfold bX6_figures_74 at hm
    refine lv_iload_n hx hb dX6_figures_74 rfl (lv_at hl 3 rfl) ?_
    refine lv_i2l (v := l3.toInt64) hx hb dX6_figures_75 rfl ?_
    refine lv_lconst (v := (1 : Int64)) hx hb dX6_figures_76 (by decide) ?_
    refine lv_ldc2 (v := (5 : Int64)) hx hb hown (hts (.constantLong RX6 64 (5)) (List.mem_of_getElem? (i := 4) rfl)) dX6_figures_77 ?_
    obtain ⟨r6, hr6, hm⟩ := bn_call hm
    refine ca_si (wr := (o_X6 cy h0 a0 w0)) (wn := (o_X6 cy h0 a0 w0)) ⟨hx, hb, hml, hown, hts⟩ hK hA (hDa _) hP hS [] [0, 1, 2, 3, 4, 5, 6, 7, 8] [0, 1, 2, 3, 4, 5, 6, 7, 8] (fun sz => kcX6_in l dC dI cy fu l3.toInt64 (1 : Int64) (5 : Int64) sz r6 hr6) rfl rfl (by decide) (by decide) (by decide) rfl (va_cwS 3 hts gX6_figures_X6_in rfl rfl rfl ydX6_in ⟨Nat.le_of_ble_eq_true rfl, Nat.le_of_ble_eq_true rfl⟩) rfl hl.1 rfl (Nat.le_of_ble_eq_true rfl) dX6_figures_80 ⟨Nat.zero_le _, Nat.zero_le _⟩ (fun H locs hP hS => ?_)
    refine lv_if_eq (tgt := 111) hx hb dX6_figures_83 (by decide) (fun hc => ?_) (fun hc => ?_)
    · replace hm := (if_pos hc).symm.trans hm
      refine lv_iconst (v := (0 : Int32)) hx hb dX6_figures_111 (by decide) ?_
      obtain rfl := Option.some.inj hm
      exact hret 112 ls _ _ dX6_figures_112 nar_0 hP hS
    replace hm := (if_neg hc).symm.trans hm
    refine lv_aload_n hx hb dX6_figures_86 rfl (lv_at hl 0 rfl) ?_
    refine lv_aload_n hx hb dX6_figures_87 rfl (lv_at hl 0 rfl) ?_
    refine va_get (D := (dC, dI)) (ci := 6) (v := .int (w0.1 8 0)) (C := RX6) (T := TX6) (N := 11) hx hb hts i6 hown hK hP 0 rfl rfl 8 (by decide) (hts (.fieldLink RX6 53 "TwoMetalsModel" "place" "I") (List.mem_of_getElem? (i := 1) rfl)) (fun _ h9 => h9) rfl dX6_figures_88 ?_
    obtain ⟨r7, hr7, hm⟩ := bn_call hm
    refine ca_vi (wr := []) (wn := (o_X6 cy h0 a0 w0)) ⟨hx, hb, hml, hown, hts⟩ hK hA (hDa _) hP hS [0, 1, 2, 3, 4, 5, 6, 7, 8] [] [0, 1, 2, 3, 4, 5, 6, 7, 8] (fun sz => kcX6_byteAt l dC dI cy fu h0 a0 w0 (w0.1 8 0) sz r7 hr7) rfl rfl (by decide) (by decide) (by decide) rfl (cwV 1 hts gX6_figures_X6_byteAt rfl rfl rfl ⟨rfl, ydX6_byteAt⟩ ⟨Nat.le_of_ble_eq_true rfl, Nat.le_of_ble_eq_true rfl⟩) 6 0 rfl rfl rfl rfl hl.1 rfl (Nat.le_of_ble_eq_true rfl) dX6_figures_91 ⟨Nat.zero_le _, Nat.zero_le _⟩ (fun H locs hP hS => ?_)
    refine lv_iload_n hx hb dX6_figures_94 rfl (lv_at hl 2 rfl) ?_
    refine lv_iload_n hx hb dX6_figures_95 rfl (lv_at hl 1 rfl) ?_
    refine lv_iconst (v := (1 : Int32)) hx hb dX6_figures_96 (by decide) ?_
    refine lv_isub hx hb dX6_figures_97 ?_
    refine lv_icmp_ge (tgt := 106) hx hb dX6_figures_98 (by decide) (fun hc => ?_) (fun hc => ?_)
    · replace hm := (if_pos hc).symm.trans hm
      refine lv_bipush (v := (59 : Int32)) hx hb dX6_figures_106 (by decide) ?_
      exact hB108 (k2) hk2 w0 l1 l2 l4 (59 : Int32) r7 _ _ ls hm hP hS (lv_sub hl [0, 1, 2, 4] rfl)
    replace hm := (if_neg hc).symm.trans hm
    refine lv_bipush (v := (44 : Int32)) hx hb dX6_figures_101 (by decide) ?_
    refine lv_goto (tgt := 108) hx hb dX6_figures_103 (by decide) ?_
    exact hB108 (k2) hk2 w0 l1 l2 l4 (44 : Int32) r7 _ _ ls hm hP hS (lv_sub hl [0, 1, 2, 4] rfl)
  have hB12 : ∀ (k2 : ob_T → Int32 → Int32 → Option (Int32 × ob_T)) (_ : ∀ (w0 : ob_T) (l1 : Int32) (l2 : Int32) (H : Heap) (locs : List Loc) (ls : Array Slot), k2 w0 l1 l2 = some R → va_P (dC, dI) vwCl ((o_X6 cy h0 a0 w0)) H → va_S A s.heap H locs → lv_has ls 5 [(0, .ref h0), (1, .int l1), (2, .int l2)] → W p l e (rmN 1 25) s m ([.ref h0, .int p1] : List Value).toArray below meth c H locs 0 0 Q (F0 m 2 ls [])) (nn : Nat) (w0 : ob_T) (l1 : Int32) (l2 : Int32) (l3 : Int32) (l4 : Int32) (H : Heap) (locs : List Loc) (ls : Array Slot), bX6_figures_12 fu k2 nn w0 l1 l2 l3 l4 = some R → va_P (dC, dI) vwCl ((o_X6 cy h0 a0 w0)) H → va_S A s.heap H locs → lv_has ls 5 [(0, .ref h0), (1, .int l1), (2, .int l2), (3, .int l3), (4, .int l4)] → W p l e (rmN 1 25) s m ([.ref h0, .int p1] : List Value).toArray below meth c H locs 0 0 Q (F0 m 12 ls []) := by
    intro k2 hk2
    intro nn
    induction nn with
    | zero => intro w0 l1 l2 l3 l4 H locs ls hm; exact no_some ((bX6_figures_12_0 fu k2 w0 l1 l2 l3 l4).symm.trans hm)
    | succ nn ih =>
      intro w0 l1 l2 l3 l4 H locs ls hm hP hS hl
      replace hm := (bX6_figures_12_s fu k2 nn w0 l1 l2 l3 l4).symm.trans hm
      refine lv_aload_n hx hb dX6_figures_12 rfl (lv_at hl 0 rfl) ?_
      refine lv_aload_n hx hb dX6_figures_13 rfl (lv_at hl 0 rfl) ?_
      refine va_get (D := (dC, dI)) (ci := 6) (v := .int (w0.1 8 0)) (C := RX6) (T := TX6) (N := 11) hx hb hts i6 hown hK hP 0 rfl rfl 8 (by decide) (hts (.fieldLink RX6 53 "TwoMetalsModel" "place" "I") (List.mem_of_getElem? (i := 1) rfl)) (fun _ h9 => h9) rfl dX6_figures_14 ?_
      obtain ⟨r8, hr8, hm⟩ := bn_call hm
      refine ca_vi (wr := []) (wn := (o_X6 cy h0 a0 w0)) ⟨hx, hb, hml, hown, hts⟩ hK hA (hDa _) hP hS [0, 1, 2, 3, 4, 5, 6, 7, 8] [] [0, 1, 2, 3, 4, 5, 6, 7, 8] (fun sz => kcX6_byteAt l dC dI cy fu h0 a0 w0 (w0.1 8 0) sz r8 hr8) rfl rfl (by decide) (by decide) (by decide) rfl (cwV 1 hts gX6_figures_X6_byteAt rfl rfl rfl ⟨rfl, ydX6_byteAt⟩ ⟨Nat.le_of_ble_eq_true rfl, Nat.le_of_ble_eq_true rfl⟩) 6 0 rfl rfl rfl rfl hl.1 rfl (Nat.le_of_ble_eq_true rfl) dX6_figures_17 ⟨Nat.zero_le _, Nat.zero_le _⟩ (fun H locs hP hS => ?_)
      refine lv_i2l (v := r8.toInt64) hx hb dX6_figures_20 rfl ?_
      refine lv_ldc2 (v := (48 : Int64)) hx hb hown (hts (.constantLong RX6 60 (48)) (List.mem_of_getElem? (i := 2) rfl)) dX6_figures_21 ?_
      refine lv_ldc2 (v := (57 : Int64)) hx hb hown (hts (.constantLong RX6 62 (57)) (List.mem_of_getElem? (i := 3) rfl)) dX6_figures_24 ?_
      obtain ⟨r9, hr9, hm⟩ := bn_call hm
      refine ca_si (wr := (o_X6 cy h0 a0 w0)) (wn := (o_X6 cy h0 a0 w0)) ⟨hx, hb, hml, hown, hts⟩ hK hA (hDa _) hP hS [] [0, 1, 2, 3, 4, 5, 6, 7, 8] [0, 1, 2, 3, 4, 5, 6, 7, 8] (fun sz => kcX6_in l dC dI cy fu r8.toInt64 (48 : Int64) (57 : Int64) sz r9 hr9) rfl rfl (by decide) (by decide) (by decide) rfl (va_cwS 3 hts gX6_figures_X6_in rfl rfl rfl ydX6_in ⟨Nat.le_of_ble_eq_true rfl, Nat.le_of_ble_eq_true rfl⟩) rfl hl.1 rfl (Nat.le_of_ble_eq_true rfl) dX6_figures_27 ⟨Nat.zero_le _, Nat.zero_le _⟩ (fun H locs hP hS => ?_)
      refine lv_if_eq (tgt := 74) hx hb dX6_figures_30 (by decide) (fun hc => ?_) (fun hc => ?_)
      · replace hm := (if_pos hc).symm.trans hm
        exact hB74 (k2) hk2 w0 l1 l2 l3 l4 _ _ ls hm hP hS (lv_sub hl [0, 1, 2, 3, 4] rfl)
      replace hm := (if_neg hc).symm.trans hm
      refine lv_iload_n hx hb dX6_figures_33 rfl (lv_at hl 3 rfl) ?_
      refine lv_bipush (v := (6 : Int32)) hx hb dX6_figures_34 (by decide) ?_
      refine lv_icmp_ge (tgt := 74) hx hb dX6_figures_36 (by decide) (fun hc => ?_) (fun hc => ?_)
      · replace hm := (if_pos hc).symm.trans hm
        exact hB74 (k2) hk2 w0 l1 l2 l3 l4 _ _ ls hm hP hS (lv_sub hl [0, 1, 2, 3, 4] rfl)
      replace hm := (if_neg hc).symm.trans hm
      refine lv_bipush (v := (10 : Int32)) hx hb dX6_figures_39 (by decide) ?_
      refine lv_iload hx hb dX6_figures_41 (lv_at hl 4 rfl) ?_
      refine lv_imul hx hb dX6_figures_43 ?_
      refine lv_aload_n hx hb dX6_figures_44 rfl (lv_at hl 0 rfl) ?_
      refine lv_aload_n hx hb dX6_figures_45 rfl (lv_at hl 0 rfl) ?_
      refine va_get (D := (dC, dI)) (ci := 6) (v := .int (w0.1 8 0)) (C := RX6) (T := TX6) (N := 11) hx hb hts i6 hown hK hP 0 rfl rfl 8 (by decide) (hts (.fieldLink RX6 53 "TwoMetalsModel" "place" "I") (List.mem_of_getElem? (i := 1) rfl)) (fun _ h9 => h9) rfl dX6_figures_46 ?_
      obtain ⟨r10, hr10, hm⟩ := bn_call hm
      refine ca_vi (wr := []) (wn := (o_X6 cy h0 a0 w0)) ⟨hx, hb, hml, hown, hts⟩ hK hA (hDa _) hP hS [0, 1, 2, 3, 4, 5, 6, 7, 8] [] [0, 1, 2, 3, 4, 5, 6, 7, 8] (fun sz => kcX6_byteAt l dC dI cy fu h0 a0 w0 (w0.1 8 0) sz r10 hr10) rfl rfl (by decide) (by decide) (by decide) rfl (cwV 1 hts gX6_figures_X6_byteAt rfl rfl rfl ⟨rfl, ydX6_byteAt⟩ ⟨Nat.le_of_ble_eq_true rfl, Nat.le_of_ble_eq_true rfl⟩) 6 0 rfl rfl rfl rfl hl.1 rfl (Nat.le_of_ble_eq_true rfl) dX6_figures_49 ⟨Nat.zero_le _, Nat.zero_le _⟩ (fun H locs hP hS => ?_)
      refine lv_iadd hx hb dX6_figures_52 ?_
      refine lv_bipush (v := (48 : Int32)) hx hb dX6_figures_53 (by decide) ?_
      refine lv_isub hx hb dX6_figures_55 ?_
      refine lv_topi (fun x11 e12 => ?_)
      replace hm := bn_at e12 hm
      refine lv_istore (lv' := [(4, .int x11), (0, .ref h0), (1, .int l1), (2, .int l2), (3, .int l3)]) hx hb dX6_figures_56 hl (by decide) rfl (fun ls hl => ?_)
      obtain ⟨x13, e14⟩ : ∃ y : Int32, y = l3 + (1 : Int32) := ⟨_, rfl⟩
      replace hm := bn_at e14 hm
      refine lv_iinc (v := x13) (lv' := [(3, .int x13), (4, .int x11), (0, .ref h0), (1, .int l1), (2, .int l2)]) hx hb dX6_figures_58 hl (k := 4) rfl (by rw [e14]; rfl) (by decide) rfl (fun ls hl => ?_)
      refine lv_aload_n hx hb dX6_figures_61 rfl (lv_at hl 2 rfl) ?_
      refine lv_dup hx hb dX6_figures_62 rfl ?_
      refine va_get (D := (dC, dI)) (ci := 6) (v := .int (w0.1 8 0)) (C := RX6) (T := TX6) (N := 11) hx hb hts i6 hown hK hP 0 rfl rfl 8 (by decide) (hts (.fieldLink RX6 53 "TwoMetalsModel" "place" "I") (List.mem_of_getElem? (i := 1) rfl)) (fun _ h9 => h9) rfl dX6_figures_63 ?_
      refine lv_iconst (v := (1 : Int32)) hx hb dX6_figures_66 (by decide) ?_
      refine lv_iadd hx hb dX6_figures_67 ?_
      refine va_put (D := (dC, dI)) (ci := 6) (v := .int ((w0.1 8 0) + (1 : Int32))) (ty := .int) (C := RX6) (T := TX6) (N := 11) hx hb hts i6 tyX6 tyX6_ok nmX6 hown hK hP (hDa _) hS 0 rfl rfl 8 (by decide) (hts (.fieldLink RX6 53 "TwoMetalsModel" "place" "I") (List.mem_of_getElem? (i := 1) rfl)) (fun _ h9 => h9) rfl (tyX6_ok 8 (by decide)) rfl rfl (Nat.le_of_ble_eq_true rfl) dX6_figures_68 (fun H locs hP _ hS => ?_)
      have hP : va_P (dC, dI) vwCl ((o_X6 cy h0 a0 (ob_I w0 8 (fun _ => (w0.1 8 0) + (1 : Int32))))) H := hP
      obtain ⟨u15, hP, hm⟩ := bn_ob (P := fun zz => va_P (dC, dI) vwCl ((o_X6 cy h0 a0 zz)) H) hm hP
      refine lv_goto (tgt := 12) hx hb dX6_figures_71 (by decide) ?_
      exact ih u15 l1 l2 x13 x11 _ _ ls hm hP hS (lv_sub hl [2, 3, 4, 0, 1] rfl)
  have hB2 : ∀ (nn : Nat) (w0 : ob_T) (l1 : Int32) (l2 : Int32) (H : Heap) (locs : List Loc) (ls : Array Slot), bX6_figures_2 fu nn w0 l1 l2 = some R → va_P (dC, dI) vwCl ((o_X6 cy h0 a0 w0)) H → va_S A s.heap H locs → lv_has ls 5 [(0, .ref h0), (1, .int l1), (2, .int l2)] → W p l e (rmN 1 25) s m ([.ref h0, .int p1] : List Value).toArray below meth c H locs 0 0 Q (F0 m 2 ls []) := by
    intro nn
    induction nn with
    | zero => intro w0 l1 l2 H locs ls hm; exact no_some ((bX6_figures_2_0 fu w0 l1 l2).symm.trans hm)
    | succ nn ih =>
      intro w0 l1 l2 H locs ls hm hP hS hl
      replace hm := (bX6_figures_2_s fu nn w0 l1 l2).symm.trans hm
      refine lv_iload_n hx hb dX6_figures_2 rfl (lv_at hl 2 rfl) ?_
      refine lv_iload_n hx hb dX6_figures_3 rfl (lv_at hl 1 rfl) ?_
      refine lv_icmp_ge (tgt := 137) hx hb dX6_figures_4 (by decide) (fun hc => ?_) (fun hc => ?_)
      · replace hm := (if_pos hc).symm.trans hm
        refine lv_iconst (v := (1 : Int32)) hx hb dX6_figures_137 (by decide) ?_
        obtain rfl := Option.some.inj hm
        exact hret 138 ls _ _ dX6_figures_138 nar_1 hP hS
      replace hm := (if_neg hc).symm.trans hm
      refine lv_iconst (v := (0 : Int32)) hx hb dX6_figures_7 (by decide) ?_
      refine lv_istore_n (lv' := [(3, .int (0 : Int32)), (0, .ref h0), (1, .int l1), (2, .int l2)]) hx hb dX6_figures_8 rfl hl (by decide) rfl (fun ls hl => ?_)
      refine lv_iconst (v := (0 : Int32)) hx hb dX6_figures_9 (by decide) ?_
      refine lv_istore (lv' := [(4, .int (0 : Int32)), (3, .int (0 : Int32)), (0, .ref h0), (1, .int l1), (2, .int l2)]) hx hb dX6_figures_10 hl (by decide) rfl (fun ls hl => ?_)
      exact hB12 (bX6_figures_2 fu nn) ih fu w0 l1 l2 (0 : Int32) (0 : Int32) _ _ ls hm hP hS (lv_sub hl [2, 3, 4, 1, 0] rfl)
  unfold mX6_figures at hm
  refine lv_iconst (v := (0 : Int32)) hx hb dX6_figures_0 (by decide) ?_
  refine lv_istore_n (lv' := [(2, .int (0 : Int32)), (0, .ref h0), (1, .int p1)]) hx hb dX6_figures_1 rfl hl (by decide) rfl (fun ls hl => ?_)
  exact hB2 fu w0 p1 (0 : Int32) _ _ ls hm hP hS (lv_sub hl [1, 2, 0] rfl)
set_option maxHeartbeats 4000000 in
set_option maxRecDepth 100000 in
theorem kcX6_isRead (l : Launch) (dC : Nat → ClassId) (dI : Nat → Nat → Nat) (cy : Nat → ClassId) (fu : Nat) (h0 : Nat) (a0 : Nat → Nat) (w0 : ob_T) (p1 : Int32) (sz : Nat) (R : Int32) (hm : mX6_isRead fu w0 p1 = some R) : Met l yX6_isRead wsX6_isRead (rmN 0 0) (va_Pc [.ref h0, .int p1] (cPre dC dI cy ((o_X6 cy h0 a0 w0)) sz)) (va_Qi (fun (r : Int32) (_ : Unit) => r = R) (fun _ => cPost dC dI cy ((o_X6 cy h0 a0 w0)) ((o_X6 cy h0 a0 w0)) sz) (va_A ((o_X6 cy h0 a0 w0)) sz)) 0 0 (va_A ((o_X6 cy h0 a0 w0)) sz) := by
  refine mt_z (cc := cX6_isRead) (maxL := 2) (by decide) rfl (Nat.le_of_ble_eq_true rfl) rfl ?_
  intro p e s m below meth c Q A hx hb hml hown hts hK hA hD hP hret ls hl
  have hown : s.vm.findClass RX6 = some m.cls := hown
  have hl : lv_has ls 2 [(0, .ref h0), (1, .int p1)] := hl
  have hDa : ∀ v0 : ob_T, va_D A ((o_X6 cy h0 a0 v0)) := fun _ => va_D_adr hD rfl
  have i6 : ∀ w ∈ wsX60, w ∈ wsX6_isRead := fun _ h => List.mem_cons_of_mem _ (List.mem_append_right _ h)
  have hS : va_S A s.heap s.heap [] := va_S.rf
  unfold mX6_isRead at hm
  refine lv_iload_n hx hb dX6_isRead_0 rfl (lv_at hl 1 rfl) ?_
  refine lv_bipush (v := (7 : Int32)) hx hb dX6_isRead_1 (by decide) ?_
  refine lv_icmp_gt (tgt := 28) hx hb dX6_isRead_3 (by decide) (fun hc => ?_) (fun hc => ?_)
  · replace hm := (if_pos hc).symm.trans hm
    refine lv_iconst (v := (0 : Int32)) hx hb dX6_isRead_28 (by decide) ?_
    obtain rfl := Option.some.inj hm
    exact hret 29 ls _ _ dX6_isRead_29 nar_0 hP hS
  replace hm := (if_neg hc).symm.trans hm
  refine lv_aload_n hx hb dX6_isRead_6 rfl (lv_at hl 0 rfl) ?_
  refine va_get (D := (dC, dI)) (ci := 6) (v := .ref (a0 2)) (C := RX6) (T := TX6) (N := 11) hx hb hts i6 hown hK hP 0 rfl rfl 2 (by decide) (hts (.fieldLink RX6 13 "TwoMetalsModel" "realms" "[J") (List.mem_of_getElem? (i := 1) rfl)) (fun _ h9 => h9) rfl dX6_isRead_7 ?_
  refine lv_sipush (v := (288 : Int32)) hx hb dX6_isRead_10 (by decide) ?_
  refine lv_bipush (v := (9 : Int32)) hx hb dX6_isRead_13 (by decide) ?_
  refine lv_iload_n hx hb dX6_isRead_15 rfl (lv_at hl 1 rfl) ?_
  refine lv_imul hx hb dX6_isRead_16 ?_
  refine lv_iadd hx hb dX6_isRead_17 ?_
  obtain ⟨hi1, hm⟩ := ck_in hm
  refine va_lald hx hb hK hP 2 1 rfl rfl hi1 dX6_isRead_18 ?_
  refine lv_lconst (v := (0 : Int64)) hx hb dX6_isRead_19 (by decide) ?_
  refine W.lcmp hx hb dX6_isRead_20 ?_
  refine lv_if_le (tgt := 28) hx hb dX6_isRead_21 (by decide) (fun hc => ?_) (fun hc => ?_)
  · replace hm := (if_pos hc).symm.trans hm
    refine lv_iconst (v := (0 : Int32)) hx hb dX6_isRead_28 (by decide) ?_
    obtain rfl := Option.some.inj hm
    exact hret 29 ls _ _ dX6_isRead_29 nar_0 hP hS
  replace hm := (if_neg hc).symm.trans hm
  refine lv_iconst (v := (1 : Int32)) hx hb dX6_isRead_24 (by decide) ?_
  refine lv_goto (tgt := 29) hx hb dX6_isRead_25 (by decide) ?_
  obtain rfl := Option.some.inj hm
  exact hret 29 ls _ _ dX6_isRead_29 nar_1 hP hS
set_option maxHeartbeats 4000000 in
set_option maxRecDepth 100000 in
theorem kcX6_realmItem (l : Launch) (dC : Nat → ClassId) (dI : Nat → Nat → Nat) (cy : Nat → ClassId) (fu : Nat) (h0 : Nat) (a0 : Nat → Nat) (w0 : ob_T) (sz : Nat) (R : Int32 × ob_T) (hm : mX6_realmItem fu w0 = some R) : Met l yX6_realmItem wsX6_realmItem (rmN 2 49) (va_Pc [.ref h0] (cPre dC dI cy ((o_X6 cy h0 a0 w0)) sz)) (va_Qi (fun (r : Int32) (_ : Unit) => r = R.1) (fun _ => cPost dC dI cy ((o_X6 cy h0 a0 w0)) ((o_X6 cy h0 a0 R.2)) sz) (va_A ((o_X6 cy h0 a0 w0)) sz)) 0 0 (va_A ((o_X6 cy h0 a0 w0)) sz) := by
  refine mt_z (cc := cX6_realmItem) (maxL := 4) (by decide) rfl (Nat.le_of_ble_eq_true rfl) rfl ?_
  intro p e s m below meth c Q A hx hb hml hown hts hK hA hD hP hret ls hl
  have hown : s.vm.findClass RX6 = some m.cls := hown
  have hl : lv_has ls 4 [(0, .ref h0)] := hl
  have hDa : ∀ v0 : ob_T, va_D A ((o_X6 cy h0 a0 v0)) := fun _ => va_D_adr hD rfl
  have i6 : ∀ w ∈ wsX60, w ∈ wsX6_realmItem := fun _ h => List.mem_cons_of_mem _ (List.mem_append_right _ h)
  have hS : va_S A s.heap s.heap [] := va_S.rf
  have hB134 : ∀ (nn : Nat) (w0 : ob_T) (l2 : Int32) (l3 : Int32) (H : Heap) (locs : List Loc) (ls : Array Slot), bX6_realmItem_134 fu nn w0 l2 l3 = some R → va_P (dC, dI) vwCl ((o_X6 cy h0 a0 w0)) H → va_S A s.heap H locs → lv_has ls 4 [(0, .ref h0), (2, .int l2), (3, .int l3)] → W p l e (rmN 2 49) s m ([.ref h0] : List Value).toArray below meth c H locs 0 0 Q (F0 m 134 ls []) := by
    intro nn
    induction nn with
    | zero => intro w0 l2 l3 H locs ls hm; exact no_some ((bX6_realmItem_134_0 fu w0 l2 l3).symm.trans hm)
    | succ nn ih =>
      intro w0 l2 l3 H locs ls hm hP hS hl
      replace hm := (bX6_realmItem_134_s fu nn w0 l2 l3).symm.trans hm
      refine lv_iload_n hx hb dX6_realmItem_134 rfl (lv_at hl 2 rfl) ?_
      refine lv_iconst (v := (4 : Int32)) hx hb dX6_realmItem_135 (by decide) ?_
      refine lv_icmp_ge (tgt := 162) hx hb dX6_realmItem_136 (by decide) (fun hc => ?_) (fun hc => ?_)
      · replace hm := (if_pos hc).symm.trans hm
        refine lv_aload_n hx hb dX6_realmItem_162 rfl (lv_at hl 0 rfl) ?_
        refine va_get (D := (dC, dI)) (ci := 6) (v := .ref (a0 2)) (C := RX6) (T := TX6) (N := 11) hx hb hts i6 hown hK hP 0 rfl rfl 2 (by decide) (hts (.fieldLink RX6 13 "TwoMetalsModel" "realms" "[J") (List.mem_of_getElem? (i := 2) rfl)) (fun _ h9 => h9) rfl dX6_realmItem_163 ?_
        refine lv_iload_n hx hb dX6_realmItem_166 rfl (lv_at hl 1 rfl) ?_
        refine lv_iconst (v := (4 : Int32)) hx hb dX6_realmItem_167 (by decide) ?_
        refine lv_iadd hx hb dX6_realmItem_168 ?_
        refine lv_ldc2 (v := (1000 : Int64)) hx hb hown (hts (.constantLong RX6 73 (1000)) (List.mem_of_getElem? (i := 3) rfl)) dX6_realmItem_169 ?_
        refine lv_aload_n hx hb dX6_realmItem_172 rfl (lv_at hl 0 rfl) ?_
        refine va_get (D := (dC, dI)) (ci := 6) (v := .ref (a0 9)) (C := RX6) (T := TX6) (N := 11) hx hb hts i6 hown hK hP 0 rfl rfl 9 (by decide) (hts (.fieldLink RX6 29 "TwoMetalsModel" "numbers" "[I") (List.mem_of_getElem? (i := 1) rfl)) (fun _ h9 => h9) rfl dX6_realmItem_173 ?_
        refine lv_iconst (v := (5 : Int32)) hx hb dX6_realmItem_176 (by decide) ?_
        obtain ⟨hi1, hm⟩ := ck_in hm
        refine va_iald hx hb hK hP 7 0 rfl rfl hi1 dX6_realmItem_177 ?_
        refine lv_i2l (v := (w0.1 9 (5 : Int32).toNatClampNeg).toInt64) hx hb dX6_realmItem_178 rfl ?_
        refine lv_lmul hx hb dX6_realmItem_179 ?_
        obtain ⟨hi2, hm⟩ := ck_in hm
        refine va_last hx hb hK hP (hDa _) hS 2 1 rfl rfl hi2 dX6_realmItem_180 (fun H locs hP _ hS => ?_)
        have hP : va_P (dC, dI) vwCl ((o_X6 cy h0 a0 (ob_L w0 2 (vp_updL (w0.2 2) (l2 + (4 : Int32)).toNatClampNeg ((1000 : Int64) * ((w0.1 9 (5 : Int32).toNatClampNeg).toInt64)))))) H := hP
        obtain ⟨u3, hP, hm⟩ := bn_ob (P := fun zz => va_P (dC, dI) vwCl ((o_X6 cy h0 a0 zz)) H) hm hP
        refine lv_aload_n hx hb dX6_realmItem_181 rfl (lv_at hl 0 rfl) ?_
        refine va_get (D := (dC, dI)) (ci := 6) (v := .ref (a0 2)) (C := RX6) (T := TX6) (N := 11) hx hb hts i6 hown hK hP 0 rfl rfl 2 (by decide) (hts (.fieldLink RX6 13 "TwoMetalsModel" "realms" "[J") (List.mem_of_getElem? (i := 2) rfl)) (fun _ h9 => h9) rfl dX6_realmItem_182 ?_
        refine lv_iload_n hx hb dX6_realmItem_185 rfl (lv_at hl 1 rfl) ?_
        refine lv_iconst (v := (5 : Int32)) hx hb dX6_realmItem_186 (by decide) ?_
        refine lv_iadd hx hb dX6_realmItem_187 ?_
        refine lv_aload_n hx hb dX6_realmItem_188 rfl (lv_at hl 0 rfl) ?_
        refine va_get (D := (dC, dI)) (ci := 6) (v := .ref (a0 9)) (C := RX6) (T := TX6) (N := 11) hx hb hts i6 hown hK hP 0 rfl rfl 9 (by decide) (hts (.fieldLink RX6 29 "TwoMetalsModel" "numbers" "[I") (List.mem_of_getElem? (i := 1) rfl)) (fun _ h9 => h9) rfl dX6_realmItem_189 ?_
        refine lv_bipush (v := (6 : Int32)) hx hb dX6_realmItem_192 (by decide) ?_
        obtain ⟨hi4, hm⟩ := ck_in hm
        refine va_iald hx hb hK hP 7 0 rfl rfl hi4 dX6_realmItem_194 ?_
        refine lv_i2l (v := (u3.1 9 (6 : Int32).toNatClampNeg).toInt64) hx hb dX6_realmItem_195 rfl ?_
        obtain ⟨hi5, hm⟩ := ck_in hm
        refine va_last hx hb hK hP (hDa _) hS 2 1 rfl rfl hi5 dX6_realmItem_196 (fun H locs hP _ hS => ?_)
        have hP : va_P (dC, dI) vwCl ((o_X6 cy h0 a0 (ob_L u3 2 (vp_updL (u3.2 2) (l2 + (5 : Int32)).toNatClampNeg ((u3.1 9 (6 : Int32).toNatClampNeg).toInt64))))) H := hP
        obtain ⟨u6, hP, hm⟩ := bn_ob (P := fun zz => va_P (dC, dI) vwCl ((o_X6 cy h0 a0 zz)) H) hm hP
        refine lv_aload_n hx hb dX6_realmItem_197 rfl (lv_at hl 0 rfl) ?_
        refine va_get (D := (dC, dI)) (ci := 6) (v := .ref (a0 2)) (C := RX6) (T := TX6) (N := 11) hx hb hts i6 hown hK hP 0 rfl rfl 2 (by decide) (hts (.fieldLink RX6 13 "TwoMetalsModel" "realms" "[J") (List.mem_of_getElem? (i := 2) rfl)) (fun _ h9 => h9) rfl dX6_realmItem_198 ?_
        refine lv_iload_n hx hb dX6_realmItem_201 rfl (lv_at hl 1 rfl) ?_
        refine lv_bipush (v := (6 : Int32)) hx hb dX6_realmItem_202 (by decide) ?_
        refine lv_iadd hx hb dX6_realmItem_204 ?_
        refine lv_lconst (v := (1 : Int64)) hx hb dX6_realmItem_205 (by decide) ?_
        obtain ⟨hi7, hm⟩ := ck_in hm
        refine va_last hx hb hK hP (hDa _) hS 2 1 rfl rfl hi7 dX6_realmItem_206 (fun H locs hP _ hS => ?_)
        have hP : va_P (dC, dI) vwCl ((o_X6 cy h0 a0 (ob_L u6 2 (vp_updL (u6.2 2) (l2 + (6 : Int32)).toNatClampNeg (1 : Int64))))) H := hP
        obtain ⟨u8, hP, hm⟩ := bn_ob (P := fun zz => va_P (dC, dI) vwCl ((o_X6 cy h0 a0 zz)) H) hm hP
        refine lv_iconst (v := (1 : Int32)) hx hb dX6_realmItem_207 (by decide) ?_
        obtain rfl := Option.some.inj hm
        exact hret 208 ls _ _ dX6_realmItem_208 nar_1 hP hS
      replace hm := (if_neg hc).symm.trans hm
      refine lv_aload_n hx hb dX6_realmItem_139 rfl (lv_at hl 0 rfl) ?_
      refine va_get (D := (dC, dI)) (ci := 6) (v := .ref (a0 2)) (C := RX6) (T := TX6) (N := 11) hx hb hts i6 hown hK hP 0 rfl rfl 2 (by decide) (hts (.fieldLink RX6 13 "TwoMetalsModel" "realms" "[J") (List.mem_of_getElem? (i := 2) rfl)) (fun _ h9 => h9) rfl dX6_realmItem_140 ?_
      refine lv_iload_n hx hb dX6_realmItem_143 rfl (lv_at hl 1 rfl) ?_
      refine lv_iload_n hx hb dX6_realmItem_144 rfl (lv_at hl 2 rfl) ?_
      refine lv_iadd hx hb dX6_realmItem_145 ?_
      refine lv_aload_n hx hb dX6_realmItem_146 rfl (lv_at hl 0 rfl) ?_
      refine va_get (D := (dC, dI)) (ci := 6) (v := .ref (a0 9)) (C := RX6) (T := TX6) (N := 11) hx hb hts i6 hown hK hP 0 rfl rfl 9 (by decide) (hts (.fieldLink RX6 29 "TwoMetalsModel" "numbers" "[I") (List.mem_of_getElem? (i := 1) rfl)) (fun _ h9 => h9) rfl dX6_realmItem_147 ?_
      refine lv_iload_n hx hb dX6_realmItem_150 rfl (lv_at hl 2 rfl) ?_
      refine lv_iconst (v := (1 : Int32)) hx hb dX6_realmItem_151 (by decide) ?_
      refine lv_iadd hx hb dX6_realmItem_152 ?_
      obtain ⟨hi9, hm⟩ := ck_in hm
      refine va_iald hx hb hK hP 7 0 rfl rfl hi9 dX6_realmItem_153 ?_
      refine lv_i2l (v := (w0.1 9 (l3 + (1 : Int32)).toNatClampNeg).toInt64) hx hb dX6_realmItem_154 rfl ?_
      obtain ⟨hi10, hm⟩ := ck_in hm
      refine va_last hx hb hK hP (hDa _) hS 2 1 rfl rfl hi10 dX6_realmItem_155 (fun H locs hP _ hS => ?_)
      have hP : va_P (dC, dI) vwCl ((o_X6 cy h0 a0 (ob_L w0 2 (vp_updL (w0.2 2) (l2 + l3).toNatClampNeg ((w0.1 9 (l3 + (1 : Int32)).toNatClampNeg).toInt64))))) H := hP
      obtain ⟨u11, hP, hm⟩ := bn_ob (P := fun zz => va_P (dC, dI) vwCl ((o_X6 cy h0 a0 zz)) H) hm hP
      obtain ⟨x12, e13⟩ : ∃ y : Int32, y = l3 + (1 : Int32) := ⟨_, rfl⟩
      replace hm := bn_at e13 hm
      refine lv_iinc (v := x12) (lv' := [(3, .int x12), (0, .ref h0), (2, .int l2)]) hx hb dX6_realmItem_156 hl (k := 2) rfl (by rw [e13]; rfl) (by decide) rfl (fun ls hl => ?_)
      refine lv_goto (tgt := 134) hx hb dX6_realmItem_159 (by decide) ?_
      exact ih u11 l2 x12 _ _ ls hm hP hS (lv_sub hl [1, 2, 0] rfl)
  have hB74 : ∀ (w0 : ob_T) (s0 : Int32) (H : Heap) (locs : List Loc) (ls : Array Slot), bX6_realmItem_74 fu w0 s0 = some R → va_P (dC, dI) vwCl ((o_X6 cy h0 a0 w0)) H → va_S A s.heap H locs → lv_has ls 4 [(0, .ref h0)] → W p l e (rmN 2 49) s m ([.ref h0] : List Value).toArray below meth c H locs 0 0 Q (F0 m 74 ls [.int s0]) := by
    intro w0 s0 H locs ls hm hP hS hl
    unfold bX6_realmItem_74 at hm
    refine lv_istore_n (lv' := [(1, .int s0), (0, .ref h0)]) hx hb dX6_realmItem_74 rfl hl (by decide) rfl (fun ls hl => ?_)
    refine lv_iload_n hx hb dX6_realmItem_75 rfl (lv_at hl 0 rfl) ?_
    refine lv_if_eq (tgt := 116) hx hb dX6_realmItem_76 (by decide) (fun hc => ?_) (fun hc => ?_)
    · replace hm := (if_pos hc).symm.trans hm
      refine lv_iconst (v := (0 : Int32)) hx hb dX6_realmItem_116 (by decide) ?_
      obtain rfl := Option.some.inj hm
      exact hret 117 ls _ _ dX6_realmItem_117 nar_0 hP hS
    replace hm := (if_neg hc).symm.trans hm
    refine lv_aload_n hx hb dX6_realmItem_79 rfl (lv_at hl 1 rfl) ?_
    refine va_get (D := (dC, dI)) (ci := 6) (v := .ref (a0 9)) (C := RX6) (T := TX6) (N := 11) hx hb hts i6 hown hK hP 0 rfl rfl 9 (by decide) (hts (.fieldLink RX6 29 "TwoMetalsModel" "numbers" "[I") (List.mem_of_getElem? (i := 1) rfl)) (fun _ h9 => h9) rfl dX6_realmItem_80 ?_
    refine lv_iconst (v := (4 : Int32)) hx hb dX6_realmItem_83 (by decide) ?_
    obtain ⟨hi14, hm⟩ := ck_in hm
    refine va_iald hx hb hK hP 7 0 rfl rfl hi14 dX6_realmItem_84 ?_
    refine lv_sipush (v := (9999 : Int32)) hx hb dX6_realmItem_85 (by decide) ?_
    refine lv_icmp_gt (tgt := 116) hx hb dX6_realmItem_88 (by decide) (fun hc => ?_) (fun hc => ?_)
    · replace hm := (if_pos hc).symm.trans hm
      refine lv_iconst (v := (0 : Int32)) hx hb dX6_realmItem_116 (by decide) ?_
      obtain rfl := Option.some.inj hm
      exact hret 117 ls _ _ dX6_realmItem_117 nar_0 hP hS
    replace hm := (if_neg hc).symm.trans hm
    refine lv_aload_n hx hb dX6_realmItem_91 rfl (lv_at hl 1 rfl) ?_
    refine va_get (D := (dC, dI)) (ci := 6) (v := .ref (a0 9)) (C := RX6) (T := TX6) (N := 11) hx hb hts i6 hown hK hP 0 rfl rfl 9 (by decide) (hts (.fieldLink RX6 29 "TwoMetalsModel" "numbers" "[I") (List.mem_of_getElem? (i := 1) rfl)) (fun _ h9 => h9) rfl dX6_realmItem_92 ?_
    refine lv_iconst (v := (5 : Int32)) hx hb dX6_realmItem_95 (by decide) ?_
    obtain ⟨hi15, hm⟩ := ck_in hm
    refine va_iald hx hb hK hP 7 0 rfl rfl hi15 dX6_realmItem_96 ?_
    refine lv_sipush (v := (9999 : Int32)) hx hb dX6_realmItem_97 (by decide) ?_
    refine lv_icmp_gt (tgt := 116) hx hb dX6_realmItem_100 (by decide) (fun hc => ?_) (fun hc => ?_)
    · replace hm := (if_pos hc).symm.trans hm
      refine lv_iconst (v := (0 : Int32)) hx hb dX6_realmItem_116 (by decide) ?_
      obtain rfl := Option.some.inj hm
      exact hret 117 ls _ _ dX6_realmItem_117 nar_0 hP hS
    replace hm := (if_neg hc).symm.trans hm
    refine lv_aload_n hx hb dX6_realmItem_103 rfl (lv_at hl 1 rfl) ?_
    refine va_get (D := (dC, dI)) (ci := 6) (v := .ref (a0 9)) (C := RX6) (T := TX6) (N := 11) hx hb hts i6 hown hK hP 0 rfl rfl 9 (by decide) (hts (.fieldLink RX6 29 "TwoMetalsModel" "numbers" "[I") (List.mem_of_getElem? (i := 1) rfl)) (fun _ h9 => h9) rfl dX6_realmItem_104 ?_
    refine lv_bipush (v := (6 : Int32)) hx hb dX6_realmItem_107 (by decide) ?_
    obtain ⟨hi16, hm⟩ := ck_in hm
    refine va_iald hx hb hK hP 7 0 rfl rfl hi16 dX6_realmItem_109 ?_
    refine lv_sipush (v := (999 : Int32)) hx hb dX6_realmItem_110 (by decide) ?_
    refine lv_icmp_le (tgt := 118) hx hb dX6_realmItem_113 (by decide) (fun hc => ?_) (fun hc => ?_)
    · replace hm := (if_pos hc).symm.trans hm
      refine lv_sipush (v := (288 : Int32)) hx hb dX6_realmItem_118 (by decide) ?_
      refine lv_bipush (v := (9 : Int32)) hx hb dX6_realmItem_121 (by decide) ?_
      refine lv_aload_n hx hb dX6_realmItem_123 rfl (lv_at hl 1 rfl) ?_
      refine va_get (D := (dC, dI)) (ci := 6) (v := .ref (a0 9)) (C := RX6) (T := TX6) (N := 11) hx hb hts i6 hown hK hP 0 rfl rfl 9 (by decide) (hts (.fieldLink RX6 29 "TwoMetalsModel" "numbers" "[I") (List.mem_of_getElem? (i := 1) rfl)) (fun _ h9 => h9) rfl dX6_realmItem_124 ?_
      refine lv_iconst (v := (0 : Int32)) hx hb dX6_realmItem_127 (by decide) ?_
      obtain ⟨hi17, hm⟩ := ck_in hm
      refine va_iald hx hb hK hP 7 0 rfl rfl hi17 dX6_realmItem_128 ?_
      refine lv_imul hx hb dX6_realmItem_129 ?_
      refine lv_iadd hx hb dX6_realmItem_130 ?_
      refine lv_topi (fun x18 e19 => ?_)
      replace hm := bn_at e19 hm
      refine lv_istore_n (lv' := [(2, .int x18), (1, .int s0), (0, .ref h0)]) hx hb dX6_realmItem_131 rfl hl (by decide) rfl (fun ls hl => ?_)
      refine lv_iconst (v := (0 : Int32)) hx hb dX6_realmItem_132 (by decide) ?_
      refine lv_istore_n (lv' := [(3, .int (0 : Int32)), (2, .int x18), (1, .int s0), (0, .ref h0)]) hx hb dX6_realmItem_133 rfl hl (by decide) rfl (fun ls hl => ?_)
      exact hB134 fu w0 x18 (0 : Int32) _ _ ls hm hP hS (lv_sub hl [3, 1, 0] rfl)
    replace hm := (if_neg hc).symm.trans hm
    refine lv_iconst (v := (0 : Int32)) hx hb dX6_realmItem_116 (by decide) ?_
    obtain rfl := Option.some.inj hm
    exact hret 117 ls _ _ dX6_realmItem_117 nar_0 hP hS
  unfold mX6_realmItem at hm
  refine lv_aload_n hx hb dX6_realmItem_0 rfl (lv_at hl 0 rfl) ?_
  refine lv_bipush (v := (7 : Int32)) hx hb dX6_realmItem_1 (by decide) ?_
  obtain ⟨r20, hr20, hm⟩ := bn_call hm
  refine ca_vi (wr := []) (wn := (o_X6 cy h0 a0 r20.2)) ⟨hx, hb, hml, hown, hts⟩ hK hA (hDa _) hP hS [0, 1, 2, 3, 4, 5, 6, 7, 8] [] [0, 1, 2, 3, 4, 5, 6, 7, 8] (fun sz => kcX6_figures l dC dI cy fu h0 a0 w0 (7 : Int32) sz r20 hr20) rfl rfl (by decide) (by decide) (by decide) rfl (cwV 1 hts gX6_realmItem_X6_figures rfl rfl rfl ⟨rfl, ydX6_figures⟩ ⟨Nat.le_of_ble_eq_true rfl, Nat.le_of_ble_eq_true rfl⟩) 6 0 rfl rfl rfl rfl hl.1 rfl (Nat.le_of_ble_eq_true rfl) dX6_realmItem_3 ⟨Nat.zero_le _, Nat.zero_le _⟩ (fun H locs hP hS => ?_)
  refine lv_if_eq (tgt := 73) hx hb dX6_realmItem_6 (by decide) (fun hc => ?_) (fun hc => ?_)
  · replace hm := (if_pos hc).symm.trans hm
    refine lv_iconst (v := (0 : Int32)) hx hb dX6_realmItem_73 (by decide) ?_
    exact hB74 r20.2 (0 : Int32) _ _ ls hm hP hS (lv_sub hl [0] rfl)
  replace hm := (if_neg hc).symm.trans hm
  refine lv_aload_n hx hb dX6_realmItem_9 rfl (lv_at hl 0 rfl) ?_
  refine va_get (D := (dC, dI)) (ci := 6) (v := .ref (a0 9)) (C := RX6) (T := TX6) (N := 11) hx hb hts i6 hown hK hP 0 rfl rfl 9 (by decide) (hts (.fieldLink RX6 29 "TwoMetalsModel" "numbers" "[I") (List.mem_of_getElem? (i := 1) rfl)) (fun _ h9 => h9) rfl dX6_realmItem_10 ?_
  refine lv_iconst (v := (0 : Int32)) hx hb dX6_realmItem_13 (by decide) ?_
  obtain ⟨hi21, hm⟩ := ck_in hm
  refine va_iald hx hb hK hP 7 0 rfl rfl hi21 dX6_realmItem_14 ?_
  refine lv_bipush (v := (7 : Int32)) hx hb dX6_realmItem_15 (by decide) ?_
  refine lv_icmp_gt (tgt := 73) hx hb dX6_realmItem_17 (by decide) (fun hc => ?_) (fun hc => ?_)
  · replace hm := (if_pos hc).symm.trans hm
    refine lv_iconst (v := (0 : Int32)) hx hb dX6_realmItem_73 (by decide) ?_
    exact hB74 r20.2 (0 : Int32) _ _ ls hm hP hS (lv_sub hl [0] rfl)
  replace hm := (if_neg hc).symm.trans hm
  refine lv_aload_n hx hb dX6_realmItem_20 rfl (lv_at hl 0 rfl) ?_
  refine lv_aload_n hx hb dX6_realmItem_21 rfl (lv_at hl 0 rfl) ?_
  refine va_get (D := (dC, dI)) (ci := 6) (v := .ref (a0 9)) (C := RX6) (T := TX6) (N := 11) hx hb hts i6 hown hK hP 0 rfl rfl 9 (by decide) (hts (.fieldLink RX6 29 "TwoMetalsModel" "numbers" "[I") (List.mem_of_getElem? (i := 1) rfl)) (fun _ h9 => h9) rfl dX6_realmItem_22 ?_
  refine lv_iconst (v := (0 : Int32)) hx hb dX6_realmItem_25 (by decide) ?_
  refine va_iald hx hb hK hP 7 0 rfl rfl hi21 dX6_realmItem_26 ?_
  obtain ⟨r22, hr22, hm⟩ := bn_call hm
  refine ca_vi (wr := []) (wn := (o_X6 cy h0 a0 r20.2)) ⟨hx, hb, hml, hown, hts⟩ hK hA (hDa _) hP hS [0, 1, 2, 3, 4, 5, 6, 7, 8] [] [0, 1, 2, 3, 4, 5, 6, 7, 8] (fun sz => kcX6_isRead l dC dI cy fu h0 a0 r20.2 (r20.2.1 9 (0 : Int32).toNatClampNeg) sz r22 hr22) rfl rfl (by decide) (by decide) (by decide) rfl (cwV 1 hts gX6_realmItem_X6_isRead rfl rfl rfl ⟨rfl, ydX6_isRead⟩ ⟨Nat.le_of_ble_eq_true rfl, Nat.le_of_ble_eq_true rfl⟩) 6 0 rfl rfl rfl rfl hl.1 rfl (Nat.le_of_ble_eq_true rfl) dX6_realmItem_27 ⟨Nat.zero_le _, Nat.zero_le _⟩ (fun H locs hP hS => ?_)
  refine lv_if_ne (tgt := 73) hx hb dX6_realmItem_30 (by decide) (fun hc => ?_) (fun hc => ?_)
  · replace hm := (if_neg hc).symm.trans hm
    refine lv_iconst (v := (0 : Int32)) hx hb dX6_realmItem_73 (by decide) ?_
    exact hB74 r20.2 (0 : Int32) _ _ ls hm hP hS (lv_sub hl [0] rfl)
  replace hm := (if_pos hc).symm.trans hm
  refine lv_aload_n hx hb dX6_realmItem_33 rfl (lv_at hl 0 rfl) ?_
  refine va_get (D := (dC, dI)) (ci := 6) (v := .ref (a0 9)) (C := RX6) (T := TX6) (N := 11) hx hb hts i6 hown hK hP 0 rfl rfl 9 (by decide) (hts (.fieldLink RX6 29 "TwoMetalsModel" "numbers" "[I") (List.mem_of_getElem? (i := 1) rfl)) (fun _ h9 => h9) rfl dX6_realmItem_34 ?_
  refine lv_iconst (v := (1 : Int32)) hx hb dX6_realmItem_37 (by decide) ?_
  obtain ⟨hi23, hm⟩ := ck_in hm
  refine va_iald hx hb hK hP 7 0 rfl rfl hi23 dX6_realmItem_38 ?_
  refine lv_sipush (v := (1000 : Int32)) hx hb dX6_realmItem_39 (by decide) ?_
  refine lv_icmp_lt (tgt := 73) hx hb dX6_realmItem_42 (by decide) (fun hc => ?_) (fun hc => ?_)
  · replace hm := (if_pos hc).symm.trans hm
    refine lv_iconst (v := (0 : Int32)) hx hb dX6_realmItem_73 (by decide) ?_
    exact hB74 r20.2 (0 : Int32) _ _ ls hm hP hS (lv_sub hl [0] rfl)
  replace hm := (if_neg hc).symm.trans hm
  refine lv_aload_n hx hb dX6_realmItem_45 rfl (lv_at hl 0 rfl) ?_
  refine va_get (D := (dC, dI)) (ci := 6) (v := .ref (a0 9)) (C := RX6) (T := TX6) (N := 11) hx hb hts i6 hown hK hP 0 rfl rfl 9 (by decide) (hts (.fieldLink RX6 29 "TwoMetalsModel" "numbers" "[I") (List.mem_of_getElem? (i := 1) rfl)) (fun _ h9 => h9) rfl dX6_realmItem_46 ?_
  refine lv_iconst (v := (2 : Int32)) hx hb dX6_realmItem_49 (by decide) ?_
  obtain ⟨hi24, hm⟩ := ck_in hm
  refine va_iald hx hb hK hP 7 0 rfl rfl hi24 dX6_realmItem_50 ?_
  refine lv_sipush (v := (999 : Int32)) hx hb dX6_realmItem_51 (by decide) ?_
  refine lv_icmp_gt (tgt := 73) hx hb dX6_realmItem_54 (by decide) (fun hc => ?_) (fun hc => ?_)
  · replace hm := (if_pos hc).symm.trans hm
    refine lv_iconst (v := (0 : Int32)) hx hb dX6_realmItem_73 (by decide) ?_
    exact hB74 r20.2 (0 : Int32) _ _ ls hm hP hS (lv_sub hl [0] rfl)
  replace hm := (if_neg hc).symm.trans hm
  refine lv_aload_n hx hb dX6_realmItem_57 rfl (lv_at hl 0 rfl) ?_
  refine va_get (D := (dC, dI)) (ci := 6) (v := .ref (a0 9)) (C := RX6) (T := TX6) (N := 11) hx hb hts i6 hown hK hP 0 rfl rfl 9 (by decide) (hts (.fieldLink RX6 29 "TwoMetalsModel" "numbers" "[I") (List.mem_of_getElem? (i := 1) rfl)) (fun _ h9 => h9) rfl dX6_realmItem_58 ?_
  refine lv_iconst (v := (3 : Int32)) hx hb dX6_realmItem_61 (by decide) ?_
  obtain ⟨hi25, hm⟩ := ck_in hm
  refine va_iald hx hb hK hP 7 0 rfl rfl hi25 dX6_realmItem_62 ?_
  refine lv_sipush (v := (200 : Int32)) hx hb dX6_realmItem_63 (by decide) ?_
  refine lv_icmp_gt (tgt := 73) hx hb dX6_realmItem_66 (by decide) (fun hc => ?_) (fun hc => ?_)
  · replace hm := (if_pos hc).symm.trans hm
    refine lv_iconst (v := (0 : Int32)) hx hb dX6_realmItem_73 (by decide) ?_
    exact hB74 r20.2 (0 : Int32) _ _ ls hm hP hS (lv_sub hl [0] rfl)
  replace hm := (if_neg hc).symm.trans hm
  refine lv_iconst (v := (1 : Int32)) hx hb dX6_realmItem_69 (by decide) ?_
  refine lv_goto (tgt := 74) hx hb dX6_realmItem_70 (by decide) ?_
  exact hB74 r20.2 (1 : Int32) _ _ ls hm hP hS (lv_sub hl [0] rfl)
set_option maxHeartbeats 4000000 in
set_option maxRecDepth 100000 in
theorem kcX6_mineItem (l : Launch) (dC : Nat → ClassId) (dI : Nat → Nat → Nat) (cy : Nat → ClassId) (fu : Nat) (h0 : Nat) (a0 : Nat → Nat) (w0 : ob_T) (sz : Nat) (R : Int32 × ob_T) (hm : mX6_mineItem fu w0 = some R) : Met l yX6_mineItem wsX6_mineItem (rmN 2 49) (va_Pc [.ref h0] (cPre dC dI cy ((o_X6 cy h0 a0 w0)) sz)) (va_Qi (fun (r : Int32) (_ : Unit) => r = R.1) (fun _ => cPost dC dI cy ((o_X6 cy h0 a0 w0)) ((o_X6 cy h0 a0 R.2)) sz) (va_A ((o_X6 cy h0 a0 w0)) sz)) 0 0 (va_A ((o_X6 cy h0 a0 w0)) sz) := by
  refine mt_z (cc := cX6_mineItem) (maxL := 3) (by decide) rfl (Nat.le_of_ble_eq_true rfl) rfl ?_
  intro p e s m below meth c Q A hx hb hml hown hts hK hA hD hP hret ls hl
  have hown : s.vm.findClass RX6 = some m.cls := hown
  have hl : lv_has ls 3 [(0, .ref h0)] := hl
  have hDa : ∀ v0 : ob_T, va_D A ((o_X6 cy h0 a0 v0)) := fun _ => va_D_adr hD rfl
  have i6 : ∀ w ∈ wsX60, w ∈ wsX6_mineItem := fun _ h => List.mem_cons_of_mem _ (List.mem_append_right _ h)
  have hS : va_S A s.heap s.heap [] := va_S.rf
  have hB60 : ∀ (nn : Nat) (w0 : ob_T) (l1 : Int32) (l2 : Int32) (H : Heap) (locs : List Loc) (ls : Array Slot), bX6_mineItem_60 fu nn w0 l1 l2 = some R → va_P (dC, dI) vwCl ((o_X6 cy h0 a0 w0)) H → va_S A s.heap H locs → lv_has ls 3 [(0, .ref h0), (1, .int l1), (2, .int l2)] → W p l e (rmN 2 49) s m ([.ref h0] : List Value).toArray below meth c H locs 0 0 Q (F0 m 60 ls []) := by
    intro nn
    induction nn with
    | zero => intro w0 l1 l2 H locs ls hm; exact no_some ((bX6_mineItem_60_0 fu w0 l1 l2).symm.trans hm)
    | succ nn ih =>
      intro w0 l1 l2 H locs ls hm hP hS hl
      replace hm := (bX6_mineItem_60_s fu nn w0 l1 l2).symm.trans hm
      refine lv_iload_n hx hb dX6_mineItem_60 rfl (lv_at hl 2 rfl) ?_
      refine lv_iconst (v := (3 : Int32)) hx hb dX6_mineItem_61 (by decide) ?_
      refine lv_icmp_ge (tgt := 85) hx hb dX6_mineItem_62 (by decide) (fun hc => ?_) (fun hc => ?_)
      · replace hm := (if_pos hc).symm.trans hm
        refine lv_aload_n hx hb dX6_mineItem_85 rfl (lv_at hl 0 rfl) ?_
        refine va_get (D := (dC, dI)) (ci := 6) (v := .ref (a0 5)) (C := RX6) (T := TX6) (N := 11) hx hb hts i6 hown hK hP 0 rfl rfl 5 (by decide) (hts (.fieldLink RX6 23 "TwoMetalsModel" "mineMany" "[I") (List.mem_of_getElem? (i := 2) rfl)) (fun _ h9 => h9) rfl dX6_mineItem_86 ?_
        refine lv_iconst (v := (1 : Int32)) hx hb dX6_mineItem_89 (by decide) ?_
        refine lv_dup2_11 hx hb dX6_mineItem_90 rfl rfl ?_
        obtain ⟨hi1, hm⟩ := ck_in hm
        refine va_iald hx hb hK hP 5 0 rfl rfl hi1 dX6_mineItem_91 ?_
        refine lv_iconst (v := (1 : Int32)) hx hb dX6_mineItem_92 (by decide) ?_
        refine lv_iadd hx hb dX6_mineItem_93 ?_
        refine va_iast hx hb hK hP (hDa _) hS 5 0 rfl rfl hi1 dX6_mineItem_94 (fun H locs hP _ hS => ?_)
        have hP : va_P (dC, dI) vwCl ((o_X6 cy h0 a0 (ob_I w0 5 (upd (w0.1 5) (1 : Int32).toNatClampNeg ((w0.1 5 (1 : Int32).toNatClampNeg) + (1 : Int32)))))) H := hP
        obtain ⟨u2, hP, hm⟩ := bn_ob (P := fun zz => va_P (dC, dI) vwCl ((o_X6 cy h0 a0 zz)) H) hm hP
        refine lv_iconst (v := (1 : Int32)) hx hb dX6_mineItem_95 (by decide) ?_
        obtain rfl := Option.some.inj hm
        exact hret 96 ls _ _ dX6_mineItem_96 nar_1 hP hS
      replace hm := (if_neg hc).symm.trans hm
      refine lv_aload_n hx hb dX6_mineItem_65 rfl (lv_at hl 0 rfl) ?_
      refine va_get (D := (dC, dI)) (ci := 6) (v := .ref (a0 6)) (C := RX6) (T := TX6) (N := 11) hx hb hts i6 hown hK hP 0 rfl rfl 6 (by decide) (hts (.fieldLink RX6 26 "TwoMetalsModel" "mines" "[I") (List.mem_of_getElem? (i := 3) rfl)) (fun _ h9 => h9) rfl dX6_mineItem_66 ?_
      refine lv_iload_n hx hb dX6_mineItem_69 rfl (lv_at hl 1 rfl) ?_
      refine lv_iload_n hx hb dX6_mineItem_70 rfl (lv_at hl 2 rfl) ?_
      refine lv_iadd hx hb dX6_mineItem_71 ?_
      refine lv_aload_n hx hb dX6_mineItem_72 rfl (lv_at hl 0 rfl) ?_
      refine va_get (D := (dC, dI)) (ci := 6) (v := .ref (a0 9)) (C := RX6) (T := TX6) (N := 11) hx hb hts i6 hown hK hP 0 rfl rfl 9 (by decide) (hts (.fieldLink RX6 29 "TwoMetalsModel" "numbers" "[I") (List.mem_of_getElem? (i := 1) rfl)) (fun _ h9 => h9) rfl dX6_mineItem_73 ?_
      refine lv_iload_n hx hb dX6_mineItem_76 rfl (lv_at hl 2 rfl) ?_
      obtain ⟨hi3, hm⟩ := ck_in hm
      refine va_iald hx hb hK hP 7 0 rfl rfl hi3 dX6_mineItem_77 ?_
      obtain ⟨hi4, hm⟩ := ck_in hm
      refine va_iast hx hb hK hP (hDa _) hS 6 0 rfl rfl hi4 dX6_mineItem_78 (fun H locs hP _ hS => ?_)
      have hP : va_P (dC, dI) vwCl ((o_X6 cy h0 a0 (ob_I w0 6 (upd (w0.1 6) (l1 + l2).toNatClampNeg (w0.1 9 l2.toNatClampNeg))))) H := hP
      obtain ⟨u5, hP, hm⟩ := bn_ob (P := fun zz => va_P (dC, dI) vwCl ((o_X6 cy h0 a0 zz)) H) hm hP
      obtain ⟨x6, e7⟩ : ∃ y : Int32, y = l2 + (1 : Int32) := ⟨_, rfl⟩
      replace hm := bn_at e7 hm
      refine lv_iinc (v := x6) (lv' := [(2, .int x6), (0, .ref h0), (1, .int l1)]) hx hb dX6_mineItem_79 hl (k := 2) rfl (by rw [e7]; rfl) (by decide) rfl (fun ls hl => ?_)
      refine lv_goto (tgt := 60) hx hb dX6_mineItem_82 (by decide) ?_
      exact ih u5 l1 x6 _ _ ls hm hP hS (lv_sub hl [1, 2, 0] rfl)
  unfold mX6_mineItem at hm
  refine lv_aload_n hx hb dX6_mineItem_0 rfl (lv_at hl 0 rfl) ?_
  refine lv_iconst (v := (3 : Int32)) hx hb dX6_mineItem_1 (by decide) ?_
  obtain ⟨r8, hr8, hm⟩ := bn_call hm
  refine ca_vi (wr := []) (wn := (o_X6 cy h0 a0 r8.2)) ⟨hx, hb, hml, hown, hts⟩ hK hA (hDa _) hP hS [0, 1, 2, 3, 4, 5, 6, 7, 8] [] [0, 1, 2, 3, 4, 5, 6, 7, 8] (fun sz => kcX6_figures l dC dI cy fu h0 a0 w0 (3 : Int32) sz r8 hr8) rfl rfl (by decide) (by decide) (by decide) rfl (cwV 1 hts gX6_mineItem_X6_figures rfl rfl rfl ⟨rfl, ydX6_figures⟩ ⟨Nat.le_of_ble_eq_true rfl, Nat.le_of_ble_eq_true rfl⟩) 6 0 rfl rfl rfl rfl hl.1 rfl (Nat.le_of_ble_eq_true rfl) dX6_mineItem_2 ⟨Nat.zero_le _, Nat.zero_le _⟩ (fun H locs hP hS => ?_)
  refine lv_if_eq (tgt := 43) hx hb dX6_mineItem_5 (by decide) (fun hc => ?_) (fun hc => ?_)
  · replace hm := (if_pos hc).symm.trans hm
    refine lv_iconst (v := (0 : Int32)) hx hb dX6_mineItem_43 (by decide) ?_
    obtain rfl := Option.some.inj hm
    exact hret 44 ls _ _ dX6_mineItem_44 nar_0 hP hS
  replace hm := (if_neg hc).symm.trans hm
  refine lv_aload_n hx hb dX6_mineItem_8 rfl (lv_at hl 0 rfl) ?_
  refine va_get (D := (dC, dI)) (ci := 6) (v := .ref (a0 9)) (C := RX6) (T := TX6) (N := 11) hx hb hts i6 hown hK hP 0 rfl rfl 9 (by decide) (hts (.fieldLink RX6 29 "TwoMetalsModel" "numbers" "[I") (List.mem_of_getElem? (i := 1) rfl)) (fun _ h9 => h9) rfl dX6_mineItem_9 ?_
  refine lv_iconst (v := (0 : Int32)) hx hb dX6_mineItem_12 (by decide) ?_
  obtain ⟨hi9, hm⟩ := ck_in hm
  refine va_iald hx hb hK hP 7 0 rfl rfl hi9 dX6_mineItem_13 ?_
  refine lv_bipush (v := (99 : Int32)) hx hb dX6_mineItem_14 (by decide) ?_
  refine lv_icmp_gt (tgt := 43) hx hb dX6_mineItem_16 (by decide) (fun hc => ?_) (fun hc => ?_)
  · replace hm := (if_pos hc).symm.trans hm
    refine lv_iconst (v := (0 : Int32)) hx hb dX6_mineItem_43 (by decide) ?_
    obtain rfl := Option.some.inj hm
    exact hret 44 ls _ _ dX6_mineItem_44 nar_0 hP hS
  replace hm := (if_neg hc).symm.trans hm
  refine lv_aload_n hx hb dX6_mineItem_19 rfl (lv_at hl 0 rfl) ?_
  refine va_get (D := (dC, dI)) (ci := 6) (v := .ref (a0 9)) (C := RX6) (T := TX6) (N := 11) hx hb hts i6 hown hK hP 0 rfl rfl 9 (by decide) (hts (.fieldLink RX6 29 "TwoMetalsModel" "numbers" "[I") (List.mem_of_getElem? (i := 1) rfl)) (fun _ h9 => h9) rfl dX6_mineItem_20 ?_
  refine lv_iconst (v := (1 : Int32)) hx hb dX6_mineItem_23 (by decide) ?_
  obtain ⟨hi10, hm⟩ := ck_in hm
  refine va_iald hx hb hK hP 7 0 rfl rfl hi10 dX6_mineItem_24 ?_
  refine lv_sipush (v := (9999 : Int32)) hx hb dX6_mineItem_25 (by decide) ?_
  refine lv_icmp_gt (tgt := 43) hx hb dX6_mineItem_28 (by decide) (fun hc => ?_) (fun hc => ?_)
  · replace hm := (if_pos hc).symm.trans hm
    refine lv_iconst (v := (0 : Int32)) hx hb dX6_mineItem_43 (by decide) ?_
    obtain rfl := Option.some.inj hm
    exact hret 44 ls _ _ dX6_mineItem_44 nar_0 hP hS
  replace hm := (if_neg hc).symm.trans hm
  refine lv_aload_n hx hb dX6_mineItem_31 rfl (lv_at hl 0 rfl) ?_
  refine va_get (D := (dC, dI)) (ci := 6) (v := .ref (a0 9)) (C := RX6) (T := TX6) (N := 11) hx hb hts i6 hown hK hP 0 rfl rfl 9 (by decide) (hts (.fieldLink RX6 29 "TwoMetalsModel" "numbers" "[I") (List.mem_of_getElem? (i := 1) rfl)) (fun _ h9 => h9) rfl dX6_mineItem_32 ?_
  refine lv_iconst (v := (2 : Int32)) hx hb dX6_mineItem_35 (by decide) ?_
  obtain ⟨hi11, hm⟩ := ck_in hm
  refine va_iald hx hb hK hP 7 0 rfl rfl hi11 dX6_mineItem_36 ?_
  refine lv_sipush (v := (9999 : Int32)) hx hb dX6_mineItem_37 (by decide) ?_
  refine lv_icmp_le (tgt := 45) hx hb dX6_mineItem_40 (by decide) (fun hc => ?_) (fun hc => ?_)
  · replace hm := (if_pos hc).symm.trans hm
    refine lv_sipush (v := (180 : Int32)) hx hb dX6_mineItem_45 (by decide) ?_
    refine lv_iconst (v := (3 : Int32)) hx hb dX6_mineItem_48 (by decide) ?_
    refine lv_aload_n hx hb dX6_mineItem_49 rfl (lv_at hl 0 rfl) ?_
    refine va_get (D := (dC, dI)) (ci := 6) (v := .ref (a0 5)) (C := RX6) (T := TX6) (N := 11) hx hb hts i6 hown hK hP 0 rfl rfl 5 (by decide) (hts (.fieldLink RX6 23 "TwoMetalsModel" "mineMany" "[I") (List.mem_of_getElem? (i := 2) rfl)) (fun _ h9 => h9) rfl dX6_mineItem_50 ?_
    refine lv_iconst (v := (1 : Int32)) hx hb dX6_mineItem_53 (by decide) ?_
    obtain ⟨hi12, hm⟩ := ck_in hm
    refine va_iald hx hb hK hP 5 0 rfl rfl hi12 dX6_mineItem_54 ?_
    refine lv_imul hx hb dX6_mineItem_55 ?_
    refine lv_iadd hx hb dX6_mineItem_56 ?_
    refine lv_topi (fun x13 e14 => ?_)
    replace hm := bn_at e14 hm
    refine lv_istore_n (lv' := [(1, .int x13), (0, .ref h0)]) hx hb dX6_mineItem_57 rfl hl (by decide) rfl (fun ls hl => ?_)
    refine lv_iconst (v := (0 : Int32)) hx hb dX6_mineItem_58 (by decide) ?_
    refine lv_istore_n (lv' := [(2, .int (0 : Int32)), (1, .int x13), (0, .ref h0)]) hx hb dX6_mineItem_59 rfl hl (by decide) rfl (fun ls hl => ?_)
    exact hB60 fu r8.2 x13 (0 : Int32) _ _ ls hm hP hS (lv_sub hl [2, 1, 0] rfl)
  replace hm := (if_neg hc).symm.trans hm
  refine lv_iconst (v := (0 : Int32)) hx hb dX6_mineItem_43 (by decide) ?_
  obtain rfl := Option.some.inj hm
  exact hret 44 ls _ _ dX6_mineItem_44 nar_0 hP hS
set_option maxHeartbeats 4000000 in
set_option maxRecDepth 100000 in
theorem kcX6_item (l : Launch) (dC : Nat → ClassId) (dI : Nat → Nat → Nat) (cy : Nat → ClassId) (fu : Nat) (h0 : Nat) (a0 : Nat → Nat) (w0 : ob_T) (sz : Nat) (R : Int32 × ob_T) (hm : mX6_item fu w0 = some R) : Met l yX6_item wsX6_item (rmN 3 72) (va_Pc [.ref h0] (cPre dC dI cy ((o_X6 cy h0 a0 w0)) sz)) (va_Qi (fun (r : Int32) (_ : Unit) => r = R.1) (fun _ => cPost dC dI cy ((o_X6 cy h0 a0 w0)) ((o_X6 cy h0 a0 R.2)) sz) (va_A ((o_X6 cy h0 a0 w0)) sz)) 0 0 (va_A ((o_X6 cy h0 a0 w0)) sz) := by
  refine mt_z (cc := cX6_item) (maxL := 2) (by decide) rfl (Nat.le_of_ble_eq_true rfl) rfl ?_
  intro p e s m below meth c Q A hx hb hml hown hts hK hA hD hP hret ls hl
  have hown : s.vm.findClass RX6 = some m.cls := hown
  have hl : lv_has ls 2 [(0, .ref h0)] := hl
  have hDa : ∀ v0 : ob_T, va_D A ((o_X6 cy h0 a0 v0)) := fun _ => va_D_adr hD rfl
  have i6 : ∀ w ∈ wsX60, w ∈ wsX6_item := fun _ h => List.mem_cons_of_mem _ (List.mem_append_right _ h)
  have hS : va_S A s.heap s.heap [] := va_S.rf
  unfold mX6_item at hm
  refine lv_aload_n hx hb dX6_item_0 rfl (lv_at hl 0 rfl) ?_
  refine lv_aload_n hx hb dX6_item_1 rfl (lv_at hl 0 rfl) ?_
  refine va_get (D := (dC, dI)) (ci := 6) (v := .int (w0.1 8 0)) (C := RX6) (T := TX6) (N := 11) hx hb hts i6 hown hK hP 0 rfl rfl 8 (by decide) (hts (.fieldLink RX6 53 "TwoMetalsModel" "place" "I") (List.mem_of_getElem? (i := 1) rfl)) (fun _ h9 => h9) rfl dX6_item_2 ?_
  obtain ⟨r1, hr1, hm⟩ := bn_call hm
  refine ca_vi (wr := []) (wn := (o_X6 cy h0 a0 w0)) ⟨hx, hb, hml, hown, hts⟩ hK hA (hDa _) hP hS [0, 1, 2, 3, 4, 5, 6, 7, 8] [] [0, 1, 2, 3, 4, 5, 6, 7, 8] (fun sz => kcX6_byteAt l dC dI cy fu h0 a0 w0 (w0.1 8 0) sz r1 hr1) rfl rfl (by decide) (by decide) (by decide) rfl (cwV 1 hts gX6_item_X6_byteAt rfl rfl rfl ⟨rfl, ydX6_byteAt⟩ ⟨Nat.le_of_ble_eq_true rfl, Nat.le_of_ble_eq_true rfl⟩) 6 0 rfl rfl rfl rfl hl.1 rfl (Nat.le_of_ble_eq_true rfl) dX6_item_5 ⟨Nat.zero_le _, Nat.zero_le _⟩ (fun H locs hP hS => ?_)
  refine lv_istore_n (lv' := [(1, .int r1), (0, .ref h0)]) hx hb dX6_item_8 rfl hl (by decide) rfl (fun ls hl => ?_)
  refine lv_aload_n hx hb dX6_item_9 rfl (lv_at hl 1 rfl) ?_
  refine lv_dup hx hb dX6_item_10 rfl ?_
  refine va_get (D := (dC, dI)) (ci := 6) (v := .int (w0.1 8 0)) (C := RX6) (T := TX6) (N := 11) hx hb hts i6 hown hK hP 0 rfl rfl 8 (by decide) (hts (.fieldLink RX6 53 "TwoMetalsModel" "place" "I") (List.mem_of_getElem? (i := 1) rfl)) (fun _ h9 => h9) rfl dX6_item_11 ?_
  refine lv_iconst (v := (1 : Int32)) hx hb dX6_item_14 (by decide) ?_
  refine lv_iadd hx hb dX6_item_15 ?_
  refine va_put (D := (dC, dI)) (ci := 6) (v := .int ((w0.1 8 0) + (1 : Int32))) (ty := .int) (C := RX6) (T := TX6) (N := 11) hx hb hts i6 tyX6 tyX6_ok nmX6 hown hK hP (hDa _) hS 0 rfl rfl 8 (by decide) (hts (.fieldLink RX6 53 "TwoMetalsModel" "place" "I") (List.mem_of_getElem? (i := 1) rfl)) (fun _ h9 => h9) rfl (tyX6_ok 8 (by decide)) rfl rfl (Nat.le_of_ble_eq_true rfl) dX6_item_16 (fun H locs hP _ hS => ?_)
  have hP : va_P (dC, dI) vwCl ((o_X6 cy h0 a0 (ob_I w0 8 (fun _ => (w0.1 8 0) + (1 : Int32))))) H := hP
  obtain ⟨u2, hP, hm⟩ := bn_ob (P := fun zz => va_P (dC, dI) vwCl ((o_X6 cy h0 a0 zz)) H) hm hP
  refine lv_iload_n hx hb dX6_item_19 rfl (lv_at hl 0 rfl) ?_
  by_cases hv3 : r1 = (103 : Int32)
  · replace hm := (if_pos hv3).symm.trans hm
    refine W.eq (g2 := F0 m 20 ls (.int (103 : Int32) :: [])) (by rw [hv3]) ?_
    refine lv_tableIn (tgt := 284) hx hb dX6_item_20 (by decide) (by decide) rfl (by decide) ?_
    refine lv_aload_n hx hb dX6_item_284 rfl (lv_at hl 1 rfl) ?_
    obtain ⟨r4, hr4, hm⟩ := bn_call hm
    refine ca_vi (wr := []) (wn := (o_X6 cy h0 a0 r4.2)) ⟨hx, hb, hml, hown, hts⟩ hK hA (hDa _) hP hS [0, 1, 2, 3, 4, 5, 6, 7, 8] [] [0, 1, 2, 3, 4, 5, 6, 7, 8] (fun sz => kcX6_mineItem l dC dI cy fu h0 a0 u2 sz r4 hr4) rfl rfl (by decide) (by decide) (by decide) rfl (cwV 0 hts gX6_item_X6_mineItem rfl rfl rfl ⟨rfl, ydX6_mineItem⟩ ⟨Nat.le_of_ble_eq_true rfl, Nat.le_of_ble_eq_true rfl⟩) 6 0 rfl rfl rfl rfl hl.1 rfl (Nat.le_of_ble_eq_true rfl) dX6_item_285 ⟨Nat.zero_le _, Nat.zero_le _⟩ (fun H locs hP hS => ?_)
    obtain ⟨hn5, hm⟩ := ck_zb hm
    obtain rfl := Option.some.inj hm
    exact hret 288 ls _ _ dX6_item_288 hn5 hP hS
  replace hm := (if_neg hv3).symm.trans hm
  by_cases hv6 : r1 = (104 : Int32)
  · replace hm := (if_pos hv6).symm.trans hm
    refine W.eq (g2 := F0 m 20 ls (.int (104 : Int32) :: [])) (by rw [hv6]) ?_
    refine lv_tableIn (tgt := 289) hx hb dX6_item_20 (by decide) (by decide) rfl (by decide) ?_
    refine lv_iconst (v := (0 : Int32)) hx hb dX6_item_289 (by decide) ?_
    obtain rfl := Option.some.inj hm
    exact hret 290 ls _ _ dX6_item_290 nar_0 hP hS
  replace hm := (if_neg hv6).symm.trans hm
  by_cases hv7 : r1 = (105 : Int32)
  · replace hm := (if_pos hv7).symm.trans hm
    refine W.eq (g2 := F0 m 20 ls (.int (105 : Int32) :: [])) (by rw [hv7]) ?_
    refine lv_tableIn (tgt := 289) hx hb dX6_item_20 (by decide) (by decide) rfl (by decide) ?_
    refine lv_iconst (v := (0 : Int32)) hx hb dX6_item_289 (by decide) ?_
    obtain rfl := Option.some.inj hm
    exact hret 290 ls _ _ dX6_item_290 nar_0 hP hS
  replace hm := (if_neg hv7).symm.trans hm
  by_cases hv8 : r1 = (106 : Int32)
  · replace hm := (if_pos hv8).symm.trans hm
    refine W.eq (g2 := F0 m 20 ls (.int (106 : Int32) :: [])) (by rw [hv8]) ?_
    refine lv_tableIn (tgt := 289) hx hb dX6_item_20 (by decide) (by decide) rfl (by decide) ?_
    refine lv_iconst (v := (0 : Int32)) hx hb dX6_item_289 (by decide) ?_
    obtain rfl := Option.some.inj hm
    exact hret 290 ls _ _ dX6_item_290 nar_0 hP hS
  replace hm := (if_neg hv8).symm.trans hm
  by_cases hv9 : r1 = (107 : Int32)
  · replace hm := (if_pos hv9).symm.trans hm
    refine W.eq (g2 := F0 m 20 ls (.int (107 : Int32) :: [])) (by rw [hv9]) ?_
    refine lv_tableIn (tgt := 243) hx hb dX6_item_20 (by decide) (by decide) rfl (by decide) ?_
    refine lv_aload_n hx hb dX6_item_243 rfl (lv_at hl 1 rfl) ?_
    refine lv_iconst (v := (1 : Int32)) hx hb dX6_item_244 (by decide) ?_
    obtain ⟨r10, hr10, hm⟩ := bn_call hm
    refine ca_vi (wr := []) (wn := (o_X6 cy h0 a0 r10.2)) ⟨hx, hb, hml, hown, hts⟩ hK hA (hDa _) hP hS [0, 1, 2, 3, 4, 5, 6, 7, 8] [] [0, 1, 2, 3, 4, 5, 6, 7, 8] (fun sz => kcX6_figures l dC dI cy fu h0 a0 u2 (1 : Int32) sz r10 hr10) rfl rfl (by decide) (by decide) (by decide) rfl (cwV 1 hts gX6_item_X6_figures rfl rfl rfl ⟨rfl, ydX6_figures⟩ ⟨Nat.le_of_ble_eq_true rfl, Nat.le_of_ble_eq_true rfl⟩) 6 0 rfl rfl rfl rfl hl.1 rfl (Nat.le_of_ble_eq_true rfl) dX6_item_245 ⟨Nat.zero_le _, Nat.zero_le _⟩ (fun H locs hP hS => ?_)
    refine lv_if_eq (tgt := 268) hx hb dX6_item_248 (by decide) (fun hc => ?_) (fun hc => ?_)
    · replace hm := (if_pos hc).symm.trans hm
      refine lv_iconst (v := (0 : Int32)) hx hb dX6_item_268 (by decide) ?_
      obtain rfl := Option.some.inj hm
      exact hret 269 ls _ _ dX6_item_269 nar_0 hP hS
    replace hm := (if_neg hc).symm.trans hm
    refine lv_aload_n hx hb dX6_item_251 rfl (lv_at hl 1 rfl) ?_
    refine va_get (D := (dC, dI)) (ci := 6) (v := .ref (a0 9)) (C := RX6) (T := TX6) (N := 11) hx hb hts i6 hown hK hP 0 rfl rfl 9 (by decide) (hts (.fieldLink RX6 29 "TwoMetalsModel" "numbers" "[I") (List.mem_of_getElem? (i := 2) rfl)) (fun _ h9 => h9) rfl dX6_item_252 ?_
    refine lv_iconst (v := (0 : Int32)) hx hb dX6_item_255 (by decide) ?_
    obtain ⟨hi11, hm⟩ := ck_in hm
    refine va_iald hx hb hK hP 7 0 rfl rfl hi11 dX6_item_256 ?_
    refine lv_i2l (v := (r10.2.1 9 (0 : Int32).toNatClampNeg).toInt64) hx hb dX6_item_257 rfl ?_
    refine lv_lconst (v := (1 : Int64)) hx hb dX6_item_258 (by decide) ?_
    refine lv_ldc2 (v := (9999 : Int64)) hx hb hown (hts (.constantLong RX6 79 (9999)) (List.mem_of_getElem? (i := 6) rfl)) dX6_item_259 ?_
    obtain ⟨r12, hr12, hm⟩ := bn_call hm
    refine ca_si (wr := (o_X6 cy h0 a0 r10.2)) (wn := (o_X6 cy h0 a0 r10.2)) ⟨hx, hb, hml, hown, hts⟩ hK hA (hDa _) hP hS [] [0, 1, 2, 3, 4, 5, 6, 7, 8] [0, 1, 2, 3, 4, 5, 6, 7, 8] (fun sz => kcX6_in l dC dI cy fu ((r10.2.1 9 (0 : Int32).toNatClampNeg).toInt64) (1 : Int64) (9999 : Int64) sz r12 hr12) rfl rfl (by decide) (by decide) (by decide) rfl (va_cwS 3 hts gX6_item_X6_in rfl rfl rfl ydX6_in ⟨Nat.le_of_ble_eq_true rfl, Nat.le_of_ble_eq_true rfl⟩) rfl hl.1 rfl (Nat.le_of_ble_eq_true rfl) dX6_item_262 ⟨Nat.zero_le _, Nat.zero_le _⟩ (fun H locs hP hS => ?_)
    refine lv_if_ne (tgt := 270) hx hb dX6_item_265 (by decide) (fun hc => ?_) (fun hc => ?_)
    · replace hm := (if_neg hc).symm.trans hm
      refine lv_aload_n hx hb dX6_item_270 rfl (lv_at hl 1 rfl) ?_
      refine va_get (D := (dC, dI)) (ci := 6) (v := .ref (a0 4)) (C := RX6) (T := TX6) (N := 11) hx hb hts i6 hown hK hP 0 rfl rfl 4 (by decide) (hts (.fieldLink RX6 20 "TwoMetalsModel" "scarce" "[I") (List.mem_of_getElem? (i := 7) rfl)) (fun _ h9 => h9) rfl dX6_item_271 ?_
      refine lv_iconst (v := (1 : Int32)) hx hb dX6_item_274 (by decide) ?_
      refine lv_aload_n hx hb dX6_item_275 rfl (lv_at hl 1 rfl) ?_
      refine va_get (D := (dC, dI)) (ci := 6) (v := .ref (a0 9)) (C := RX6) (T := TX6) (N := 11) hx hb hts i6 hown hK hP 0 rfl rfl 9 (by decide) (hts (.fieldLink RX6 29 "TwoMetalsModel" "numbers" "[I") (List.mem_of_getElem? (i := 2) rfl)) (fun _ h9 => h9) rfl dX6_item_276 ?_
      refine lv_iconst (v := (0 : Int32)) hx hb dX6_item_279 (by decide) ?_
      refine va_iald hx hb hK hP 7 0 rfl rfl hi11 dX6_item_280 ?_
      obtain ⟨hi13, hm⟩ := ck_in hm
      refine va_iast hx hb hK hP (hDa _) hS 4 0 rfl rfl hi13 dX6_item_281 (fun H locs hP _ hS => ?_)
      have hP : va_P (dC, dI) vwCl ((o_X6 cy h0 a0 (ob_I r10.2 4 (upd (r10.2.1 4) (1 : Int32).toNatClampNeg (r10.2.1 9 (0 : Int32).toNatClampNeg))))) H := hP
      obtain ⟨u14, hP, hm⟩ := bn_ob (P := fun zz => va_P (dC, dI) vwCl ((o_X6 cy h0 a0 zz)) H) hm hP
      refine lv_iconst (v := (1 : Int32)) hx hb dX6_item_282 (by decide) ?_
      obtain rfl := Option.some.inj hm
      exact hret 283 ls _ _ dX6_item_283 nar_1 hP hS
    replace hm := (if_pos hc).symm.trans hm
    refine lv_iconst (v := (0 : Int32)) hx hb dX6_item_268 (by decide) ?_
    obtain rfl := Option.some.inj hm
    exact hret 269 ls _ _ dX6_item_269 nar_0 hP hS
  replace hm := (if_neg hv9).symm.trans hm
  by_cases hv15 : r1 = (108 : Int32)
  · replace hm := (if_pos hv15).symm.trans hm
    refine W.eq (g2 := F0 m 20 ls (.int (108 : Int32) :: [])) (by rw [hv15]) ?_
    refine lv_tableIn (tgt := 93) hx hb dX6_item_20 (by decide) (by decide) rfl (by decide) ?_
    refine lv_aload_n hx hb dX6_item_93 rfl (lv_at hl 1 rfl) ?_
    refine lv_iconst (v := (1 : Int32)) hx hb dX6_item_94 (by decide) ?_
    obtain ⟨r16, hr16, hm⟩ := bn_call hm
    refine ca_vi (wr := []) (wn := (o_X6 cy h0 a0 r16.2)) ⟨hx, hb, hml, hown, hts⟩ hK hA (hDa _) hP hS [0, 1, 2, 3, 4, 5, 6, 7, 8] [] [0, 1, 2, 3, 4, 5, 6, 7, 8] (fun sz => kcX6_figures l dC dI cy fu h0 a0 u2 (1 : Int32) sz r16 hr16) rfl rfl (by decide) (by decide) (by decide) rfl (cwV 1 hts gX6_item_X6_figures rfl rfl rfl ⟨rfl, ydX6_figures⟩ ⟨Nat.le_of_ble_eq_true rfl, Nat.le_of_ble_eq_true rfl⟩) 6 0 rfl rfl rfl rfl hl.1 rfl (Nat.le_of_ble_eq_true rfl) dX6_item_95 ⟨Nat.zero_le _, Nat.zero_le _⟩ (fun H locs hP hS => ?_)
    refine lv_if_eq (tgt := 114) hx hb dX6_item_98 (by decide) (fun hc => ?_) (fun hc => ?_)
    · replace hm := (if_pos hc).symm.trans hm
      refine lv_iconst (v := (0 : Int32)) hx hb dX6_item_114 (by decide) ?_
      obtain rfl := Option.some.inj hm
      exact hret 115 ls _ _ dX6_item_115 nar_0 hP hS
    replace hm := (if_neg hc).symm.trans hm
    refine lv_aload_n hx hb dX6_item_101 rfl (lv_at hl 1 rfl) ?_
    refine lv_aload_n hx hb dX6_item_102 rfl (lv_at hl 1 rfl) ?_
    refine va_get (D := (dC, dI)) (ci := 6) (v := .ref (a0 9)) (C := RX6) (T := TX6) (N := 11) hx hb hts i6 hown hK hP 0 rfl rfl 9 (by decide) (hts (.fieldLink RX6 29 "TwoMetalsModel" "numbers" "[I") (List.mem_of_getElem? (i := 2) rfl)) (fun _ h9 => h9) rfl dX6_item_103 ?_
    refine lv_iconst (v := (0 : Int32)) hx hb dX6_item_106 (by decide) ?_
    obtain ⟨hi17, hm⟩ := ck_in hm
    refine va_iald hx hb hK hP 7 0 rfl rfl hi17 dX6_item_107 ?_
    obtain ⟨r18, hr18, hm⟩ := bn_call hm
    refine ca_vi (wr := []) (wn := (o_X6 cy h0 a0 r16.2)) ⟨hx, hb, hml, hown, hts⟩ hK hA (hDa _) hP hS [0, 1, 2, 3, 4, 5, 6, 7, 8] [] [0, 1, 2, 3, 4, 5, 6, 7, 8] (fun sz => kcX6_isRead l dC dI cy fu h0 a0 r16.2 (r16.2.1 9 (0 : Int32).toNatClampNeg) sz r18 hr18) rfl rfl (by decide) (by decide) (by decide) rfl (cwV 1 hts gX6_item_X6_isRead rfl rfl rfl ⟨rfl, ydX6_isRead⟩ ⟨Nat.le_of_ble_eq_true rfl, Nat.le_of_ble_eq_true rfl⟩) 6 0 rfl rfl rfl rfl hl.1 rfl (Nat.le_of_ble_eq_true rfl) dX6_item_108 ⟨Nat.zero_le _, Nat.zero_le _⟩ (fun H locs hP hS => ?_)
    refine lv_if_ne (tgt := 116) hx hb dX6_item_111 (by decide) (fun hc => ?_) (fun hc => ?_)
    · replace hm := (if_neg hc).symm.trans hm
      refine lv_aload_n hx hb dX6_item_116 rfl (lv_at hl 1 rfl) ?_
      refine va_get (D := (dC, dI)) (ci := 6) (v := .ref (a0 2)) (C := RX6) (T := TX6) (N := 11) hx hb hts i6 hown hK hP 0 rfl rfl 2 (by decide) (hts (.fieldLink RX6 13 "TwoMetalsModel" "realms" "[J") (List.mem_of_getElem? (i := 3) rfl)) (fun _ h9 => h9) rfl dX6_item_117 ?_
      refine lv_sipush (v := (295 : Int32)) hx hb dX6_item_120 (by decide) ?_
      refine lv_bipush (v := (9 : Int32)) hx hb dX6_item_123 (by decide) ?_
      refine lv_aload_n hx hb dX6_item_125 rfl (lv_at hl 1 rfl) ?_
      refine va_get (D := (dC, dI)) (ci := 6) (v := .ref (a0 9)) (C := RX6) (T := TX6) (N := 11) hx hb hts i6 hown hK hP 0 rfl rfl 9 (by decide) (hts (.fieldLink RX6 29 "TwoMetalsModel" "numbers" "[I") (List.mem_of_getElem? (i := 2) rfl)) (fun _ h9 => h9) rfl dX6_item_126 ?_
      refine lv_iconst (v := (0 : Int32)) hx hb dX6_item_129 (by decide) ?_
      refine va_iald hx hb hK hP 7 0 rfl rfl hi17 dX6_item_130 ?_
      refine lv_imul hx hb dX6_item_131 ?_
      refine lv_iadd hx hb dX6_item_132 ?_
      refine lv_lconst (v := (1 : Int64)) hx hb dX6_item_133 (by decide) ?_
      obtain ⟨hi19, hm⟩ := ck_in hm
      refine va_last hx hb hK hP (hDa _) hS 2 1 rfl rfl hi19 dX6_item_134 (fun H locs hP _ hS => ?_)
      have hP : va_P (dC, dI) vwCl ((o_X6 cy h0 a0 (ob_L r16.2 2 (vp_updL (r16.2.2 2) ((295 : Int32) + ((9 : Int32) * (r16.2.1 9 (0 : Int32).toNatClampNeg))).toNatClampNeg (1 : Int64))))) H := hP
      obtain ⟨u20, hP, hm⟩ := bn_ob (P := fun zz => va_P (dC, dI) vwCl ((o_X6 cy h0 a0 zz)) H) hm hP
      refine lv_iconst (v := (1 : Int32)) hx hb dX6_item_135 (by decide) ?_
      obtain rfl := Option.some.inj hm
      exact hret 136 ls _ _ dX6_item_136 nar_1 hP hS
    replace hm := (if_pos hc).symm.trans hm
    refine lv_iconst (v := (0 : Int32)) hx hb dX6_item_114 (by decide) ?_
    obtain rfl := Option.some.inj hm
    exact hret 115 ls _ _ dX6_item_115 nar_0 hP hS
  replace hm := (if_neg hv15).symm.trans hm
  by_cases hv21 : r1 = (109 : Int32)
  · replace hm := (if_pos hv21).symm.trans hm
    refine W.eq (g2 := F0 m 20 ls (.int (109 : Int32) :: [])) (by rw [hv21]) ?_
    refine lv_tableIn (tgt := 199) hx hb dX6_item_20 (by decide) (by decide) rfl (by decide) ?_
    refine lv_aload_n hx hb dX6_item_199 rfl (lv_at hl 1 rfl) ?_
    refine lv_iconst (v := (2 : Int32)) hx hb dX6_item_200 (by decide) ?_
    obtain ⟨r22, hr22, hm⟩ := bn_call hm
    refine ca_vi (wr := []) (wn := (o_X6 cy h0 a0 r22.2)) ⟨hx, hb, hml, hown, hts⟩ hK hA (hDa _) hP hS [0, 1, 2, 3, 4, 5, 6, 7, 8] [] [0, 1, 2, 3, 4, 5, 6, 7, 8] (fun sz => kcX6_figures l dC dI cy fu h0 a0 u2 (2 : Int32) sz r22 hr22) rfl rfl (by decide) (by decide) (by decide) rfl (cwV 1 hts gX6_item_X6_figures rfl rfl rfl ⟨rfl, ydX6_figures⟩ ⟨Nat.le_of_ble_eq_true rfl, Nat.le_of_ble_eq_true rfl⟩) 6 0 rfl rfl rfl rfl hl.1 rfl (Nat.le_of_ble_eq_true rfl) dX6_item_201 ⟨Nat.zero_le _, Nat.zero_le _⟩ (fun H locs hP hS => ?_)
    refine lv_if_ne (tgt := 209) hx hb dX6_item_204 (by decide) (fun hc => ?_) (fun hc => ?_)
    · replace hm := (if_neg hc).symm.trans hm
      refine lv_aload_n hx hb dX6_item_209 rfl (lv_at hl 1 rfl) ?_
      refine va_get (D := (dC, dI)) (ci := 6) (v := .ref (a0 3)) (C := RX6) (T := TX6) (N := 11) hx hb hts i6 hown hK hP 0 rfl rfl 3 (by decide) (hts (.fieldLink RX6 17 "TwoMetalsModel" "markets" "[J") (List.mem_of_getElem? (i := 4) rfl)) (fun _ h9 => h9) rfl dX6_item_210 ?_
      refine lv_bipush (v := (12 : Int32)) hx hb dX6_item_213 (by decide) ?_
      refine lv_aload_n hx hb dX6_item_215 rfl (lv_at hl 1 rfl) ?_
      refine va_get (D := (dC, dI)) (ci := 6) (v := .ref (a0 9)) (C := RX6) (T := TX6) (N := 11) hx hb hts i6 hown hK hP 0 rfl rfl 9 (by decide) (hts (.fieldLink RX6 29 "TwoMetalsModel" "numbers" "[I") (List.mem_of_getElem? (i := 2) rfl)) (fun _ h9 => h9) rfl dX6_item_216 ?_
      refine lv_iconst (v := (0 : Int32)) hx hb dX6_item_219 (by decide) ?_
      obtain ⟨hi23, hm⟩ := ck_in hm
      refine va_iald hx hb hK hP 7 0 rfl rfl hi23 dX6_item_220 ?_
      refine lv_i2l (v := (r22.2.1 9 (0 : Int32).toNatClampNeg).toInt64) hx hb dX6_item_221 rfl ?_
      obtain ⟨hi24, hm⟩ := ck_in hm
      refine va_last hx hb hK hP (hDa _) hS 3 1 rfl rfl hi24 dX6_item_222 (fun H locs hP _ hS => ?_)
      have hP : va_P (dC, dI) vwCl ((o_X6 cy h0 a0 (ob_L r22.2 3 (vp_updL (r22.2.2 3) (12 : Int32).toNatClampNeg ((r22.2.1 9 (0 : Int32).toNatClampNeg).toInt64))))) H := hP
      obtain ⟨u25, hP, hm⟩ := bn_ob (P := fun zz => va_P (dC, dI) vwCl ((o_X6 cy h0 a0 zz)) H) hm hP
      refine lv_aload_n hx hb dX6_item_223 rfl (lv_at hl 1 rfl) ?_
      refine va_get (D := (dC, dI)) (ci := 6) (v := .ref (a0 3)) (C := RX6) (T := TX6) (N := 11) hx hb hts i6 hown hK hP 0 rfl rfl 3 (by decide) (hts (.fieldLink RX6 17 "TwoMetalsModel" "markets" "[J") (List.mem_of_getElem? (i := 4) rfl)) (fun _ h9 => h9) rfl dX6_item_224 ?_
      refine lv_bipush (v := (13 : Int32)) hx hb dX6_item_227 (by decide) ?_
      refine lv_ldc2 (v := (1000 : Int64)) hx hb hown (hts (.constantLong RX6 73 (1000)) (List.mem_of_getElem? (i := 5) rfl)) dX6_item_229 ?_
      refine lv_aload_n hx hb dX6_item_232 rfl (lv_at hl 1 rfl) ?_
      refine va_get (D := (dC, dI)) (ci := 6) (v := .ref (a0 9)) (C := RX6) (T := TX6) (N := 11) hx hb hts i6 hown hK hP 0 rfl rfl 9 (by decide) (hts (.fieldLink RX6 29 "TwoMetalsModel" "numbers" "[I") (List.mem_of_getElem? (i := 2) rfl)) (fun _ h9 => h9) rfl dX6_item_233 ?_
      refine lv_iconst (v := (1 : Int32)) hx hb dX6_item_236 (by decide) ?_
      obtain ⟨hi26, hm⟩ := ck_in hm
      refine va_iald hx hb hK hP 7 0 rfl rfl hi26 dX6_item_237 ?_
      refine lv_i2l (v := (u25.1 9 (1 : Int32).toNatClampNeg).toInt64) hx hb dX6_item_238 rfl ?_
      refine lv_lmul hx hb dX6_item_239 ?_
      obtain ⟨hi27, hm⟩ := ck_in hm
      refine va_last hx hb hK hP (hDa _) hS 3 1 rfl rfl hi27 dX6_item_240 (fun H locs hP _ hS => ?_)
      have hP : va_P (dC, dI) vwCl ((o_X6 cy h0 a0 (ob_L u25 3 (vp_updL (u25.2 3) (13 : Int32).toNatClampNeg ((1000 : Int64) * ((u25.1 9 (1 : Int32).toNatClampNeg).toInt64)))))) H := hP
      obtain ⟨u28, hP, hm⟩ := bn_ob (P := fun zz => va_P (dC, dI) vwCl ((o_X6 cy h0 a0 zz)) H) hm hP
      refine lv_iconst (v := (1 : Int32)) hx hb dX6_item_241 (by decide) ?_
      obtain rfl := Option.some.inj hm
      exact hret 242 ls _ _ dX6_item_242 nar_1 hP hS
    replace hm := (if_pos hc).symm.trans hm
    refine lv_iconst (v := (0 : Int32)) hx hb dX6_item_207 (by decide) ?_
    obtain rfl := Option.some.inj hm
    exact hret 208 ls _ _ dX6_item_208 nar_0 hP hS
  replace hm := (if_neg hv21).symm.trans hm
  by_cases hv29 : r1 = (110 : Int32)
  · replace hm := (if_pos hv29).symm.trans hm
    refine W.eq (g2 := F0 m 20 ls (.int (110 : Int32) :: [])) (by rw [hv29]) ?_
    refine lv_tableIn (tgt := 289) hx hb dX6_item_20 (by decide) (by decide) rfl (by decide) ?_
    refine lv_iconst (v := (0 : Int32)) hx hb dX6_item_289 (by decide) ?_
    obtain rfl := Option.some.inj hm
    exact hret 290 ls _ _ dX6_item_290 nar_0 hP hS
  replace hm := (if_neg hv29).symm.trans hm
  by_cases hv30 : r1 = (111 : Int32)
  · replace hm := (if_pos hv30).symm.trans hm
    refine W.eq (g2 := F0 m 20 ls (.int (111 : Int32) :: [])) (by rw [hv30]) ?_
    refine lv_tableIn (tgt := 289) hx hb dX6_item_20 (by decide) (by decide) rfl (by decide) ?_
    refine lv_iconst (v := (0 : Int32)) hx hb dX6_item_289 (by decide) ?_
    obtain rfl := Option.some.inj hm
    exact hret 290 ls _ _ dX6_item_290 nar_0 hP hS
  replace hm := (if_neg hv30).symm.trans hm
  by_cases hv31 : r1 = (112 : Int32)
  · replace hm := (if_pos hv31).symm.trans hm
    refine W.eq (g2 := F0 m 20 ls (.int (112 : Int32) :: [])) (by rw [hv31]) ?_
    refine lv_tableIn (tgt := 289) hx hb dX6_item_20 (by decide) (by decide) rfl (by decide) ?_
    refine lv_iconst (v := (0 : Int32)) hx hb dX6_item_289 (by decide) ?_
    obtain rfl := Option.some.inj hm
    exact hret 290 ls _ _ dX6_item_290 nar_0 hP hS
  replace hm := (if_neg hv31).symm.trans hm
  by_cases hv32 : r1 = (113 : Int32)
  · replace hm := (if_pos hv32).symm.trans hm
    refine W.eq (g2 := F0 m 20 ls (.int (113 : Int32) :: [])) (by rw [hv32]) ?_
    refine lv_tableIn (tgt := 289) hx hb dX6_item_20 (by decide) (by decide) rfl (by decide) ?_
    refine lv_iconst (v := (0 : Int32)) hx hb dX6_item_289 (by decide) ?_
    obtain rfl := Option.some.inj hm
    exact hret 290 ls _ _ dX6_item_290 nar_0 hP hS
  replace hm := (if_neg hv32).symm.trans hm
  by_cases hv33 : r1 = (114 : Int32)
  · replace hm := (if_pos hv33).symm.trans hm
    refine W.eq (g2 := F0 m 20 ls (.int (114 : Int32) :: [])) (by rw [hv33]) ?_
    refine lv_tableIn (tgt := 88) hx hb dX6_item_20 (by decide) (by decide) rfl (by decide) ?_
    refine lv_aload_n hx hb dX6_item_88 rfl (lv_at hl 1 rfl) ?_
    obtain ⟨r34, hr34, hm⟩ := bn_call hm
    refine ca_vi (wr := []) (wn := (o_X6 cy h0 a0 r34.2)) ⟨hx, hb, hml, hown, hts⟩ hK hA (hDa _) hP hS [0, 1, 2, 3, 4, 5, 6, 7, 8] [] [0, 1, 2, 3, 4, 5, 6, 7, 8] (fun sz => kcX6_realmItem l dC dI cy fu h0 a0 u2 sz r34 hr34) rfl rfl (by decide) (by decide) (by decide) rfl (cwV 0 hts gX6_item_X6_realmItem rfl rfl rfl ⟨rfl, ydX6_realmItem⟩ ⟨Nat.le_of_ble_eq_true rfl, Nat.le_of_ble_eq_true rfl⟩) 6 0 rfl rfl rfl rfl hl.1 rfl (Nat.le_of_ble_eq_true rfl) dX6_item_89 ⟨Nat.zero_le _, Nat.zero_le _⟩ (fun H locs hP hS => ?_)
    obtain ⟨hn35, hm⟩ := ck_zb hm
    obtain rfl := Option.some.inj hm
    exact hret 92 ls _ _ dX6_item_92 hn35 hP hS
  replace hm := (if_neg hv33).symm.trans hm
  by_cases hv36 : r1 = (115 : Int32)
  · replace hm := (if_pos hv36).symm.trans hm
    refine W.eq (g2 := F0 m 20 ls (.int (115 : Int32) :: [])) (by rw [hv36]) ?_
    refine lv_tableIn (tgt := 137) hx hb dX6_item_20 (by decide) (by decide) rfl (by decide) ?_
    refine lv_aload_n hx hb dX6_item_137 rfl (lv_at hl 1 rfl) ?_
    refine lv_iconst (v := (2 : Int32)) hx hb dX6_item_138 (by decide) ?_
    obtain ⟨r37, hr37, hm⟩ := bn_call hm
    refine ca_vi (wr := []) (wn := (o_X6 cy h0 a0 r37.2)) ⟨hx, hb, hml, hown, hts⟩ hK hA (hDa _) hP hS [0, 1, 2, 3, 4, 5, 6, 7, 8] [] [0, 1, 2, 3, 4, 5, 6, 7, 8] (fun sz => kcX6_figures l dC dI cy fu h0 a0 u2 (2 : Int32) sz r37 hr37) rfl rfl (by decide) (by decide) (by decide) rfl (cwV 1 hts gX6_item_X6_figures rfl rfl rfl ⟨rfl, ydX6_figures⟩ ⟨Nat.le_of_ble_eq_true rfl, Nat.le_of_ble_eq_true rfl⟩) 6 0 rfl rfl rfl rfl hl.1 rfl (Nat.le_of_ble_eq_true rfl) dX6_item_139 ⟨Nat.zero_le _, Nat.zero_le _⟩ (fun H locs hP hS => ?_)
    refine lv_if_eq (tgt := 170) hx hb dX6_item_142 (by decide) (fun hc => ?_) (fun hc => ?_)
    · replace hm := (if_pos hc).symm.trans hm
      refine lv_iconst (v := (0 : Int32)) hx hb dX6_item_170 (by decide) ?_
      obtain rfl := Option.some.inj hm
      exact hret 171 ls _ _ dX6_item_171 nar_0 hP hS
    replace hm := (if_neg hc).symm.trans hm
    refine lv_aload_n hx hb dX6_item_145 rfl (lv_at hl 1 rfl) ?_
    refine lv_aload_n hx hb dX6_item_146 rfl (lv_at hl 1 rfl) ?_
    refine va_get (D := (dC, dI)) (ci := 6) (v := .ref (a0 9)) (C := RX6) (T := TX6) (N := 11) hx hb hts i6 hown hK hP 0 rfl rfl 9 (by decide) (hts (.fieldLink RX6 29 "TwoMetalsModel" "numbers" "[I") (List.mem_of_getElem? (i := 2) rfl)) (fun _ h9 => h9) rfl dX6_item_147 ?_
    refine lv_iconst (v := (0 : Int32)) hx hb dX6_item_150 (by decide) ?_
    obtain ⟨hi38, hm⟩ := ck_in hm
    refine va_iald hx hb hK hP 7 0 rfl rfl hi38 dX6_item_151 ?_
    obtain ⟨r39, hr39, hm⟩ := bn_call hm
    refine ca_vi (wr := []) (wn := (o_X6 cy h0 a0 r37.2)) ⟨hx, hb, hml, hown, hts⟩ hK hA (hDa _) hP hS [0, 1, 2, 3, 4, 5, 6, 7, 8] [] [0, 1, 2, 3, 4, 5, 6, 7, 8] (fun sz => kcX6_isRead l dC dI cy fu h0 a0 r37.2 (r37.2.1 9 (0 : Int32).toNatClampNeg) sz r39 hr39) rfl rfl (by decide) (by decide) (by decide) rfl (cwV 1 hts gX6_item_X6_isRead rfl rfl rfl ⟨rfl, ydX6_isRead⟩ ⟨Nat.le_of_ble_eq_true rfl, Nat.le_of_ble_eq_true rfl⟩) 6 0 rfl rfl rfl rfl hl.1 rfl (Nat.le_of_ble_eq_true rfl) dX6_item_152 ⟨Nat.zero_le _, Nat.zero_le _⟩ (fun H locs hP hS => ?_)
    refine lv_if_eq (tgt := 170) hx hb dX6_item_155 (by decide) (fun hc => ?_) (fun hc => ?_)
    · replace hm := (if_pos hc).symm.trans hm
      refine lv_iconst (v := (0 : Int32)) hx hb dX6_item_170 (by decide) ?_
      obtain rfl := Option.some.inj hm
      exact hret 171 ls _ _ dX6_item_171 nar_0 hP hS
    replace hm := (if_neg hc).symm.trans hm
    refine lv_aload_n hx hb dX6_item_158 rfl (lv_at hl 1 rfl) ?_
    refine va_get (D := (dC, dI)) (ci := 6) (v := .ref (a0 9)) (C := RX6) (T := TX6) (N := 11) hx hb hts i6 hown hK hP 0 rfl rfl 9 (by decide) (hts (.fieldLink RX6 29 "TwoMetalsModel" "numbers" "[I") (List.mem_of_getElem? (i := 2) rfl)) (fun _ h9 => h9) rfl dX6_item_159 ?_
    refine lv_iconst (v := (1 : Int32)) hx hb dX6_item_162 (by decide) ?_
    obtain ⟨hi40, hm⟩ := ck_in hm
    refine va_iald hx hb hK hP 7 0 rfl rfl hi40 dX6_item_163 ?_
    refine lv_sipush (v := (9999 : Int32)) hx hb dX6_item_164 (by decide) ?_
    refine lv_icmp_le (tgt := 172) hx hb dX6_item_167 (by decide) (fun hc => ?_) (fun hc => ?_)
    · replace hm := (if_pos hc).symm.trans hm
      refine lv_aload_n hx hb dX6_item_172 rfl (lv_at hl 1 rfl) ?_
      refine va_get (D := (dC, dI)) (ci := 6) (v := .ref (a0 2)) (C := RX6) (T := TX6) (N := 11) hx hb hts i6 hown hK hP 0 rfl rfl 2 (by decide) (hts (.fieldLink RX6 13 "TwoMetalsModel" "realms" "[J") (List.mem_of_getElem? (i := 3) rfl)) (fun _ h9 => h9) rfl dX6_item_173 ?_
      refine lv_sipush (v := (296 : Int32)) hx hb dX6_item_176 (by decide) ?_
      refine lv_bipush (v := (9 : Int32)) hx hb dX6_item_179 (by decide) ?_
      refine lv_aload_n hx hb dX6_item_181 rfl (lv_at hl 1 rfl) ?_
      refine va_get (D := (dC, dI)) (ci := 6) (v := .ref (a0 9)) (C := RX6) (T := TX6) (N := 11) hx hb hts i6 hown hK hP 0 rfl rfl 9 (by decide) (hts (.fieldLink RX6 29 "TwoMetalsModel" "numbers" "[I") (List.mem_of_getElem? (i := 2) rfl)) (fun _ h9 => h9) rfl dX6_item_182 ?_
      refine lv_iconst (v := (0 : Int32)) hx hb dX6_item_185 (by decide) ?_
      refine va_iald hx hb hK hP 7 0 rfl rfl hi38 dX6_item_186 ?_
      refine lv_imul hx hb dX6_item_187 ?_
      refine lv_iadd hx hb dX6_item_188 ?_
      refine lv_aload_n hx hb dX6_item_189 rfl (lv_at hl 1 rfl) ?_
      refine va_get (D := (dC, dI)) (ci := 6) (v := .ref (a0 9)) (C := RX6) (T := TX6) (N := 11) hx hb hts i6 hown hK hP 0 rfl rfl 9 (by decide) (hts (.fieldLink RX6 29 "TwoMetalsModel" "numbers" "[I") (List.mem_of_getElem? (i := 2) rfl)) (fun _ h9 => h9) rfl dX6_item_190 ?_
      refine lv_iconst (v := (1 : Int32)) hx hb dX6_item_193 (by decide) ?_
      refine va_iald hx hb hK hP 7 0 rfl rfl hi40 dX6_item_194 ?_
      refine lv_i2l (v := (r37.2.1 9 (1 : Int32).toNatClampNeg).toInt64) hx hb dX6_item_195 rfl ?_
      obtain ⟨hi41, hm⟩ := ck_in hm
      refine va_last hx hb hK hP (hDa _) hS 2 1 rfl rfl hi41 dX6_item_196 (fun H locs hP _ hS => ?_)
      have hP : va_P (dC, dI) vwCl ((o_X6 cy h0 a0 (ob_L r37.2 2 (vp_updL (r37.2.2 2) ((296 : Int32) + ((9 : Int32) * (r37.2.1 9 (0 : Int32).toNatClampNeg))).toNatClampNeg ((r37.2.1 9 (1 : Int32).toNatClampNeg).toInt64))))) H := hP
      obtain ⟨u42, hP, hm⟩ := bn_ob (P := fun zz => va_P (dC, dI) vwCl ((o_X6 cy h0 a0 zz)) H) hm hP
      refine lv_iconst (v := (1 : Int32)) hx hb dX6_item_197 (by decide) ?_
      obtain rfl := Option.some.inj hm
      exact hret 198 ls _ _ dX6_item_198 nar_1 hP hS
    replace hm := (if_neg hc).symm.trans hm
    refine lv_iconst (v := (0 : Int32)) hx hb dX6_item_170 (by decide) ?_
    obtain rfl := Option.some.inj hm
    exact hret 171 ls _ _ dX6_item_171 nar_0 hP hS
  replace hm := (if_neg hv36).symm.trans hm
  refine lv_tableOut (tgt := 289) hx hb dX6_item_20 (by
      have hv3 := sw_ne hv3 (z := 103) rfl
      have hv6 := sw_ne hv6 (z := 104) rfl
      have hv7 := sw_ne hv7 (z := 105) rfl
      have hv8 := sw_ne hv8 (z := 106) rfl
      have hv9 := sw_ne hv9 (z := 107) rfl
      have hv15 := sw_ne hv15 (z := 108) rfl
      have hv21 := sw_ne hv21 (z := 109) rfl
      have hv29 := sw_ne hv29 (z := 110) rfl
      have hv30 := sw_ne hv30 (z := 111) rfl
      have hv31 := sw_ne hv31 (z := 112) rfl
      have hv32 := sw_ne hv32 (z := 113) rfl
      have hv33 := sw_ne hv33 (z := 114) rfl
      have hv36 := sw_ne hv36 (z := 115) rfl
      omega) (by decide) ?_
  refine lv_iconst (v := (0 : Int32)) hx hb dX6_item_289 (by decide) ?_
  obtain rfl := Option.some.inj hm
  exact hret 290 ls _ _ dX6_item_290 nar_0 hP hS
